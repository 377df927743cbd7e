/-! THE REFERENCE: what its helpers do -/
theorem nI_x10 (w : Nat) : (10 : Int32) * nI w = nI (10 * w) := pk_mul 10 w
theorem nI_x3 (w : Nat) : (3 : Int32) * nI w = nI (3 * w) := pk_mul 3 w
def TxtM (σ : St) (t : List Nat) : Prop := gI σ 1 = nI t.length ∧ t.length ≤ 24 ∧ (∀ k, k < t.length → gA σ 1 k = nI (gd t k)) ∧ ∀ k, gd t k < 103
def WrdM (σ : St) (w : Nat) (a : List Nat) : Prop := gA σ 5 w = nI a.length ∧ a.length ≤ 10 ∧ (∀ k, k < a.length → gA σ 2 (10 * w + k) = nI (gd a k)) ∧ ∀ k, gd a k < 103
def WdsM (σ : St) (wl : Ws) : Prop := gI σ 2 = nI wl.length ∧ wl.length ≤ 24 ∧ ∀ w, w < wl.length → WrdM σ w (wd wl w) ∧ gA σ 6 w = nI (nu wl w) ∧ nu wl w ≤ 999
def CodM (σ : St) (cs : Cs) : Prop := ∀ c, c < 6 → gA σ 7 c = nI (cs c).length ∧ 1 ≤ (cs c).length ∧ (cs c).length ≤ 3 ∧ (∀ k, k < (cs c).length → gA σ 3 (3 * c + k) = nI (gd (cs c) k)) ∧ ∀ k, gd (cs c) k < 103
theorem TxtM.kept {P : Nat → Prop} {σ τ : St} {t : List Nat} (h : TxtM σ t) (hc : Chg P σ τ) (h1 : ¬ P 1) : TxtM τ t :=
  ⟨(hc.1 1 h1).1.trans h.1, h.2.1, fun k hk => ((hc.1 1 h1).2 k).trans (h.2.2.1 k hk), h.2.2.2⟩
theorem WrdM.kept {P : Nat → Prop} {σ τ : St} {w : Nat} {a : List Nat} (h : WrdM σ w a) (hc : Chg P σ τ) (h1 : ¬ P 2) (h2 : ¬ P 5) : WrdM τ w a :=
  ⟨((hc.1 5 h2).2 w).trans h.1, h.2.1, fun k hk => ((hc.1 2 h1).2 _).trans (h.2.2.1 k hk), h.2.2.2⟩
theorem WdsM.kept {P : Nat → Prop} {σ τ : St} {wl : Ws} (h : WdsM σ wl) (hc : Chg P σ τ) (h1 : ¬ P 2) (h2 : ¬ P 5) (h3 : ¬ P 6) : WdsM τ wl :=
  ⟨(hc.1 2 h1).1.trans h.1, h.2.1, fun w hw => ⟨(h.2.2 w hw).1.kept hc h1 h2, ((hc.1 6 h3).2 w).trans (h.2.2 w hw).2.1, (h.2.2 w hw).2.2⟩⟩
theorem CodM.kept {P : Nat → Prop} {σ τ : St} {cs : Cs} (h : CodM σ cs) (hc : Chg P σ τ) (h1 : ¬ P 3) (h2 : ¬ P 7) : CodM τ cs := fun c q =>
  ⟨((hc.1 7 h2).2 c).trans (h c q).1, (h c q).2.1, (h c q).2.2.1, fun k hk => ((hc.1 3 h1).2 _).trans ((h c q).2.2.2.1 k hk), (h c q).2.2.2.2⟩
theorem sX6_like {σ : St} {w p : Nat} {a t : List Nat} (hw : WrdM σ w a) (ht : TxtM σ t) (h : w < 24) (hp : p ≤ t.length) {K : Int32 → Prop} (hK : K (nI (lcp a (t.drop p)))) : wX6_like σ (nI w) (nI p) K := by
  obtain ⟨t1, t2, t3, t4⟩ := ht
  obtain ⟨a1, a2, a3, a4⟩ := hw
  have hl : (t.drop p).length = t.length - p := List.length_drop
  have key : ∀ d k, k + d = a.length → k ≤ t.length - p → (∀ j, j < k → gd a j = gd (t.drop p) j) → wX6_like_L2 K σ (nI w) (nI p) (d + 1) (nI k) := by
    intro d
    induction d with
    | zero =>
      intro k hk hkt he
      rw [wX6_like_L2, nI_clamp (by omega)]
      refine ⟨vp_in_nI (by omega) (by omega), pk_le a.length k (fun _ => ?_) (fun q => by omega) a1⟩
      have e := lcp_eq (k := k) (a := a) (b := t.drop p) (by omega) (by omega) he (Or.inl (by omega))
      rwa [e] at hK
    | succ d ih =>
      intro k hk hkt he
      rw [wX6_like_L2, nI_clamp (by omega), nI_add, nI_x10, nI_add]
      refine ⟨vp_in_nI (by omega) (by omega), pk_le a.length k (fun q => by omega) (fun q => pk_le t.length (p + k) (fun z => ?_) (fun z => ?_) t1) a1⟩
      · have e := lcp_eq (k := k) (a := a) (b := t.drop p) (by omega) (by omega) he (Or.inr (Or.inl (by omega)))
        rwa [e] at hK
      · rw [nI_clamp (by omega), nI_clamp (by omega), a3 k q, t3 (p + k) z, nI_1]
        have b1 := a4 k
        have b2 := t4 (p + k)
        refine ⟨vp_in_nI (by omega) (by omega), vp_in_nI (by omega) (by omega), pk_eq (gd a k) (gd t (p + k)) (fun e => ih (k + 1) (by omega) (by omega) fun j hj => ?_) (fun e => ?_) rfl rfl (by omega) (by omega)⟩
        · by_cases z2 : j = k
          · rw [z2, gd_drop]; exact e
          · exact he j (by omega)
        · have e := lcp_eq (k := k) (a := a) (b := t.drop p) (by omega) (by omega) he (Or.inr (Or.inr (by rw [gd_drop]; exact e)))
          rwa [e] at hK
  exact ⟨_, key a.length 0 (by omega) (by omega) (fun j hj => by omega)⟩
theorem sX6_like0 {σ : St} {w : Nat} {a t : List Nat} (hw : WrdM σ w a) (ht : TxtM σ t) (h : w < 24) {K : Int32 → Prop} (hK : K (nI (lcp a t))) : wX6_like σ (nI w) 0 K :=
  sX6_like hw ht h (Nat.zero_le _) (by rw [List.drop_zero]; exact hK)
theorem sX6_likeWords {σ : St} {v w : Nat} {a b : List Nat} (hv : WrdM σ v a) (hw : WrdM σ w b) (h1 : v < 24) (h2 : w < 24) {K : Int32 → Prop} (hK : K (nI (lcp a b))) : wX6_likeWords σ (nI v) (nI w) K := by
  obtain ⟨t1, t2, t3, t4⟩ := hw
  obtain ⟨a1, a2, a3, a4⟩ := hv
  have key : ∀ d k, k + d = a.length → k ≤ b.length → (∀ j, j < k → gd a j = gd b j) → wX6_likeWords_L2 K σ (nI v) (nI w) (d + 1) (nI k) := by
    intro d
    induction d with
    | zero =>
      intro k hk hkt he
      rw [wX6_likeWords_L2, nI_clamp (n := v) (by omega)]
      refine ⟨vp_in_nI (by omega) (by omega), pk_le a.length k (fun _ => ?_) (fun q => by omega) a1⟩
      have e := lcp_eq (k := k) (a := a) (b := b) (by omega) (by omega) he (Or.inl (by omega))
      rwa [e] at hK
    | succ d ih =>
      intro k hk hkt he
      rw [wX6_likeWords_L2, nI_clamp (n := v) (by omega), nI_clamp (n := w) (by omega), nI_x10, nI_x10, nI_add, nI_add]
      refine ⟨vp_in_nI (by omega) (by omega), pk_le a.length k (fun q => by omega) (fun q => ⟨vp_in_nI (by omega) (by omega), pk_le b.length k (fun z => ?_) (fun z => ?_) t1⟩) a1⟩
      · have e := lcp_eq (k := k) (a := a) (b := b) (by omega) (by omega) he (Or.inr (Or.inl (by omega)))
        rwa [e] at hK
      · rw [nI_clamp (n := 10 * v + k) (by omega), nI_clamp (n := 10 * w + k) (by omega), a3 k q, t3 k z, nI_1]
        have b1 := a4 k
        have b2 := t4 k
        refine ⟨vp_in_nI (by omega) (by omega), vp_in_nI (by omega) (by omega), pk_eq (gd a k) (gd b k) (fun e => ih (k + 1) (by omega) (by omega) fun j hj => ?_) (fun e => ?_) rfl rfl (by omega) (by omega)⟩
        · by_cases z2 : j = k
          · rw [z2]; exact e
          · exact he j (by omega)
        · have e := lcp_eq (k := k) (a := a) (b := b) (by omega) (by omega) he (Or.inr (Or.inr e))
          rwa [e] at hK
  exact ⟨_, key a.length 0 (by omega) (by omega) (fun j hj => by omega)⟩
/-- a number tells where a stands beside t -/
def Sid (a t : List Nat) (r : Int32) : Prop := (r < 0 ↔ lt a t = true) ∧ (r = 0 ↔ a = t)
theorem Sid.eq0 {a t : List Nat} {r : Int32} (h : Sid a t r) : r = 0 ↔ a = t := h.2
theorem Sid.ge {a t : List Nat} {r : Int32} (h : Sid a t r) : 0 ≤ r ↔ ¬ lt a t = true := by
  rw [← h.1, Int32.not_lt]
theorem Sid.le {a t : List Nat} {r : Int32} (h : Sid a t r) : r ≤ 0 ↔ ¬ lt t a = true := by
  rw [Int32.le_iff_lt_or_eq, h.1, h.2]
  constructor
  · rintro (q | q)
    · exact fun z => lt_asym q z
    · rw [q, lt_irr]; decide
  · intro q
    rcases nlt q with e | e
    · exact Or.inr e.symm
    · exact Or.inl e
theorem Sid.gt {a t : List Nat} {r : Int32} (h : Sid a t r) : 0 < r ↔ lt t a = true := by
  have := h.le
  rw [← Int32.not_le, this]
  simp
theorem sX6_beside {σ : St} {w : Nat} {a t : List Nat} (hw : WrdM σ w a) (ht : TxtM σ t) (h : w < 24) {K : Int32 → Prop} (hK : ∀ r, Sid a t r → K r) : wX6_beside σ (nI w) K := by
  unfold wX6_beside
  refine sX6_like0 hw ht h ?_
  obtain ⟨t1, t2, t3, t4⟩ := ht
  obtain ⟨a1, a2, a3, a4⟩ := hw
  have hl := lcp_le a t
  rw [nI_clamp (n := w) (by omega), nI_x10, nI_add]
  refine ⟨vp_in_nI (by omega) (by omega), pk_eq (lcp a t) a.length (fun e1 => pk_eq (lcp a t) t.length (fun e2 => hK 0 ?_) (fun e2 => hK (-1) ?_) rfl t1 (by omega) (by omega)) (fun e1 => pk_eq (lcp a t) t.length (fun e2 => hK 1 ?_) (fun e2 => ?_) rfl t1 (by omega) (by omega)) rfl a1 (by omega) (by omega)⟩
  · have e : a = t := gd_ext (by omega) fun k hk => lcp_gd a t k (by omega)
    subst e
    exact ⟨by rw [lt_irr]; decide, by simp⟩
  · have e : lt a t = true := (lt_lcp a t).mpr ⟨by omega, Or.inl e1⟩
    exact ⟨by rw [e]; decide, ⟨fun z => absurd z (by decide), fun z => absurd z (lt_ne e)⟩⟩
  · have e : lt t a = true := (lt_lcp t a).mpr (by rw [lcp_comm t a]; exact ⟨by omega, Or.inl e2⟩)
    exact ⟨⟨fun z => absurd z (by decide), fun z => (lt_asym z e).elim⟩, ⟨fun z => absurd z (by decide), fun z => absurd z.symm (lt_ne e)⟩⟩
  · rw [nI_clamp (by omega), nI_clamp (by omega), a3 _ (by omega), t3 _ (by omega)]
    have b1 := a4 (lcp a t)
    have b2 := t4 (lcp a t)
    have hs := lcp_stop a t (by omega) (by omega)
    refine ⟨vp_in_nI (by omega) (by omega), vp_in_nI (by omega) (by omega), hK _ ⟨?_, ?_⟩⟩
    · rw [neg_iff, pk_sub_toInt (by omega) (by omega), lt_lcp]
      omega
    · refine ⟨fun z => ?_, fun z => by rw [z] at e1; exact absurd (pre_refl t) e1⟩
      have := congrArg Int32.toInt z
      rw [pk_sub_toInt (by omega) (by omega)] at this
      have e0 : (0 : Int32).toInt = 0 := rfl
      omega
theorem sX6_isLess {σ : St} {v w : Nat} {a b : List Nat} (hv : WrdM σ v a) (hw : WrdM σ w b) (h1 : v < 24) (h2 : w < 24) {K : Int32 → Prop} (hK : K (if lt a b = true then 1 else 0)) : wX6_isLess σ (nI v) (nI w) K := by
  unfold wX6_isLess
  refine sX6_likeWords hv hw h1 h2 ?_
  obtain ⟨t1, t2, t3, t4⟩ := hw
  obtain ⟨a1, a2, a3, a4⟩ := hv
  have hl := lcp_le a b
  have hlt := lt_lcp a b
  rw [nI_clamp (n := w) (by omega), nI_clamp (n := v) (by omega), nI_x10, nI_x10, nI_add, nI_add]
  refine ⟨vp_in_nI (by omega) (by omega), pk_eq (lcp a b) b.length (fun e1 => ?_) (fun e1 => ⟨vp_in_nI (by omega) (by omega), pk_eq (lcp a b) a.length (fun e2 => ?_) (fun e2 => ?_) rfl a1 (by omega) (by omega)⟩) rfl t1 (by omega) (by omega)⟩
  · rw [if_neg (fun z => by have := (hlt.mp z).1; omega)] at hK; exact hK
  · rw [if_pos (hlt.mpr ⟨by omega, Or.inl e2⟩)] at hK; exact hK
  · rw [nI_clamp (by omega), nI_clamp (by omega), a3 _ (by omega), t3 _ (by omega)]
    have b1 := a4 (lcp a b)
    have b2 := t4 (lcp a b)
    refine ⟨vp_in_nI (by omega) (by omega), vp_in_nI (by omega) (by omega), pk_le (gd b (lcp a b)) (gd a (lcp a b)) (fun z => ?_) (fun z => ?_)⟩
    · rw [if_neg (fun y => by have := (hlt.mp y).2; omega)] at hK; exact hK
    · rw [if_pos (hlt.mpr ⟨by omega, Or.inr z⟩)] at hK; exact hK
theorem sX6_isBegun {σ : St} {w : Nat} {a t : List Nat} (hw : WrdM σ w a) (ht : TxtM σ t) (h : w < 24) {K : Int32 → Prop} (hK : K (if preB t a = true then 1 else 0)) : wX6_isBegun σ (nI w) K := by
  unfold wX6_isBegun
  refine sX6_like0 hw ht h ?_
  have hl := lcp_le a t
  have h24 := ht.2.1
  have e : preB t a = true ↔ lcp a t = t.length := by rw [lcp_comm, preB_iff]; rfl
  refine pk_eq (lcp a t) t.length (fun z => ?_) (fun z => ?_) rfl ht.1 (by omega) (by omega)
  · rw [if_pos (e.mpr z)] at hK; exact hK
  · rw [if_neg (fun y => z (e.mp y))] at hK; exact hK
theorem sX6_own {σ : St} {wl : Ws} {t : List Nat} (hw : WdsM σ wl) (ht : TxtM σ t) {K : Int32 → Prop} (h1 : ∀ i, i < wl.length → wd wl i = t → K (nI i)) (h2 : (∀ i, i < wl.length → wd wl i ≠ t) → K (-1)) : wX6_own σ K := by
  have hl := hw.2.1
  have key : ∀ d k, k + d = wl.length → (∀ i, i < k → wd wl i ≠ t) → wX6_own_L2 K σ (d + 1) (nI k) := by
    intro d
    induction d with
    | zero =>
      intro k hk hv
      rw [wX6_own_L2]
      refine pk_le wl.length k (fun _ => h2 (by rwa [show k = wl.length by omega] at hv)) (fun q => by omega) hw.1
    | succ d ih =>
      intro k hk hv
      rw [wX6_own_L2]
      refine pk_le wl.length k (fun _ => by omega) (fun q => sX6_beside (hw.2.2 k q).1 ht (by omega) fun r hr => ?_) hw.1
      rw [hr.eq0, nI_1]
      refine ⟨fun z => h1 k q z, fun z => ih (k + 1) (by omega) fun i hi => ?_⟩
      by_cases e : i = k
      · rw [e]; exact z
      · exact hv i (by omega)
  exact ⟨_, key wl.length 0 (by omega) (fun i hi => by omega)⟩
theorem bool10 {b : Bool} : ¬ ((if b = true then 1 else 0 : Int32) = 0) ↔ b = true := by cases b <;> decide
theorem cL_snoc {wl : Ws} {t : List Nat} {k : Nat} (h : k < wl.length) : cL (wl.take (k + 1)) t = cL (wl.take k) t + if lt (wd wl k) t = true then 1 else 0 := countP_snoc (p := fun w => lt w.1 t) h
theorem sX6_rankOf {σ : St} {wl : Ws} (hw : WdsM σ wl) {w : Nat} (h : w < wl.length) {K : Int32 → Prop} (hK : K (nI (cL wl (wd wl w)))) : wX6_rankOf σ (nI w) K := by
  have hl := hw.2.1
  have key : ∀ d k, k + d = wl.length → wX6_rankOf_L4 K σ (nI w) (d + 1) (nI (cL (wl.take k) (wd wl w))) (nI k) := by
    intro d
    induction d with
    | zero =>
      intro k hk
      rw [wX6_rankOf_L4]
      refine pk_le wl.length k (fun _ => by rw [List.take_of_length_le (by omega)]; exact hK) (fun q => by omega) hw.1
    | succ d ih =>
      intro k hk
      rw [wX6_rankOf_L4]
      refine pk_le wl.length k (fun _ => by omega) (fun q => sX6_isLess (hw.2.2 k q).1 (hw.2.2 w h).1 (by omega) (by omega) ?_) hw.1
      have e := cL_snoc (t := wd wl w) q
      have e2 := ih (k + 1) (by omega)
      rw [e] at e2
      rw [bool01, nI_1, nI_1]
      refine ⟨fun z => ?_, fun z => ?_⟩
      · simp only [z] at e2; exact e2
      · have z : lt (wd wl k) (wd wl w) = true := by simpa using z
        simp only [z, if_true] at e2
        exact e2
  exact ⟨_, key wl.length 0 (by omega)⟩
/-! the words, in whatever order, beside the ordered ones -/
theorem perm_at {wl ws : Ws} (hp : wl.Perm ws) {i : Nat} (hi : i < wl.length) : ∃ j, j < ws.length ∧ wd ws j = wd wl i ∧ nu ws j = nu wl i :=
  wd_of_mem (hp.mem_iff.mp (wd_mem hi))
theorem perm_ta {wl ws : Ws} (hp : wl.Perm ws) {j : Nat} (hj : j < ws.length) : ∃ i, i < wl.length ∧ wd wl i = wd ws j ∧ nu wl i = nu ws j :=
  wd_of_mem (hp.mem_iff.mpr (wd_mem hj))
theorem cL_perm {wl ws : Ws} (hp : wl.Perm ws) (t : List Nat) : cL wl t = cL ws t := hp.countP_eq _
theorem cL_self {ws : Ws} (hs : Srt ws) {j : Nat} (hj : j < ws.length) : cL ws (wd ws j) = j :=
  (cL_cut hs (wd ws j)).uniq ⟨by omega, fun i hi => hs i j hi hj, fun i h1 h2 => by
    have := hs.le h1 h2
    simpa using this⟩
/-- rank k stands at the place of the k-th ordered word -/
theorem perm_rank {wl ws : Ws} (hp : wl.Perm ws) (hs : Srt ws) {i : Nat} (hi : i < wl.length) : cL wl (wd wl i) < ws.length ∧ wd ws (cL wl (wd wl i)) = wd wl i ∧ nu ws (cL wl (wd wl i)) = nu wl i := by
  obtain ⟨j, h1, h2, h3⟩ := perm_at hp hi
  rw [cL_perm hp, ← h2, cL_self hs h1]
  exact ⟨h1, rfl, h3⟩
theorem perm_inj {wl ws : Ws} (hp : wl.Perm ws) (hs : Srt ws) {i j : Nat} (hi : i < wl.length) (hj : j < wl.length) (e : wd wl i = wd wl j) : i = j := by
  have hd : (wl.map (·.1)).Nodup := (hp.map (·.1)).nodup_iff.mpr (by
    rw [List.nodup_iff_pairwise_ne, List.pairwise_map]
    exact (Srt_pair.mp hs).imp fun h => lt_ne h)
  have := (List.getElem_inj (h₀ := by simpa using hi) (h₁ := by simpa using hj) hd).mp (by
    rw [List.getElem_map, List.getElem_map, ← wd_lt hi, ← wd_lt hj, e])
  exact this
/-- order and ranks are made -/
def OrdM (σ : St) (wl : Ws) : Prop := ∀ w, w < wl.length → gA σ 9 w = nI (cL wl (wd wl w)) ∧ gA σ 8 (cL wl (wd wl w)) = nI w
theorem sX6_orders {σ : St} {wl ws : Ws} (hw : WdsM σ wl) (hp : wl.Perm ws) (hs : Srt ws) {K : St → Prop} (hK : ∀ τ, Chg (fun k => k = 8 ∨ k = 9) σ τ → OrdM τ wl → K τ) : wX6_orders σ K := by
  have hl := hw.2.1
  have key : ∀ d k (τ : St), k + d = wl.length → Chg (fun k => k = 8 ∨ k = 9) σ τ → (∀ w, w < k → gA τ 9 w = nI (cL wl (wd wl w)) ∧ gA τ 8 (cL wl (wd wl w)) = nI w) → wX6_orders_L2 K (d + 1) τ (nI k) := by
    intro d
    induction d with
    | zero =>
      intro k τ hk hc hv
      have hw2 := hw.kept hc (by omega) (by omega) (by omega)
      rw [wX6_orders_L2]
      exact pk_le wl.length k (fun _ => hK τ hc (by rwa [show k = wl.length by omega] at hv)) (fun q => by omega) hw2.1
    | succ d ih =>
      intro k τ hk hc hv
      have hw2 := hw.kept hc (by omega) (by omega) (by omega)
      rw [wX6_orders_L2]
      refine pk_le wl.length k (fun _ => by omega) (fun q => sX6_rankOf hw2 q ?_) hw2.1
      have hr := (perm_rank hp hs q).1
      rw [hp.length_eq.symm] at hr
      rw [nI_clamp (by omega)]
      refine ⟨vp_in_nI (by omega) (by omega), ?_⟩
      rintro _ rfl
      rw [gA_pA, if_pos ⟨rfl, rfl⟩, nI_clamp (by omega), nI_1]
      refine ⟨vp_in_nI (by omega) (by omega), vp_in_nI (by omega) (by omega), ?_⟩
      rintro _ rfl
      refine ih (k + 1) _ (by omega) (hc.tr ((Chg_pA.mono (by omega)).tr (Chg_pA.mono (by omega)))) fun w hw3 => ?_
      rw [gA_pA, if_neg (by omega), gA_pA, gA_pA]
      by_cases e : w = k
      · subst e
        rw [if_pos ⟨rfl, rfl⟩, if_pos ⟨rfl, rfl⟩]
        exact ⟨rfl, rfl⟩
      · have hne : cL wl (wd wl w) ≠ cL wl (wd wl k) := fun z => e (perm_inj hp hs (by omega) q (by
          rw [← (perm_rank hp hs (i := w) (by omega)).2.1, z, (perm_rank hp hs q).2.1]))
        rw [if_neg (fun z => e z.2), if_neg (fun z => hne z.2), gA_pA, if_neg (by omega)]
        exact hv w (by omega)
  exact ⟨_, key wl.length 0 σ (by omega) Chg.rf (fun w hw => by omega)⟩
/-- by rank -/
theorem OrdM.at {σ : St} {wl ws : Ws} (h : OrdM σ wl) (hp : wl.Perm ws) (hs : Srt ws) {k : Nat} (hk : k < ws.length) : ∃ w, w < wl.length ∧ gA σ 8 k = nI w ∧ wd wl w = wd ws k ∧ nu wl w = nu ws k := by
  obtain ⟨i, h1, h2, h3⟩ := perm_ta hp hk
  have h4 := (h i h1).2
  rw [h2, cL_perm hp, cL_self hs hk] at h4
  exact ⟨i, h1, h4, h2, h3⟩
theorem sX6_becomes {σ : St} {w : Nat} {a : List Nat} (hw : WrdM σ w a) (h : w < 24) {K : St → Prop} (hK : ∀ τ, TxtM τ a → Chg (fun k => k = 1) σ τ → K τ) : wX6_becomes σ (nI w) K := by
  have ha := hw.2.1
  unfold wX6_becomes
  rw [nI_clamp (by omega), hw.1]
  refine ⟨vp_in_nI (by omega) (by omega), ?_⟩
  rintro _ rfl
  have key : ∀ d k (τ : St), k + d = a.length → gI τ 1 = nI a.length → (∀ j, j < k → gA τ 1 j = nI (gd a j)) → Chg (fun k => k = 1) σ τ → wX6_becomes_L12 K (nI w) (d + 1) τ (nI k) := by
    intro d
    induction d with
    | zero =>
      intro k τ hk h1 h2 hc
      rw [wX6_becomes_L12]
      exact pk_le a.length k (fun _ => hK τ ⟨h1, by omega, fun j hj => h2 j (by omega), hw.2.2.2⟩ hc) (fun q => by omega) h1
    | succ d ih =>
      intro k τ hk h1 h2 hc
      have hw2 := hw.kept hc (by omega) (by omega)
      rw [wX6_becomes_L12]
      refine pk_le a.length k (fun _ => by omega) (fun q => ?_) h1
      have b := hw.2.2.2 k
      rw [nI_x10, nI_add, nI_clamp (by omega), nI_clamp (by omega), hw2.2.2.1 k q, charN (by omega), nI_1]
      refine ⟨vp_in_nI (by omega) (by omega), vp_in_nI (by omega) (by omega), ?_⟩
      rintro _ rfl
      refine ih (k + 1) _ (by omega) h1 (fun j hj => ?_) (hc.tr Chg_pA)
      rw [gA_pA]
      by_cases e : j = k
      · rw [if_pos ⟨rfl, e⟩, e]
      · rw [if_neg (fun z => e z.2)]; exact h2 j (by omega)
  exact ⟨_, key a.length 0 _ (by omega) (by rw [gI_pI, if_pos rfl]) (fun j hj => by omega) Chg_pI⟩
