/-! WHAT THE METHODS OF A ROW DO -/
def RowIs (σ : St) (r : Nat) (a : List Nat) : Prop := gI σ r = nI a.length ∧ a.length ≤ capC r ∧ (∀ k, k < a.length → gA σ r k = nI (gd a k)) ∧ ∀ k, gd a k < 103
theorem RowIs.len {σ : St} {r : Nat} {a : List Nat} (h : RowIs σ r a) : a.length ≤ 30 := Nat.le_trans h.2.1 (capC_le r)
/-- nothing but the objects of P has changed -/
def Chg (P : Nat → Prop) (σ τ : St) : Prop := (∀ k, ¬ P k → gI τ k = gI σ k ∧ ∀ j, gA τ k j = gA σ k j) ∧ ∀ j, gR τ j = gR σ j
theorem Chg.rf {P : Nat → Prop} {σ : St} : Chg P σ σ := ⟨fun _ _ => ⟨rfl, fun _ => rfl⟩, fun _ => rfl⟩
theorem Chg.tr {P : Nat → Prop} {σ τ υ : St} (h1 : Chg P σ τ) (h2 : Chg P τ υ) : Chg P σ υ :=
  ⟨fun k hk => ⟨(h2.1 k hk).1.trans (h1.1 k hk).1, fun j => ((h2.1 k hk).2 j).trans ((h1.1 k hk).2 j)⟩, fun j => (h2.2 j).trans (h1.2 j)⟩
theorem Chg.mono {P Q : Nat → Prop} {σ τ : St} (h : Chg P σ τ) (hPQ : ∀ k, P k → Q k) : Chg Q σ τ := ⟨fun k hk => h.1 k (fun q => hk (hPQ k q)), h.2⟩
theorem RowIs.kept {P : Nat → Prop} {σ τ : St} {r : Nat} {a : List Nat} (h : RowIs σ r a) (hc : Chg P σ τ) (hr : ¬ P r) : RowIs τ r a :=
  ⟨(hc.1 r hr).1.trans h.1, h.2.1, fun k hk => ((hc.1 r hr).2 k).trans (h.2.2.1 k hk), h.2.2.2⟩
theorem RowIs.same {σ : St} {r : Nat} {a b : List Nat} (h : RowIs σ r a) (e : a = b) : RowIs σ r b := e ▸ h
theorem Chg_pI {σ : St} {k : Nat} {v : Int32} : Chg (fun q => q = k) σ (pI σ k v) := ⟨fun q hq => ⟨by rw [gI_pI, if_neg hq], fun _ => rfl⟩, fun _ => rfl⟩
theorem Chg_pA {σ : St} {k i : Nat} {v : Int32} : Chg (fun q => q = k) σ (pA σ k i v) := ⟨fun q hq => ⟨rfl, fun j => by rw [gA_pA, if_neg (fun z => hq z.1)]⟩, fun _ => rfl⟩
theorem Chg_pL {P : Nat → Prop} {σ : St} {i : Nat} {v : Int64} : Chg P σ (pL σ i v) := ⟨fun _ _ => ⟨rfl, fun _ => rfl⟩, fun _ => rfl⟩
theorem nar_bool {b : Prop} [Decidable b] : narrow .boolean (.int (if b then 1 else 0)) = .int (if b then 1 else 0) := by split <;> rfl
theorem nar_char {q : Nat} (h : q < 65536) : narrow .char (.int (nI q)) = .int (nI q) := (pk_charN h).1
theorem sX2_at {σ : St} {x k : Nat} {a : List Nat} (hx : RowIs σ x a) (hk : k < a.length) {K : Int32 → Prop} (hK : K (nI (gd a k))) : wX2_at σ x (nI k) K := by
  have hl := hx.len
  have hc := hx.2.1
  refine ⟨fun h => absurd h (nI_neg (by omega)), fun _ => pk_le a.length k (fun h => by omega) (fun h => ?_) hx.1⟩
  rw [nI_clamp (by omega), hx.2.2.1 k hk]
  exact ⟨pk_in k (capC x) (by omega) rfl (by have := capC_le x; omega), nar_char (by have := hx.2.2.2 k; omega), hK⟩
/-- behind the end, or ahead of the start, there is the sign 0 -/
theorem sX2_at_out {σ : St} {x : Nat} {v : Int32} {a : List Nat} (hx : RowIs σ x a) (hv : v < 0 ∨ nI a.length ≤ v) {K : Int32 → Prop} (hK : K 0) : wX2_at σ x v K := by
  refine ⟨fun _ => hK, fun h => ⟨fun _ => hK, fun h2 => ?_⟩⟩
  rw [hx.1] at h2
  exact absurd (hv.resolve_left h) h2
theorem sX2_clear {σ : St} {x : Nat} {K : St → Prop} (hK : ∀ τ, RowIs τ x [] → Chg (fun q => q = x) σ τ → K τ) : wX2_clear σ x K := by
  rintro _ rfl
  refine hK _ ⟨by rw [gI_pI, if_pos rfl]; rfl, Nat.zero_le _, fun k hk => absurd hk (Nat.not_lt_zero k), fun k => by rw [gd_nil]; omega⟩ Chg_pI
theorem sX2_append {σ : St} {x v : Nat} {a : List Nat} (hx : RowIs σ x a) (hl : a.length < capC x) (hv : v < 103) {K : St → Prop} (hK : ∀ τ, RowIs τ x (a ++ [v]) → Chg (fun q => q = x) σ τ → K τ) : wX2_append σ x (nI v) K := by
  have hc := capC_le x
  refine pk_le (capC x) a.length (fun h => by omega) (fun h => ?_) rfl hx.1
  rw [hx.1, nI_clamp (by omega), charN (by omega)]
  refine ⟨pk_in a.length (capC x) hl rfl (by omega), ?_⟩
  rintro _ rfl _ rfl
  refine hK _ ⟨?_, ?_, fun k hk => ?_, fun k => ?_⟩ (Chg_pA.tr Chg_pI)
  · rw [gI_pI, if_pos rfl, gI_pA, hx.1, List.length_append]
    exact nI_1 _
  · simp; omega
  · rw [gA_pI, gA_pA]
    simp only [List.length_append, List.length_cons, List.length_nil] at hk
    by_cases e : k = a.length
    · rw [if_pos ⟨rfl, e⟩, e, gd_app_r (Nat.le_refl _), Nat.sub_self, gd_0]
    · rw [if_neg (fun q => e q.2), gd_app_l (by omega)]
      exact hx.2.2.1 k (by omega)
  · rcases Nat.lt_or_ge k a.length with q | q
    · rw [gd_app_l q]; exact hx.2.2.2 k
    · rw [gd_app_r q]
      rcases Nat.eq_zero_or_pos (k - a.length) with z | z
      · rw [z, gd_0]; exact hv
      · rw [gd_ge (by simp; omega)]; omega
theorem app_take {a b : List Nat} {k : Nat} (h : k < b.length) : a ++ b.take k ++ [gd b k] = a ++ b.take (k + 1) := by
  rw [List.append_assoc, gd_lt h, List.take_append_getElem h]
theorem sX2_appendAll_L2 {x y : Nat} {a b : List Nat} {K : St → Prop} (hxy : y ≠ x) (hl : a.length + b.length ≤ capC x) {σ0 : St} (hK : ∀ τ, RowIs τ x (a ++ b) → Chg (fun q => q = x) σ0 τ → K τ) :
    ∀ d k (σ : St), k + d = b.length → RowIs σ x (a ++ b.take k) → RowIs σ y b → Chg (fun q => q = x) σ0 σ → wX2_appendAll_L2 K x y (d + 1) σ (nI k) := by
  intro d
  induction d with
  | zero =>
    intro k σ hk hx hy hc
    have hb := hy.len
    rw [wX2_appendAll_L2]
    refine pk_le b.length k (fun h => hK _ (hx.same (by rw [show k = b.length by omega, List.take_length])) hc) (fun h => by omega) hy.1
  | succ d ih =>
    intro k σ hk hx hy hc
    have hb := hy.len
    have hcy := hy.2.1
    rw [wX2_appendAll_L2]
    refine pk_le b.length k (fun h => by omega) (fun h => ?_) hy.1
    rw [nI_clamp (by omega), hy.2.2.1 k h]
    refine ⟨pk_in k (capC y) (by omega) rfl (by have := capC_le y; omega), sX2_append hx (by simp; omega) (hy.2.2.2 k) fun τ h1 h2 => ?_⟩
    rw [nI_1]
    exact ih (k + 1) τ (by omega) (h1.same (app_take h)) (hy.kept h2 hxy) (hc.tr h2)
theorem sX2_appendAll {σ : St} {x y : Nat} {a b : List Nat} (hx : RowIs σ x a) (hy : RowIs σ y b) (hxy : y ≠ x) (hl : a.length + b.length ≤ capC x) {K : St → Prop} (hK : ∀ τ, RowIs τ x (a ++ b) → Chg (fun q => q = x) σ τ → K τ) : wX2_appendAll σ x y K :=
  ⟨_, sX2_appendAll_L2 hxy hl hK b.length 0 σ (by omega) (hx.same (by simp)) hy Chg.rf⟩
theorem sX2_becomePart_L7 {x y t : Nat} {b : List Nat} {f : Nat} {K : St → Prop} (hxy : y ≠ x) (ht : t ≤ b.length) (hl : t - f ≤ capC x) {σ0 : St} (hK : ∀ τ, RowIs τ x ((b.take t).drop f) → Chg (fun q => q = x) σ0 τ → K τ) :
    ∀ d k (σ : St), k + d = t → f ≤ k → RowIs σ x ((b.take k).drop f) → RowIs σ y b → Chg (fun q => q = x) σ0 σ → wX2_becomePart_L7 K x y (nI t) (d + 1) σ (nI k) := by
  intro d
  induction d with
  | zero =>
    intro k σ hk hf hx hy hc
    have hb := hy.len
    rw [wX2_becomePart_L7]
    refine pk_le t k (fun h => hK _ (hx.same (by rw [show k = t by omega])) hc) (fun h => by omega)
  | succ d ih =>
    intro k σ hk hf hx hy hc
    have hb := hy.len
    rw [wX2_becomePart_L7]
    refine pk_le t k (fun h => by omega) (fun h => sX2_at hy (by omega) (sX2_append hx (by simp; omega) (hy.2.2.2 k) fun τ h1 h2 => ?_))
    rw [nI_1]
    refine ih (k + 1) τ (by omega) (by omega) (h1.same ?_) (hy.kept h2 hxy) (hc.tr h2)
    have hk2 : k < b.length := by omega
    rw [gd_lt hk2, ← List.take_append_getElem hk2, List.drop_append_of_le_length (by simp; omega)]
theorem sX2_becomePart {σ : St} {x y f t : Nat} {b : List Nat} (hy : RowIs σ y b) (hxy : y ≠ x) (hf : f ≤ t) (ht : t ≤ b.length) (hl : t - f ≤ capC x) {K : St → Prop} (hK : ∀ τ, RowIs τ x ((b.take t).drop f) → Chg (fun q => q = x) σ τ → K τ) : wX2_becomePart σ x y (nI f) (nI t) K :=
  sX2_clear fun τ h1 h2 => ⟨_, sX2_becomePart_L7 hxy ht hl hK (t - f) f τ (by omega) (Nat.le_refl _) (h1.same (by simp)) (hy.kept h2 hxy) h2⟩
theorem sX2_become {σ : St} {x y : Nat} {b : List Nat} (hy : RowIs σ y b) (hxy : y ≠ x) (hl : b.length ≤ capC x) {K : St → Prop} (hK : ∀ τ, RowIs τ x b → Chg (fun q => q = x) σ τ → K τ) : wX2_become σ x y K := by
  unfold wX2_become
  rw [hy.1]
  exact sX2_becomePart (f := 0) hy hxy (Nat.zero_le _) (Nat.le_refl _) (by omega) fun τ h1 h2 => hK τ (h1.same (by simp)) h2
theorem sX2_common_L2 {σ : St} {x y : Nat} {a b : List Nat} (hx : RowIs σ x a) (hy : RowIs σ y b) {K : Int32 → Prop} (hK : K (nI (lcp a b))) : ∀ d k, k + d = lcp a b → wX2_common_L2 K σ x y (d + 1) (nI k) := by
  have ha := hx.len
  have hb := hy.len
  have hl := lcp_le a b
  have ca := hx.2.1
  have cb := hy.2.1
  have mx := capC_le x
  have my := capC_le y
  intro d
  induction d with
  | zero =>
    intro k hk
    have e : k = lcp a b := by omega
    subst e
    rw [wX2_common_L2]
    refine pk_le a.length (lcp a b) (fun _ => hK) (fun h1 => pk_le b.length (lcp a b) (fun _ => hK) (fun h2 => ?_) hy.1) hx.1
    rw [nI_clamp (by omega), hx.2.2.1 _ h1, hy.2.2.1 _ h2]
    exact ⟨vp_in_nI (by omega) (by omega), vp_in_nI (by omega) (by omega), pk_eq (gd a (lcp a b)) (gd b (lcp a b)) (fun h => absurd h (lcp_stop a b h1 h2)) (fun _ => hK) rfl rfl (by have := hx.2.2.2 (lcp a b); omega) (by have := hy.2.2.2 (lcp a b); omega)⟩
  | succ d ih =>
    intro k hk
    rw [wX2_common_L2]
    refine pk_le a.length k (fun _ => by omega) (fun h1 => pk_le b.length k (fun _ => by omega) (fun h2 => ?_) hy.1) hx.1
    rw [nI_clamp (by omega), hx.2.2.1 _ h1, hy.2.2.1 _ h2, nI_1]
    exact ⟨vp_in_nI (by omega) (by omega), vp_in_nI (by omega) (by omega), pk_eq (gd a k) (gd b k) (fun _ => ih (k + 1) (by omega)) (fun h => absurd (lcp_gd a b k (by omega)) h) rfl rfl (by have := hx.2.2.2 k; omega) (by have := hy.2.2.2 k; omega)⟩
theorem sX2_common {σ : St} {x y : Nat} {a b : List Nat} (hx : RowIs σ x a) (hy : RowIs σ y b) {K : Int32 → Prop} (hK : K (nI (lcp a b))) : wX2_common σ x y K :=
  ⟨_, sX2_common_L2 hx hy hK (lcp a b) 0 (by omega)⟩
theorem subN (a b : Nat) (ha : a < 2 ^ 30) (hb : b < 2 ^ 30) : (nI a - nI b).toInt = (a : Int) - b := pk_sub_toInt ha hb
theorem sub_lt0 {a b : Nat} (ha : a < 2 ^ 30) (hb : b < 2 ^ 30) : nI a - nI b < 0 ↔ a < b := by
  rw [Int32.lt_iff_toInt_lt, subN a b ha hb]
  show (a : Int) - b < 0 ↔ a < b
  omega
theorem sub_eq0 {a b : Nat} (ha : a < 2 ^ 30) (hb : b < 2 ^ 30) : nI a - nI b = 0 ↔ a = b := by
  rw [← Int32.toInt_inj, subN a b ha hb]
  show (a : Int) - b = 0 ↔ a = b
  omega
/-- the sign of the answer is the order -/
def Cmp (r : Int32) (a b : List Nat) : Prop := (r < 0 ↔ lt a b = true) ∧ (r = 0 ↔ a = b)
theorem Cmp.le {r : Int32} {a b : List Nat} (h : Cmp r a b) : r ≤ 0 ↔ ¬ lt b a = true := by
  have e : r ≤ 0 ↔ r < 0 ∨ r = 0 := by
    rw [Int32.le_iff_toInt_le, Int32.lt_iff_toInt_lt, ← Int32.toInt_inj]
    show r.toInt ≤ 0 ↔ r.toInt < 0 ∨ r.toInt = 0
    omega
  rw [e, h.1, h.2]
  constructor
  · rintro (q | q) z
    · exact lt_asym q z
    · rw [q, lt_irr] at z; cases z
  · intro q
    rcases lt_tri a b with z | z | z
    · exact Or.inl z
    · exact Or.inr z
    · exact absurd z q
theorem Cmp.ge {r : Int32} {a b : List Nat} (h : Cmp r a b) : 0 ≤ r ↔ ¬ lt a b = true := by
  rw [← h.1]
  rw [Int32.le_iff_toInt_le, Int32.lt_iff_toInt_lt]
  show 0 ≤ r.toInt ↔ ¬ r.toInt < 0
  omega
theorem cmp_len {a b : List Nat} (ha : a.length < 2 ^ 30) (hb : b.length < 2 ^ 30) (h : lcp a b = a.length ∨ lcp a b = b.length) : Cmp (nI a.length - nI b.length) a b := by
  have hl := lcp_le a b
  refine ⟨?_, ?_⟩
  · rw [sub_lt0 ha hb, lt_lcp]
    constructor
    · intro q; exact ⟨by omega, Or.inl (by omega)⟩
    · intro q; omega
  · rw [sub_eq0 ha hb]
    constructor
    · intro q
      refine gd_ext q fun k hk => lcp_gd a b k (by omega)
    · intro q; rw [q]
theorem cmp_sign {a b : List Nat} (h1 : lcp a b < a.length) (h2 : lcp a b < b.length) (ha : gd a (lcp a b) < 2 ^ 30) (hb : gd b (lcp a b) < 2 ^ 30) : Cmp (nI (gd a (lcp a b)) - nI (gd b (lcp a b))) a b := by
  have hs := lcp_stop a b h1 h2
  refine ⟨?_, ?_⟩
  · rw [sub_lt0 ha hb, lt_lcp]
    constructor
    · intro q; exact ⟨h2, Or.inr q⟩
    · intro q; omega
  · rw [sub_eq0 ha hb]
    constructor
    · intro q; exact absurd q hs
    · intro q
      subst q
      rfl
theorem sX2_compareWith {σ : St} {x y : Nat} {a b : List Nat} (hx : RowIs σ x a) (hy : RowIs σ y b) {K : Int32 → Prop} (hK : ∀ r, Cmp r a b → K r) : wX2_compareWith σ x y K := by
  have ha := hx.len
  have hb := hy.len
  have hl := lcp_le a b
  have ca := hx.2.1
  have cb := hy.2.1
  have mx := capC_le x
  have my := capC_le y
  refine sX2_common hx hy ?_
  rw [hx.1, hy.1]
  refine pk_le a.length (lcp a b) (fun _ => hK _ (cmp_len (by omega) (by omega) (by omega))) (fun h1 => pk_le b.length (lcp a b) (fun _ => hK _ (cmp_len (by omega) (by omega) (by omega))) (fun h2 => ?_))
  rw [nI_clamp (by omega), hx.2.2.1 _ h1, hy.2.2.1 _ h2]
  exact ⟨vp_in_nI (by omega) (by omega), vp_in_nI (by omega) (by omega), hK _ (cmp_sign h1 h2 (by have := hx.2.2.2 (lcp a b); omega) (by have := hy.2.2.2 (lcp a b); omega))⟩
/-- 1 or 0 -/
theorem K_bool {K : Int32 → Prop} {b : Prop} [Decidable b] (h : K (if b then 1 else 0)) (hb : b) : K 1 := by rwa [if_pos hb] at h
theorem K_nbool {K : Int32 → Prop} {b : Prop} [Decidable b] (h : K (if b then 1 else 0)) (hb : ¬ b) : K 0 := by rwa [if_neg hb] at h
def preB (p w : List Nat) : Bool := decide (lcp p w = p.length)
theorem preB_iff {p w : List Nat} : preB p w = true ↔ Pre p w := by simp [preB, Pre]
theorem sX2_hasAt_L29 {σ : St} {x y f : Nat} {a b : List Nat} (hx : RowIs σ x a) (hy : RowIs σ y b) (hf : f + b.length ≤ a.length) {K : Int32 → Prop} (hK : K (if preB b (a.drop f) = true then 1 else 0)) : ∀ d k, k + d = lcp b (a.drop f) → wX2_hasAt_L29 K σ x (nI f) y (d + 1) (nI k) := by
  have ha := hx.len
  have hb := hy.len
  have hl := lcp_le b (a.drop f)
  rw [List.length_drop] at hl
  have ca := hx.2.1
  have cb := hy.2.1
  have mx := capC_le x
  have my := capC_le y
  have hd : ∀ k, gd (a.drop f) k = gd a (f + k) := fun k => gd_drop
  intro d
  induction d with
  | zero =>
    intro k hk
    have e : k = lcp b (a.drop f) := by omega
    rw [wX2_hasAt_L29]
    refine pk_le b.length k (fun h => K_bool hK (preB_iff.mpr (by unfold Pre; omega))) (fun h1 => ?_) hy.1
    rw [nI_add, nI_clamp (by omega), nI_clamp (by omega), hx.2.2.1 _ (by omega), hy.2.2.1 _ h1]
    refine ⟨vp_in_nI (by omega) (by omega), vp_in_nI (by omega) (by omega), pk_eq (gd a (f + k)) (gd b k) (fun h => ?_) (fun _ => K_nbool hK (fun q => by have := preB_iff.mp q; unfold Pre at this; omega)) rfl rfl (by have := hx.2.2.2 (f + k); omega) (by have := hy.2.2.2 k; omega)⟩
    rw [← hd] at h
    subst e
    exact absurd h.symm (lcp_stop b (a.drop f) h1 (by rw [List.length_drop]; omega))
  | succ d ih =>
    intro k hk
    rw [wX2_hasAt_L29]
    refine pk_le b.length k (fun h => by omega) (fun h1 => ?_) hy.1
    rw [nI_add, nI_clamp (by omega), nI_clamp (by omega), hx.2.2.1 _ (by omega), hy.2.2.1 _ h1, nI_1]
    refine ⟨vp_in_nI (by omega) (by omega), vp_in_nI (by omega) (by omega), pk_eq (gd a (f + k)) (gd b k) (fun h => ih (k + 1) (by omega)) (fun h => ?_) rfl rfl (by have := hx.2.2.2 (f + k); omega) (by have := hy.2.2.2 k; omega)⟩
    rw [← hd] at h
    exact absurd (lcp_gd b (a.drop f) k (by omega)).symm h
theorem sX2_hasAt {σ : St} {x y f : Nat} {a b : List Nat} (hx : RowIs σ x a) (hy : RowIs σ y b) (hf : f ≤ a.length) {K : Int32 → Prop} (hK : K (if preB b (a.drop f) = true then 1 else 0)) : wX2_hasAt σ x (nI f) y K := by
  have ha := hx.len
  have hb := hy.len
  unfold wX2_hasAt
  rw [hx.1, hy.1]
  refine ⟨fun h => absurd h (nI_neg (by omega)), fun _ => pk_lt a.length f (fun h => by omega) (fun h => ?_)⟩
  rw [nI_subI hf]
  refine pk_le b.length (a.length - f) (fun h => ⟨_, sX2_hasAt_L29 hx hy (by omega) hK (lcp b (a.drop f)) 0 (by omega)⟩) (fun h => K_nbool hK fun q => ?_)
  have := pre_len (preB_iff.mp q)
  rw [List.length_drop] at this
  omega
theorem sX2_beginsWith {σ : St} {x y : Nat} {a b : List Nat} (hx : RowIs σ x a) (hy : RowIs σ y b) {K : Int32 → Prop} (hK : K (if preB b a = true then 1 else 0)) : wX2_beginsWith σ x y K :=
  sX2_hasAt (f := 0) hx hy (Nat.zero_le _) hK
