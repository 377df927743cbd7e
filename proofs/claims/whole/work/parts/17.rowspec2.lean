/-! more of a row: putting in, taking out, turning round, summing up -/
theorem nI_m1 {k : Nat} (h : 1 ≤ k) : nI k - 1 = nI (k - 1) := nI_subI h
theorem nI_n1 {k : Nat} (h : 1 ≤ k) : nI k + (-1) = nI (k - 1) := by
  rw [show k = (k - 1) + 1 by omega]; exact pk_m1 _
theorem nI_half {a : Nat} (h : a < 2 ^ 31) : nI a / 2 = nI (a / 2) := pk_div (d := 2) h (by omega) (by omega)
theorem gd_reverse {a : List Nat} {j : Nat} (h : j < a.length) : gd a.reverse j = gd a (a.length - 1 - j) := by
  rw [gd_lt (by simpa using h), gd_lt (by omega), List.getElem_reverse]
theorem sX2_insert_L30 {x p v : Nat} {a : List Nat} {K : St → Prop} (hp : p ≤ a.length) (hl : a.length < capC x) (hv : v < 103) (ha : ∀ k, gd a k < 103) {σ0 : St} (hK : ∀ τ, RowIs τ x (a.take p ++ v :: a.drop p) → Chg (fun q => q = x) σ0 τ → K τ) :
    ∀ d k (σ : St), k = p + d → k ≤ a.length → gI σ x = nI a.length → (∀ j, k < j → j ≤ a.length → gA σ x j = nI (gd a (j - 1))) → (∀ j, j < a.length → j ≤ k → gA σ x j = nI (gd a j)) → Chg (fun q => q = x) σ0 σ → wX2_insert_L30 K x (nI p) (nI v) (d + 1) σ (nI k) := by
  have mx := capC_le x
  intro d
  induction d with
  | zero =>
    intro k σ hk hka hg h1 h2 hc
    rw [wX2_insert_L30]
    refine pk_le k p (fun h => ?_) (fun h => by omega)
    rw [nI_clamp (by omega), charN (by omega)]
    refine ⟨vp_in_nI (by omega) (by omega), ?_⟩
    rintro _ rfl _ rfl
    refine hK _ ⟨?_, ?_, fun j hj => ?_, fun j => ?_⟩ (hc.tr (Chg_pA.tr Chg_pI))
    · rw [gI_pI, if_pos rfl, gI_pA, hg]
      simp only [List.length_append, List.length_cons, List.length_take, List.length_drop]
      rw [show min p a.length + (a.length - p + 1) = a.length + 1 by omega]
      exact nI_1 _
    · simp only [List.length_append, List.length_cons, List.length_take, List.length_drop]; omega
    · simp only [List.length_append, List.length_cons, List.length_take, List.length_drop] at hj
      rw [gA_pI, gA_pA]
      rcases Nat.lt_trichotomy j p with q | q | q
      · rw [if_neg (by omega), gd_app_l (by simp; omega), gd_take q]
        exact h2 j (by omega) (by omega)
      · subst q
        rw [if_pos ⟨rfl, rfl⟩, gd_app_r (by simp; omega), List.length_take, show j - min j a.length = 0 by omega, gd_0]
      · rw [if_neg (by omega), gd_app_r (by simp; omega), List.length_take, show j - min p a.length = (j - 1 - p) + 1 by omega, gd_s, gd_drop, show p + (j - 1 - p) = j - 1 by omega]
        exact h1 j (by omega) (by omega)
    · rcases Nat.lt_or_ge j p with q | q
      · rw [gd_app_l (by simp; omega), gd_take q]; exact ha j
      · rw [gd_app_r (by simp; omega)]
        generalize j - (List.take p a).length = i
        cases i with
        | zero => rw [gd_0]; exact hv
        | succ i => rw [gd_s, gd_drop]; exact ha _
  | succ d ih =>
    intro k σ hk hka hg h1 h2 hc
    rw [wX2_insert_L30]
    refine pk_le k p (fun h => by omega) (fun h => ?_)
    rw [nI_m1 (by omega), nI_clamp (by omega), nI_clamp (by omega), h2 (k - 1) (by omega) (by omega), charN (by have := ha (k - 1); omega)]
    refine ⟨vp_in_nI (by omega) (by omega), vp_in_nI (by omega) (by omega), ?_⟩
    rintro _ rfl
    rw [nI_n1 (by omega)]
    refine ih (k - 1) _ (by omega) (by omega) hg (fun j hj hj2 => ?_) (fun j hj hj2 => ?_) (hc.tr Chg_pA)
    · rw [gA_pA]
      by_cases e : j = k
      · rw [if_pos ⟨rfl, e⟩, e]
      · rw [if_neg (fun q => e q.2)]
        exact h1 j (by omega) hj2
    · rw [gA_pA, if_neg (by omega)]
      exact h2 j hj (by omega)
theorem sX2_insert {σ : St} {x p v : Nat} {a : List Nat} (hx : RowIs σ x a) (hp : p ≤ a.length) (hl : a.length < capC x) (hv : v < 103) {K : St → Prop} (hK : ∀ τ, RowIs τ x (a.take p ++ v :: a.drop p) → Chg (fun q => q = x) σ τ → K τ) : wX2_insert σ x (nI p) (nI v) K := by
  have ha := hx.len
  have mx := capC_le x
  unfold wX2_insert
  rw [hx.1]
  refine ⟨fun h => absurd h (nI_neg (by omega)), fun _ => pk_lt a.length p (fun h => by omega) (fun _ => pk_lt a.length (capC x) (fun _ => ?_) (fun h => by omega))⟩
  rintro _ rfl
  exact ⟨_, sX2_insert_L30 hp hl hv hx.2.2.2 hK (a.length - p) a.length σ (by omega) (Nat.le_refl _) hx.1 (fun j h1 h2 => by omega) (fun j h1 _ => hx.2.2.1 j h1) Chg.rf⟩
theorem sX2_removePart_L25 {x f t : Nat} {a : List Nat} {K : St → Prop} (hf : f ≤ t) (ht : t ≤ a.length) (hl : a.length ≤ capC x) (ha : ∀ k, gd a k < 103) {σ0 : St} (hK : ∀ τ, RowIs τ x (a.take f ++ a.drop t) → Chg (fun q => q = x) σ0 τ → K τ) :
    ∀ d k (σ : St), k + d = a.length → t ≤ k → gI σ x = nI a.length → (∀ j, j < f → gA σ x j = nI (gd a j)) → (∀ j, t ≤ j → j < k → gA σ x (j - (t - f)) = nI (gd a j)) → (∀ j, k ≤ j → j < a.length → gA σ x j = nI (gd a j)) → Chg (fun q => q = x) σ0 σ → wX2_removePart_L25 K x (nI (t - f)) (d + 1) σ (nI k) := by
  have mx := capC_le x
  intro d
  induction d with
  | zero =>
    intro k σ hk htk hg h1 h2 h3 hc
    rw [wX2_removePart_L25]
    refine pk_le a.length k (fun h => ?_) (fun h => by omega) hg
    rintro _ rfl
    refine hK _ ⟨?_, ?_, fun j hj => ?_, fun j => ?_⟩ (hc.tr Chg_pI)
    · rw [gI_pI, if_pos rfl, hg, nI_subI (by omega)]
      simp only [List.length_append, List.length_take, List.length_drop]
      congr 1; omega
    · simp only [List.length_append, List.length_take, List.length_drop]; omega
    · simp only [List.length_append, List.length_take, List.length_drop] at hj
      rw [gA_pI]
      rcases Nat.lt_or_ge j f with q | q
      · rw [gd_app_l (by simp; omega), gd_take q]; exact h1 j q
      · rw [gd_app_r (by simp; omega), List.length_take, gd_drop]
        have := h2 (t + (j - min f a.length)) (by omega) (by omega)
        rw [← this]
        congr 1; omega
    · rcases Nat.lt_or_ge j f with q | q
      · rw [gd_app_l (by simp; omega), gd_take q]; exact ha j
      · rw [gd_app_r (by simp; omega), gd_drop]; exact ha _
  | succ d ih =>
    intro k σ hk htk hg h1 h2 h3 hc
    rw [wX2_removePart_L25]
    refine pk_le a.length k (fun h => by omega) (fun h => ?_) hg
    rw [nI_subI (by omega), nI_clamp (by omega), nI_clamp (by omega), h3 k (Nat.le_refl _) h, charN (by have := ha k; omega), nI_1]
    refine ⟨vp_in_nI (by omega) (by omega), vp_in_nI (by omega) (by omega), ?_⟩
    rintro _ rfl
    refine ih (k + 1) _ (by omega) (by omega) hg (fun j hj => ?_) (fun j hj hj2 => ?_) (fun j hj hj2 => ?_) (hc.tr Chg_pA)
    · rw [gA_pA, if_neg (by omega)]; exact h1 j hj
    · rw [gA_pA]
      by_cases e : j = k
      · rw [if_pos ⟨rfl, by rw [e]⟩, e]
      · rw [if_neg (by omega)]
        exact h2 j hj (by omega)
    · rw [gA_pA, if_neg (by omega)]
      exact h3 j (by omega) hj2
theorem sX2_removePart {σ : St} {x f t : Nat} {a : List Nat} (hx : RowIs σ x a) (hf : f ≤ t) (ht : t ≤ a.length) {K : St → Prop} (hK : ∀ τ, RowIs τ x (a.take f ++ a.drop t) → Chg (fun q => q = x) σ τ → K τ) : wX2_removePart σ x (nI f) (nI t) K := by
  have ha := hx.len
  unfold wX2_removePart
  rw [hx.1]
  refine ⟨fun h => absurd h (nI_neg (by omega)), fun _ => pk_lt t f (fun h => by omega) (fun _ => pk_le t a.length (fun _ => ?_) (fun h => by omega))⟩
  rw [nI_subI hf]
  exact ⟨_, sX2_removePart_L25 hf ht hx.2.1 hx.2.2.2 hK (a.length - t) t σ (by omega) (Nat.le_refl _) hx.1 (fun j h => hx.2.2.1 j (by omega)) (fun j h1 h2 => by omega) (fun j _ h => hx.2.2.1 j h) Chg.rf⟩
def RevInv (σ : St) (x : Nat) (a : List Nat) (i : Nat) : Prop := gI σ x = nI a.length ∧ ∀ j, j < a.length → gA σ x j = nI (gd a (if j < i ∨ a.length - i ≤ j then a.length - 1 - j else j))
def revOk (a : List Nat) : Nat → Bool
  | 0 => true
  | i + 1 => revOk a i && decide (gd a i = gd a (a.length - 1 - i))
theorem revOk_iff {a : List Nat} : ∀ i, revOk a i = true ↔ ∀ j, j < i → gd a j = gd a (a.length - 1 - j)
  | 0 => by simp [revOk]
  | i + 1 => by
    simp only [revOk, Bool.and_eq_true, decide_eq_true_eq, revOk_iff i]
    constructor
    · rintro ⟨h1, h2⟩ j hj
      rcases Nat.lt_or_ge j i with q | q
      · exact h1 j q
      · rw [show j = i by omega]; exact h2
    · intro h
      exact ⟨fun j hj => h j (by omega), h i (by omega)⟩
theorem revOk_all {a : List Nat} : revOk a (a.length / 2) = true ↔ a.reverse = a := by
  rw [revOk_iff]
  constructor
  · intro h
    refine gd_ext (by simp) fun k hk => ?_
    rw [List.length_reverse] at hk
    rw [gd_reverse hk]
    rcases Nat.lt_or_ge k (a.length / 2) with q | q
    · exact (h k q).symm
    · rcases Nat.lt_or_ge (a.length - 1 - k) (a.length / 2) with z | z
      · have := h _ z
        rw [this]
        congr 1; omega
      · congr 1; omega
  · intro h j hj
    have : gd a.reverse j = gd a j := by rw [h]
    rw [gd_reverse (by omega)] at this
    exact this.symm
theorem sX2_reverse_J51 {σ : St} {x i : Nat} {a : List Nat} (hI : RevInv σ x a i) (hi : i < a.length / 2) (hl : a.length ≤ capC x) (ha : ∀ k, gd a k < 103) {s0 : Int32} {K : Int32 → St → Prop} {B : St → Int32 → Int32 → Prop} (hB : ∀ τ, RevInv τ x a (i + 1) → Chg (fun q => q = x) σ τ → B τ s0 (nI (i + 1))) : wX2_reverse_J51 K B σ x (nI i) (nI (a.length - 1 - i)) (nI (gd a i)) s0 := by
  have mx := capC_le x
  unfold wX2_reverse_J51
  have e1 : gA σ x (a.length - 1 - i) = nI (gd a (a.length - 1 - i)) := by rw [hI.2 _ (by omega), if_neg (by omega)]
  rw [nI_clamp (by omega), nI_clamp (by omega), e1, charN (by have := ha (a.length - 1 - i); omega), charN (by have := ha i; omega), nI_1]
  refine ⟨vp_in_nI (by omega) (by omega), vp_in_nI (by omega) (by omega), ?_⟩
  rintro _ rfl
  refine ⟨vp_in_nI (by omega) (by omega), ?_⟩
  rintro _ rfl
  refine hB _ ⟨hI.1, fun j hj => ?_⟩ (Chg_pA.tr Chg_pA)
  rw [gA_pA, gA_pA]
  by_cases q1 : j = a.length - 1 - i
  · rw [if_pos ⟨rfl, q1⟩, if_pos (by omega)]
    congr 2; omega
  · rw [if_neg (fun z => q1 z.2)]
    by_cases q2 : j = i
    · rw [if_pos ⟨rfl, q2⟩, if_pos (by omega), q2]
    · rw [if_neg (fun z => q2 z.2), hI.2 j hj]
      congr 2
      by_cases q3 : j < i ∨ a.length - i ≤ j
      · rw [if_pos q3, if_pos (by omega)]
      · rw [if_neg q3, if_neg (by omega)]
theorem sX2_reverse_L4 {x : Nat} {a : List Nat} (hl : a.length ≤ capC x) (ha : ∀ k, gd a k < 103) {σ0 : St} {K : Int32 → St → Prop} (hK : ∀ τ, RowIs τ x a.reverse → Chg (fun q => q = x) σ0 τ → K (if a.reverse = a then 1 else 0) τ) :
    ∀ d i (σ : St), i + d = a.length / 2 → RevInv σ x a i → Chg (fun q => q = x) σ0 σ → wX2_reverse_L4 K x (d + 1) σ (if revOk a i = true then 1 else 0) (nI i) := by
  have mx := capC_le x
  intro d
  induction d with
  | zero =>
    intro i σ hi hI hc
    rw [wX2_reverse_L4]
    rw [hI.1, nI_half (by omega)]
    refine pk_le (a.length / 2) i (fun _ => ⟨nar_bool, ?_⟩) (fun h => by omega)
    have e : i = a.length / 2 := by omega
    subst e
    have := hK σ ⟨by rw [hI.1, List.length_reverse], by rw [List.length_reverse]; exact hl, fun k hk => ?_, fun k => ?_⟩ hc
    · simpa only [revOk_all] using this
    · rw [List.length_reverse] at hk
      rw [hI.2 k hk, gd_reverse hk]
      congr 2
      by_cases q : k < a.length / 2 ∨ a.length - a.length / 2 ≤ k
      · rw [if_pos q]
      · rw [if_neg q]; omega
    · rcases Nat.lt_or_ge k a.length with q | q
      · rw [gd_reverse q]; exact ha _
      · rw [gd_ge (by simpa using q)]; omega
  | succ d ih =>
    intro i σ hi hI hc
    rw [wX2_reverse_L4]
    rw [hI.1, nI_half (by omega)]
    refine pk_le (a.length / 2) i (fun h => by omega) (fun h => ?_)
    rw [nI_m1 (by omega), nI_subI (by omega)]
    rintro _ rfl
    refine ⟨vp_in_nI (by omega) (by omega), ?_⟩
    rw [nI_clamp (by omega), hI.2 i (by omega), if_neg (by omega)]
    rintro _ rfl
    have go : ∀ s0 : Int32, s0 = (if revOk a (i + 1) = true then 1 else 0) → wX2_reverse_J51 K (wX2_reverse_L4 K x (d + 1)) σ x (nI i) (nI (a.length - 1 - i)) (nI (gd a i)) s0 := by
      rintro _ rfl
      exact sX2_reverse_J51 hI h hl ha fun τ h1 h2 => ih (i + 1) τ (by omega) h1 (hc.tr h2)
    have hr : revOk a (i + 1) = (revOk a i && decide (gd a i = gd a (a.length - 1 - i))) := rfl
    refine ⟨fun q => ?_, fun q => ⟨vp_in_nI (by omega) (by omega), ?_⟩⟩
    · refine go 0 ?_
      by_cases z : revOk a i = true
      · rw [if_pos z] at q; cases q
      · rw [if_neg]; rw [hr]; simp [z]
    · have z : revOk a i = true := by
        by_cases z : revOk a i = true
        · exact z
        · rw [if_neg z] at q; exact absurd rfl q
      rw [nI_clamp (by omega), hI.2 (a.length - 1 - i) (by omega), if_neg (by omega)]
      refine pk_eq (gd a i) (gd a (a.length - 1 - i)) (fun e => go 1 ?_) (fun e => go 0 ?_) rfl rfl (by have := ha i; omega) (by have := ha (a.length - 1 - i); omega)
      · rw [if_pos]; rw [hr]; simp [z, e]
      · rw [if_neg]; rw [hr]; simp [e]
theorem sX2_reverse {σ : St} {x : Nat} {a : List Nat} (hx : RowIs σ x a) {K : Int32 → St → Prop} (hK : ∀ τ, RowIs τ x a.reverse → Chg (fun q => q = x) σ τ → K (if a.reverse = a then 1 else 0) τ) : wX2_reverse σ x K :=
  ⟨_, sX2_reverse_L4 hx.2.1 hx.2.2.2 hK (a.length / 2) 0 σ (by omega) ⟨hx.1, fun j hj => by rw [hx.2.2.1 j hj, if_neg (by omega)]⟩ Chg.rf⟩
/-- the sum over a row's signs -/
def addS (s : Int64) (a : List Nat) : Int64 := a.foldl (fun s c => 31 * s + lN c) s
theorem addS_snoc (s : Int64) (a : List Nat) (k : Nat) (h : k < a.length) : addS s (a.take (k + 1)) = 31 * addS s (a.take k) + lN (gd a k) := by
  unfold addS
  rw [← List.take_append_getElem h, List.foldl_append, gd_lt h]
  rfl
theorem sX2_addTo_L5 {σ : St} {x : Nat} {a : List Nat} {s : Int64} (hx : RowIs σ x a) {K : Int64 → Prop} (hK : K (addS s a)) : ∀ d k, k + d = a.length → wX2_addTo_L5 K σ x (d + 1) (addS s (a.take k)) (nI k) := by
  have ha := hx.len
  have mx := capC_le x
  have hc := hx.2.1
  intro d
  induction d with
  | zero =>
    intro k hk
    rw [wX2_addTo_L5]
    refine pk_le a.length k (fun _ => ?_) (fun h => by omega) hx.1
    rw [List.take_of_length_le (by omega)]
    exact hK
  | succ d ih =>
    intro k hk
    rw [wX2_addTo_L5]
    refine pk_le a.length k (fun h => by omega) (fun h => ?_) hx.1
    rw [nI_clamp (by omega), hx.2.2.1 k h, nI_l (by have := hx.2.2.2 k; omega), nI_1]
    refine ⟨vp_in_nI (by omega) (by omega), ?_⟩
    rintro _ rfl
    rw [← addS_snoc s a k h]
    exact ih (k + 1) (by omega)
theorem sX2_addTo {σ : St} {x : Nat} {a : List Nat} {s : Int64} (hx : RowIs σ x a) {K : Int64 → Prop} (hK : K (addS s a)) : wX2_addTo σ x s K :=
  ⟨_, sX2_addTo_L5 hx hK a.length 0 (by omega)⟩
theorem sX2_size {σ : St} {x : Nat} {a : List Nat} (hx : RowIs σ x a) {K : Int32 → Prop} (hK : K (nI a.length)) : wX2_size σ x K := by
  unfold wX2_size
  rw [hx.1]
  exact hK
