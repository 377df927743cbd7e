/-! the words that begin with a row; the longest ones; what is in common -/
theorem bool01 {b : Bool} : ((if b = true then 1 else 0 : Int32) = 0) ↔ b = false := by cases b <;> decide
theorem countP_snoc {p : List Nat × Nat → Bool} {ws : Ws} {k : Nat} (h : k < ws.length) : (ws.take (k + 1)).countP p = (ws.take k).countP p + if p (wd ws k, nu ws k) = true then 1 else 0 := by
  rw [take_snoc h, List.countP_append]
  simp [List.countP_cons]
theorem countP_le {p : List Nat × Nat → Bool} (ws : Ws) : ws.countP p ≤ ws.length := List.countP_le_length
def cB (ws : Ws) (t : List Nat) : Nat := ws.countP (fun w => preB t w.1)
theorem sX4_countBegun {σ : St} {ws : Ws} {x : Nat} {t : List Nat} (h : ListIs σ ws) (hx : RowIs σ x t) {K : Int32 → Prop} (hK : K (nI (cB ws t))) : wX4_countBegun σ x K := by
  have h2 := h.2.1
  have key : ∀ d k, k + d = ws.length → wX4_countBegun_L4 K σ x (d + 1) (nI (cB (ws.take k) t)) (nI k) := by
    intro d
    induction d with
    | zero =>
      intro k hk
      rw [wX4_countBegun_L4]
      refine pk_le ws.length k (fun _ => by rw [List.take_of_length_le (by omega)]; exact hK) (fun q => by omega) h.1
    | succ d ih =>
      intro k hk
      rw [wX4_countBegun_L4]
      refine pk_le ws.length k (fun _ => by omega) (fun q => sX4_rowAt h k (by omega) fun r hr _ => sX2_beginsWith hr hx ?_) h.1
      have e := countP_snoc (p := fun w => preB t w.1) q
      have e2 := ih (k + 1) (by omega)
      unfold cB at e2 ⊢
      rw [e] at e2
      rw [bool01, nI_1, nI_1]
      refine ⟨fun z => ?_, fun z => ?_⟩
      · simp only [z] at e2
        exact e2
      · have z : preB t (wd ws k) = true := by simpa using z
        simp only [z, if_true] at e2
        exact e2
  exact ⟨_, key ws.length 0 (by omega)⟩
theorem sX4_rankBegun {σ : St} {ws : Ws} {x : Nat} {t : List Nat} {v : Int32} (h : ListIs σ ws) (hx : RowIs σ x t) {K : Int32 → Prop} (h1 : ∀ i, i < ws.length → preB t (wd ws i) = true → v = nI (cB (ws.take i) t) → K (nI i)) (h2 : (∀ c, c < cB ws t → v ≠ nI c) → K (-1)) : wX4_rankBegun σ x v K := by
  have hl := h.2.1
  have key : ∀ d k, k + d = ws.length → (∀ c, c < cB (ws.take k) t → v ≠ nI c) → wX4_rankBegun_L5 K σ x (d + 1) (v - nI (cB (ws.take k) t)) (nI k) := by
    intro d
    induction d with
    | zero =>
      intro k hk hv
      rw [wX4_rankBegun_L5]
      refine pk_le ws.length k (fun _ => h2 (by rwa [List.take_of_length_le (by omega)] at hv)) (fun q => by omega) h.1
    | succ d ih =>
      intro k hk hv
      rw [wX4_rankBegun_L5]
      refine pk_le ws.length k (fun _ => by omega) (fun q => sX4_rowAt h k (by omega) fun r hr _ => sX2_beginsWith hr hx ?_) h.1
      have e : cB (ws.take (k + 1)) t = cB (ws.take k) t + if preB t (wd ws k) = true then 1 else 0 := countP_snoc (p := fun w => preB t w.1) q
      have ih := ih (k + 1) (by omega)
      have hsub : v - nI (cB (ws.take k) t) = 0 ↔ v = nI (cB (ws.take k) t) := by
        constructor
        · intro z
          have := congrArg (· + nI (cB (ws.take k) t)) z
          simpa using this
        · intro z; rw [z]; exact Int32.sub_self _
      rw [bool01, nI_1, hsub]
      refine ⟨fun z => ?_, fun z => ⟨fun z2 => h1 k q (by simpa using z) z2, fun z2 => ?_⟩⟩
      · simp only [z, Bool.false_eq_true, if_false, Nat.add_zero] at e
        rw [← e]
        exact ih (by rw [e]; exact hv)
      · have z : preB t (wd ws k) = true := by simpa using z
        simp only [z, if_true] at e
        have e3 : v - nI (cB (ws.take k) t) + (-1) = v - nI (cB (ws.take (k + 1)) t) := by
          rw [e, ← nI_1]
          simp only [Int32.sub_eq_add_neg, Int32.neg_add]
          rw [Int32.add_assoc]
        rw [e3]
        refine ih fun c hc => ?_
        rw [e] at hc
        rcases Nat.lt_or_ge c (cB (ws.take k) t) with q2 | q2
        · exact hv c q2
        · rw [show c = cB (ws.take k) t by omega]; exact z2
  have := key ws.length 0 (by omega) (fun c hc => by simp [cB] at hc)
  have e0 : v - nI (cB (ws.take 0) t) = v := by
    show v - nI (List.countP _ []) = v
    rw [List.countP_nil, nI_0, Int32.sub_zero]
  rw [e0] at this
  exact ⟨_, this⟩
/-- the sum of the numbers of those that begin with t -/
def sB (ws : Ws) (t : List Nat) : Nat := ((ws.filter (fun w => preB t w.1)).map (·.2)).sum
theorem sB_snoc {ws : Ws} {t : List Nat} {k : Nat} (h : k < ws.length) : sB (ws.take (k + 1)) t = sB (ws.take k) t + if preB t (wd ws k) = true then nu ws k else 0 := by
  unfold sB
  rw [take_snoc h, List.filter_append, List.map_append, List.sum_append]
  congr 1
  by_cases z : preB t (wd ws k) = true
  · simp [List.filter_cons, z]
  · simp [List.filter_cons, z]
theorem sX4_sumBegun {σ : St} {ws : Ws} {x : Nat} {t : List Nat} (h : ListIs σ ws) (hx : RowIs σ x t) {K : Int32 → Prop} (hK : K (nI (sB ws t))) : wX4_sumBegun σ x K := by
  have h2 := h.2.1
  have key : ∀ d k, k + d = ws.length → wX4_sumBegun_L4 K σ x (d + 1) (nI (sB (ws.take k) t)) (nI k) := by
    intro d
    induction d with
    | zero =>
      intro k hk
      rw [wX4_sumBegun_L4]
      refine pk_le ws.length k (fun _ => by rw [List.take_of_length_le (by omega)]; exact hK) (fun q => by omega) h.1
    | succ d ih =>
      intro k hk
      rw [wX4_sumBegun_L4]
      refine pk_le ws.length k (fun _ => by omega) (fun q => sX4_rowAt h k (by omega) fun r hr _ => sX2_beginsWith hr hx ?_) h.1
      have e := sB_snoc (t := t) q
      have e2 := ih (k + 1) (by omega)
      rw [e] at e2
      rw [bool01, nI_1]
      refine ⟨fun z => ?_, fun z => sX4_numberAt h k q ?_⟩
      · simp only [z] at e2
        exact e2
      · have z : preB t (wd ws k) = true := by simpa using z
        simp only [z, if_true] at e2
        rw [nI_add]
        exact e2
  exact ⟨_, key ws.length 0 (by omega)⟩
/-- the lengths of the words with which s begins -/
def LgS (ws : Ws) (s : List Nat) (n : Nat) : Prop := ∃ i, i < ws.length ∧ Pre (wd ws i) s ∧ n = (wd ws i).length
theorem LgS_snoc {ws : Ws} {s : List Nat} {k : Nat} (h : k < ws.length) (n : Nat) : LgS (ws.take (k + 1)) s n ↔ LgS (ws.take k) s n ∨ (Pre (wd ws k) s ∧ n = (wd ws k).length) := by
  have l1 : (ws.take (k + 1)).length = k + 1 := by simp; omega
  have l0 : (ws.take k).length = k := by simp; omega
  unfold LgS
  rw [l1, l0]
  constructor
  · rintro ⟨i, hi, h1, h2⟩
    rw [wd_take hi] at h1 h2
    rcases Nat.lt_or_ge i k with q | q
    · exact Or.inl ⟨i, q, by rw [wd_take q]; exact h1, by rw [wd_take q]; exact h2⟩
    · rw [show i = k by omega] at h1 h2
      exact Or.inr ⟨h1, h2⟩
  · rintro (⟨i, hi, h1, h2⟩ | ⟨h1, h2⟩)
    · rw [wd_take hi] at h1 h2
      exact ⟨i, by omega, by rw [wd_take (by omega)]; exact h1, by rw [wd_take (by omega)]; exact h2⟩
    · exact ⟨k, by omega, by rw [wd_take (by omega)]; exact h1, by rw [wd_take (by omega)]; exact h2⟩
theorem sX4_longestAt {σ : St} {ws : Ws} {x f : Nat} {t : List Nat} (h : ListIs σ ws) (hx : RowIs σ x t) (hf : f ≤ t.length) {K : Int32 → Prop} (hK : ∀ m, Top (LgS ws (t.drop f)) m → m ≤ 30 → K (nI m)) : wX4_longestAt σ x (nI f) K := by
  have h2 := h.2.1
  have key : ∀ d k m, k + d = ws.length → m ≤ 30 → Top (LgS (ws.take k) (t.drop f)) m → wX4_longestAt_L5 K σ x (nI f) (d + 1) (nI m) (nI k) := by
    intro d
    induction d with
    | zero =>
      intro k m hk hm ht
      rw [wX4_longestAt_L5]
      refine pk_le ws.length k (fun _ => hK m (by rwa [List.take_of_length_le (by omega)] at ht) hm) (fun q => by omega) h.1
    | succ d ih =>
      intro k m hk hm ht
      rw [wX4_longestAt_L5]
      refine pk_le ws.length k (fun _ => by omega) (fun q => sX4_rowAt h k (by omega) fun r hr _ => sX2_hasAt hx hr hf ?_) h.1
      have hlen := hr.len
      rw [bool01, nI_1]
      refine ⟨fun z => ih (k + 1) m (by omega) hm (ht.skip fun n => ?_), fun z => sX4_rowAt h k (by omega) fun r2 hr2 _ => sX2_size hr2 ?_⟩
      · rw [LgS_snoc q]
        constructor
        · rintro (a | a)
          · exact a
          · rw [preB_iff.mpr a.1] at z; cases z
        · exact Or.inl
      · have z : preB (wd ws k) (t.drop f) = true := by simpa using z
        rw [nI_max (by omega) (by omega)]
        rintro _ rfl
        refine ih (k + 1) _ (by omega) (by omega) (ht.add fun n => ?_)
        rw [LgS_snoc q]
        constructor
        · rintro (a | a)
          · exact Or.inl a
          · exact Or.inr a.2
        · rintro (a | a)
          · exact Or.inl a
          · exact Or.inr ⟨preB_iff.mp z, a⟩
  exact ⟨_, key ws.length 0 0 (by omega) (by omega) (Top.nil fun n => by rintro ⟨i, hi, -⟩; simp at hi)⟩
/-- what t has in common with the words -/
def CoS (ws : Ws) (t : List Nat) (n : Nat) : Prop := ∃ i, i < ws.length ∧ n = lcp t (wd ws i)
theorem CoS_snoc {ws : Ws} {s : List Nat} {k : Nat} (h : k < ws.length) (n : Nat) : CoS (ws.take (k + 1)) s n ↔ CoS (ws.take k) s n ∨ n = lcp s (wd ws k) := by
  have l1 : (ws.take (k + 1)).length = k + 1 := by simp; omega
  have l0 : (ws.take k).length = k := by simp; omega
  unfold CoS
  rw [l1, l0]
  constructor
  · rintro ⟨i, hi, h2⟩
    rw [wd_take hi] at h2
    rcases Nat.lt_or_ge i k with q | q
    · exact Or.inl ⟨i, q, by rw [wd_take q]; exact h2⟩
    · rw [show i = k by omega] at h2
      exact Or.inr h2
  · rintro (⟨i, hi, h2⟩ | h2)
    · rw [wd_take hi] at h2
      exact ⟨i, by omega, by rw [wd_take (by omega)]; exact h2⟩
    · exact ⟨k, by omega, by rw [wd_take (by omega)]; exact h2⟩
theorem sX4_mostCommon {σ : St} {ws : Ws} {x : Nat} {t : List Nat} (h : ListIs σ ws) (hx : RowIs σ x t) {K : Int32 → Prop} (hK : ∀ m, Top (CoS ws t) m → m ≤ 30 → K (nI m)) : wX4_mostCommon σ x K := by
  have h2 := h.2.1
  have hxl := hx.len
  have key : ∀ d k m, k + d = ws.length → m ≤ 30 → Top (CoS (ws.take k) t) m → wX4_mostCommon_L4 K σ x (d + 1) (nI m) (nI k) := by
    intro d
    induction d with
    | zero =>
      intro k m hk hm ht
      rw [wX4_mostCommon_L4]
      refine pk_le ws.length k (fun _ => hK m (by rwa [List.take_of_length_le (by omega)] at ht) hm) (fun q => by omega) h.1
    | succ d ih =>
      intro k m hk hm ht
      rw [wX4_mostCommon_L4]
      refine pk_le ws.length k (fun _ => by omega) (fun q => sX4_rowAt h k (by omega) fun r hr _ => sX2_common hx hr ?_) h.1
      have hl := (lcp_le t (wd ws k)).1
      rw [nI_1, nI_max (by omega) (by omega)]
      rintro _ rfl
      exact ih (k + 1) _ (by omega) (by omega) (ht.add fun n => CoS_snoc q n)
  exact ⟨_, key ws.length 0 0 (by omega) (by omega) (Top.nil fun n => by rintro ⟨i, hi, -⟩; simp at hi)⟩
/-- what two of the words have in common -/
def TwS (ws : Ws) (n : Nat) : Prop := ∃ i j, i < j ∧ j < ws.length ∧ n = lcp (wd ws i) (wd ws j)
/-- the pairs (i, j) ahead of (a, b) -/
def TwP (ws : Ws) (a b n : Nat) : Prop := ∃ i j, i < j ∧ j < ws.length ∧ (i < a ∨ (i = a ∧ j < b)) ∧ n = lcp (wd ws i) (wd ws j)
theorem sX4_mostCommonOfTwo {σ : St} {ws : Ws} (h : ListIs σ ws) {K : Int32 → Prop} (hK : ∀ m, Top (TwS ws) m → m ≤ 30 → K (nI m)) : wX4_mostCommonOfTwo σ K := by
  have h2 := h.2.1
  have inner : ∀ (B : Int32 → Int32 → Prop) a, a < ws.length → (∀ m, m ≤ 30 → Top (TwP ws (a + 1) 0) m → B (nI m) (nI (a + 1))) → ∀ d k m, a < k → k + d = ws.length → m ≤ 30 → Top (TwP ws a k) m → wX4_mostCommonOfTwo_L16 K B σ (nI a) (d + 1) (nI m) (nI k) := by
    intro B a ha hB d
    induction d with
    | zero =>
      intro k m hak hk hm ht
      rw [wX4_mostCommonOfTwo_L16]
      refine pk_le ws.length k (fun _ => ?_) (fun q => by omega) h.1
      rw [nI_1]
      refine hB m hm (ht.skip fun n => ?_)
      constructor
      · rintro ⟨i, j, a1, a2, a3, a4⟩
        exact ⟨i, j, a1, a2, by omega, a4⟩
      · rintro ⟨i, j, a1, a2, a3, a4⟩
        exact ⟨i, j, a1, a2, by omega, a4⟩
    | succ d ih =>
      intro k m hak hk hm ht
      rw [wX4_mostCommonOfTwo_L16]
      refine pk_le ws.length k (fun _ => by omega) (fun q => sX4_rowAt h a (by omega) fun r hr _ => sX4_rowAt h k (by omega) fun r2 hr2 _ => sX2_common hr hr2 ?_) h.1
      have hl := (lcp_le (wd ws a) (wd ws k)).1
      have hl2 := hr.len
      rw [nI_1, nI_max (by omega) (by omega)]
      rintro _ rfl
      refine ih (k + 1) _ (by omega) (by omega) (by omega) (ht.add fun n => ?_)
      constructor
      · rintro ⟨i, j, a1, a2, a3, a4⟩
        by_cases e : i = a ∧ j = k
        · exact Or.inr (by rw [a4, e.1, e.2])
        · exact Or.inl ⟨i, j, a1, a2, by omega, a4⟩
      · rintro (⟨i, j, a1, a2, a3, a4⟩ | e)
        · exact ⟨i, j, a1, a2, by omega, a4⟩
        · exact ⟨a, k, hak, q, by omega, e⟩
  have outer : ∀ d a m, a + d = ws.length → m ≤ 30 → Top (TwP ws a 0) m → wX4_mostCommonOfTwo_L4 K σ (d + 1) (nI m) (nI a) := by
    intro d
    induction d with
    | zero =>
      intro a m hk hm ht
      rw [wX4_mostCommonOfTwo_L4]
      refine pk_le ws.length a (fun _ => hK m (ht.skip fun n => ?_) hm) (fun q => by omega) h.1
      constructor
      · rintro ⟨i, j, a1, a2, a4⟩
        exact ⟨i, j, a1, a2, by omega, a4⟩
      · rintro ⟨i, j, a1, a2, a3, a4⟩
        exact ⟨i, j, a1, a2, a4⟩
    | succ d ih =>
      intro a m hk hm ht
      rw [wX4_mostCommonOfTwo_L4]
      refine pk_le ws.length a (fun _ => by omega) (fun q => ?_) h.1
      rw [nI_1]
      refine ⟨_, inner _ a q (fun m hm ht => ih (a + 1) m (by omega) hm ht) (ws.length - (a + 1)) (a + 1) m (by omega) (by omega) hm (ht.skip fun n => ?_)⟩
      constructor
      · rintro ⟨i, j, a1, a2, a3, a4⟩
        exact ⟨i, j, a1, a2, by omega, a4⟩
      · rintro ⟨i, j, a1, a2, a3, a4⟩
        exact ⟨i, j, a1, a2, by omega, a4⟩
  exact ⟨_, outer ws.length 0 0 (by omega) (by omega) (Top.nil fun n => by rintro ⟨i, j, a1, a2, a3, -⟩; omega)⟩
