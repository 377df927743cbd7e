/-! CUTS -/
def btt (x : Int32) (m : Nat) : Bool := x.toBitVec.getLsbD m
theorem sh_bv : ∀ l, l < 32 → ((1 : Int32) <<< (nI l &&& 31)).toBitVec = BitVec.twoPow 32 l := by decide +kernel
theorem btt_0 (m : Nat) : btt 0 m = false := by simp [btt]
theorem btt_or (x : Int32) {a m : Nat} (ha : a < 32) : btt (x ||| ((1 : Int32) <<< (nI a &&& 31))) m = (btt x m || decide (a = m)) := by
  unfold btt
  rw [Int32.toBitVec_or, sh_bv a ha, BitVec.getLsbD_or, BitVec.getLsbD_twoPow]
  simp [ha]
theorem btt_test (x : Int32) {m : Nat} (hm : m < 32) : (x &&& ((1 : Int32) <<< (nI m &&& 31))) = 0 ↔ btt x m = false := by
  unfold btt
  rw [← Int32.toBitVec_inj, Int32.toBitVec_and, sh_bv m hm, BitVec.and_twoPow]
  show (if x.toBitVec.getLsbD m = true then BitVec.twoPow 32 m else 0#32) = 0#32 ↔ _
  have hne : ∀ l, l < 32 → BitVec.twoPow 32 l ≠ 0#32 := by decide +kernel
  cases h : x.toBitVec.getLsbD m
  · simp
  · simp [hne m hm]
/-- the longest word with which s begins -/
def lgF : Ws → List Nat → Nat
  | [], _ => 0
  | w :: ws, s => if preB w.1 s = true then max w.1.length (lgF ws s) else lgF ws s
theorem LgS_cons (w : List Nat × Nat) (ws : Ws) (s : List Nat) (n : Nat) : LgS (w :: ws) s n ↔ (Pre w.1 s ∧ n = w.1.length) ∨ LgS ws s n := by
  constructor
  · rintro ⟨i, hi, h1, h2⟩
    cases i with
    | zero => exact Or.inl ⟨h1, h2⟩
    | succ i =>
      rw [wd_s] at h1 h2
      exact Or.inr ⟨i, by simpa using hi, h1, h2⟩
  · rintro (⟨h1, h2⟩ | ⟨i, hi, h1, h2⟩)
    · exact ⟨0, by simp, h1, h2⟩
    · exact ⟨i + 1, by simpa using hi, by rw [wd_s]; exact h1, by rw [wd_s]; exact h2⟩
theorem lgF_top : ∀ (ws : Ws) (s : List Nat), Top (LgS ws s) (lgF ws s)
  | [], s => Top.nil fun n => by rintro ⟨i, hi, -⟩; simp at hi
  | w :: ws, s => by
    have ih := lgF_top ws s
    unfold lgF
    by_cases h : preB w.1 s = true
    · rw [if_pos h, Nat.max_comm]
      refine ih.add fun n => ?_
      rw [LgS_cons]
      constructor
      · rintro (a | a)
        · exact Or.inr a.2
        · exact Or.inl a
      · rintro (a | a)
        · exact Or.inr a
        · exact Or.inl ⟨preB_iff.mp h, a⟩
    · rw [if_neg h]
      refine ih.skip fun n => ?_
      rw [LgS_cons]
      constructor
      · rintro (a | a)
        · exact absurd (preB_iff.mpr a.1) h
        · exact a
      · exact Or.inr
theorem LgS_le {ws : Ws} {s : List Nat} {n : Nat} (h : LgS ws s n) : n ≤ s.length := by
  obtain ⟨i, _, h1, rfl⟩ := h
  exact pre_len h1
theorem lgF_le (ws : Ws) (s : List Nat) : lgF ws s ≤ s.length := by
  rcases (lgF_top ws s).2 with h | h
  · omega
  · exact LgS_le h
def CutIs (σ : St) (ws : Ws) (t : List Nat) : Prop := gI σ 123 = nI t.length ∧ ∀ p, p ≤ t.length → ∀ m, m < 32 → (btt (gA σ 124 p) m = true ↔ LgS ws (t.drop p) m)
theorem CutIs.kept {P : Nat → Prop} {σ τ : St} {ws : Ws} {t : List Nat} (h : CutIs σ ws t) (hc : Chg P σ τ) (h1 : ¬ P 123) (h2 : ¬ P 124) : CutIs τ ws t :=
  ⟨(hc.1 123 h1).1.trans h.1, fun p hp m hm => by rw [(hc.1 124 h2).2]; exact h.2 p hp m hm⟩
def CutB (k : Nat) : Prop := k = 123 ∨ k = 124
theorem sX1_look {σ : St} {ws : Ws} {x : Nat} {t : List Nat} (h : ListIs σ ws) (hx : RowIs σ x t) (hl : t.length ≤ 24) (hxb : ¬ CutB x) {K : St → Prop} (hK : ∀ τ, CutIs τ ws t → Chg CutB σ τ → K τ) : wX1_look σ x K := by
  have h2 := h.2.1
  have keep : ∀ {τ}, Chg CutB σ τ → ListIs τ ws := fun hc => h.kept hc (by unfold CutB; omega) (by unfold CutB; omega) (by unfold CutB; omega) (fun r hr => by have := hr.2.1; unfold CutB; omega)
  have inner : ∀ (B : St → Int32 → Prop) p, p ≤ t.length → ∀ σ1, (∀ τ, (∀ m, m < 32 → (btt (gA τ 124 p) m = true ↔ LgS ws (t.drop p) m)) → (∀ j, j ≠ p → gA τ 124 j = gA σ1 124 j) → gI τ 123 = gI σ1 123 → Chg CutB σ τ → B τ (nI (p + 1))) → ∀ d k (τ : St), k + d = ws.length → (∀ m, m < 32 → (btt (gA τ 124 p) m = true ↔ LgS (ws.take k) (t.drop p) m)) → (∀ j, j ≠ p → gA τ 124 j = gA σ1 124 j) → gI τ 123 = gI σ1 123 → Chg CutB σ τ → wX1_look_L33 K B x (nI p) (d + 1) τ (nI k) := by
    intro B p hp σ1 hB d
    induction d with
    | zero =>
      intro k τ hk hb ho hs hc
      rw [wX1_look_L33]
      refine sX4_size (keep hc) (pk_le ws.length k (fun _ => ?_) (fun q => by omega))
      rw [nI_1]
      rw [List.take_of_length_le (by omega)] at hb
      exact hB τ hb ho hs hc
    | succ d ih =>
      intro k τ hk hb ho hs hc
      rw [wX1_look_L33]
      have hL := keep hc
      have hx2 := hx.kept hc hxb
      refine sX4_size hL (pk_le ws.length k (fun _ => by omega) (fun q => sX4_rowAt hL k (by omega) fun r hr _ => sX2_hasAt hx2 hr hp ?_))
      have hrl := hr.len
      rw [bool01, nI_1]
      refine ⟨fun z => ih (k + 1) τ (by omega) (fun m hm => ?_) ho hs hc, fun z => ⟨vp_in_nI (by omega) (by omega), sX4_rowAt hL k (by omega) fun r2 hr2 _ => sX2_size hr2 ⟨vp_in_nI (by omega) (by omega), ?_⟩⟩⟩
      · rw [hb m hm, LgS_snoc q]
        constructor
        · exact Or.inl
        · rintro (a | a)
          · exact a
          · rw [preB_iff.mpr a.1] at z; cases z
      · have z : preB (wd ws k) (t.drop p) = true := by simpa using z
        rw [nI_clamp (by omega)]
        rintro _ rfl
        refine ih (k + 1) _ (by omega) (fun m hm => ?_) (fun j hj => ?_) (by rw [gI_pA]; exact hs) (hc.tr (Chg_pA.mono fun j e => Or.inr e))
        · rw [gA_pA, if_pos ⟨rfl, rfl⟩, btt_or _ (by omega), LgS_snoc q, ← hb m hm]
          simp only [Bool.or_eq_true, decide_eq_true_eq]
          constructor
          · rintro (a | a)
            · exact Or.inl a
            · exact Or.inr ⟨preB_iff.mp z, a.symm⟩
          · rintro (a | a)
            · exact Or.inl a
            · exact Or.inr a.2.symm
        · rw [gA_pA, if_neg (fun e => hj e.2)]; exact ho j hj
  have outer : ∀ d p (τ : St), p + d = t.length + 1 → gI τ 123 = nI t.length → (∀ j, j < p → ∀ m, m < 32 → (btt (gA τ 124 j) m = true ↔ LgS ws (t.drop j) m)) → Chg CutB σ τ → wX1_look_L15 K x (d + 1) τ (nI p) := by
    intro d
    induction d with
    | zero =>
      intro p τ hp hs hb hc
      rw [wX1_look_L15]
      exact pk_lt t.length p (fun _ => hK τ ⟨hs, fun j hj => hb j (by omega)⟩ hc) (fun q => by omega) hs
    | succ d ih =>
      intro p τ hp hs hb hc
      rw [wX1_look_L15]
      refine pk_lt t.length p (fun q => by omega) (fun q => ?_) hs
      rw [nI_clamp (by omega)]
      refine ⟨vp_in_nI (by omega) (by omega), ?_⟩
      rintro _ rfl
      refine ⟨_, inner _ p q (pA τ 124 p 0) (fun υ u1 u2 u3 u4 => ih (p + 1) υ (by omega) (u3.trans hs) (fun j hj m hm => ?_) u4) ws.length 0 _ (by omega) (fun m hm => ?_) (fun j hj => rfl) rfl (hc.tr (Chg_pA.mono fun j e => Or.inr e))⟩
      · by_cases e : j = p
        · rw [e]; exact u1 m hm
        · rw [u2 j e, gA_pA, if_neg (fun z => e z.2)]; exact hb j (by omega) m hm
      · rw [gA_pA, if_pos ⟨rfl, rfl⟩, btt_0]
        constructor
        · intro q; cases q
        · rintro ⟨i, hi, -⟩; simp at hi
  refine sX2_size hx ?_
  rintro _ rfl
  have e : (if (24 : Int32) < nI t.length then (24 : Int32) else nI t.length) = nI t.length := by
    rw [if_neg (fun q => by have := (nI_ltI (a := 24) (b := t.length) (by omega) (by omega)).mp q; omega)]
  rw [e]
  exact ⟨_, outer (t.length + 1) 0 _ (by omega) (by rw [gI_pI, if_pos rfl]) (fun j hj => by omega) (Chg_pI.mono fun j e => Or.inl e)⟩
theorem sX1_fitsAt {σ : St} {ws : Ws} {t : List Nat} {p m : Nat} (h : CutIs σ ws t) (ht : t.length ≤ 24) (hp : p ≤ t.length) (hm : m < 32) {K : Int32 → Prop} (h1 : LgS ws (t.drop p) m → K 1) (h0 : ¬ LgS ws (t.drop p) m → K 0) : wX1_fitsAt σ (nI p) (nI m) K := by
  unfold wX1_fitsAt
  rw [nI_add, nI_clamp (by omega), btt_test _ hm]
  refine ⟨fun q => absurd q (nI_neg (by omega)), fun _ => pk_lt t.length (p + m) (fun q => h0 fun z => ?_) (fun q => ⟨vp_in_nI (by omega) (by omega), fun z => h0 fun y => ?_, fun z => h1 ?_⟩) h.1⟩
  · have := LgS_le z
    rw [List.length_drop] at this
    omega
  · rw [(h.2 p hp m hm).mpr y] at z; cases z
  · exact (h.2 p hp m hm).mp (by simpa using z)
/-- the words have 1 to 10 signs -/
def LenW (ws : Ws) : Prop := ∀ i, i < ws.length → 1 ≤ (wd ws i).length ∧ (wd ws i).length ≤ 10
theorem LgS_10 {ws : Ws} (hw : LenW ws) {s : List Nat} {n : Nat} (h : LgS ws s n) : 1 ≤ n ∧ n ≤ 10 := by
  obtain ⟨i, hi, _, rfl⟩ := h
  exact hw i hi
theorem sX1_longestFit {σ : St} {ws : Ws} {t : List Nat} {p : Nat} (h : CutIs σ ws t) (hw : LenW ws) (ht : t.length ≤ 24) (hp : p ≤ t.length) {K : Int32 → Prop} (hK : K (nI (lgF ws (t.drop p)))) : wX1_longestFit σ (nI p) K := by
  have fin : ∀ m, Top (LgS ws (t.drop p)) m → K (nI m) := fun m hm => by rw [hm.uniq (lgF_top ws (t.drop p)) (fun _ => Iff.rfl)]; exact hK
  have key : ∀ m, m ≤ 10 → (∀ n, m < n → ¬ LgS ws (t.drop p) n) → wX1_longestFit_L3 K σ (nI p) (m + 1) (nI m) := by
    intro m
    induction m with
    | zero =>
      intro _ hn
      rw [wX1_longestFit_L3]
      exact pk_le 0 0 (fun _ => fin 0 (Top.nil fun n z => by
        rcases Nat.eq_zero_or_pos n with e | e
        · have := (LgS_10 hw z).1; omega
        · exact hn n e z)) (fun q => by omega)
    | succ m ih =>
      intro hm hn
      rw [wX1_longestFit_L3]
      refine pk_le (m + 1) 0 (fun q => by omega) (fun q => sX1_fitsAt h ht hp (by omega) (fun z => ⟨fun y => absurd y (by decide), fun _ => fin (m + 1) ⟨fun n hn2 => ?_, Or.inr z⟩⟩) (fun z => ⟨fun _ => ?_, fun y => absurd rfl y⟩))
      · rcases Nat.lt_or_ge (m + 1) n with e | e
        · exact absurd hn2 (hn n e)
        · exact e
      · rw [nI_n1 (by omega), show m + 1 - 1 = m by omega]
        refine ih (by omega) fun n hn2 y => ?_
        by_cases e : n = m + 1
        · exact z (e ▸ y)
        · exact hn n (by omega) y
  exact ⟨_, key 10 (by omega) fun n hn y => by have := (LgS_10 hw y).2; omega⟩
/-- by the longest each time: the places -/
def gp (L : Nat → Nat) : Nat → Nat
  | 0 => 0
  | k + 1 => gp L k + L (gp L k)
def lgL (ws : Ws) (t : List Nat) (p : Nat) : Nat := lgF ws (t.drop p)
theorem lgL_le (ws : Ws) (t : List Nat) {p : Nat} (h : p ≤ t.length) : p + lgL ws t p ≤ t.length := by
  have := lgF_le ws (t.drop p)
  rw [List.length_drop] at this
  unfold lgL
  omega
theorem gp_le (ws : Ws) (t : List Nat) : ∀ k, gp (lgL ws t) k ≤ t.length
  | 0 => Nat.zero_le _
  | k + 1 => lgL_le ws t (gp_le ws t k)
theorem gp_ge {L : Nat → Nat} : ∀ k, (∀ j, j < k → 0 < L (gp L j)) → k ≤ gp L k
  | 0, _ => Nat.zero_le _
  | k + 1, h => by
    have := gp_ge k fun j hj => h j (by omega)
    have := h k (by omega)
    show k + 1 ≤ gp L k + L (gp L k)
    omega
theorem lgL_end {ws : Ws} {t : List Nat} {p : Nat} (h : t.length ≤ p) : lgL ws t p = 0 := by
  have := lgF_le ws (t.drop p)
  rw [List.length_drop] at this
  unfold lgL
  omega
theorem sX1_countLongest {σ : St} {ws : Ws} {t : List Nat} (h : CutIs σ ws t) (hw : LenW ws) (ht : t.length ≤ 24) {K : Int32 → Prop} (hK : ∀ s, s ≤ 24 → (∀ k, k < s → 0 < lgL ws t (gp (lgL ws t) k)) → lgL ws t (gp (lgL ws t) s) = 0 → K (if gp (lgL ws t) s = t.length then nI s else -1 - nI (gp (lgL ws t) s))) : wX1_countLongest σ K := by
  have key : ∀ d k, t.length - gp (lgL ws t) k ≤ d → (∀ j, j < k → 0 < lgL ws t (gp (lgL ws t) j)) → wX1_countLongest_L4 K σ (d + 1) (nI (gp (lgL ws t) k)) (nI k) := by
    intro d
    induction d with
    | zero =>
      intro k hd hj
      have h1 := gp_le ws t k
      have h2 := gp_ge k hj
      have hz : lgL ws t (gp (lgL ws t) k) = 0 := lgL_end (by omega)
      have hJ : wX1_countLongest_J34 K σ (nI (gp (lgL ws t) k)) (nI k) := by
        refine pk_eq (gp (lgL ws t) k) t.length (fun e => ?_) (fun e => by omega) rfl h.1 (by omega) (by omega)
        have := hK k (by omega) hj hz
        rwa [if_pos e] at this
      rw [wX1_countLongest_L4]
      refine pk_le t.length k (fun _ => hJ) (fun _ => sX1_longestFit h hw ht h1 (pk_le (lgL ws t (gp (lgL ws t) k)) 0 (fun _ => hJ) (fun q => by omega) rfl rfl (by omega) (by omega))) h.1
    | succ d ih =>
      intro k hd hj
      have h1 := gp_le ws t k
      have h2 := gp_ge k hj
      have h3 := lgL_le ws t h1
      have hJ : lgL ws t (gp (lgL ws t) k) = 0 → wX1_countLongest_J34 K σ (nI (gp (lgL ws t) k)) (nI k) := fun hz => by
        have := hK k (by omega) hj hz
        refine pk_eq (gp (lgL ws t) k) t.length (fun e => ?_) (fun e => ?_) rfl h.1 (by omega) (by omega)
        · rwa [if_pos e] at this
        · rwa [if_neg e] at this
      rw [wX1_countLongest_L4]
      refine pk_le t.length k (fun q => hJ (lgL_end (by omega))) (fun _ => sX1_longestFit h hw ht h1 (pk_le (lgL ws t (gp (lgL ws t) k)) 0 (fun q => hJ (by omega)) (fun q => sX1_longestFit h hw ht h1 ?_) rfl rfl (by omega) (by omega))) h.1
      have e : nI (gp (lgL ws t) k) + nI (lgF ws (t.drop (gp (lgL ws t) k))) = nI (gp (lgL ws t) (k + 1)) := nI_add _ _
      rw [e, nI_1]
      refine ih (k + 1) ?_ (fun j hj2 => ?_)
      · show t.length - (gp (lgL ws t) k + lgL ws t (gp (lgL ws t) k)) ≤ d
        omega
      · rcases Nat.lt_or_ge j k with z | z
        · exact hj j z
        · rw [show j = k by omega]; exact q
  exact ⟨_, key t.length 0 (by show t.length - 0 ≤ _; omega) (fun j hj => by omega)⟩
theorem gp_stuck {L : Nat → Nat} {s : Nat} (h : L (gp L s) = 0) : ∀ d, gp L (s + d) = gp L s
  | 0 => rfl
  | d + 1 => by
    show gp L (s + d) + L (gp L (s + d)) = gp L s
    rw [gp_stuck h d, h]
    rfl
theorem gp_far {ws : Ws} {t : List Nat} {i : Nat} (h : t.length ≤ i) : lgL ws t (gp (lgL ws t) i) = 0 := by
  by_cases hs : ∃ s, s < i ∧ lgL ws t (gp (lgL ws t) s) = 0
  · obtain ⟨s, h1, h2⟩ := hs
    have := gp_stuck h2 (i - s)
    rw [show s + (i - s) = i by omega] at this
    rw [this]; exact h2
  · have := gp_ge (L := lgL ws t) i fun j hj => by
      rcases Nat.eq_zero_or_pos (lgL ws t (gp (lgL ws t) j)) with e | e
      · exact absurd ⟨j, hj, e⟩ hs
      · exact e
    exact lgL_end (by omega)
theorem sX1_sizeOfLongest {σ : St} {ws : Ws} {t : List Nat} {v : Int32} (h : CutIs σ ws t) (hw : LenW ws) (ht : t.length ≤ 24) {K : Int32 → Prop} (hn : v < 0 → K 0) (hK : ∀ i, i < 2 ^ 31 → v = nI i → K (nI (lgL ws t (gp (lgL ws t) i)))) : wX1_sizeOfLongest σ v K := by
  refine ⟨hn, fun q => ?_⟩
  obtain ⟨i, hi, rfl⟩ := nI_of q
  refine pk_lt i t.length (fun z => ?_) (fun z => ?_) rfl h.1
  · have key : ∀ d k, k + d = i → wX1_sizeOfLongest_L18 K σ (nI i) (d + 1) (nI (gp (lgL ws t) k)) (nI k) := by
      intro d
      induction d with
      | zero =>
        intro k hk
        rw [wX1_sizeOfLongest_L18]
        have hp := gp_le ws t k
        refine pk_le i k (fun _ => sX1_longestFit h hw ht hp ?_) (fun q => by omega)
        have := hK i hi rfl
        rwa [← show k = i by omega] at this
      | succ d ih =>
        intro k hk
        rw [wX1_sizeOfLongest_L18]
        have hp := gp_le ws t k
        refine pk_le i k (fun _ => by omega) (fun q => sX1_longestFit h hw ht hp ?_)
        have e : nI (gp (lgL ws t) k) + nI (lgF ws (t.drop (gp (lgL ws t) k))) = nI (gp (lgL ws t) (k + 1)) := nI_add _ _
        rw [e, nI_1]
        exact ih (k + 1) (by omega)
    exact ⟨_, key i 0 (by omega)⟩
  · have := hK i hi rfl
    rwa [gp_far z] at this
