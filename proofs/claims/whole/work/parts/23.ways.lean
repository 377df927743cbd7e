/-! HOW MANY WAYS, HOW FEW PIECES -/
def fitB (ws : Ws) (t : List Nat) (q m : Nat) : Bool := ws.any fun w => preB w.1 (t.drop q) && w.1.length == m
theorem fitB_iff {ws : Ws} {t : List Nat} {q m : Nat} : fitB ws t q m = true ↔ LgS ws (t.drop q) m := by
  unfold fitB
  rw [List.any_eq_true]
  constructor
  · rintro ⟨w, hw, e⟩
    simp only [Bool.and_eq_true, beq_iff_eq] at e
    obtain ⟨i, hi, e1, -⟩ := wd_of_mem hw
    exact ⟨i, hi, by rw [e1]; exact preB_iff.mp e.1, by rw [e1]; exact e.2.symm⟩
  · rintro ⟨i, hi, h1, h2⟩
    exact ⟨_, wd_mem hi, by simp [preB_iff.mpr h1, h2]⟩
/-- the sum over the pieces of m, m + 1 .. signs (e of these) from q on -/
def tailS (F : Nat → Nat → Bool) (f : Nat → Nat) (q : Nat) : Nat → Nat → Nat
  | 0, _ => 0
  | e + 1, m => (if F q m = true then f (q + m) else 0) + tailS F f q e (m + 1)
/-- f tells the ways from each place on -/
def NW (ws : Ws) (t : List Nat) (f : Nat → Nat) : Prop := f t.length = 1 ∧ ∀ p, p < t.length → f p = tailS (fitB ws t) f p 10 1
def sumL (g : Nat → Int64) (q : Nat) : Nat → Int64
  | 0 => 0
  | c + 1 => g q + sumL g (q + 1) c
theorem sumL_cong {g g' : Nat → Int64} : ∀ (c q : Nat), (∀ j, q ≤ j → j < q + c → g j = g' j) → sumL g q c = sumL g' q c
  | 0, _, _ => rfl
  | c + 1, q, h => by
    unfold sumL
    rw [h q (Nat.le_refl _) (by omega), sumL_cong c (q + 1) fun j h1 h2 => h j (by omega) (by omega)]
theorem sumL_add {g g' : Nat → Int64} {k : Nat} {v : Int64} : ∀ (c q : Nat), q ≤ k → k < q + c → g' k = g k + v → (∀ j, j ≠ k → g' j = g j) → sumL g' q c = sumL g q c + v
  | 0, q, h1, h2, _, _ => by omega
  | c + 1, q, h1, h2, h3, h4 => by
    unfold sumL
    by_cases e : q = k
    · subst e
      rw [h3, sumL_cong c (q + 1) fun j a b => h4 j (by omega), Int64.add_assoc, Int64.add_assoc, Int64.add_comm v]
    · rw [h4 q e, sumL_add c (q + 1) (by omega) (by omega) h3 h4, Int64.add_assoc]
theorem sX1_countWays {σ : St} {ws : Ws} {t : List Nat} {a : Nat} {f : Nat → Nat} (h : CutIs σ ws t) (ht : t.length ≤ 24) (ha : a ≤ t.length) (hf : NW ws t f) {K : Int64 → St → Prop} (hK : ∀ τ, Chg (fun _ => False) σ τ → K (lN (f a)) τ) : wX1_countWays σ (nI a) K := by
  have fitLe : ∀ {q m}, q ≤ t.length → LgS ws (t.drop q) m → q + m ≤ t.length := fun {q m} hq z => by
    have := LgS_le z
    rw [List.length_drop] at this
    omega
  have inner : ∀ (B : St → Int32 → Prop) q, q < t.length → (∀ τ, Chg (fun _ => False) σ τ → sumL (fun j => gL τ j * lN (f j)) (q + 1) (t.length - q) = lN (f a) → B τ (nI (q + 1))) → ∀ e m (τ : St), m + e = 11 → 1 ≤ m → Chg (fun _ => False) σ τ → sumL (fun j => gL τ j * lN (f j)) (q + 1) (t.length - q) + gL τ q * lN (tailS (fitB ws t) f q e m) = lN (f a) → wX1_countWays_L58 K B (nI q) (e + 1) τ (nI m) := by
    intro B q hq hB e
    induction e with
    | zero =>
      intro m τ hm h1 hc hs
      rw [wX1_countWays_L58]
      refine pk_lt 10 m (fun _ => ?_) (fun z => by omega)
      rw [nI_1]
      refine hB τ hc ?_
      rw [← hs]
      show _ = _ + gL τ q * lN 0
      rw [show lN 0 = 0 from rfl, Int64.mul_zero, Int64.add_zero]
    | succ e ih =>
      intro m τ hm h1 hc hs
      have hC : CutIs τ ws t := h.kept hc (fun q => q) (fun q => q)
      rw [wX1_countWays_L58]
      refine pk_lt 10 m (fun z => by omega) (fun _ => sX1_fitsAt hC ht (by omega) (by omega) (fun z => ⟨fun y => absurd y (by decide), fun _ => ?_⟩) (fun z => ⟨fun _ => ?_, fun y => absurd rfl y⟩))
      · have hle := fitLe (by omega) z
        rw [nI_add, nI_clamp (by omega), nI_clamp (by omega), nI_1]
        refine ⟨vp_in_nI (by omega) (by omega), vp_in_nI (by omega) (by omega), vp_in_nI (by omega) (by omega), ?_⟩
        rintro _ rfl
        refine ih (m + 1) _ (by omega) (by omega) (hc.tr Chg_pL) ?_
        rw [← hs]
        have e1 : tailS (fitB ws t) f q (e + 1) m = f (q + m) + tailS (fitB ws t) f q e (m + 1) := by
          show (if fitB ws t q m = true then _ else _) + _ = _
          rw [if_pos (fitB_iff.mpr z)]
        rw [e1, ← lN_add, Int64.mul_add]
        rw [sumL_add (g := fun j => gL τ j * lN (f j)) (k := q + m) (v := gL τ q * lN (f (q + m))) _ _ (by omega) (by omega) (by
          show gL (pL τ _ _) (q + m) * _ = gL τ (q + m) * _ + _
          rw [gL_pL, if_pos rfl, Int64.add_mul]) (fun j hj => by
          show gL (pL τ _ _) j * _ = gL τ j * _
          rw [gL_pL, if_neg hj])]
        rw [gL_pL, if_neg (by omega), Int64.add_assoc]
      · rw [nI_1]
        refine ih (m + 1) τ (by omega) (by omega) hc ?_
        rw [← hs]
        have e1 : tailS (fitB ws t) f q (e + 1) m = tailS (fitB ws t) f q e (m + 1) := by
          show (if fitB ws t q m = true then _ else _) + _ = _
          rw [if_neg (fun y => z (fitB_iff.mp y)), Nat.zero_add]
        rw [e1]
  have outer : ∀ d q (τ : St), q + d = t.length → Chg (fun _ => False) σ τ → sumL (fun j => gL τ j * lN (f j)) q (t.length + 1 - q) = lN (f a) → wX1_countWays_L48 K (d + 1) τ (nI q) := by
    intro d
    induction d with
    | zero =>
      intro q τ hq hc hs
      have hC : CutIs τ ws t := h.kept hc (fun q => q) (fun q => q)
      rw [wX1_countWays_L48]
      refine pk_le t.length q (fun _ => ?_) (fun z => by omega) hC.1
      rw [hC.1, nI_clamp (by omega)]
      refine ⟨vp_in_nI (by omega) (by omega), ?_⟩
      have e : gL τ t.length = lN (f a) := by
        rw [← hs, show t.length + 1 - q = 1 by omega, show q = t.length by omega]
        show _ = gL τ t.length * lN (f t.length) + 0
        rw [hf.1, show lN 1 = 1 from rfl, Int64.mul_one, Int64.add_zero]
      rw [e]
      exact hK τ hc
    | succ d ih =>
      intro q τ hq hc hs
      have hC : CutIs τ ws t := h.kept hc (fun q => q) (fun q => q)
      rw [wX1_countWays_L48]
      refine pk_le t.length q (fun z => by omega) (fun z => ?_) hC.1
      refine ⟨_, inner _ q z (fun υ u1 u2 => ih (q + 1) υ (by omega) u1 (by rw [show t.length + 1 - (q + 1) = t.length - q by omega]; exact u2)) 10 1 τ (by omega) (by omega) hc ?_⟩
      rw [← hs, show t.length + 1 - q = (t.length - q) + 1 by omega]
      show _ = gL τ q * lN (f q) + _
      rw [hf.2 q z, Int64.add_comm]
  have init : ∀ d q (τ : St), q + d = t.length + 1 → a ≤ q → Chg (fun _ => False) σ τ → (∀ j, a ≤ j → j < q → gL τ j = if j = a then 1 else 0) → wX1_countWays_L16 K (nI a) (d + 1) τ (nI q) := by
    intro d
    induction d with
    | zero =>
      intro q τ hq haq hc hg
      have hC : CutIs τ ws t := h.kept hc (fun q => q) (fun q => q)
      rw [wX1_countWays_L16]
      refine pk_lt t.length q (fun _ => ⟨_, outer (t.length - a) a τ (by omega) hc ?_⟩) (fun z => by omega) hC.1
      rw [show t.length + 1 - a = (t.length - a) + 1 by omega]
      show gL τ a * lN (f a) + sumL _ (a + 1) (t.length - a) = _
      have z : ∀ (c b : Nat), a < b → b + c ≤ t.length + 1 → sumL (fun j => gL τ j * lN (f j)) b c = 0 := by
        intro c
        induction c with
        | zero => intro b _ _; rfl
        | succ c ih2 =>
          intro b hb hbc
          show gL τ b * lN (f b) + sumL _ (b + 1) c = 0
          rw [ih2 (b + 1) (by omega) (by omega), hg b (by omega) (by omega), if_neg (by omega), Int64.zero_mul, Int64.add_zero]
      rw [z _ _ (by omega) (by omega), hg a (Nat.le_refl _) (by omega), if_pos rfl, Int64.one_mul, Int64.add_zero]
    | succ d ih =>
      intro q τ hq haq hc hg
      have hC : CutIs τ ws t := h.kept hc (fun q => q) (fun q => q)
      rw [wX1_countWays_L16]
      have step : ∀ v : Int64, v = (if q = a then 1 else 0) → wX1_countWays_J39 K (wX1_countWays_L16 K (nI a) (d + 1)) τ (nI a) (nI q) (nI q) v := by
        intro v hv
        unfold wX1_countWays_J39
        rw [nI_clamp (by omega), nI_1]
        refine ⟨vp_in_nI (by omega) (by omega), ?_⟩
        rintro _ rfl
        refine ih (q + 1) _ (by omega) (by omega) (hc.tr Chg_pL) fun j h1 h2 => ?_
        rw [gL_pL]
        by_cases e : j = q
        · rw [if_pos e, hv, e]
        · rw [if_neg e]; exact hg j h1 (by omega)
      refine pk_lt t.length q (fun z => by omega) (fun z => pk_eq q a (fun e => step 1 (by rw [if_pos e])) (fun e => step 0 (by rw [if_neg e])) rfl rfl (by omega) (by omega)) hC.1
  refine ⟨fun q => absurd q (nI_neg (by omega)), fun _ => pk_le a t.length (fun _ => ⟨_, init (t.length + 1 - a) a σ (by omega) (Nat.le_refl _) Chg.rf (fun j h1 h2 => by omega)⟩) (fun z => by omega) rfl h.1⟩
/-- the least number of some, -1 if there are none -/
def Lst (S : Nat → Prop) (v : Int32) : Prop := (v = -1 ∧ ∀ k, ¬ S k) ∨ ∃ k, v = nI k ∧ S k ∧ (∀ j, j < k → ¬ S j) ∧ k ≤ 24
theorem nI_ne_m1 {k : Nat} (h : k < 2 ^ 31) : ¬ nI k = -1 := fun e => by
  have := congrArg Int32.toInt e
  rw [nI_toInt h] at this
  have h2 : (-1 : Int32).toInt = -1 := by decide
  rw [h2] at this
  omega
theorem Lst.uniq {S T : Nat → Prop} {v w : Int32} (h1 : Lst S v) (h2 : Lst T w) (h : ∀ k, S k ↔ T k) : v = w := by
  rcases h1 with ⟨rfl, n1⟩ | ⟨k, rfl, s1, l1, -⟩ <;> rcases h2 with ⟨rfl, n2⟩ | ⟨m, rfl, s2, l2, -⟩
  · rfl
  · exact absurd ((h m).mpr s2) (n1 m)
  · exact absurd ((h k).mp s1) (n2 k)
  · rcases Nat.lt_trichotomy k m with q | q | q
    · exact absurd ((h k).mp s1) (l2 k q)
    · rw [q]
    · exact absurd ((h m).mpr s2) (l1 m q)
theorem Lst.same {S T : Nat → Prop} {v : Int32} (h : Lst S v) (e : ∀ k, T k ↔ S k) : Lst T v := by
  rcases h with ⟨q, n⟩ | ⟨k, q, s, l, b⟩
  · exact Or.inl ⟨q, fun k z => n k ((e k).mp z)⟩
  · exact Or.inr ⟨k, q, (e k).mpr s, fun j hj z => l j hj ((e j).mp z), b⟩
theorem sX1_lesser {σ : St} {S T U : Nat → Prop} {v : Int32} {k : Nat} (hv : Lst S v) (h1 : T k) (h2 : ∀ j, j < k → ¬ T j) (hk : k ≤ 24) (hU : ∀ k, U k ↔ S k ∨ T k) {K : Int32 → Prop} (hK : ∀ r, Lst U r → K r) : wX1_lesser σ v (nI k) K := by
  rcases hv with ⟨rfl, n⟩ | ⟨m, rfl, s1, l1, b1⟩
  · exact ⟨fun _ => hK _ (Or.inr ⟨k, rfl, (hU k).mpr (Or.inr h1), fun j hj z => ((hU j).mp z).elim (n j) (h2 j hj), hk⟩), fun z => absurd rfl z⟩
  · refine ⟨fun e => absurd e (nI_ne_m1 (by omega)), fun _ => hK _ ?_⟩
    by_cases z : k < m
    · rw [if_pos ((nI_ltI (by omega) (by omega)).mpr z)]
      exact Or.inr ⟨k, rfl, (hU k).mpr (Or.inr h1), fun i hi y => ((hU i).mp y).elim (l1 i (by omega)) (h2 i hi), hk⟩
    · rw [if_neg (fun y => z ((nI_ltI (by omega) (by omega)).mp y))]
      exact Or.inr ⟨m, rfl, (hU m).mpr (Or.inl s1), fun i hi y => ((hU i).mp y).elim (l1 i hi) (h2 i (by omega)), b1⟩
/-- k pieces lead from the start to p -/
def rch (ws : Ws) (t : List Nat) : Nat → Nat → Prop
  | 0, p => p = 0
  | k + 1, p => ∃ q m, rch ws t k q ∧ LgS ws (t.drop q) m ∧ p = q + m
theorem rch_le {ws : Ws} {t : List Nat} (hw : LenW ws) : ∀ {k p : Nat}, rch ws t k p → k ≤ p ∧ p ≤ t.length
  | 0, p, h => by
    have h : p = 0 := h
    omega
  | k + 1, p, h => by
    obtain ⟨q, m, h1, h2, rfl⟩ := h
    have := rch_le hw h1
    have h3 := LgS_10 hw h2
    have h4 := LgS_le h2
    rw [List.length_drop] at h4
    omega
/-- the same, the last piece's start ahead of (a, b) -/
def rchP (ws : Ws) (t : List Nat) (a b p k : Nat) : Prop := ∃ k' q m, k = k' + 1 ∧ rch ws t k' q ∧ LgS ws (t.drop q) m ∧ p = q + m ∧ (q < a ∨ (q = a ∧ m < b))
theorem sX1_leastPieces {σ : St} {ws : Ws} {t : List Nat} (h : CutIs σ ws t) (hw : LenW ws) (ht : t.length ≤ 24) {K : Int32 → St → Prop} (hK : ∀ τ v, Chg (fun k => k = 126) σ τ → Lst (fun k => rch ws t k t.length) v → K v τ) : wX1_leastPieces σ K := by
  have keep : ∀ {τ}, Chg (fun k => k = 126) σ τ → CutIs τ ws t := fun hc => h.kept hc (by omega) (by omega)
  have fitLe : ∀ {q m}, q ≤ t.length → LgS ws (t.drop q) m → q + m ≤ t.length := fun {q m} hq z => by
    have := LgS_le z
    rw [List.length_drop] at this
    omega
  have inner : ∀ (B : St → Int32 → Prop) q, q < t.length → (∀ τ, Chg (fun k => k = 126) σ τ → (∀ p, p ≤ q → Lst (fun k => rch ws t k p) (gA τ 126 p)) → (∀ p, q < p → p ≤ t.length → Lst (rchP ws t (q + 1) 0 p) (gA τ 126 p)) → B τ (nI (q + 1))) → ∀ e m (τ : St), m + e = 11 → 1 ≤ m → Chg (fun k => k = 126) σ τ → (∀ p, p ≤ q → Lst (fun k => rch ws t k p) (gA τ 126 p)) → (∀ p, q < p → p ≤ t.length → Lst (rchP ws t q m p) (gA τ 126 p)) → wX1_leastPieces_L42 K B (nI q) (e + 1) τ (nI m) := by
    intro B q hq hB e
    induction e with
    | zero =>
      intro m τ hm h1 hc hlo hhi
      rw [wX1_leastPieces_L42]
      refine pk_lt 10 m (fun _ => ?_) (fun z => by omega)
      rw [nI_1]
      refine hB τ hc hlo fun p hp hp2 => (hhi p hp hp2).same fun k => ?_
      constructor
      · rintro ⟨k', q', m', e1, e2, e3, e4, e5⟩
        have := LgS_10 hw e3
        exact ⟨k', q', m', e1, e2, e3, e4, by omega⟩
      · rintro ⟨k', q', m', e1, e2, e3, e4, e5⟩
        exact ⟨k', q', m', e1, e2, e3, e4, by omega⟩
    | succ e ih =>
      intro m τ hm h1 hc hlo hhi
      have hC := keep hc
      have hlq := hlo q (Nat.le_refl _)
      rw [wX1_leastPieces_L42]
      refine pk_lt 10 m (fun z => by omega) (fun _ => ?_)
      rw [nI_clamp (by omega), nI_1]
      have skip : (∀ k, ¬ (rch ws t k q ∧ LgS ws (t.drop q) m)) → wX1_leastPieces_L42 K B (nI q) (e + 1) τ (nI (m + 1)) := by
        intro hn
        refine ih (m + 1) τ (by omega) (by omega) hc hlo fun p hp hp2 => (hhi p hp hp2).same fun k => ?_
        constructor
        · rintro ⟨k', q', m', e1, e2, e3, e4, e5⟩
          by_cases z : q' = q ∧ m' = m
          · exact absurd ⟨z.1 ▸ e2, z.1 ▸ z.2 ▸ e3⟩ (hn k')
          · exact ⟨k', q', m', e1, e2, e3, e4, by omega⟩
        · rintro ⟨k', q', m', e1, e2, e3, e4, e5⟩
          exact ⟨k', q', m', e1, e2, e3, e4, by omega⟩
      refine ⟨vp_in_nI (by omega) (by omega), fun z => skip fun k y => ?_, fun z => sX1_fitsAt hC ht (by omega) (by omega) (fun y => ⟨fun w => absurd w (by decide), fun _ => ?_⟩) (fun y => ⟨fun _ => skip fun k w => y w.2, fun w => absurd rfl w⟩)⟩
      · rcases hlq with ⟨_, n⟩ | ⟨j, e2, _, _, b⟩
        · exact n k y.1
        · rw [e2] at z; exact nI_ne_m1 (by omega) z
      · have hle := fitLe (by omega) y
        have h10 := LgS_10 hw y
        rcases hlq with ⟨e2, _⟩ | ⟨j, e2, sj, lj, bj⟩
        · exact absurd e2 z
        · have hjq := rch_le hw sj
          rw [nI_add, nI_clamp (by omega), e2, nI_1]
          refine ⟨vp_in_nI (by omega) (by omega), vp_in_nI (by omega) (by omega), ?_⟩
          refine sX1_lesser (T := fun k => ∃ k', k = k' + 1 ∧ rch ws t k' q) (U := rchP ws t q (m + 1) (q + m)) (hhi (q + m) (by omega) hle) ⟨j, rfl, sj⟩ (fun i hi => ?_) (by omega) (fun k => ?_) fun r hr => ⟨vp_in_nI (by omega) (by omega), ?_⟩
          · rintro ⟨k', rfl, y2⟩
            exact lj k' (by omega) y2
          · constructor
            · rintro ⟨k', q', m', e1, e2, e3, e4, e5⟩
              by_cases w : q' = q
              · exact Or.inr ⟨k', e1, w ▸ e2⟩
              · exact Or.inl ⟨k', q', m', e1, e2, e3, e4, by omega⟩
            · rintro (⟨k', q', m', e1, e2, e3, e4, e5⟩ | ⟨k', e1, e2⟩)
              · exact ⟨k', q', m', e1, e2, e3, e4, by omega⟩
              · exact ⟨k', q, m, e1, e2, y, rfl, by omega⟩
          · rintro _ rfl
            refine ih (m + 1) _ (by omega) (by omega) (hc.tr Chg_pA) (fun p hp => ?_) (fun p hp hp2 => ?_)
            · rw [gA_pA, if_neg (by omega)]; exact hlo p hp
            · rw [gA_pA]
              by_cases w : p = q + m
              · rw [if_pos ⟨rfl, w⟩, w]; exact hr
              · rw [if_neg (fun v => w v.2)]
                refine (hhi p hp hp2).same fun k => ?_
                constructor
                · rintro ⟨k', q', m', e1, e2, e3, e4, e5⟩
                  exact ⟨k', q', m', e1, e2, e3, e4, by omega⟩
                · rintro ⟨k', q', m', e1, e2, e3, e4, e5⟩
                  exact ⟨k', q', m', e1, e2, e3, e4, by omega⟩
  have outer : ∀ d q (τ : St), q + d = t.length → Chg (fun k => k = 126) σ τ → (∀ p, p ≤ q → Lst (fun k => rch ws t k p) (gA τ 126 p)) → (∀ p, q < p → p ≤ t.length → Lst (rchP ws t q 0 p) (gA τ 126 p)) → wX1_leastPieces_L32 K (d + 1) τ (nI q) := by
    intro d
    induction d with
    | zero =>
      intro q τ hq hc hlo hhi
      have hC := keep hc
      rw [wX1_leastPieces_L32]
      refine pk_le t.length q (fun _ => ?_) (fun z => by omega) hC.1
      rw [hC.1, nI_clamp (by omega)]
      exact ⟨vp_in_nI (by omega) (by omega), hK τ _ hc (hlo t.length (by omega))⟩
    | succ d ih =>
      intro q τ hq hc hlo hhi
      have hC := keep hc
      rw [wX1_leastPieces_L32]
      refine pk_le t.length q (fun z => by omega) (fun z => ⟨_, inner _ q z (fun υ u1 u2 u3 => ih (q + 1) υ (by omega) u1 (fun p hp => ?_) (fun p hp hp2 => u3 p (by omega) hp2)) 10 1 τ (by omega) (by omega) hc hlo (fun p hp hp2 => (hhi p hp hp2).same fun k => ?_)⟩) hC.1
      · rcases Nat.lt_or_ge q p with w | w
        · rw [show p = q + 1 by omega]
          refine (u3 (q + 1) (by omega) (by omega)).same fun k => ?_
          cases k with
          | zero =>
            constructor
            · intro y
              have y : q + 1 = 0 := y
              omega
            · rintro ⟨k', q', m', e1, -⟩
              omega
          | succ k =>
            constructor
            · rintro ⟨q', m', e1, e2, e3⟩
              have := LgS_10 hw e2
              exact ⟨k, q', m', rfl, e1, e2, e3, by omega⟩
            · rintro ⟨k', q', m', e1, e2, e3, e4, e5⟩
              have : k = k' := by omega
              subst this
              exact ⟨q', m', e2, e3, e4⟩
        · exact u2 p w
      · constructor
        · rintro ⟨k', q', m', e1, e2, e3, e4, e5⟩
          have := LgS_10 hw e3
          exact ⟨k', q', m', e1, e2, e3, e4, by omega⟩
        · rintro ⟨k', q', m', e1, e2, e3, e4, e5⟩
          exact ⟨k', q', m', e1, e2, e3, e4, by omega⟩
  have init : ∀ d q (τ : St), q + d = t.length + 1 → 1 ≤ q → Chg (fun k => k = 126) σ τ → gA τ 126 0 = nI 0 → (∀ p, 1 ≤ p → p < q → gA τ 126 p = -1) → wX1_leastPieces_L9 K (d + 1) τ (nI q) := by
    intro d
    induction d with
    | zero =>
      intro q τ hq h1 hc h0 hg
      have hC := keep hc
      rw [wX1_leastPieces_L9]
      refine pk_lt t.length q (fun _ => ⟨_, outer t.length 0 τ (by omega) hc (fun p hp => ?_) (fun p hp hp2 => ?_)⟩) (fun z => by omega) hC.1
      · rw [show p = 0 by omega, h0]
        exact Or.inr ⟨0, rfl, rfl, fun j hj => by omega, by omega⟩
      · rw [hg p (by omega) (by omega)]
        refine Or.inl ⟨rfl, ?_⟩
        rintro k ⟨k', q', m', e1, e2, e3, e4, e5⟩
        omega
    | succ d ih =>
      intro q τ hq h1 hc h0 hg
      have hC := keep hc
      rw [wX1_leastPieces_L9]
      refine pk_lt t.length q (fun z => by omega) (fun z => ?_) hC.1
      rw [nI_clamp (by omega), nI_1]
      refine ⟨vp_in_nI (by omega) (by omega), ?_⟩
      rintro _ rfl
      refine ih (q + 1) _ (by omega) (by omega) (hc.tr Chg_pA) (by rw [gA_pA, if_neg (by omega)]; exact h0) fun p h1 h2 => ?_
      rw [gA_pA]
      by_cases e : p = q
      · rw [if_pos ⟨rfl, e⟩]
      · rw [if_neg (fun w => e w.2)]; exact hg p h1 (by omega)
  refine ⟨vp_in_nI (n := 0) (by omega) (by omega), ?_⟩
  rintro _ rfl
  exact ⟨_, init t.length 1 _ (by omega) (by omega) Chg_pA (by rw [gA_pA, if_pos ⟨rfl, rfl⟩]; rfl) (fun p h1 h2 => by omega)⟩
