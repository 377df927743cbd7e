/-! THE REFERENCE'S CALLS: code, write, read, writeAll -/
/-- what holds of codes holds of these too: a state of the class's with them -/
theorem book_ex {σ : St} {cs : Cs} (h : CodM σ cs) : ∃ τ : St, BookIs τ cs := by
  refine ⟨(fun k => if k = 121 then 0 else nI (cs ((k - 60) / 2)).length, fun k j => nI (gd (cs ((k - 60) / 2)) j), fun _ => 0, fun _ => 0), fun c hc => ⟨⟨?_, ?_, fun k hk => ?_, (h c hc).2.2.2.2⟩, (h c hc).2.1⟩, ⟨?_, Nat.zero_le _, fun k hk => absurd hk (Nat.not_lt_zero k), fun k => by rw [gd_nil]; omega⟩⟩
  · show (if 60 + 2 * c = 121 then (0 : Int32) else nI (cs ((60 + 2 * c - 60) / 2)).length) = _
    rw [if_neg (by omega), show (60 + 2 * c - 60) / 2 = c by omega]
  · rw [capC_code hc]; exact (h c hc).2.2.1
  · show nI (gd (cs ((60 + 2 * c - 60) / 2)) k) = _
    rw [show (60 + 2 * c - 60) / 2 = c by omega]
  · rfl
theorem CodM.len {σ : St} {cs : Cs} (h : CodM σ cs) {a : List Nat} (ha : Sg a) : a.length ≤ (wrt cs a).length ∧ (wrt cs a).length ≤ 3 * a.length := by
  obtain ⟨τ, ht⟩ := book_ex h
  exact wrt_len ht a ha
theorem read_stuck {σ : St} {cs : Cs} (h : CodM σ cs) (ho : Ord cs) {u t : List Nat} {p : Nat} (hu : Sg u) (hw : wrt cs u = t.take p) (hp : p < t.length) (hn : ∀ c, c < 6 → ¬ Pre (cs c) (t.drop p)) : ∀ v, Sg v → wrt cs v ≠ t := fun v hv e => by
  obtain ⟨τ, ht⟩ := book_ex h
  obtain ⟨w, hw1, hw2⟩ := wrt_split ht ho u v (t.drop p) hu hv (by rw [e, hw, List.take_append_drop])
  cases w with
  | nil =>
    have := congrArg List.length hw2
    rw [List.length_drop] at this
    simp [wrt] at this
    omega
  | cons s w =>
    have hs := hv s (by rw [hw1]; simp)
    rw [wrt_cons] at hw2
    exact hn (s - 97) (by omega) (by rw [← hw2]; exact pre_app)
theorem sX6_isAhead {σ : St} {cs : Cs} {a b : Nat} (h : CodM σ cs) (ha : a < 6) (hb : b < 6) {K : Int32 → Prop} (h1 : lt (cs a) (cs b) = true ∧ ¬ Pre (cs a) (cs b) → K 1) (h0 : ¬ (lt (cs a) (cs b) = true ∧ ¬ Pre (cs a) (cs b)) → K 0) : wX6_isAhead σ (nI a) (nI b) K := by
  obtain ⟨a1, a2, a3, a4, a5⟩ := h a ha
  obtain ⟨b1, b2, b3, b4, b5⟩ := h b hb
  have hl := lcp_le (cs a) (cs b)
  have hlt := lt_lcp (cs a) (cs b)
  have fin : ∀ k, k = lcp (cs a) (cs b) → wX6_isAhead_J51 K σ (nI a) (nI b) (nI k) := by
    rintro k rfl
    unfold wX6_isAhead_J51
    rw [nI_clamp (n := a) (by omega), nI_clamp (n := b) (by omega), nI_x3, nI_x3, nI_add, nI_add]
    refine ⟨vp_in_nI (by omega) (by omega), pk_le (cs a).length (lcp (cs a) (cs b)) (fun z => h0 fun q => q.2 (by show lcp _ _ = _; omega)) (fun z => ⟨vp_in_nI (by omega) (by omega), pk_le (cs b).length (lcp (cs a) (cs b)) (fun y => h0 fun q => by have := (hlt.mp q.1).1; omega) (fun y => ?_) b1⟩) a1⟩
    rw [nI_clamp (by omega), nI_clamp (by omega), a4 _ z, b4 _ y]
    have c1 := a5 (lcp (cs a) (cs b))
    have c2 := b5 (lcp (cs a) (cs b))
    refine ⟨vp_in_nI (by omega) (by omega), vp_in_nI (by omega) (by omega), pk_le (gd (cs b) (lcp (cs a) (cs b))) (gd (cs a) (lcp (cs a) (cs b))) (fun w => h0 fun q => by have := (hlt.mp q.1).2; omega) (fun w => h1 ⟨hlt.mpr ⟨y, Or.inr w⟩, fun q => by have q : lcp _ _ = _ := q; omega⟩)⟩
  have key : ∀ d k, k + d = (cs a).length → k ≤ (cs b).length → (∀ j, j < k → gd (cs a) j = gd (cs b) j) → wX6_isAhead_L2 K σ (nI a) (nI b) (d + 1) (nI k) := by
    intro d
    induction d with
    | zero =>
      intro k hk hkt he
      rw [wX6_isAhead_L2, nI_clamp (n := a) (by omega)]
      exact ⟨vp_in_nI (by omega) (by omega), pk_le (cs a).length k (fun _ => fin k (lcp_eq (by omega) (by omega) he (Or.inl (by omega))).symm) (fun q => by omega) a1⟩
    | succ d ih =>
      intro k hk hkt he
      rw [wX6_isAhead_L2, nI_clamp (n := a) (by omega), nI_clamp (n := b) (by omega), nI_x3, nI_x3, nI_add, nI_add]
      refine ⟨vp_in_nI (by omega) (by omega), pk_le (cs a).length k (fun q => by omega) (fun q => ⟨vp_in_nI (by omega) (by omega), pk_le (cs b).length k (fun z => fin k (lcp_eq (by omega) (by omega) he (Or.inr (Or.inl (by omega)))).symm) (fun z => ?_) b1⟩) a1⟩
      rw [nI_clamp (n := 3 * a + k) (by omega), nI_clamp (n := 3 * b + k) (by omega), a4 k q, b4 k z, nI_1]
      have c1 := a5 k
      have c2 := b5 k
      refine ⟨vp_in_nI (by omega) (by omega), vp_in_nI (by omega) (by omega), pk_eq (gd (cs a) k) (gd (cs b) k) (fun e => ih (k + 1) (by omega) (by omega) fun j hj => ?_) (fun e => fin k (lcp_eq (by omega) (by omega) he (Or.inr (Or.inr e))).symm) rfl rfl (by omega) (by omega)⟩
      by_cases z2 : j = k
      · rw [z2]; exact e
      · exact he j (by omega)
  exact ⟨_, key (cs a).length 0 (by omega) (by omega) (fun j hj => by omega)⟩
theorem sX6_areOrderly {σ : St} {cs : Cs} (h : CodM σ cs) {K : Int32 → Prop} (h1 : Ord cs → K 1) (h0 : ¬ Ord cs → K 0) : wX6_areOrderly σ K := by
  have inner : ∀ (B : Int32 → Prop) b, b < 6 → ((∀ a, a < b → lt (cs a) (cs b) = true ∧ ¬ Pre (cs a) (cs b)) → B (nI (b + 1))) → ∀ d k, k + d = b → (∀ a, a < k → lt (cs a) (cs b) = true ∧ ¬ Pre (cs a) (cs b)) → wX6_areOrderly_L10 K B σ (nI b) (d + 1) (nI k) := by
    intro B b hb hB d
    induction d with
    | zero =>
      intro k hk hp
      rw [wX6_areOrderly_L10]
      refine pk_le b k (fun _ => ?_) (fun q => by omega)
      rw [nI_1]
      exact hB fun a ha => hp a (by omega)
    | succ d ih =>
      intro k hk hp
      rw [wX6_areOrderly_L10]
      refine pk_le b k (fun _ => by omega) (fun q => sX6_isAhead h (by omega) hb (fun z => bit1 ?_) (fun z => bit0 (h0 fun o => z (o k b q hb))))
      rw [nI_1]
      refine ih (k + 1) (by omega) fun a ha => ?_
      by_cases e : a = k
      · rw [e]; exact z
      · exact hp a (by omega)
  have outer : ∀ d b, b + d = 6 → (∀ a c, a < c → c < b → lt (cs a) (cs c) = true ∧ ¬ Pre (cs a) (cs c)) → wX6_areOrderly_L2 K σ (d + 1) (nI b) := by
    intro d
    induction d with
    | zero =>
      intro b hb hp
      rw [wX6_areOrderly_L2]
      exact pk_le 6 b (fun _ => h1 fun a c h1 h2 => hp a c h1 (by omega)) (fun q => by omega)
    | succ d ih =>
      intro b hb hp
      rw [wX6_areOrderly_L2]
      refine pk_le 6 b (fun _ => by omega) (fun q => ⟨_, inner _ b q (fun hq => ih (b + 1) (by omega) fun a c ha hc => ?_) b 0 (by omega) (fun a ha => by omega)⟩)
      by_cases e : c = b
      · subst e; exact hq a ha
      · exact hp a c ha (by omega)
  exact ⟨_, outer 6 0 (by omega) (fun a c _ hc => by omega)⟩
def MadeM (σ : St) (a : List Nat) : Prop := (∀ j, j < a.length → gA σ 4 j = nI (gd a j)) ∧ ∀ k, gd a k < 103
theorem gd_app_103 {a b : List Nat} (ha : ∀ k, gd a k < 103) (hb : ∀ k, gd b k < 103) (k : Nat) : gd (a ++ b) k < 103 := by
  rcases Nat.lt_or_ge k a.length with q | q
  · rw [gd_app_l q]; exact ha k
  · rw [gd_app_r q]; exact hb _
theorem sX6_puts {σ : St} {cs : Cs} {a : List Nat} {q : Nat} (h : CodM σ cs) (hm : MadeM σ a) (hq : 97 ≤ q ∧ q < 103) (hl : a.length + (cs (q - 97)).length ≤ 72) {K : Int32 → St → Prop} (hK : ∀ τ, MadeM τ (a ++ cs (q - 97)) → Chg (fun k => k = 4) σ τ → K (nI (a ++ cs (q - 97)).length) τ) : wX6_puts σ (nI a.length) (nI q) K := by
  have hc : q - 97 < 6 := by omega
  obtain ⟨c1, c2, c3, c4, c5⟩ := h (q - 97) hc
  have e : nI q - (97 : Int32) = nI (q - 97) := nI_subI (b := 97) hq.1
  unfold wX6_puts
  rw [e]
  generalize q - 97 = c at *
  have key : ∀ d k (τ : St), k + d = (cs c).length → (∀ j, j < a.length + k → gA τ 4 j = nI (gd (a ++ cs c) j)) → Chg (fun k => k = 4) σ τ → wX6_puts_L8 K (nI a.length) (nI c) (d + 1) τ (nI k) := by
    intro d
    induction d with
    | zero =>
      intro k τ hk h4 hct
      have b1 := (hct.1 7 (by omega)).2 c
      rw [wX6_puts_L8, nI_clamp (n := c) (by omega)]
      refine ⟨vp_in_nI (by omega) (by omega), pk_le (cs c).length k (fun _ => ⟨vp_in_nI (by omega) (by omega), ?_⟩) (fun z => by omega) (b1.trans c1)⟩
      rw [b1, c1, nI_add, ← List.length_append]
      exact hK τ ⟨fun j hj => h4 j (by rw [List.length_append] at hj; omega), gd_app_103 hm.2 c5⟩ hct
    | succ d ih =>
      intro k τ hk h4 hct
      have b1 := (hct.1 7 (by omega)).2 c
      rw [wX6_puts_L8, nI_clamp (n := c) (by omega)]
      refine ⟨vp_in_nI (by omega) (by omega), pk_le (cs c).length k (fun _ => by omega) (fun z => ?_) (b1.trans c1)⟩
      have b2 := (hct.1 3 (by omega)).2 (3 * c + k)
      have := c5 k
      rw [nI_x3, nI_add, nI_add, nI_clamp (by omega), nI_clamp (by omega), b2, c4 k z, charN (by omega), nI_1]
      refine ⟨vp_in_nI (by omega) (by omega), vp_in_nI (by omega) (by omega), ?_⟩
      rintro _ rfl
      refine ih (k + 1) _ (by omega) (fun j hj => ?_) (hct.tr Chg_pA)
      rw [gA_pA]
      by_cases e : j = a.length + k
      · rw [if_pos ⟨rfl, e⟩, e, gd_app_r (by omega), show a.length + k - a.length = k by omega]
      · rw [if_neg (fun z => e z.2)]; exact h4 j (by omega)
  exact ⟨_, key (cs c).length 0 σ (by omega) (fun j hj => by rw [gd_app_l (by omega)]; exact hm.1 j (by omega)) Chg.rf⟩
theorem made_nil (σ : St) : MadeM σ [] := ⟨fun j hj => absurd hj (Nat.not_lt_zero j), fun k => by rw [gd_nil]; omega⟩
theorem wrt_le {σ : St} {cs : Cs} (h : CodM σ cs) (a : List Nat) (k : Nat) : (wrt cs (a.take k)).length ≤ (wrt cs a).length := by
  have : wrt cs a = wrt cs (a.take k) ++ wrt cs (a.drop k) := by rw [← wrt_app, List.take_append_drop]
  rw [this, List.length_append]; omega
theorem sX6_written {σ : St} {cs : Cs} {w : Nat} {a : List Nat} (h : CodM σ cs) (hw : WrdM σ w a) (hwl : w < 24) (ha : Sg a) {K : Int32 → St → Prop} (hK : ∀ τ, MadeM τ (wrt cs a) → Chg (fun k => k = 4) σ τ → K (nI (wrt cs a).length) τ) : wX6_written σ (nI w) K := by
  have hal := hw.2.1
  have hwl2 := (h.len ha).2
  have key : ∀ d k (τ : St), k + d = a.length → MadeM τ (wrt cs (a.take k)) → Chg (fun k => k = 4) σ τ → wX6_written_L4 K (nI w) (d + 1) τ (nI (wrt cs (a.take k)).length) (nI k) := by
    intro d
    induction d with
    | zero =>
      intro k τ hk hm hc
      have b := hw.kept hc (by omega) (by omega)
      rw [wX6_written_L4, nI_clamp (n := w) (by omega)]
      refine ⟨vp_in_nI (by omega) (by omega), pk_le a.length k (fun _ => ?_) (fun z => by omega) b.1⟩
      rw [List.take_of_length_le (by omega)] at hm ⊢
      exact hK τ hm hc
    | succ d ih =>
      intro k τ hk hm hc
      have b := hw.kept hc (by omega) (by omega)
      rw [wX6_written_L4, nI_clamp (n := w) (by omega)]
      refine ⟨vp_in_nI (by omega) (by omega), pk_le a.length k (fun _ => by omega) (fun q => ?_) b.1⟩
      rw [nI_x10, nI_add, nI_clamp (by omega), b.2.2.1 k q]
      have hg := ha.gd q
      have hle := wrt_le h a (k + 1)
      rw [wrt_snoc cs a q, List.length_append] at hle
      refine ⟨vp_in_nI (by omega) (by omega), sX6_puts (h.kept hc (by omega) (by omega)) hm hg (by omega) fun υ u1 u2 => ?_⟩
      rw [nI_1]
      rw [← wrt_snoc cs a q] at u1 ⊢
      exact ih (k + 1) υ (by omega) u1 (hc.tr u2)
  exact ⟨_, key a.length 0 σ (by omega) (by simpa [wrt] using made_nil σ) Chg.rf⟩
section MDL
variable {σ : St} {m : Stt} {K : Int32 → St → Prop}
theorem sM_code {q : Nat} (h : InvM σ m) (hq : q < 65536) (hO : OutM (oCode q m) K) : wX6_code σ (nI q) K := by
  obtain ⟨a1, a2, a3, a5, a6, a7, a8, a9⟩ := id h
  have hl := h.len
  unfold oCode at hO
  have hb : (gI σ 1).toInt = (m.1.length : Int) := by rw [a1.1, nI_toInt (by omega)]
  refine sX6_isSign hq (fun hs => bit1 (sX6_in (a := 1) (b := 3) rfl rfl (fun hb => bit1 ?_) (fun hb => bit0 ?_))) (fun hs => bit0 ?_)
  · rw [if_pos hs, if_pos (by omega)] at hO
    unfold wX6_code_J29
    refine sX6_good h fun τ0 g1 g2 hc0 => ?_
    have e : nI q - (97 : Int32) = nI (q - 97) := nI_subI (b := 97) hs.1
    have hc6 : q - 97 < 6 := by omega
    rw [e]
    generalize q - 97 = c at *
    obtain ⟨b1, b2, b3, b5, b6, b7, b8, b9⟩ := id g1
    rw [nI_clamp (by omega), (b8 c hc6).1, b1.1]
    refine ⟨vp_in_nI (by omega) (by omega), ?_⟩
    rintro _ rfl
    refine ⟨vp_in_nI (by omega) (by omega), ?_⟩
    rintro _ rfl
    have key : ∀ d k (τ : St), k + d = m.1.length → (∀ i, gA τ 7 i = if i = c then nI m.1.length else gA τ0 7 i) → (∀ i, (i < 3 * c ∨ 3 * c + 3 ≤ i) → gA τ 3 i = gA τ0 3 i) → (∀ i, i < k → gA τ 3 (3 * c + i) = nI (gd m.1 i)) → Chg (fun k => k = 3 ∨ k = 7) τ0 τ → wX6_code_L62 K (nI c) (nI (m.2.2 c).length) (d + 1) τ (nI k) := by
      intro d
      induction d with
      | zero =>
        intro k τ hk h7 h3 h3c hc
        have ht := b1.kept hc (by omega)
        rw [wX6_code_L62]
        refine pk_le m.1.length k (fun _ => hO.ok ⟨ht, b2, ?_, b5, b6, b7, fun c' hc' => ?_, fun c' hc' => ?_⟩ ((hc.1 0 (by omega)).1.trans g2)) (fun z => by omega) ht.1
        · obtain ⟨wl, w1, w2⟩ := b3
          exact ⟨wl, w1.kept hc (by omega) (by omega) (by omega), w2⟩
        · by_cases e : c' = c
          · subst e
            simp only [if_true]
            exact ⟨by rw [h7, if_pos rfl], by omega, by omega, fun i hi => h3c i (by omega), a1.2.2.2⟩
          · simp only [if_neg e]
            have := b8 c' hc'
            exact ⟨by rw [h7, if_neg e]; exact this.1, this.2.1, this.2.2.1, fun i hi => by rw [h3 _ (by omega)]; exact this.2.2.2.1 i hi, this.2.2.2.2⟩
        · show Sg (if c' = c then m.1 else m.2.2 c')
          split
          · exact a2
          · exact a9 c' hc'
      | succ d ih =>
        intro k τ hk h7 h3 h3c hc
        have ht := b1.kept hc (by omega)
        rw [wX6_code_L62]
        refine pk_le m.1.length k (fun _ => by omega) (fun z => ?_) ht.1
        have := a1.2.2.2 k
        rw [nI_x3, nI_add, nI_clamp (by omega), nI_clamp (by omega), ht.2.2.1 k z, charN (by omega), nI_1]
        refine ⟨vp_in_nI (by omega) (by omega), vp_in_nI (by omega) (by omega), ?_⟩
        rintro _ rfl
        refine ih (k + 1) _ (by omega) (fun i => ?_) (fun i hi => ?_) (fun i hi => ?_) (hc.tr (Chg_pA.mono (by omega)))
        · rw [gA_pA, if_neg (by omega)]; exact h7 i
        · rw [gA_pA, if_neg (by omega)]; exact h3 i hi
        · rw [gA_pA]
          by_cases e : i = k
          · rw [if_pos ⟨rfl, by omega⟩, e]
          · rw [if_neg (by omega)]; exact h3c i (by omega)
    refine ⟨_, key m.1.length 0 _ (by omega) (fun i => ?_) (fun i _ => ?_) (fun i hi => by omega) (Chg_pA.mono (by omega))⟩
    · rw [gA_pA]
      by_cases e : i = c
      · rw [if_pos ⟨rfl, e⟩, if_pos e]
      · rw [if_neg (fun z => e z.2), if_neg e]
    · rw [gA_pA, if_neg (by omega)]
  · rw [if_pos hs, if_neg (by omega)] at hO
    unfold wX6_code_J29
    exact sX6_bad (e := 1) h (by omega) fun τ h1 h2 => hO.no h1 h2
  · rw [if_neg hs] at hO
    unfold wX6_code_J29
    exact sX6_bad (e := 0) h (by omega) fun τ h1 h2 => hO.no h1 h2
/-- what is made becomes the text -/
theorem made_text {τ0 : St} {u : List Nat} (g1 : InvM τ0 m) (hm : MadeM τ0 u) (hu : u.length ≤ 24) (hs : Sg u) {W : Nat → St → Int32 → Prop} (hw : ∀ n τ k, k ≤ u.length → gI τ 1 = nI u.length → Chg (fun q => q = 1) τ0 τ → ((nI u.length ≤ nI k → InvM τ (u, m.2) → W (n + 1) τ (nI k)) ∧ (¬ nI u.length ≤ nI k → (W n (pA τ 1 k (nI (gd u k))) (nI (k + 1))) → W (n + 1) τ (nI k)))) : ∃ n, W n (pI τ0 1 (nI u.length)) 0 := by
  have key : ∀ d k (τ : St), k + d = u.length → gI τ 1 = nI u.length → (∀ i, i < k → gA τ 1 i = nI (gd u i)) → Chg (fun q => q = 1) τ0 τ → W (d + 1) τ (nI k) := by
    intro d
    induction d with
    | zero =>
      intro k τ hk hg h1 hc
      exact (hw 0 τ k (by omega) hg hc).1 (nI_le (by omega) (by omega)) (g1.text hc (fun k e => Or.inl e) ⟨hg, hu, fun i hi => h1 i (by omega), hm.2⟩ hs)
    | succ d ih =>
      intro k τ hk hg h1 hc
      refine (hw (d + 1) τ k (by omega) hg hc).2 (nI_ge (by omega) (by omega)) (ih (k + 1) _ (by omega) hg (fun i hi => ?_) (hc.tr Chg_pA))
      rw [gA_pA]
      by_cases e : i = k
      · rw [if_pos ⟨rfl, e⟩, e]
      · rw [if_neg (fun z => e z.2)]; exact h1 i (by omega)
  exact ⟨_, key u.length 0 _ (by omega) (by rw [gI_pI, if_pos rfl]) (fun i hi => by omega) Chg_pI⟩
theorem sM_write (h : InvM σ m) (hO : OutM (oWrite m) K) : wX6_write σ K := by
  obtain ⟨a1, a2, a3, a5, a6, a7, a8, a9⟩ := id h
  have hl := h.len
  have hwl := (a8.len a2).2
  unfold oWrite at hO
  have key : ∀ d k (τ : St), k + d = m.1.length → MadeM τ (wrt m.2.2 (m.1.take k)) → Chg (fun k => k = 4) σ τ → wX6_write_L4 K (d + 1) τ (nI (wrt m.2.2 (m.1.take k)).length) (nI k) := by
    intro d
    induction d with
    | zero =>
      intro k τ hk hm hc
      have ht := h.free hc fun k e => Or.inr (Or.inl e)
      rw [wX6_write_L4]
      rw [List.take_of_length_le (by omega)] at hm ⊢
      refine pk_le m.1.length k (fun _ => pk_le (wrt m.2.2 m.1).length 24 (fun z => ?_) (fun z => ?_)) (fun z => by omega) ht.1.1
      · rw [if_pos z] at hO
        unfold wX6_write_J42
        refine sX6_good ht fun τ0 g1 g2 hc0 => ?_
        rintro _ rfl
        refine made_text (W := wX6_write_L57 K (nI (wrt m.2.2 m.1).length)) g1 ⟨fun j hj => by rw [(hc0.1 4 (by omega)).2]; exact hm.1 j hj, hm.2⟩ z (Sg_wrt a9 a2) fun n υ j hj hg hcv => ⟨fun w1 w2 => ?_, fun w1 w2 => ?_⟩
        · rw [wX6_write_L57]
          refine ⟨fun _ => ?_, fun w => absurd w1 w⟩
          rw [hg]
          exact hO.ok w2 ((hcv.1 0 (by omega)).1.trans g2)
        · rw [wX6_write_L57]
          refine ⟨fun w => absurd w w1, fun _ => ?_⟩
          have hj2 : j < (wrt m.2.2 m.1).length := by
            rcases Nat.lt_or_ge j (wrt m.2.2 m.1).length with q | q
            · exact q
            · exact absurd (nI_le q (by omega)) w1
          have := hm.2 j
          rw [nI_clamp (by omega), (hcv.1 4 (by omega)).2, (hc0.1 4 (by omega)).2, hm.1 j hj2, charN (by omega), nI_1]
          refine ⟨vp_in_nI (by omega) (by omega), vp_in_nI (by omega) (by omega), ?_⟩
          rintro _ rfl
          exact w2
      · rw [if_neg (by omega)] at hO
        unfold wX6_write_J42
        exact sX6_bad (e := 0) ht (by omega) fun τ h1 h2 => hO.no h1 h2
    | succ d ih =>
      intro k τ hk hm hc
      have ht := h.free hc fun k e => Or.inr (Or.inl e)
      rw [wX6_write_L4]
      refine pk_le m.1.length k (fun _ => by omega) (fun q => ?_) ht.1.1
      rw [nI_clamp (by omega), ht.1.2.2.1 k q]
      have hg := a2.gd q
      have hle := wrt_le a8 m.1 (k + 1)
      rw [wrt_snoc m.2.2 m.1 q, List.length_append] at hle
      refine ⟨vp_in_nI (by omega) (by omega), sX6_puts ht.2.2.2.2.2.2.1 hm hg (by omega) fun υ u1 u2 => ?_⟩
      rw [nI_1]
      rw [← wrt_snoc m.2.2 m.1 q] at u1 ⊢
      exact ih (k + 1) υ (by omega) u1 (hc.tr u2)
  exact ⟨_, key m.1.length 0 σ (by omega) (by simpa [wrt] using made_nil σ) Chg.rf⟩
theorem sX6_codeAt {cs : Cs} {t : List Nat} {p : Nat} (h : CodM σ cs) (ht : TxtM σ t) (hp : p ≤ t.length) {K : Int32 → Prop} (h1 : ∀ c, c < 6 → Pre (cs c) (t.drop p) → (∀ b, b < c → ¬ Pre (cs b) (t.drop p)) → K (nI c)) (h0 : (∀ c, c < 6 → ¬ Pre (cs c) (t.drop p)) → K (-1)) : wX6_codeAt σ (nI p) K := by
  have hl := ht.2.1
  have hdl : (t.drop p).length = t.length - p := List.length_drop
  have inner : ∀ (B : Int32 → Prop) c, c < 6 → (Pre (cs c) (t.drop p) → K (nI c)) → (¬ Pre (cs c) (t.drop p) → B (nI (c + 1))) → ∀ d k, k + d = (cs c).length → k ≤ t.length - p → (∀ j, j < k → gd (cs c) j = gd (t.drop p) j) → wX6_codeAt_L10 K B σ (nI p) (nI c) (d + 1) (nI k) := by
    intro B c hc hK hB d
    obtain ⟨a1, a2, a3, a4, a5⟩ := h c hc
    have fin : ∀ k, k = lcp (cs c) (t.drop p) → wX6_codeAt_J57 K B σ (nI p) (nI c) (nI k) := by
      rintro k rfl
      have hle := (lcp_le (cs c) (t.drop p)).1
      unfold wX6_codeAt_J57
      rw [nI_clamp (by omega), nI_1]
      exact ⟨vp_in_nI (by omega) (by omega), pk_eq (lcp (cs c) (t.drop p)) (cs c).length (fun e => hK e) (fun e => hB e) rfl a1 (by omega) (by omega)⟩
    induction d with
    | zero =>
      intro k hk hkt he
      rw [wX6_codeAt_L10, nI_clamp (n := c) (by omega)]
      exact ⟨vp_in_nI (by omega) (by omega), pk_le (cs c).length k (fun _ => fin k (lcp_eq (by omega) (by omega) he (Or.inl (by omega))).symm) (fun q => by omega) a1⟩
    | succ d ih =>
      intro k hk hkt he
      rw [wX6_codeAt_L10, nI_clamp (n := c) (by omega), nI_x3, nI_add, nI_add]
      refine ⟨vp_in_nI (by omega) (by omega), pk_le (cs c).length k (fun q => by omega) (fun q => pk_le t.length (p + k) (fun z => fin k (lcp_eq (by omega) (by omega) he (Or.inr (Or.inl (by omega)))).symm) (fun z => ?_) ht.1) a1⟩
      rw [nI_clamp (by omega), nI_clamp (by omega), a4 k q, ht.2.2.1 (p + k) z, nI_1]
      have c1 := a5 k
      have c2 := ht.2.2.2 (p + k)
      refine ⟨vp_in_nI (by omega) (by omega), vp_in_nI (by omega) (by omega), pk_eq (gd (cs c) k) (gd t (p + k)) (fun e => ih (k + 1) (by omega) (by omega) fun j hj => ?_) (fun e => fin k (lcp_eq (by omega) (by omega) he (Or.inr (Or.inr (by rw [gd_drop]; exact e)))).symm) rfl rfl (by omega) (by omega)⟩
      by_cases z2 : j = k
      · rw [z2, gd_drop]; exact e
      · exact he j (by omega)
  have outer : ∀ d c, c + d = 6 → (∀ b, b < c → ¬ Pre (cs b) (t.drop p)) → wX6_codeAt_L2 K σ (nI p) (d + 1) (nI c) := by
    intro d
    induction d with
    | zero =>
      intro c hc hn
      rw [wX6_codeAt_L2]
      exact pk_le 6 c (fun _ => h0 fun b hb => hn b (by omega)) (fun q => by omega)
    | succ d ih =>
      intro c hc hn
      rw [wX6_codeAt_L2]
      refine pk_le 6 c (fun _ => by omega) (fun q => ⟨_, inner _ c q (fun z => h1 c q z hn) (fun z => ih (c + 1) (by omega) fun b hb => ?_) (cs c).length 0 (by omega) (by omega) (fun j hj => by omega)⟩)
      by_cases e : b = c
      · rw [e]; exact z
      · exact hn b (by omega)
  exact ⟨_, outer 6 0 (by omega) (fun b hb => by omega)⟩
theorem made_push {τ : St} {u : List Nat} {v : Nat} (h : MadeM τ u) (hv : v < 103) : MadeM (pA τ 4 u.length (nI v)) (u ++ [v]) := by
  refine ⟨fun j hj => ?_, fun k => ?_⟩
  · simp only [List.length_append, List.length_cons, List.length_nil] at hj
    rw [gA_pA]
    by_cases e : j = u.length
    · rw [if_pos ⟨rfl, e⟩, e, gd_app_r (Nat.le_refl _), Nat.sub_self, gd_0]
    · rw [if_neg (fun z => e z.2), gd_app_l (by omega)]; exact h.1 j (by omega)
  · rcases Nat.lt_or_ge k u.length with q | q
    · rw [gd_app_l q]; exact h.2 k
    · rw [gd_app_r q]
      rcases Nat.eq_zero_or_pos (k - u.length) with y | y
      · rw [y, gd_0]; exact hv
      · rw [gd_ge (by simp; omega)]; omega
theorem sM_read (h : InvM σ m) (hO : OutM (oRead m) K) : wX6_read σ K := by
  obtain ⟨a1, a2, a3, a5, a6, a7, a8, a9⟩ := id h
  have hl := h.len
  unfold oRead at hO
  have stop : ∀ p (τ : St) u, p ≤ m.1.length → Sg u → u.length ≤ 24 → wrt m.2.2 u = m.1.take p → MadeM τ u → Chg (fun q => q = 4) σ τ → (p < m.1.length → ∀ c, c < 6 → ¬ Pre (m.2.2 c) (m.1.drop p)) → wX6_read_J52 K τ (nI p) (nI u.length) := by
    intro p τ u hp hu hul hw hm hc hn
    have ht := h.free hc fun k e => Or.inr (Or.inl e)
    obtain ⟨τB, hB⟩ := book_ex a8
    refine sX6_areOrderly ht.2.2.2.2.2.2.1 (fun ho => bit1 (pk_le m.1.length p (fun z => ?_) (fun z => ?_) ht.1.1)) (fun ho => bit0 ?_)
    · have hw2 : wrt m.2.2 u = m.1 := by rw [hw, List.take_of_length_le z]
      rw [if_pos (ordB_iff.mpr ho), rdF_some hB ho hu hw2] at hO
      unfold wX6_read_J77
      refine sX6_good ht fun τ0 g1 g2 hc0 => ?_
      rintro _ rfl
      refine made_text (W := wX6_read_L92 K (nI u.length)) g1 ⟨fun j hj => by rw [(hc0.1 4 (by omega)).2]; exact hm.1 j hj, hm.2⟩ hul hu fun n υ j hj hg hcv => ⟨fun w1 w2 => ?_, fun w1 w2 => ?_⟩
      · rw [wX6_read_L92]
        refine ⟨fun _ => ?_, fun w => absurd w1 w⟩
        rw [hg]
        exact hO.ok w2 ((hcv.1 0 (by omega)).1.trans g2)
      · rw [wX6_read_L92]
        refine ⟨fun w => absurd w w1, fun _ => ?_⟩
        have hj2 : j < u.length := by
          rcases Nat.lt_or_ge j u.length with q | q
          · exact q
          · exact absurd (nI_le q (by omega)) w1
        have := hm.2 j
        rw [nI_clamp (by omega), (hcv.1 4 (by omega)).2, (hc0.1 4 (by omega)).2, hm.1 j hj2, charN (by omega), nI_1]
        refine ⟨vp_in_nI (by omega) (by omega), vp_in_nI (by omega) (by omega), ?_⟩
        rintro _ rfl
        exact w2
    · rw [if_pos (ordB_iff.mpr ho), rdF_none (read_stuck a8 ho hu hw z (hn z))] at hO
      unfold wX6_read_J77
      exact sX6_bad (e := 1) ht (by omega) fun τ h1 h2 => hO.no h1 h2
    · rw [if_neg (fun q => ho (ordB_iff.mp q))] at hO
      unfold wX6_read_J77
      exact sX6_bad (e := 0) ht (by omega) fun τ h1 h2 => hO.no h1 h2
  have key : ∀ d p (τ : St) u, m.1.length - p < d → p ≤ m.1.length → u.length ≤ p → Sg u → wrt m.2.2 u = m.1.take p → MadeM τ u → Chg (fun q => q = 4) σ τ → wX6_read_L4 K d τ (nI p) (nI u.length) := by
    intro d
    induction d with
    | zero => intro p τ u hk; omega
    | succ d ih =>
    intro p τ u hk hpl hul hu hw hm hc
    have ht := h.free hc fun k e => Or.inr (Or.inl e)
    have hcod := ht.2.2.2.2.2.2.1
    rw [wX6_read_L4]
    refine pk_le m.1.length p (fun z => stop p τ u (by omega) hu (by omega) hw hm hc (fun q => by omega)) (fun z => sX6_codeAt hcod ht.1 (by omega) (fun c hc1 hc2 hc3 => ⟨fun q => absurd q (nI_neg (by omega)), fun _ => sX6_codeAt hcod ht.1 (by omega) (fun c' hc1' hc2' hc3' => ?_) (fun hn => absurd hc2 (hn c hc1))⟩) (fun hn => ⟨fun _ => stop p τ u (by omega) hu (by omega) hw hm hc (fun _ => hn), fun q => absurd (by decide) q⟩)) ht.1.1
    have ec : c' = c := by
      rcases Nat.lt_trichotomy c' c with q | q | q
      · exact absurd hc2' (hc3 c' q)
      · exact q
      · exact absurd hc2 (hc3' c q)
    subst ec
    have hcl := (a8 c' hc1).2.1
    have hpl2 := pre_drop_len (t := m.1) (by omega) hc2
    have hg7 := (hcod c' hc1).1
    rw [char97 hc1, nI_clamp (n := u.length) (by omega), nI_clamp (n := c') (by omega)]
    refine ⟨vp_in_nI (by omega) (by omega), ?_⟩
    rintro _ rfl
    rw [gA_pA, if_neg (by omega), hg7, nI_add, nI_1]
    refine ⟨vp_in_nI (by omega) (by omega), ?_⟩
    rintro _ rfl
    have h2 := ih (p + (m.2.2 c').length) (pA τ 4 u.length (nI (97 + c'))) (u ++ [97 + c']) (by omega) hpl2 (by simp; omega) (Sg_snoc hu hc1) (by rw [wrt_one, hw, take_pre (by omega) hc2]) (made_push hm (by omega)) (hc.tr Chg_pA)
    rw [List.length_append] at h2
    exact h2
  exact ⟨_, key (m.1.length + 1) 0 σ [] (by omega) (Nat.zero_le _) (Nat.le_refl _) Sg_nil (by simp [wrt]) (made_nil σ) Chg.rf⟩
theorem grw_perm {cs : Cs} {wl ws : Ws} (hp : wl.Perm ws) : grw cs wl = grw cs ws := hp.countP_eq _
theorem sM_writeAll (h : InvM σ m) (hO : OutM (oWriteAll m) K) : wX6_writeAll σ K := by
  obtain ⟨a1, a2, ⟨wl, a3, a4⟩, a5, a6, a7, a8, a9⟩ := id h
  have hl := a3.2.1
  obtain ⟨τB, hB⟩ := book_ex a8
  unfold oWriteAll at hO
  have sgw : ∀ i, i < wl.length → Sg (wd wl i) := fun i hi => by
    obtain ⟨j, j1, j2, -⟩ := perm_at a4 hi
    rw [← j2]; exact a6 j j1
  have lenw : ∀ i, i < wl.length → 1 ≤ (wd wl i).length ∧ (wd wl i).length ≤ 10 := fun i hi => by
    obtain ⟨j, j1, j2, -⟩ := perm_at a4 hi
    rw [← j2]; exact a7 j j1
  have key : ∀ d k (τ : St) (b : Bool), k + d = wl.length → Chg (fun q => q = 4) σ τ → (b = true ↔ ∃ i, i < k ∧ 10 < (wrt m.2.2 (wd wl i)).length) → wX6_writeAll_L4 K (d + 1) τ (if b = true then 1 else 0) (nI k) := by
    intro d
    induction d with
    | zero =>
      intro k τ b hk hc hb
      have ht := h.free hc fun k e => Or.inr (Or.inl e)
      have t3 := a3.kept hc (by omega) (by omega) (by omega)
      rw [wX6_writeAll_L4]
      refine pk_le wl.length k (fun _ => sX6_areOrderly ht.2.2.2.2.2.2.1 (fun ho => bit1 ?_) (fun ho => bit0 ?_)) (fun q => by omega) t3.1
      · rw [if_pos (ordB_iff.mpr ho)] at hO
        rw [bool01]
        refine ⟨fun z => ?_, fun z => ?_⟩
        · have hall : ∀ i, i < wl.length → (wrt m.2.2 (wd wl i)).length ≤ 10 := fun i hi => by
            rcases Nat.lt_or_ge 10 (wrt m.2.2 (wd wl i)).length with q | q
            · rw [hb.mpr ⟨i, by omega, q⟩] at z; cases z
            · exact q
          have hall2 : m.2.1.all (fun w => decide ((wrt m.2.2 w.1).length ≤ 10)) = true := by
            rw [List.all_eq_true]
            intro w hw2
            obtain ⟨j, hj, e, -⟩ := wd_of_mem hw2
            obtain ⟨i, hi, e2, -⟩ := perm_ta a4 hj
            rw [← e, ← e2]
            exact decide_eq_true (hall i hi)
          rw [if_pos hall2] at hO
          unfold wX6_writeAll_J57
          refine sX6_good ht fun τ0 g1 g2 hc0 => ?_
          have b3 := t3.kept hc0 (by omega) (by omega) (by omega)
          have loop : ∀ d k (υ : St), k + d = wl.length → WdsM υ (mixW m.2.2 wl k) → Chg (fun q => q = 2 ∨ q = 4 ∨ q = 5 ∨ q = 6) τ0 υ → wX6_writeAll_L69 K (d + 1) υ (nI (grw m.2.2 (wl.take k))) (nI k) := by
            intro d
            induction d with
            | zero =>
              intro k υ hk hw hcu
              rw [wX6_writeAll_L69]
              refine pk_le wl.length k (fun _ => ?_) (fun q => by omega) (by rw [hw.1, mix_len])
              have e : k = wl.length := by omega
              subst e
              have em : mixW m.2.2 wl wl.length = wmap m.2.2 wl := by simp [mixW]
              rw [em] at hw
              rw [List.take_length, grw_perm a4]
              obtain ⟨c1, c2, c3, c5, c6, c7, c8, c9⟩ := id g1
              refine hO.ok ⟨c1.kept hcu (by omega), c2, ⟨_, hw, a4.map _⟩, fun i j hij hj => ?_, fun i hi => ?_, fun i hi => ?_, c8.kept hcu (by omega) (by omega), c9⟩ ((hcu.1 0 (by omega)).1.trans g2)
              · rw [len_map] at hj
                rw [wd_map, wd_map]
                exact (codes_keep hB ho _ _ (a6 i (by omega)) (a6 j hj) (a5 i j hij hj)).1
              · rw [len_map] at hi
                rw [wd_map]; exact Sg_wrt a9 (a6 i hi)
              · rw [len_map] at hi
                rw [wd_map]
                have := (wrt_len hB _ (a6 i hi)).1
                have := (a7 i hi).1
                obtain ⟨j, j1, j2, -⟩ := perm_ta a4 hi
                rw [← j2]
                rw [← j2] at this
                have h5 := hall j j1
                have h6 := (wrt_len hB _ (sgw j j1)).1
                omega
            | succ d ih =>
              intro k υ hk hw hcu
              rw [wX6_writeAll_L69]
              refine pk_le wl.length k (fun _ => by omega) (fun q => ?_) (by rw [hw.1, mix_len])
              have hwk := (hw.2.2 k (by rw [mix_len]; exact q))
              rw [mix_wd (by omega), if_neg (by omega), mix_nu (by omega)] at hwk
              have hk10 := hall k q
              have hl10 := lenw k q
              refine sX6_written (g1.2.2.2.2.2.2.1.kept hcu (by omega) (by omega)) hwk.1 (by omega) (sgw k q) fun φ f1 f2 => ?_
              have hwφ := hw.kept f2 (by omega) (by omega) (by omega)
              have h5 : gA φ 5 k = nI (wd wl k).length := ((f2.1 5 (by omega)).2 k).trans hwk.1.1
              rw [nI_clamp (by omega), nI_1]
              have J : ∀ s1 : Int32, s1 = nI (grw m.2.2 (wl.take (k + 1))) → wX6_writeAll_J98 K (wX6_writeAll_L69 K (d + 1)) φ s1 (nI k) (nI (wrt m.2.2 (wd wl k)).length) := by
                rintro _ rfl
                unfold wX6_writeAll_J98
                rw [nI_clamp (by omega)]
                refine ⟨vp_in_nI (by omega) (by omega), ?_⟩
                rintro _ rfl
                have copy : ∀ e j (ψ : St), j + e = (wrt m.2.2 (wd wl k)).length → gI ψ 2 = gI φ 2 → (∀ i, gA ψ 5 i = if i = k then nI (wrt m.2.2 (wd wl k)).length else gA φ 5 i) → (∀ i, gA ψ 6 i = gA φ 6 i) → (∀ i, gA ψ 4 i = gA φ 4 i) → (∀ i, (i < 10 * k ∨ 10 * k + 10 ≤ i) → gA ψ 2 i = gA φ 2 i) → (∀ i, i < j → gA ψ 2 (10 * k + i) = nI (gd (wrt m.2.2 (wd wl k)) i)) → Chg (fun q => q = 2 ∨ q = 4 ∨ q = 5 ∨ q = 6) τ0 ψ → wX6_writeAll_L109 K (wX6_writeAll_L69 K (d + 1)) (nI (grw m.2.2 (wl.take (k + 1)))) (nI k) (nI (wrt m.2.2 (wd wl k)).length) (e + 1) ψ (nI j) := by
                  intro e
                  induction e with
                  | zero =>
                    intro j ψ hj p1 p2 p3 p4 p5 p6 p7
                    rw [wX6_writeAll_L109, nI_1]
                    refine pk_le (wrt m.2.2 (wd wl k)).length j (fun _ => ih (k + 1) ψ (by omega) ⟨?_, ?_, fun i hi => ?_⟩ p7) (fun q => by omega)
                    · rw [p1, hwφ.1, mix_len, mix_len]
                    · rw [mix_len]; exact hl
                    · rw [mix_len] at hi
                      have hi2 := hwφ.2.2 i (by rw [mix_len]; exact hi)
                      rw [mix_wd (by omega), mix_nu (by omega)] at hi2 ⊢
                      refine ⟨?_, by rw [p3]; exact hi2.2.1, hi2.2.2⟩
                      by_cases e : i = k
                      · subst e
                        rw [if_pos (by omega)]
                        exact ⟨by rw [p2, if_pos rfl], hk10, fun z hz => p6 z (by omega), f1.2⟩
                      · have e2 : (if i < k + 1 then wrt m.2.2 (wd wl i) else wd wl i) = (if i < k then wrt m.2.2 (wd wl i) else wd wl i) := by
                          by_cases z : i < k
                          · rw [if_pos z, if_pos (by omega)]
                          · rw [if_neg z, if_neg (by omega)]
                        rw [e2]
                        have h10 := hi2.1.2.1
                        exact hi2.1.same (by rw [p2, if_neg e]) fun z hz => p5 _ (by omega)
                  | succ e ih2 =>
                    intro j ψ hj p1 p2 p3 p4 p5 p6 p7
                    rw [wX6_writeAll_L109, nI_1]
                    refine pk_le (wrt m.2.2 (wd wl k)).length j (fun _ => by omega) (fun q => ?_)
                    have := f1.2 j
                    rw [nI_x10, nI_add, nI_clamp (by omega), nI_clamp (by omega), p4, f1.1 j q, charN (by omega), nI_1]
                    refine ⟨vp_in_nI (by omega) (by omega), vp_in_nI (by omega) (by omega), ?_⟩
                    rintro _ rfl
                    refine ih2 (j + 1) _ (by omega) p1 (fun i => ?_) (fun i => ?_) (fun i => ?_) (fun i hi => ?_) (fun i hi => ?_) (p7.tr (Chg_pA.mono (by omega)))
                    · rw [gA_pA, if_neg (by omega)]; exact p2 i
                    · rw [gA_pA, if_neg (by omega)]; exact p3 i
                    · rw [gA_pA, if_neg (by omega)]; exact p4 i
                    · rw [gA_pA, if_neg (by omega)]; exact p5 i hi
                    · rw [gA_pA]
                      by_cases e : i = j
                      · rw [if_pos ⟨rfl, by omega⟩, e]
                      · rw [if_neg (by omega)]; exact p6 i (by omega)
                refine ⟨_, copy (wrt m.2.2 (wd wl k)).length 0 _ (by omega) rfl (fun i => ?_) (fun i => ?_) (fun i => ?_) (fun i _ => ?_) (fun i hi => by omega) (hcu.tr ((f2.mono (by omega)).tr (Chg_pA.mono (by omega))))⟩
                · rw [gA_pA]
                  by_cases e : i = k
                  · rw [if_pos ⟨rfl, e⟩, if_pos e]
                  · rw [if_neg (fun z => e z.2), if_neg e]
                · rw [gA_pA, if_neg (by omega)]
                · rw [gA_pA, if_neg (by omega)]
                · rw [gA_pA, if_neg (by omega)]
              refine ⟨vp_in_nI (by omega) (by omega), pk_le (wrt m.2.2 (wd wl k)).length (wd wl k).length (fun z => J _ (by rw [grw_snoc q, if_neg (by omega), Nat.add_zero])) (fun z => J _ (by rw [grw_snoc q, if_pos z])) rfl h5⟩
          exact ⟨_, loop wl.length 0 τ0 (by omega) (by simpa [mixW, wmap] using b3) Chg.rf⟩
        · have z : b = true := by simpa using z
          obtain ⟨i, hi, h10⟩ := hb.mp z
          rw [if_neg] at hO
          · unfold wX6_writeAll_J57
            exact sX6_bad (e := 1) ht (by omega) fun τ h1 h2 => hO.no h1 h2
          · rw [List.all_eq_true]
            intro q
            obtain ⟨j, j1, j2, -⟩ := perm_at a4 (i := i) (by omega)
            have := of_decide_eq_true (q _ (wd_mem j1))
            have this : (wrt m.2.2 (wd m.2.1 j)).length ≤ 10 := this
            rw [j2] at this
            omega
      · rw [if_neg (fun q => ho (ordB_iff.mp q))] at hO
        unfold wX6_writeAll_J57
        exact sX6_bad (e := 0) ht (by omega) fun τ h1 h2 => hO.no h1 h2
    | succ d ih =>
      intro k τ b hk hc hb
      have ht := h.free hc fun k e => Or.inr (Or.inl e)
      have t3 := a3.kept hc (by omega) (by omega) (by omega)
      rw [wX6_writeAll_L4]
      refine pk_le wl.length k (fun _ => by omega) (fun q => ?_) t3.1
      have hwl := (a8.len (sgw k q)).2
      have hl10 := lenw k q
      refine sX6_written ht.2.2.2.2.2.2.1 (t3.2.2 k q).1 (by omega) (sgw k q) fun υ u1 u2 => ?_
      rw [nI_1]
      refine pk_le (wrt m.2.2 (wd wl k)).length 10 (fun z => ?_) (fun z => ?_)
      · have e : ((if b = true then 1 else 0 : Int32) ||| 0) = if b = true then 1 else 0 := by cases b <;> decide
        rw [e]
        refine ih (k + 1) υ b (by omega) (hc.tr u2) (hb.trans ⟨fun ⟨i, i1, i2⟩ => ⟨i, by omega, i2⟩, fun ⟨i, i1, i2⟩ => ⟨i, ?_, i2⟩⟩)
        rcases Nat.lt_or_ge i k with y | y
        · exact y
        · rw [show i = k by omega] at i2; omega
      · have e : ((if b = true then 1 else 0 : Int32) ||| 1) = if true = true then 1 else 0 := by cases b <;> decide
        rw [e]
        exact ih (k + 1) υ true (by omega) (hc.tr u2) ⟨fun _ => ⟨k, by omega, z⟩, fun _ => rfl⟩
  exact ⟨_, key wl.length 0 σ false (by omega) Chg.rf ⟨fun q => (by cases q), fun ⟨i, i1, _⟩ => (by omega)⟩⟩
end MDL
