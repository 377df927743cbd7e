/-! THE REFERENCE'S CALLS: near, begun, begunAt, sum, gone -/
def cand (c : Nat) (t a : List Nat) : Bool := if c = 102 then !lt t a else if c = 99 then !lt a t else if c = 108 then lt a t else lt t a
/-- the best one so far -/
def Best (c : Nat) (t : List Nat) (wl : Ws) (k : Nat) (x : Int32) : Prop := (x = -1 ∧ ∀ j, j < k → cand c t (wd wl j) = false) ∨ ∃ b, b < k ∧ x = nI b ∧ cand c t (wd wl b) = true ∧ ∀ j, j < k → cand c t (wd wl j) = true → ((c = 102 ∨ c = 108) → ¬ lt (wd wl b) (wd wl j) = true) ∧ (¬ (c = 102 ∨ c = 108) → ¬ lt (wd wl j) (wd wl b) = true)
theorem Best.skip {c : Nat} {t : List Nat} {wl : Ws} {k : Nat} {x : Int32} (h : Best c t wl k x) (hn : cand c t (wd wl k) = false) : Best c t wl (k + 1) x := by
  rcases h with ⟨h1, h2⟩ | ⟨b, h1, h2, h3, h4⟩
  · exact Or.inl ⟨h1, fun j hj => by
      by_cases e : j = k
      · rw [e]; exact hn
      · exact h2 j (by omega)⟩
  · exact Or.inr ⟨b, by omega, h2, h3, fun j hj hc => by
      by_cases e : j = k
      · rw [e, hn] at hc; cases hc
      · exact h4 j (by omega) hc⟩
theorem Best.first {c : Nat} {t : List Nat} {wl : Ws} {k : Nat} (h : Best c t wl k (-1)) (hk : k < 2 ^ 31) (hn : cand c t (wd wl k) = true) : Best c t wl (k + 1) (nI k) := by
  rcases h with ⟨h1, h2⟩ | ⟨b, h1, h2, h3, h4⟩
  · exact Or.inr ⟨k, by omega, rfl, hn, fun j hj hc => by
      by_cases e : j = k
      · rw [e, lt_irr]; exact ⟨fun _ => by decide, fun _ => by decide⟩
      · rw [h2 j (by omega)] at hc; cases hc⟩
  · exact absurd h2.symm (nI_ne_m1 (by omega))
theorem Best.stay {c : Nat} {t : List Nat} {wl : Ws} {k b : Nat} (h : Best c t wl k (nI b)) (hb : b < 24) (hk : k < 24) (h1 : (c = 102 ∨ c = 108) → ¬ lt (wd wl b) (wd wl k) = true) (h2 : ¬ (c = 102 ∨ c = 108) → ¬ lt (wd wl k) (wd wl b) = true) : Best c t wl (k + 1) (nI b) := by
  rcases h with ⟨e, _⟩ | ⟨b', q1, q2, q3, q4⟩
  · exact absurd e (nI_ne_m1 (by omega))
  · have e : b = b' := (nI_eq (by omega) (by omega)).mp q2
    subst e
    exact Or.inr ⟨b, by omega, rfl, q3, fun j hj hc => by
      by_cases e : j = k
      · rw [e]; exact ⟨h1, h2⟩
      · exact q4 j (by omega) hc⟩
theorem Best.new {c : Nat} {t : List Nat} {wl : Ws} {k b : Nat} (h : Best c t wl k (nI b)) (hb : b < 24) (hk : k < 24) (hn : cand c t (wd wl k) = true) (h1 : (c = 102 ∨ c = 108) → lt (wd wl b) (wd wl k) = true) (h2 : ¬ (c = 102 ∨ c = 108) → lt (wd wl k) (wd wl b) = true) : Best c t wl (k + 1) (nI k) := by
  rcases h with ⟨e, _⟩ | ⟨b', q1, q2, q3, q4⟩
  · exact absurd e (nI_ne_m1 (by omega))
  · have e : b = b' := (nI_eq (by omega) (by omega)).mp q2
    subst e
    exact Or.inr ⟨k, by omega, rfl, hn, fun j hj hc => by
      by_cases e : j = k
      · rw [e, lt_irr]; exact ⟨fun _ => by decide, fun _ => by decide⟩
      · have q := q4 j (by omega) hc
        exact ⟨fun z y => q.1 z (lt_tr _ _ _ (h1 z) y), fun z y => q.2 z (lt_tr _ _ _ y (h2 z))⟩⟩
section MDL
variable {σ : St} {m : Stt} {K : Int32 → St → Prop}
theorem near_step {c k : Nat} {wl : Ws} {t : List Nat} {x bit : Int32} (hw : WdsM σ wl) (hc : c < 65536) (hk : k < wl.length) (hB : Best c t wl k x) (hbit : bit = if cand c t (wd wl k) = true then 1 else 0) {B : Int32 → Int32 → Prop} (hK : ∀ y, Best c t wl (k + 1) y → B y (nI (k + 1))) : wX6_near_J86 K B σ (nI c) x (nI k) bit := by
  have hl := hw.2.1
  have go : ∀ s0 : Int32, (s0 = 1 ∧ (c = 102 ∨ c = 108)) ∨ (s0 = 0 ∧ ¬ (c = 102 ∨ c = 108)) → wX6_near_J105 K B σ (nI c) x (nI k) bit s0 := by
    intro s0 hs
    unfold wX6_near_J105
    rw [nI_1]
    by_cases hn : cand c t (wd wl k) = true
    · rw [if_pos hn] at hbit
      subst hbit
      refine ⟨fun z => absurd z (by decide), fun _ => ?_⟩
      by_cases hx : x < 0
      · have ex : x = -1 := by
          rcases hB with ⟨e, _⟩ | ⟨b, b1, b2, _⟩
          · exact e
          · rw [b2] at hx; exact absurd hx (nI_neg (by omega))
        subst ex
        exact ⟨fun _ => hK _ (hB.first (by omega) hn), fun z => absurd hx z⟩
      · refine ⟨fun z => absurd z hx, fun _ => ?_⟩
        have hB2 := hB
        rcases hB with ⟨e, _⟩ | ⟨b, b1, b2, b3, b4⟩
        · rw [e] at hx; exact absurd (by decide) hx
        · subst b2
          refine ⟨fun z => ?_, fun z => ?_⟩
          · have hh : ¬ (c = 102 ∨ c = 108) := by
              rcases hs with q | q
              · rw [q.1] at z; exact absurd z (by decide)
              · exact q.2
            refine sX6_isLess (hw.2.2 k hk).1 (hw.2.2 b (by omega)).1 (by omega) (by omega) ?_
            rw [bool01]
            refine ⟨fun y => hK _ (hB2.stay (by omega) (by omega) (fun q => absurd q hh) fun _ => by rw [y]; decide), fun y => hK _ (hB2.new (by omega) (by omega) hn (fun q => absurd q hh) fun _ => by simpa using y)⟩
          · have hh : (c = 102 ∨ c = 108) := by
              rcases hs with q | q
              · exact q.2
              · exact absurd q.1 z
            refine sX6_isLess (hw.2.2 b (by omega)).1 (hw.2.2 k hk).1 (by omega) (by omega) ?_
            rw [bool01]
            refine ⟨fun y => hK _ (hB2.stay (by omega) (by omega) (fun _ => by rw [y]; decide) fun q => absurd hh q), fun y => hK _ (hB2.new (by omega) (by omega) hn (fun _ => by simpa using y) fun q => absurd hh q)⟩
    · rw [if_neg hn] at hbit
      subst hbit
      exact ⟨fun _ => hK _ (hB.skip (by simpa using hn)), fun z => absurd rfl z⟩
  unfold wX6_near_J86 wX6_near_J100
  refine pk_eq c 102 (fun e => go 1 (Or.inl ⟨rfl, Or.inl e⟩)) (fun e1 => pk_eq c 108 (fun e => go 1 (Or.inl ⟨rfl, Or.inr e⟩)) (fun e2 => go 0 (Or.inr ⟨rfl, by omega⟩)) rfl rfl (by omega) (by omega)) rfl rfl (by omega) (by omega)
theorem near_cut {ws : Ws} (hs : Srt ws) {c : Nat} (hc : c = 102 ∨ c = 99 ∨ c = 108 ∨ c = 104) {t : List Nat} {cs : Cs} {i : Nat} (hi : i < ws.length) : cand c t (wd ws i) = true ↔ if c = 102 ∨ c = 108 then i < nrk c (t, ws, cs) else nrk c (t, ws, cs) ≤ i + 1 := by
  have hL1 : ∀ i, i < cL ws t → lt (wd ws i) t = true := (cL_cut hs t).2.1
  have hL2 : ∀ i, cL ws t ≤ i → i < ws.length → lt (wd ws i) t = false := (cL_cut hs t).2.2
  have hG1 : ∀ i, i < cG ws t → (!lt t (wd ws i)) = true := (cG_cut hs t).2.1
  have hG2 : ∀ i, cG ws t ≤ i → i < ws.length → (!lt t (wd ws i)) = false := (cG_cut hs t).2.2
  unfold cand nrk
  rcases hc with rfl | rfl | rfl | rfl
  · simp only [if_true, true_or]
    rcases Nat.lt_or_ge i (cG ws t) with q | q
    · exact ⟨fun _ => q, fun _ => hG1 i q⟩
    · refine ⟨fun z => ?_, fun z => by omega⟩
      rw [hG2 i q hi] at z; cases z
  · simp only [show ¬ ((99:Nat) = 102) by decide, show ¬ ((99:Nat) = 108) by decide, if_false, if_true, or_self]
    rcases Nat.lt_or_ge i (cL ws t) with q | q
    · refine ⟨fun z => ?_, fun z => by omega⟩
      rw [hL1 i q] at z; cases z
    · refine ⟨fun _ => by omega, fun _ => ?_⟩
      rw [hL2 i q hi]; rfl
  · simp only [show ¬ ((108:Nat) = 102) by decide, show ¬ ((108:Nat) = 99) by decide, if_false, if_true, or_true]
    rcases Nat.lt_or_ge i (cL ws t) with q | q
    · exact ⟨fun _ => q, fun _ => hL1 i q⟩
    · refine ⟨fun z => ?_, fun z => by omega⟩
      rw [hL2 i q hi] at z; cases z
  · simp only [show ¬ ((104:Nat) = 102) by decide, show ¬ ((104:Nat) = 99) by decide, show ¬ ((104:Nat) = 108) by decide, if_false, or_self]
    rcases Nat.lt_or_ge i (cG ws t) with q | q
    · refine ⟨fun z => ?_, fun z => by omega⟩
      have := hG1 i q
      rw [z] at this; cases this
    · refine ⟨fun _ => by omega, fun _ => ?_⟩
      have := hG2 i q hi
      simpa using this
theorem near_rng {ws : Ws} (hs : Srt ws) (c : Nat) (t : List Nat) (cs : Cs) : ((c = 102 ∨ c = 108) → nrk c (t, ws, cs) ≤ ws.length) ∧ (¬ (c = 102 ∨ c = 108) → 1 ≤ nrk c (t, ws, cs)) := by
  have hL := (cL_cut hs t).1
  have hG := (cG_cut hs t).1
  unfold nrk
  constructor
  · rintro (rfl | rfl)
    · simpa using hG
    · simpa using hL
  · intro h
    have h1 : ¬ c = 102 := fun e => h (Or.inl e)
    have h2 : ¬ c = 108 := fun e => h (Or.inr e)
    rw [if_neg h1, if_neg h2]
    split <;> omega
theorem near_best {wl ws : Ws} (hp : wl.Perm ws) (hs : Srt ws) (hl : wl.length ≤ 24) {c : Nat} (hc : c = 102 ∨ c = 99 ∨ c = 108 ∨ c = 104) {t : List Nat} {cs : Cs} {b : Nat} (h : Best c t wl wl.length (nI b)) (hb : b < 24) : 1 ≤ nrk c (t, ws, cs) ∧ nrk c (t, ws, cs) ≤ ws.length ∧ b < wl.length ∧ wd ws (nrk c (t, ws, cs) - 1) = wd wl b ∧ nu ws (nrk c (t, ws, cs) - 1) = nu wl b := by
  rcases h with ⟨e, _⟩ | ⟨b', q1, q2, q3, q4⟩
  · exact absurd e (nI_ne_m1 (by omega))
  have e : b = b' := (nI_eq (by omega) (by omega)).mp q2
  subst e
  obtain ⟨r1, r2, r3⟩ := perm_rank hp hs q1
  generalize cL wl (wd wl b) = r at r1 r2 r3
  have hcut := fun {i} hi => near_cut hs hc (t := t) (cs := cs) (i := i) hi
  have hrng := near_rng hs c t cs
  have hr := (hcut r1).mp (by rw [r2]; exact q3)
  have fin : 1 ≤ nrk c (t, ws, cs) → nrk c (t, ws, cs) ≤ ws.length → nrk c (t, ws, cs) - 1 = r → _ := fun a1 a2 a3 => (⟨a1, a2, q1, by rw [a3]; exact r2, by rw [a3]; exact r3⟩ : 1 ≤ nrk c (t, ws, cs) ∧ nrk c (t, ws, cs) ≤ ws.length ∧ b < wl.length ∧ wd ws (nrk c (t, ws, cs) - 1) = wd wl b ∧ nu ws (nrk c (t, ws, cs) - 1) = nu wl b)
  by_cases lo : c = 102 ∨ c = 108
  · rw [if_pos lo] at hr
    have h1 := hrng.1 lo
    refine fin (by omega) h1 ?_
    have hi : nrk c (t, ws, cs) - 1 < ws.length := by omega
    obtain ⟨j, j1, j2, -⟩ := perm_ta hp hi
    have h2 := (q4 j j1 (by rw [j2]; exact (hcut hi).mpr (by rw [if_pos lo]; omega))).1 lo
    rw [j2, ← r2] at h2
    rcases Nat.lt_or_ge r (nrk c (t, ws, cs) - 1) with z | z
    · exact absurd (hs r _ z hi) h2
    · omega
  · rw [if_neg lo] at hr
    have h1 := hrng.2 lo
    refine fin h1 (by omega) ?_
    have hi : nrk c (t, ws, cs) - 1 < ws.length := by omega
    obtain ⟨j, j1, j2, -⟩ := perm_ta hp hi
    have h2 := (q4 j j1 (by rw [j2]; exact (hcut hi).mpr (by rw [if_neg lo]; omega))).2 lo
    rw [j2, ← r2] at h2
    rcases Nat.lt_or_ge (nrk c (t, ws, cs) - 1) r with z | z
    · exact absurd (hs _ r z r1) h2
    · omega
theorem near_none {wl ws : Ws} (hp : wl.Perm ws) (hs : Srt ws) {c : Nat} (hc : c = 102 ∨ c = 99 ∨ c = 108 ∨ c = 104) {t : List Nat} {cs : Cs} (h : ∀ j, j < wl.length → cand c t (wd wl j) = false) : ¬ (1 ≤ nrk c (t, ws, cs) ∧ nrk c (t, ws, cs) ≤ ws.length) := by
  rintro ⟨h1, h2⟩
  have hi : nrk c (t, ws, cs) - 1 < ws.length := by omega
  obtain ⟨j, j1, j2, -⟩ := perm_ta hp hi
  have h3 := h j j1
  rw [j2] at h3
  have h4 := (near_cut hs hc (t := t) (cs := cs) hi).mpr (by split <;> omega)
  rw [h3] at h4; cases h4
theorem near_end {x : Int32} {wl : Ws} {c : Nat} (h : InvM σ m) (hw : WdsM σ wl) (hp : wl.Perm m.2.1) (hc : c = 102 ∨ c = 99 ∨ c = 108 ∨ c = 104) (hB : Best c m.1 wl wl.length x) (hO : OutM (oNear c m) K) : wX6_near_J179 K σ x := by
  obtain ⟨a1, a2, _, a5, a6, a7, a8, a9⟩ := id h
  have hl := hw.2.1
  unfold oNear at hO
  rw [if_pos hc] at hO
  rcases id hB with ⟨rfl, hn⟩ | ⟨b, b1, rfl, _⟩
  · rw [if_neg (near_none hp a5 hc (cs := m.2.2) hn)] at hO
    refine ⟨fun z => absurd z (by decide), fun _ => ?_⟩
    unfold wX6_near_J188
    exact sX6_bad (e := 1) h (by omega) fun τ h1 h2 => hO.no h1 h2
  · obtain ⟨q1, q2, q3, q4, q5⟩ := near_best hp a5 hl hc (cs := m.2.2) hB (by omega)
    rw [if_pos ⟨q1, q2⟩] at hO
    refine ⟨fun _ => ?_, fun z => absurd (nI_pos' (by omega)) z⟩
    unfold wX6_near_J188
    refine sX6_good h fun τ h1 h2 hc2 => ?_
    have b3 := hw.kept hc2 (by omega) (by omega) (by omega)
    refine sX6_becomes (b3.2.2 b b1).1 (by omega) fun φ f1 f2 => ?_
    rw [nI_clamp (by omega), (f2.1 6 (by omega)).2, (b3.2.2 b b1).2.1]
    refine ⟨vp_in_nI (by omega) (by omega), ?_⟩
    rw [← q4] at f1
    rw [← q5]
    exact hO.ok (h1.text f2 (fun k e => Or.inl e) f1 (a6 _ (by show nrk c m - 1 < _; have : nrk c m ≤ m.2.1.length := q2; have : 1 ≤ nrk c m := q1; omega))) ((f2.1 0 (by omega)).1.trans h2)
theorem sM_near {c : Nat} (h : InvM σ m) (hq : c < 65536) (hO : OutM (oNear c m) K) : wX6_near σ (nI c) K := by
  obtain ⟨a1, a2, ⟨wl, a3, a4⟩, a5, a6, a7, a8, a9⟩ := id h
  have hl := a3.2.1
  have key : ∀ d k x, k + d = wl.length → Best c m.1 wl k x → wX6_near_L4 K σ (nI c) (d + 1) x (nI k) := by
    intro d
    induction d with
    | zero =>
      intro k x hk hB
      have e : k = wl.length := by omega
      subst e
      rw [wX6_near_L4]
      refine pk_le wl.length wl.length (fun _ => ?_) (fun q => by omega) a3.1
      have fin : (c = 102 ∨ c = 99 ∨ c = 108 ∨ c = 104) → wX6_near_J179 K σ x := fun hc => near_end h a3 a4 hc hB hO
      refine pk_eq c 102 (fun e => fin (by omega)) (fun e1 => pk_eq c 99 (fun e => fin (by omega)) (fun e2 => pk_eq c 108 (fun e => fin (by omega)) (fun e3 => pk_eq c 104 (fun e => fin (by omega)) (fun e4 => ?_) rfl rfl (by omega) (by omega)) rfl rfl (by omega) (by omega)) rfl rfl (by omega) (by omega)) rfl rfl (by omega) (by omega)
      unfold oNear at hO
      rw [if_neg (by omega)] at hO
      unfold wX6_near_J188
      exact sX6_bad (e := 0) h (by omega) fun τ h1 h2 => hO.no h1 h2
    | succ d ih =>
      intro k x hk hB
      rw [wX6_near_L4]
      refine pk_le wl.length k (fun _ => by omega) (fun q => sX6_beside (a3.2.2 k q).1 a1 (by omega) fun r hr => ?_) a3.1
      have st : ∀ bit : Int32, bit = (if cand c m.1 (wd wl k) = true then 1 else 0) → wX6_near_J86 K (wX6_near_L4 K σ (nI c) (d + 1)) σ (nI c) x (nI k) bit := fun bit hb => near_step a3 hq q hB hb fun y hy => ih (k + 1) y (by omega) hy
      rw [hr.gt, hr.ge, hr.le, hr.1]
      refine pk_eq c 102 (fun e => ⟨fun z => st 0 ?_, fun z => st 1 ?_⟩) (fun e1 => pk_eq c 99 (fun e => ⟨fun z => st 0 ?_, fun z => st 1 ?_⟩) (fun e2 => pk_eq c 108 (fun e => ⟨fun z => st 0 ?_, fun z => st 1 ?_⟩) (fun e3 => ⟨fun z => st 0 ?_, fun z => st 1 ?_⟩) rfl rfl (by omega) (by omega)) rfl rfl (by omega) (by omega)) rfl rfl (by omega) (by omega)
      · subst e; simp [cand, z]
      · subst e; simp [cand, z]
      · subst e; simp [cand, z]
      · subst e; simp [cand, z]
      · subst e; simp only [cand]; simp [z]
      · subst e
        have z := Classical.not_not.mp z
        simp [cand, z]
      · simp [cand, e1, e2, e3, z]
      · have z := Classical.not_not.mp z
        simp [cand, e1, e2, e3, z]
  exact ⟨_, key wl.length 0 (-1) (by omega) (Or.inl ⟨rfl, fun j hj => by omega⟩)⟩
theorem cB_perm {wl ws : Ws} (hp : wl.Perm ws) (t : List Nat) : cB wl t = cB ws t := hp.countP_eq _
theorem cB_snoc {wl : Ws} {t : List Nat} {k : Nat} (h : k < wl.length) : cB (wl.take (k + 1)) t = cB (wl.take k) t + if preB t (wd wl k) = true then 1 else 0 := countP_snoc (p := fun w => preB t w.1) h
theorem sM_begun (h : InvM σ m) (hO : OutM (oBegun m) K) : wX6_begun σ K := by
  rintro _ rfl
  obtain ⟨g1, g2⟩ := h.zero
  obtain ⟨wl, a3, a4⟩ := g1.2.2.1
  have hl := a3.2.1
  generalize pI σ 0 0 = τ at g1 g2 a3 ⊢
  unfold oBegun at hO
  rw [← cB_perm a4] at hO
  have key : ∀ d k, k + d = wl.length → wX6_begun_L9 K τ (d + 1) (nI (cB (wl.take k) m.1)) (nI k) := by
    intro d
    induction d with
    | zero =>
      intro k hk
      rw [wX6_begun_L9]
      refine pk_le wl.length k (fun _ => by rw [List.take_of_length_le (by omega)]; exact hO.ok g1 g2) (fun q => by omega) a3.1
    | succ d ih =>
      intro k hk
      rw [wX6_begun_L9]
      refine pk_le wl.length k (fun _ => by omega) (fun q => sX6_isBegun (a3.2.2 k q).1 g1.1 (by omega) ?_) a3.1
      have e := cB_snoc (t := m.1) q
      have e2 := ih (k + 1) (by omega)
      rw [e] at e2
      rw [bool01, nI_1, nI_1]
      refine ⟨fun z => ?_, fun z => ?_⟩
      · simp only [z] at e2; exact e2
      · have z : preB m.1 (wd wl k) = true := by simpa using z
        simp only [z, if_true] at e2
        exact e2
  exact ⟨_, key wl.length 0 (by omega)⟩
theorem sB_perm {wl ws : Ws} (hp : wl.Perm ws) (t : List Nat) : sB wl t = sB ws t := by
  unfold sB
  exact ((hp.filter _).map _).sum_nat
theorem sM_sum (h : InvM σ m) (hO : OutM (oSum m) K) : wX6_sum σ K := by
  rintro _ rfl
  obtain ⟨g1, g2⟩ := h.zero
  obtain ⟨wl, a3, a4⟩ := g1.2.2.1
  have hl := a3.2.1
  generalize pI σ 0 0 = τ at g1 g2 a3 ⊢
  unfold oSum at hO
  rw [← sB_perm a4] at hO
  have key : ∀ d k, k + d = wl.length → wX6_sum_L9 K τ (d + 1) (nI (sB (wl.take k) m.1)) (nI k) := by
    intro d
    induction d with
    | zero =>
      intro k hk
      rw [wX6_sum_L9]
      refine pk_le wl.length k (fun _ => by rw [List.take_of_length_le (by omega)]; exact hO.ok g1 g2) (fun q => by omega) a3.1
    | succ d ih =>
      intro k hk
      rw [wX6_sum_L9]
      refine pk_le wl.length k (fun _ => by omega) (fun q => sX6_isBegun (a3.2.2 k q).1 g1.1 (by omega) ?_) a3.1
      have e := sB_snoc (t := m.1) q
      have e2 := ih (k + 1) (by omega)
      rw [e] at e2
      rw [bool01, nI_1]
      refine ⟨fun z => ?_, fun z => ?_⟩
      · simp only [z] at e2; exact e2
      · have z : preB m.1 (wd wl k) = true := by simpa using z
        simp only [z, if_true] at e2
        rw [nI_clamp (by omega), (a3.2.2 k q).2.1, nI_add]
        refine ⟨vp_in_nI (by omega) (by omega), ?_⟩
        rintro _ rfl
        exact e2
  exact ⟨_, key wl.length 0 (by omega)⟩
/-- those that begin with t and are less than a -/
def cBL (wl : Ws) (t a : List Nat) : Nat := wl.countP (fun w => preB t w.1 && lt w.1 a)
theorem cBL_take {ws : Ws} (hs : Srt ws) {t : List Nat} {i : Nat} (hi : i < ws.length) : cBL ws t (wd ws i) = cB (ws.take i) t := by
  unfold cBL cB
  have e0 : List.countP (fun w => preB t w.1 && lt w.1 (wd ws i)) ws = List.countP (fun w => preB t w.1 && lt w.1 (wd ws i)) (ws.take i) + List.countP (fun w => preB t w.1 && lt w.1 (wd ws i)) (ws.drop i) := by
    rw [← List.countP_append, List.take_append_drop]
  have e1 : List.countP (fun w => preB t w.1 && lt w.1 (wd ws i)) (ws.take i) = List.countP (fun w => preB t w.1) (ws.take i) := by
    refine List.countP_congr fun w hw => ?_
    obtain ⟨j, j1, j2, -⟩ := wd_of_mem hw
    rw [List.length_take] at j1
    rw [wd_take (by omega)] at j2
    have := hs j i (by omega) hi
    rw [j2] at this
    simp [this]
  have e2 : List.countP (fun w => preB t w.1 && lt w.1 (wd ws i)) (ws.drop i) = 0 := by
    rw [List.countP_eq_zero]
    intro w hw
    obtain ⟨j, j1, j2, -⟩ := wd_of_mem hw
    rw [List.length_drop] at j1
    rw [wd_drop] at j2
    have := hs.le (i := i) (j := i + j) (by omega) (by omega)
    rw [j2] at this
    simp [this]
  rw [e0, e1, e2, Nat.add_zero]
theorem bAt_lt : ∀ {ws : Ws} {t : List Nat} {n : Nat}, bAt ws t n < ws.length → preB t (wd ws (bAt ws t n)) = true ∧ cB (ws.take (bAt ws t n)) t = n
  | [], _, _, h => by simp at h
  | w :: ws, t, n, h => by
    unfold bAt at h ⊢
    by_cases e : preB t w.1 = true
    · rw [if_pos e] at h ⊢
      by_cases z : n = 0
      · rw [if_pos z, wd_0, z]; exact ⟨e, rfl⟩
      · rw [if_neg z] at h ⊢
        have := bAt_lt (ws := ws) (t := t) (n := n - 1) (by simpa using h)
        rw [wd_s, List.take_succ_cons, cB_cons, if_pos e]
        exact ⟨this.1, by omega⟩
    · rw [if_neg e] at h ⊢
      have := bAt_lt (ws := ws) (t := t) (n := n) (by simpa using h)
      rw [wd_s, List.take_succ_cons, cB_cons, if_neg e]
      exact ⟨this.1, by omega⟩
def Hit (v : Int32) (t : List Nat) (wl : Ws) (j : Nat) : Prop := preB t (wd wl j) = true ∧ nI (cBL wl t (wd wl j)) = v
theorem cBL_le {wl : Ws} {t a : List Nat} : cBL wl t a ≤ wl.length := countP_le wl
theorem sM_begunAt {v : Int32} (h : InvM σ m) (hO : OutM (oBegunAt v m) K) : wX6_begunAt σ v K := by
  obtain ⟨a1, a2, ⟨wl, a3, a4⟩, a5, a6, a7, a8, a9⟩ := id h
  have hl := a3.2.1
  have hll := a4.length_eq
  have fin : ∀ x : Int32, ((x = -1 ∧ ∀ j, j < wl.length → ¬ Hit v m.1 wl j) ∨ ∃ b, b < wl.length ∧ x = nI b ∧ Hit v m.1 wl b) → ((0 ≤ x → wX6_begunAt_J87 K σ x 0) ∧ (¬ 0 ≤ x → wX6_begunAt_J87 K σ x 1)) := by
    rintro x (⟨rfl, hn⟩ | ⟨b, b1, rfl, b2, b3⟩)
    · refine ⟨fun z => absurd z (by decide), fun _ => ?_⟩
      unfold oBegunAt at hO
      rw [if_neg (by
        rintro ⟨z1, z2⟩
        obtain ⟨ev, lv, iv⟩ := of_nn z1
        obtain ⟨y1, y2⟩ := bAt_lt z2
        obtain ⟨j, j1, j2, -⟩ := perm_ta a4 z2
        refine hn j j1 ⟨by rw [j2]; exact y1, ?_⟩
        rw [show cBL wl m.1 (wd wl j) = cBL m.2.1 m.1 (wd wl j) from a4.countP_eq _, j2, cBL_take a5 z2, y2]
        exact ev.symm)] at hO
      unfold wX6_begunAt_J87
      exact sX6_bad (e := 0) h (by omega) fun τ h1 h2 => hO.no h1 h2
    · refine ⟨fun _ => ?_, fun z => absurd (nI_pos' (by omega)) z⟩
      obtain ⟨r1, r2, r3⟩ := perm_rank a4 a5 b1
      generalize cL wl (wd wl b) = r at r1 r2 r3
      have e1 : cBL wl m.1 (wd wl b) = cB (m.2.1.take r) m.1 := by
        rw [show cBL wl m.1 (wd wl b) = cBL m.2.1 m.1 (wd wl b) from a4.countP_eq _, ← r2, cBL_take a5 r1]
      have e3 := cBL_le (wl := wl) (t := m.1) (a := wd wl b)
      have e2 : bAt m.2.1 m.1 (nt v) = r := by
        refine bAt_eq r1 (by rw [r2]; exact b2) ?_
        rw [← b3, nt_nI (by omega), e1]
      unfold oBegunAt at hO
      rw [if_pos ⟨by rw [← b3, nI_toInt (by omega)]; omega, by rw [e2]; exact r1⟩, e2] at hO
      unfold wX6_begunAt_J87
      refine sX6_good h fun τ h1 h2 hc2 => ?_
      have b3 := a3.kept hc2 (by omega) (by omega) (by omega)
      refine sX6_becomes (b3.2.2 b b1).1 (by omega) fun φ f1 f2 => ?_
      rw [nI_clamp (by omega), (f2.1 6 (by omega)).2, (b3.2.2 b b1).2.1]
      refine ⟨vp_in_nI (by omega) (by omega), ?_⟩
      rw [← r2] at f1
      rw [← r3]
      exact hO.ok (h1.text f2 (fun k e => Or.inl e) f1 (a6 _ r1)) ((f2.1 0 (by omega)).1.trans h2)
  have outer : ∀ d k x, k + d = wl.length → ((x = -1 ∧ ∀ j, j < k → ¬ Hit v m.1 wl j) ∨ ∃ b, b < k ∧ x = nI b ∧ Hit v m.1 wl b) → wX6_begunAt_L4 K σ v (d + 1) x (nI k) := by
    intro d
    induction d with
    | zero =>
      intro k x hk hx
      rw [wX6_begunAt_L4]
      refine pk_le wl.length k (fun _ => fin x (by rwa [show k = wl.length by omega] at hx)) (fun q => by omega) a3.1
    | succ d ih =>
      intro k x hk hx
      rw [wX6_begunAt_L4]
      refine pk_le wl.length k (fun _ => by omega) (fun q => ?_) a3.1
      have no : ¬ Hit v m.1 wl k → wX6_begunAt_L4 K σ v (d + 1) x (nI (k + 1)) := fun hn => ih (k + 1) x (by omega) (by
        rcases hx with ⟨x1, x2⟩ | ⟨b, b1, b2⟩
        · exact Or.inl ⟨x1, fun j hj => by
            by_cases e : j = k
            · rw [e]; exact hn
            · exact x2 j (by omega)⟩
        · exact Or.inr ⟨b, by omega, b2⟩)
      have yes : Hit v m.1 wl k → wX6_begunAt_L4 K σ v (d + 1) (nI k) (nI (k + 1)) := fun hy => ih (k + 1) (nI k) (by omega) (Or.inr ⟨k, by omega, rfl, hy⟩)
      have inner : ∀ e j, j + e = wl.length → wX6_begunAt_L18 K (wX6_begunAt_L4 K σ v (d + 1)) σ v x (nI k) (e + 1) (nI (cBL (wl.take j) m.1 (wd wl k))) (nI j) := by
        intro e
        induction e with
        | zero =>
          intro j hj
          rw [wX6_begunAt_L18, nI_1]
          refine pk_le wl.length j (fun _ => sX6_isBegun (a3.2.2 k q).1 a1 (by omega) ?_) (fun q => by omega) a3.1
          rw [List.take_of_length_le (by omega), bool01]
          refine ⟨fun z => no (fun y => by rw [y.1] at z; cases z), fun z => ⟨fun y => yes ⟨by simpa using z, y⟩, fun y => no (fun w => y w.2)⟩⟩
        | succ e ih2 =>
          intro j hj
          rw [wX6_begunAt_L18, nI_1]
          refine pk_le wl.length j (fun _ => by omega) (fun q2 => sX6_isBegun (a3.2.2 j q2).1 a1 (by omega) ?_) a3.1
          have e1 : cBL (wl.take (j + 1)) m.1 (wd wl k) = cBL (wl.take j) m.1 (wd wl k) + if (preB m.1 (wd wl j) && lt (wd wl j) (wd wl k)) = true then 1 else 0 := countP_snoc (p := fun w => preB m.1 w.1 && lt w.1 (wd wl k)) q2
          have e2 := ih2 (j + 1) (by omega)
          rw [e1] at e2
          rw [bool01, nI_1 j]
          refine ⟨fun z => ?_, fun z => sX6_isLess (a3.2.2 j q2).1 (a3.2.2 k q).1 (by omega) (by omega) ?_⟩
          · simp only [z, Bool.false_and] at e2; exact e2
          · have z : preB m.1 (wd wl j) = true := by simpa using z
            rw [bool01, nI_1]
            refine ⟨fun y => ?_, fun y => ?_⟩
            · simp only [y, Bool.and_false] at e2; exact e2
            · have y : lt (wd wl j) (wd wl k) = true := by simpa using y
              simp only [y, z, Bool.and_self, if_true] at e2; exact e2
      exact ⟨_, inner wl.length 0 (by omega)⟩
  exact ⟨_, outer wl.length 0 (-1) (by omega) (Or.inl ⟨rfl, fun j hj => by omega⟩)⟩
theorem filter_none {ws : Ws} {t : List Nat} (h : ∀ i, i < ws.length → preB t (wd ws i) = false) : ws.filter (fun w => !preB t w.1) = ws ∧ cB ws t = 0 := by
  constructor
  · rw [List.filter_eq_self]
    intro w hw
    obtain ⟨i, hi, e, -⟩ := wd_of_mem hw
    have := h i hi
    rw [e] at this
    simp [this]
  · unfold cB
    rw [List.countP_eq_zero]
    intro w hw
    obtain ⟨i, hi, e, -⟩ := wd_of_mem hw
    have := h i hi
    rw [e] at this
    simp [this]
theorem sM_gone (h : InvM σ m) (hO : OutM (oGone m) K) : wX6_gone σ K := by
  rintro _ rfl
  obtain ⟨g1, g2⟩ := h.zero
  obtain ⟨a1, a2, ⟨wl, a3, a4⟩, a5, a6, a7, a8, a9⟩ := id g1
  have hl := a3.2.1
  generalize pI σ 0 0 = τ0 at g1 g2 a1 a3 a8 ⊢
  rintro _ rfl
  unfold oGone at hO
  have key : ∀ k (l : Ws) (c : Nat) (τ : St), k ≤ l.length → l.length ≤ 24 → WdsM τ l → (∀ i, k ≤ i → i < l.length → preB m.1 (wd l i) = false) → (l.filter (fun w => !preB m.1 w.1)).Perm (m.2.1.filter (fun w => !preB m.1 w.1)) → cB l m.1 + c = cB m.2.1 m.1 → Chg (fun k => k = 2 ∨ k = 5 ∨ k = 6) τ0 τ → wX6_gone_L14 K (k + 1) τ (nI c) (nI k - 1) := by
    intro k
    induction k with
    | zero =>
      intro l c τ _ _ hw hn hp hcb hc
      rw [wX6_gone_L14]
      refine ⟨fun _ => ?_, fun q => absurd ((m1_neg (by omega)).mpr rfl) q⟩
      obtain ⟨f1, f2⟩ := filter_none (t := m.1) fun i hi => hn i (Nat.zero_le _) hi
      rw [f1] at hp
      rw [f2, Nat.zero_add] at hcb
      rw [hcb]
      exact hO.ok (g1.words hc hw hp (Srt_filter a5) (all_mem.mpr fun w hw => all_mem.mp a6 w ((List.mem_filter.mp hw).1)) (all_mem (P := fun w => 1 ≤ w.length ∧ w.length ≤ 10).mpr fun w hw => all_mem (P := fun w => 1 ≤ w.length ∧ w.length ≤ 10).mp a7 w ((List.mem_filter.mp hw).1))) ((hc.1 0 (by omega)).1.trans g2)
    | succ k ih =>
      intro l c τ hk hll hw hn hp hcb hc
      rw [wX6_gone_L14]
      refine ⟨fun q => absurd ((m1_neg (by omega)).mp q) (by omega), fun _ => ?_⟩
      have em : nI k + -1 = nI k - 1 := (Int32.sub_eq_add_neg _ _).symm
      rw [nI_m1 (by omega), show k + 1 - 1 = k by omega, em]
      refine sX6_isBegun (hw.2.2 k (by omega)).1 (a1.kept hc (by omega)) (by omega) ?_
      rw [bool01, nI_1]
      refine ⟨fun z => ih l c τ (by omega) hll hw (fun i h1 h2 => ?_) hp hcb hc, fun z => ?_⟩
      · by_cases e : i = k
        · rw [e]; exact z
        · exact hn i (by omega) h2
      · have z : preB m.1 (wd l k) = true := by simpa using z
        refine sX6_goes hw (by omega) fun υ u1 u2 => ih (goW l k) (c + 1) υ (by rw [goW_len]; omega) (by rw [goW_len]; omega) u1 (fun i h1 h2 => ?_) ?_ ?_ (hc.tr u2)
        · rw [goW_len] at h2
          rw [(goW_at h2).1]
          by_cases e : i = k
          · rw [if_pos e]; exact hn _ (by omega) (by omega)
          · rw [if_neg e]; exact hn i (by omega) (by omega)
        · have := (goW_perm (wl := l) (w := k) (by omega)).filter (fun w => !preB m.1 w.1)
          rw [List.filter_append] at this
          have e : List.filter (fun w => !preB m.1 w.1) [(wd l k, nu l k)] = [] := by simp [z]
          rw [e, List.append_nil] at this
          exact this.trans hp
        · have := cB_perm (goW_perm (wl := l) (w := k) (by omega)) m.1
          unfold cB at this hcb ⊢
          rw [List.countP_append] at this
          have e : List.countP (fun w => preB m.1 w.1) [(wd l k, nu l k)] = 1 := by simp [z]
          rw [e] at this
          omega
  rw [a3.1]
  refine ⟨_, key wl.length wl 0 τ0 (Nat.le_refl _) hl a3 (fun i h1 h2 => by omega) (a4.filter _) (by rw [Nat.add_zero]; exact cB_perm a4 _) Chg.rf⟩
end MDL
