/-! THE REFERENCE'S CALLS: isTrue, checksum -/
theorem hi_le {r s : Nat} (hr : r < 2 ^ 30) (hs : s < 2 ^ 30) : nI r ≤ nI s - 1 ↔ r + 1 ≤ s := by
  rw [Int32.le_iff_toInt_le, nI_toInt (by omega), show nI s - 1 = nI s - nI 1 from rfl, pk_sub_toInt hs (by omega)]
  omega
theorem like_pre {a t : List Nat} {s : Nat} (hs : s ≤ t.length) : s ≤ lcp a t ↔ Pre (t.take s) a := by
  have hl := lcp_le a t
  have ht : (t.take s).length = s := by rw [List.length_take]; omega
  rw [pre_iff, ht]
  constructor
  · intro h
    exact ⟨by omega, fun k hk => by rw [gd_take hk]; exact (lcp_gd a t k (by omega)).symm⟩
  · rintro ⟨h1, h2⟩
    exact lcp_ge h1 hs fun j hj => by
      have := h2 j hj
      rw [gd_take hj] at this
      exact this.symm
theorem like_lt {a t : List Nat} {s : Nat} (hs : s ≤ t.length) (hn : ¬ s ≤ lcp a t) : lt a (t.take s) = true ↔ lcp a t = a.length ∨ gd a (lcp a t) < gd t (lcp a t) := by
  have hl := lcp_le a t
  have ht : (t.take s).length = s := by rw [List.length_take]; omega
  have e : lcp a (t.take s) = lcp a t := lcp_eq (by omega) (by omega) (fun j hj => by rw [gd_take (by omega)]; exact lcp_gd a t j hj) (by
    by_cases z : lcp a t = a.length
    · exact Or.inl z
    · exact Or.inr (Or.inr (by rw [gd_take (by omega)]; exact lcp_stop a t (by omega) (by omega))))
  rw [lt_lcp, e, ht, gd_take (by omega)]
  omega
section MDL
variable {σ : St} {m : Stt} {K : Int32 → St → Prop}
theorem side_no {a t : List Nat} {s k : Nat} {x2 x3 x4 x5 : Int32} (hw : WrdM σ k a) (ht : TxtM σ t) (hk : k < 24) (hs : s ≤ t.length) (hn : ¬ s ≤ lcp a t) {K : Int32 → Prop} {B : Int32 → Int32 → Int32 → Int32 → Int32 → Prop} (hB : B x2 x3 x4 (if lt a (t.take s) = true then x5 + 1 else x5) (nI (k + 1))) : wX6_isSideBySide_J52 K B σ (nI s) x2 x3 x4 x5 (nI k) 0 := by
  have hl := lcp_le a t
  have ha := hw.2.1
  have htl := ht.2.1
  have hlt := like_lt hs hn
  unfold wX6_isSideBySide_J52
  rw [nI_1, nI_x10]
  refine bit0 (sX6_like0 hw ht hk ?_)
  rw [nI_clamp (n := k) (by omega)]
  refine ⟨vp_in_nI (by omega) (by omega), pk_eq (lcp a t) a.length (fun e => ?_) (fun e => sX6_like0 hw ht hk (pk_le s (lcp a t) (fun z => absurd z hn) (fun z => sX6_like0 hw ht hk ?_))) rfl hw.1 (by omega) (by omega)⟩
  · rw [if_pos (hlt.mpr (Or.inl e))] at hB; exact hB
  · rw [nI_add, nI_clamp (by omega), hw.2.2.1 _ (by omega)]
    refine ⟨vp_in_nI (by omega) (by omega), sX6_like0 hw ht hk ?_⟩
    rw [nI_clamp (by omega), ht.2.2.1 _ (by omega)]
    have b1 := hw.2.2.2 (lcp a t)
    have b2 := ht.2.2.2 (lcp a t)
    have hst := lcp_stop a t (by omega) (by omega)
    refine ⟨vp_in_nI (by omega) (by omega), pk_le (gd t (lcp a t)) (gd a (lcp a t)) (fun w => ?_) (fun w => ?_)⟩
    · rw [if_neg (fun q => by have := hlt.mp q; omega)] at hB; exact hB
    · rw [if_pos (hlt.mpr (Or.inr w))] at hB; exact hB
theorem side_yes {s k r : Nat} {x2 x3 x4 x5 : Int32} (hk : k < 24) (hr : gA σ 9 k = nI r) {K : Int32 → Prop} {B : Int32 → Int32 → Int32 → Int32 → Int32 → Prop} (hB : B (if x2 ≤ nI r then x2 else nI r) (if nI r ≤ x3 then x3 else nI r) (x4 + 1) x5 (nI (k + 1))) : wX6_isSideBySide_J52 K B σ (nI s) x2 x3 x4 x5 (nI k) 1 := by
  have J : ∀ y, y = (if x2 ≤ nI r then x2 else nI r) → wX6_isSideBySide_J81 K B σ (nI s) y x3 (x4 + 1) x5 (nI k) := by
    rintro _ rfl
    unfold wX6_isSideBySide_J81
    rw [nI_clamp (by omega), hr, nI_1]
    refine ⟨vp_in_nI (by omega) (by omega), fun z => ?_, fun z => ⟨vp_in_nI (by omega) (by omega), ?_⟩⟩
    · rw [if_pos z] at hB; exact hB
    · rintro _ rfl
      rw [if_neg z] at hB; exact hB
  unfold wX6_isSideBySide_J52
  rw [nI_clamp (by omega), hr]
  refine bit1 ⟨vp_in_nI (by omega) (by omega), fun z => J _ (by rw [if_pos z]), fun z => ⟨vp_in_nI (by omega) (by omega), ?_⟩⟩
  rintro _ rfl
  exact J _ (by rw [if_neg z])
theorem sX6_isSideBySide {wl ws : Ws} {t : List Nat} {s : Nat} (hw : WdsM σ wl) (hp : wl.Perm ws) (hs : Srt ws) (ho : OrdM σ wl) (ht : TxtM σ t) (hst : s ≤ t.length) {K : Int32 → Prop} (hK : K 1) : wX6_isSideBySide σ (nI s) K := by
  have hl := hw.2.1
  have hll := hp.length_eq
  have htl := ht.2.1
  have hpl : (t.take s).length = s := by rw [List.length_take]; omega
  have rk : ∀ {w}, w < wl.length → (Pre (t.take s) (wd wl w) ↔ cL ws (t.take s) ≤ cL wl (wd wl w) ∧ cL wl (wd wl w) < cL ws (t.take s) + cB ws (t.take s)) := fun {w} hwl => by
    obtain ⟨r1, r2, r3⟩ := perm_rank hp hs hwl
    rw [← r2]
    have e : cL wl (wd ws (cL wl (wd wl w))) = cL wl (wd wl w) := by rw [r2]
    rw [e]
    exact (together_iff hs (t.take s) r1).symm
  have tg := (together hs (t.take s)).1
  have fin : ∀ lo hs2, lo ≤ 24 → hs2 ≤ 24 → (∀ w, w < wl.length → Pre (t.take s) (wd wl w) → lo ≤ cL wl (wd wl w) ∧ cL wl (wd wl w) + 1 ≤ hs2) → (lo = wl.length ∨ ∃ w, w < wl.length ∧ Pre (t.take s) (wd wl w) ∧ lo = cL wl (wd wl w)) → (hs2 = 0 ∨ ∃ w, w < wl.length ∧ Pre (t.take s) (wd wl w) ∧ hs2 = cL wl (wd wl w) + 1) → ¬ cB ws (t.take s) = 0 → lo = cL ws (t.take s) ∧ hs2 = cL ws (t.take s) + cB ws (t.take s) := by
    intro lo hs2 _ _ h1 h2 h3 h4
    have wit : ∀ r, cL ws (t.take s) ≤ r → r < cL ws (t.take s) + cB ws (t.take s) → ∃ w, w < wl.length ∧ cL wl (wd wl w) = r ∧ Pre (t.take s) (wd wl w) := fun r q1 q2 => by
      obtain ⟨w, w1, w2, -⟩ := perm_ta hp (j := r) (by omega)
      have e : cL wl (wd wl w) = r := by rw [w2, cL_perm hp, cL_self hs (by omega)]
      exact ⟨w, w1, e, (rk w1).mpr (by rw [e]; exact ⟨q1, q2⟩)⟩
    obtain ⟨w, w1, w2, w3⟩ := wit (cL ws (t.take s)) (Nat.le_refl _) (by omega)
    obtain ⟨v, v1, v2, v3⟩ := wit (cL ws (t.take s) + cB ws (t.take s) - 1) (by omega) (by omega)
    have a1 := h1 w w1 w3
    have a2 := h1 v v1 v3
    rw [w2] at a1
    rw [v2] at a2
    refine ⟨?_, ?_⟩
    · rcases h2 with e | ⟨u, u1, u2, u3⟩
      · omega
      · have := (rk u1).mp u2
        omega
    · rcases h3 with e | ⟨u, u1, u2, u3⟩
      · omega
      · have := (rk u1).mp u2
        omega
  have key : ∀ d k lo hs2, k + d = wl.length → lo ≤ 24 → hs2 ≤ 24 → (∀ w, w < k → Pre (t.take s) (wd wl w) → lo ≤ cL wl (wd wl w) ∧ cL wl (wd wl w) + 1 ≤ hs2) → (lo = wl.length ∨ ∃ w, w < k ∧ Pre (t.take s) (wd wl w) ∧ lo = cL wl (wd wl w)) → (hs2 = 0 ∨ ∃ w, w < k ∧ Pre (t.take s) (wd wl w) ∧ hs2 = cL wl (wd wl w) + 1) → wX6_isSideBySide_L16 K σ (nI s) (d + 1) (nI lo) (nI hs2 - 1) (nI (cB (wl.take k) (t.take s))) (nI (cL (wl.take k) (t.take s))) (nI k) := by
    intro d
    induction d with
    | zero =>
      intro k lo hs2 hk b1 b2 h1 h2 h3
      have e : k = wl.length := by omega
      subst e
      rw [wX6_isSideBySide_L16, List.take_length, cB_perm hp, cL_perm hp]
      refine pk_le wl.length wl.length (fun _ => pk_eq (cB ws (t.take s)) 0 (fun _ => hK) (fun z => ?_) rfl rfl (by omega) (by omega)) (fun q => by omega) hw.1
      obtain ⟨f1, f2⟩ := fin lo hs2 b1 b2 h1 h2 h3 z
      subst f1 f2
      rw [nI_m1 (by omega), nI_subI (by omega), nI_1]
      refine pk_eq (cL ws (t.take s) + cB ws (t.take s) - 1 - cL ws (t.take s) + 1) (cB ws (t.take s)) (fun _ => pk_eq (cL ws (t.take s)) (cL ws (t.take s)) (fun _ => hK) (fun q => absurd rfl q) rfl rfl (by clear h1 h2 h3; omega) (by clear h1 h2 h3; omega)) (fun q => absurd (by clear h1 h2 h3; omega) q) rfl rfl (by clear h1 h2 h3; omega) (by clear h1 h2 h3; omega)
    | succ d ih =>
      intro k lo hs2 hk b1 b2 h1 h2 h3
      rw [wX6_isSideBySide_L16, nI_clamp (n := k) (by omega)]
      refine pk_le wl.length k (fun _ => by omega) (fun q => ⟨vp_in_nI (by omega) (by omega), ?_⟩) hw.1
      have hwk := (hw.2.2 k q).1
      have h10 := hwk.2.1
      have hlc := lcp_le (wd wl k) t
      have hr := (ho k q).1
      have hrl := (perm_rank hp hs q).1
      have eB := cB_snoc (t := t.take s) q
      have eL := cL_snoc (t := t.take s) q
      have yes : s ≤ lcp (wd wl k) t → wX6_isSideBySide_J52 K (wX6_isSideBySide_L16 K σ (nI s) (d + 1)) σ (nI s) (nI lo) (nI hs2 - 1) (nI (cB (wl.take k) (t.take s))) (nI (cL (wl.take k) (t.take s))) (nI k) 1 := fun z => by
        have hpre := (like_pre (a := wd wl k) hst).mp z
        refine side_yes (by omega) hr ?_
        rw [if_pos (preB_iff.mpr hpre)] at eB
        rw [if_neg (pre_nlt hpre)] at eL
        simp only [Nat.add_zero] at eL
        rw [nI_1, ← eB, ← eL]
        have e1 : (if nI lo ≤ nI (cL wl (wd wl k)) then nI lo else nI (cL wl (wd wl k))) = nI (min lo (cL wl (wd wl k))) := by
          by_cases y : lo ≤ cL wl (wd wl k)
          · rw [if_pos (nI_le y (by omega)), Nat.min_eq_left y]
          · rw [if_neg (nI_ge (by omega) (by omega)), Nat.min_eq_right (by omega)]
        have e2 : (if nI (cL wl (wd wl k)) ≤ nI hs2 - 1 then nI hs2 - 1 else nI (cL wl (wd wl k))) = nI (max hs2 (cL wl (wd wl k) + 1)) - 1 := by
          by_cases y : cL wl (wd wl k) + 1 ≤ hs2
          · rw [if_pos ((hi_le (by omega) (by omega)).mpr y), Nat.max_eq_left y]
          · rw [if_neg (fun w => y ((hi_le (by omega) (by omega)).mp w)), Nat.max_eq_right (by omega), nI_m1 (by omega), Nat.add_sub_cancel]
        rw [e1, e2]
        refine ih (k + 1) _ _ (by omega) (by omega) (by omega) (fun w hw1 hw2 => ?_) (Or.inr ?_) (Or.inr ?_)
        · by_cases e : w = k
          · rw [e]; omega
          · have := h1 w (by omega) hw2
            omega
        · by_cases y : lo ≤ cL wl (wd wl k)
          · rcases h2 with e | ⟨w, w1, w2, w3⟩
            · omega
            · exact ⟨w, by omega, w2, by omega⟩
          · exact ⟨k, by omega, hpre, by omega⟩
        · by_cases y : cL wl (wd wl k) + 1 ≤ hs2
          · rcases h3 with e | ⟨w, w1, w2, w3⟩
            · omega
            · exact ⟨w, by omega, w2, by omega⟩
          · exact ⟨k, by omega, hpre, by omega⟩
      have no : ¬ s ≤ lcp (wd wl k) t → wX6_isSideBySide_J52 K (wX6_isSideBySide_L16 K σ (nI s) (d + 1)) σ (nI s) (nI lo) (nI hs2 - 1) (nI (cB (wl.take k) (t.take s))) (nI (cL (wl.take k) (t.take s))) (nI k) 0 := fun z => by
        have hpre : ¬ Pre (t.take s) (wd wl k) := fun y => z ((like_pre (a := wd wl k) hst).mpr y)
        refine side_no hwk ht (by omega) hst z ?_
        rw [if_neg (fun y => hpre (preB_iff.mp y))] at eB
        simp only [Nat.add_zero] at eB
        have e1 : (if lt (wd wl k) (t.take s) = true then nI (cL (wl.take k) (t.take s)) + 1 else nI (cL (wl.take k) (t.take s))) = nI (cL (wl.take (k + 1)) (t.take s)) := by
          rw [eL]
          by_cases y : lt (wd wl k) (t.take s) = true
          · rw [if_pos y, if_pos y, nI_1]
          · rw [if_neg y, if_neg y, Nat.add_zero]
        rw [e1, ← eB]
        refine ih (k + 1) lo hs2 (by omega) b1 b2 (fun w hw1 hw2 => ?_) ?_ ?_
        · by_cases e : w = k
          · rw [e] at hw2; exact absurd hw2 hpre
          · exact h1 w (by omega) hw2
        · exact h2.imp id fun ⟨w, w1, w2⟩ => ⟨w, by omega, w2⟩
        · exact h3.imp id fun ⟨w, w1, w2⟩ => ⟨w, by omega, w2⟩
      unfold wX6_isSideBySide_J51
      refine pk_lt (wd wl k).length s (fun z => no (by omega)) (fun z => sX6_like0 hwk ht (by omega) (pk_lt (lcp (wd wl k) t) s (fun y => no (by omega)) (fun y => yes y))) hwk.1
  unfold wX6_isSideBySide
  rintro _ rfl
  rw [hw.1]
  exact ⟨_, key wl.length 0 wl.length 0 (by omega) hl (by omega) (fun w hw1 => by omega) (Or.inl rfl) (Or.inl rfl)⟩
theorem AdS_snoc {ws : Ws} {k : Nat} (hk : 1 ≤ k) (n : Nat) : AdS ws (k + 1) n ↔ AdS ws k n ∨ n = lcp (wd ws (k - 1)) (wd ws k) := by
  constructor
  · rintro ⟨i, h1, h2⟩
    by_cases e : i + 1 = k
    · refine Or.inr ?_
      rw [h2, ← e, Nat.add_sub_cancel]
    · exact Or.inl ⟨i, by omega, h2⟩
  · rintro (⟨i, h1, h2⟩ | h)
    · exact ⟨i, by omega, h2⟩
    · exact ⟨k - 1, by omega, by rw [show k - 1 + 1 = k by omega]; exact h⟩
theorem sX6_areTwins {wl ws : Ws} (hw : WdsM σ wl) (hp : wl.Perm ws) (hs : Srt ws) (ho : OrdM σ wl) {K : Int32 → Prop} (hK : K 1) : wX6_areTwins σ K := by
  have hl := hw.2.1
  have hll := hp.length_eq
  refine pk_le 2 wl.length (fun h2 => ?_) (fun _ => hK) rfl hw.1
  have last : ∀ n, n ≤ 10 → Top (TwS ws) n → ∀ d k b, k + d = wl.length → 1 ≤ k → b ≤ 10 → Top (AdS ws k) b → wX6_areTwins_L66 K σ (nI n) (d + 1) (nI b) (nI k) := by
    intro n hn hT d
    induction d with
    | zero =>
      intro k b hk hk1 hb hA
      rw [wX6_areTwins_L66]
      refine pk_le wl.length k (fun _ => ?_) (fun q => by omega) hw.1
      have e : k = ws.length := by omega
      subst e
      have e := hT.uniq (tw_order hs hA) fun _ => Iff.rfl
      exact pk_eq n b (fun _ => hK) (fun q => absurd e q) rfl rfl (by omega) (by omega)
    | succ d ih =>
      intro k b hk hk1 hb hA
      rw [wX6_areTwins_L66]
      refine pk_le wl.length k (fun _ => by omega) (fun q => ?_) hw.1
      obtain ⟨v, v1, v2, v3, -⟩ := ho.at hp hs (k := k - 1) (by omega)
      obtain ⟨w, w1, w2, w3, -⟩ := ho.at hp hs (k := k) (by omega)
      have q1 := (hw.2.2 v v1).1
      have q2 := (hw.2.2 w w1).1
      rw [v3] at q1
      rw [w3] at q2
      have h10 := q1.2.1
      have hle := (lcp_le (wd ws (k - 1)) (wd ws k)).1
      rw [nI_m1 hk1, nI_clamp (n := k - 1) (by omega), nI_clamp (n := k) (by omega), v2, w2, nI_1]
      have hA2 := hA.add (n := lcp (wd ws (k - 1)) (wd ws k)) (T := AdS ws (k + 1)) fun x => AdS_snoc hk1 x
      refine ⟨vp_in_nI (by omega) (by omega), vp_in_nI (by omega) (by omega), sX6_likeWords q1 q2 (by omega) (by omega) (pk_le (lcp (wd ws (k - 1)) (wd ws k)) b (fun z => ih (k + 1) b (by omega) (by omega) hb ?_) (fun z => ⟨vp_in_nI (by omega) (by omega), vp_in_nI (by omega) (by omega), sX6_likeWords q1 q2 (by omega) (by omega) (ih (k + 1) _ (by omega) (by omega) (by omega) ?_)⟩))⟩
      · rwa [Nat.max_eq_left z] at hA2
      · rwa [Nat.max_eq_right (by omega)] at hA2
  have outer : ∀ d k n, k + d = wl.length → n ≤ 10 → Top (TwM wl k 0) n → wX6_areTwins_L16 K σ 0 (d + 1) (nI n) (nI k) := by
    intro d
    induction d with
    | zero =>
      intro k n hk hn hT
      rw [wX6_areTwins_L16]
      refine pk_le wl.length k (fun _ => ?_) (fun q => by omega) hw.1
      have e : k = wl.length := by omega
      subst e
      exact ⟨_, last n hn (hT.skip fun x => (TwS_perm hp hs x).symm) (wl.length - 1) 1 0 (by omega) (by omega) (by omega) (Top.nil fun x => by rintro ⟨i, i1, -⟩; omega)⟩
    | succ d ih =>
      intro k n hk hn hT
      rw [wX6_areTwins_L16]
      refine pk_le wl.length k (fun _ => by omega) (fun q => ?_) hw.1
      have inner : ∀ e j n, j + e = k → n ≤ 10 → Top (TwM wl k j) n → wX6_areTwins_L27 K (wX6_areTwins_L16 K σ 0 (d + 1)) σ 0 (nI k) (e + 1) (nI n) (nI j) := by
        intro e
        induction e with
        | zero =>
          intro j n hj hn hT
          rw [wX6_areTwins_L27, nI_1]
          refine pk_le k j (fun y => ih (k + 1) n (by omega) hn (hT.skip fun x => TwM_next y x)) (fun y => by omega)
        | succ e ih2 =>
          intro j n hj hn hT
          have q1 := (hw.2.2 j (by omega)).1
          have q2 := (hw.2.2 k q).1
          have h10 := q1.2.1
          have hle := (lcp_le (wd wl j) (wd wl k)).1
          rw [wX6_areTwins_L27, nI_1, nI_1]
          have hT2 := hT.add (n := lcp (wd wl j) (wd wl k)) (T := TwM wl k (j + 1)) fun x => TwM_step (by omega) q x
          refine pk_le k j (fun y => by omega) (fun y => sX6_likeWords q1 q2 (by omega) (by omega) (pk_le (lcp (wd wl j) (wd wl k)) n (fun z => ih2 (j + 1) n (by omega) hn ?_) (fun z => sX6_likeWords q1 q2 (by omega) (by omega) (ih2 (j + 1) _ (by omega) (by omega) ?_))))
          · rwa [Nat.max_eq_left z] at hT2
          · rwa [Nat.max_eq_right (by omega)] at hT2
      exact ⟨_, inner k 0 n (by omega) hn hT⟩
  exact ⟨_, outer wl.length 0 0 (by omega) (by omega) (Top.nil fun n => by rintro ⟨i, j, q1, q2, q3, -⟩; omega)⟩
theorem sM_isTrue (h : InvM σ m) (hK : ∀ τ, InvM τ m → gI τ 0 = nI 0 → K 1 τ) : wX6_isTrue σ K := by
  have hl := h.len
  rintro _ rfl
  obtain ⟨g1, g2⟩ := h.zero
  obtain ⟨a1, a2, ⟨wl, a3, a4⟩, a5, a6, a7, a8, a9⟩ := id g1
  refine sX6_orders a3 a4 a5 fun τ t1 t2 => ?_
  have ht := g1.free t1 fun k hk => by unfold FreeM; omega
  have b3 := a3.kept t1 (by omega) (by omega) (by omega)
  have fin : wX6_isTrue_J41 K τ := sX6_areTwins b3 a4 a5 t2 (hK τ ht ((t1.1 0 (by omega)).1.trans g2))
  have key : ∀ d k, k + d = m.1.length + 1 → wX6_isTrue_L11 K τ (d + 1) (nI k) := by
    intro d
    induction d with
    | zero =>
      intro k hk
      rw [wX6_isTrue_L11]
      exact pk_lt m.1.length k (fun _ => fin) (fun q => by omega) ht.1.1
    | succ d ih =>
      intro k hk
      rw [wX6_isTrue_L11]
      refine pk_lt m.1.length k (fun _ => fin) (fun q => pk_lt 10 k (fun _ => fin) (fun q2 => sX6_isSideBySide b3 a4 a5 t2 ht.1 q (bit1 ?_))) ht.1.1
      rw [nI_1]
      exact ih (k + 1) (by omega)
  exact ⟨_, key (m.1.length + 1) 0 (by omega)⟩
theorem sM_checksum (h : InvM σ m) {K : Int64 → St → Prop} (hK : ∀ τ, InvM τ m → gI τ 0 = nI 0 → K (oSumAll m) τ) : wX6_checksum σ K := by
  have hl := h.len
  rintro _ rfl
  obtain ⟨g1, g2⟩ := h.zero
  obtain ⟨a1, a2, ⟨wl, a3, a4⟩, a5, a6, a7, a8, a9⟩ := id g1
  have hwl := a3.2.1
  have hll := a4.length_eq
  have text : (wX6_orders (pI σ 0 0) fun τ => ∃ n, wX6_checksum_L45 K τ n (addS 7 m.1) 0) → ∀ d k, k + d = m.1.length → wX6_checksum_L11 K (pI σ 0 0) (d + 1) (addS 7 (m.1.take k)) (nI k) := by
    intro hfin d
    induction d with
    | zero =>
      intro k hk
      rw [wX6_checksum_L11]
      refine pk_le m.1.length k (fun _ => ?_) (fun q => by omega) a1.1
      rw [List.take_of_length_le (by omega)]
      exact hfin
    | succ d ih =>
      intro k hk
      rw [wX6_checksum_L11]
      refine pk_le m.1.length k (fun _ => by omega) (fun q => ?_) a1.1
      have := a1.2.2.2 k
      rw [nI_clamp (by omega), a1.2.2.1 k q, nI_l (by omega), nI_1]
      refine ⟨vp_in_nI (by omega) (by omega), ?_⟩
      rintro _ rfl
      rw [← addS_snoc 7 m.1 k q]
      exact ih (k + 1) (by omega)
  refine ⟨_, text ?_ m.1.length 0 (by omega)⟩
  refine sX6_orders a3 a4 a5 fun τ t1 t2 => ?_
  have ht := g1.free t1 fun k hk => by unfold FreeM; omega
  have b3 := a3.kept t1 (by omega) (by omega) (by omega)
  have b8 := ht.2.2.2.2.2.2.1
  have codes : ∀ d c, c + d = 6 → wX6_checksum_L126 K τ (d + 1) (addC m.2.2 (addW (addS 7 m.1) m.2.1) c) (nI c) := by
    intro d
    induction d with
    | zero =>
      intro c hc
      rw [wX6_checksum_L126]
      refine pk_le 6 c (fun _ => ?_) (fun q => by omega)
      rw [show c = 6 by omega]
      exact hK τ ht ((t1.1 0 (by omega)).1.trans g2)
    | succ d ih =>
      intro c hc
      rw [wX6_checksum_L126]
      refine pk_le 6 c (fun _ => by omega) (fun q => ?_)
      obtain ⟨c1, c2, c3, c4, c5⟩ := b8 c q
      rw [nI_clamp (by omega), c1, nI_l (by omega)]
      refine ⟨vp_in_nI (by omega) (by omega), ?_⟩
      rintro _ rfl
      have inner : ∀ e k, k + e = (m.2.2 c).length → wX6_checksum_L149 K (wX6_checksum_L126 K τ (d + 1)) τ (nI c) (e + 1) (addS (31 * addC m.2.2 (addW (addS 7 m.1) m.2.1) c + lN (m.2.2 c).length) ((m.2.2 c).take k)) (nI k) := by
        intro e
        induction e with
        | zero =>
          intro k hk
          rw [wX6_checksum_L149, nI_clamp (n := c) (by omega)]
          refine ⟨vp_in_nI (by omega) (by omega), pk_le (m.2.2 c).length k (fun _ => ?_) (fun q => by omega) c1⟩
          rw [List.take_of_length_le (by omega), nI_1]
          exact ih (c + 1) (by omega)
        | succ e ih2 =>
          intro k hk
          rw [wX6_checksum_L149, nI_clamp (n := c) (by omega)]
          refine ⟨vp_in_nI (by omega) (by omega), pk_le (m.2.2 c).length k (fun _ => by omega) (fun q2 => ?_) c1⟩
          have := c5 k
          rw [nI_x3, nI_add, nI_clamp (by omega), c4 k q2, nI_l (by omega), nI_1]
          refine ⟨vp_in_nI (by omega) (by omega), ?_⟩
          rintro _ rfl
          rw [← addS_snoc _ _ k q2]
          exact ih2 (k + 1) (by omega)
      exact ⟨_, inner (m.2.2 c).length 0 (by omega)⟩
  have words : ∀ d k, k + d = m.2.1.length → wX6_checksum_L45 K τ (d + 1) (addW (addS 7 m.1) (m.2.1.take k)) (nI k) := by
    intro d
    induction d with
    | zero =>
      intro k hk
      rw [wX6_checksum_L45]
      refine pk_le m.2.1.length k (fun _ => ?_) (fun q => by omega) (by rw [b3.1, hll])
      rw [List.take_of_length_le (by omega)]
      exact ⟨_, codes 6 0 (by omega)⟩
    | succ d ih =>
      intro k hk
      rw [wX6_checksum_L45]
      refine pk_le m.2.1.length k (fun _ => by omega) (fun q => ?_) (by rw [b3.1, hll])
      obtain ⟨w, w1, w2, w3, w4⟩ := t2.at a4 a5 q
      have hw := b3.2.2 w w1
      rw [w3, w4] at hw
      have h10 := hw.1.2.1
      rw [nI_clamp (by omega), w2]
      refine ⟨vp_in_nI (by omega) (by omega), ?_⟩
      rintro _ rfl
      have inner : ∀ e j, j + e = (wd m.2.1 k).length → wX6_checksum_L64 K (wX6_checksum_L45 K τ (d + 1)) τ (nI k) (nI w) (e + 1) (addS (addW (addS 7 m.1) (m.2.1.take k)) ((wd m.2.1 k).take j)) (nI j) := by
        intro e
        induction e with
        | zero =>
          intro j hj
          rw [wX6_checksum_L64, nI_clamp (n := w) (by omega)]
          refine ⟨vp_in_nI (by omega) (by omega), pk_le (wd m.2.1 k).length j (fun _ => ⟨vp_in_nI (by omega) (by omega), ?_⟩) (fun q => by omega) hw.1.1⟩
          have := hw.2.2
          rw [List.take_of_length_le (l := wd m.2.1 k) (by omega), hw.2.1, nI_l (by omega), nI_1]
          rintro _ rfl
          rw [← addW_snoc q]
          exact ih (k + 1) (by omega)
        | succ e ih2 =>
          intro j hj
          rw [wX6_checksum_L64, nI_clamp (n := w) (by omega)]
          refine ⟨vp_in_nI (by omega) (by omega), pk_le (wd m.2.1 k).length j (fun _ => by omega) (fun q2 => ?_) hw.1.1⟩
          have := hw.1.2.2.2 j
          rw [nI_x10, nI_add, nI_clamp (by omega), hw.1.2.2.1 j q2, nI_l (by omega), nI_1]
          refine ⟨vp_in_nI (by omega) (by omega), ?_⟩
          rintro _ rfl
          rw [← addS_snoc _ _ j q2]
          exact ih2 (j + 1) (by omega)
      exact ⟨_, inner (wd m.2.1 k).length 0 (by omega)⟩
  exact ⟨_, words m.2.1.length 0 (by omega)⟩
end MDL
