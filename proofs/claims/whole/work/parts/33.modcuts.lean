/-! THE REFERENCE'S CALLS: longest, shared, twin, pieces, cuts, fewest -/
theorem LgS_perm {wl ws : Ws} (hp : wl.Perm ws) {s : List Nat} (n : Nat) : LgS wl s n ↔ LgS ws s n := by
  constructor
  · rintro ⟨i, hi, h1, h2⟩
    obtain ⟨j, j1, j2, -⟩ := perm_at hp hi
    exact ⟨j, j1, by rw [j2]; exact h1, by rw [j2]; exact h2⟩
  · rintro ⟨i, hi, h1, h2⟩
    obtain ⟨j, j1, j2, -⟩ := perm_ta hp hi
    exact ⟨j, j1, by rw [j2]; exact h1, by rw [j2]; exact h2⟩
theorem lgF_perm {wl ws : Ws} (hp : wl.Perm ws) (s : List Nat) : lgF wl s = lgF ws s := (lgF_top wl s).uniq (lgF_top ws s) fun n => LgS_perm hp n
theorem pre_lcp {a t : List Nat} : Pre a t ↔ lcp a t = a.length := Iff.rfl
theorem sX6_longestAt {σ : St} {wl ws : Ws} {t : List Nat} {p : Nat} (hw : WdsM σ wl) (hq : wl.Perm ws) (ht : TxtM σ t) (hp : p ≤ t.length) {K : Int32 → Prop} (hK : K (nI (lgL ws t p))) : wX6_longestAt σ (nI p) K := by
  have hl := hw.2.1
  unfold lgL at hK
  rw [← lgF_perm hq] at hK
  have key : ∀ d k m, k + d = wl.length → m ≤ 10 → Top (LgS (wl.take k) (t.drop p)) m → wX6_longestAt_L4 K σ (nI p) (d + 1) (nI m) (nI k) := by
    intro d
    induction d with
    | zero =>
      intro k m hk hm hT
      rw [wX6_longestAt_L4]
      refine pk_le wl.length k (fun _ => ?_) (fun q => by omega) hw.1
      rw [List.take_of_length_le (by omega)] at hT
      rwa [(lgF_top wl (t.drop p)).uniq hT fun _ => Iff.rfl] at hK
    | succ d ih =>
      intro k m hk hm hT
      rw [wX6_longestAt_L4]
      refine pk_le wl.length k (fun _ => by omega) (fun q => sX6_like (hw.2.2 k q).1 ht (by omega) hp ?_) hw.1
      have hwk := (hw.2.2 k q).1
      have h10 := hwk.2.1
      have hle := (lcp_le (wd wl k) (t.drop p)).1
      rw [nI_clamp (by omega), hwk.1, nI_1]
      refine ⟨vp_in_nI (by omega) (by omega), pk_eq (lcp (wd wl k) (t.drop p)) (wd wl k).length (fun e => ⟨vp_in_nI (by omega) (by omega), pk_le (wd wl k).length m (fun z => ih (k + 1) m (by omega) hm ?_) (fun z => ⟨vp_in_nI (by omega) (by omega), ?_⟩)⟩) (fun e => ih (k + 1) m (by omega) hm (hT.skip fun n => ?_)) rfl rfl (by omega) (by omega)⟩
      · have := hT.add (n := (wd wl k).length) (T := LgS (wl.take (k + 1)) (t.drop p)) fun n => by
          rw [LgS_snoc q]
          exact ⟨fun a => a.imp id And.right, fun a => a.imp id fun b => ⟨e, b⟩⟩
        rwa [Nat.max_eq_left z] at this
      · rintro _ rfl
        refine ih (k + 1) _ (by omega) h10 ?_
        have := hT.add (n := (wd wl k).length) (T := LgS (wl.take (k + 1)) (t.drop p)) fun n => by
          rw [LgS_snoc q]
          exact ⟨fun a => a.imp id And.right, fun a => a.imp id fun b => ⟨e, b⟩⟩
        rwa [Nat.max_eq_right (by omega)] at this
      · rw [LgS_snoc q]
        exact ⟨fun a => a.elim id fun b => absurd b.1 e, Or.inl⟩
  exact ⟨_, key wl.length 0 0 (by omega) (by omega) (Top.nil fun n => by rintro ⟨i, hi, -⟩; simp at hi)⟩
def TwM (wl : Ws) (a b n : Nat) : Prop := ∃ i j, i < j ∧ j < wl.length ∧ (j < a ∨ (j = a ∧ i < b)) ∧ n = lcp (wd wl i) (wd wl j)
theorem TwM_step {wl : Ws} {a b : Nat} (h1 : b < a) (h2 : a < wl.length) (n : Nat) : TwM wl a (b + 1) n ↔ TwM wl a b n ∨ n = lcp (wd wl b) (wd wl a) := by
  constructor
  · rintro ⟨i, j, q1, q2, q3, q4⟩
    by_cases e : j = a ∧ i = b
    · rw [e.1, e.2] at q4; exact Or.inr q4
    · exact Or.inl ⟨i, j, q1, q2, by omega, q4⟩
  · rintro (⟨i, j, q1, q2, q3, q4⟩ | e)
    · exact ⟨i, j, q1, q2, by omega, q4⟩
    · exact ⟨b, a, h1, h2, by omega, e⟩
theorem TwM_next {wl : Ws} {a b : Nat} (h : a ≤ b) (n : Nat) : TwM wl (a + 1) 0 n ↔ TwM wl a b n := by
  constructor
  · rintro ⟨i, j, q1, q2, q3, q4⟩
    exact ⟨i, j, q1, q2, by omega, q4⟩
  · rintro ⟨i, j, q1, q2, q3, q4⟩
    exact ⟨i, j, q1, q2, by omega, q4⟩
theorem TwS_perm {wl ws : Ws} (hp : wl.Perm ws) (hs : Srt ws) (n : Nat) : TwM wl wl.length 0 n ↔ TwS ws n := by
  constructor
  · rintro ⟨i, j, q1, q2, _, q4⟩
    obtain ⟨a, a1, a2, -⟩ := perm_at hp (i := i) (by omega)
    obtain ⟨b, b1, b2, -⟩ := perm_at hp (i := j) q2
    rcases Nat.lt_trichotomy a b with z | z | z
    · exact ⟨a, b, z, b1, by rw [a2, b2]; exact q4⟩
    · subst z
      have := perm_inj hp hs (by omega) q2 (a2.symm.trans b2)
      omega
    · exact ⟨b, a, z, a1, by rw [a2, b2, lcp_comm]; exact q4⟩
  · rintro ⟨i, j, q1, q2, q4⟩
    obtain ⟨a, a1, a2, -⟩ := perm_ta hp (j := i) (by omega)
    obtain ⟨b, b1, b2, -⟩ := perm_ta hp (j := j) q2
    rcases Nat.lt_trichotomy a b with z | z | z
    · exact ⟨a, b, z, b1, by omega, by rw [a2, b2]; exact q4⟩
    · subst z
      have := hs.inj (by omega) q2 (a2.symm.trans b2)
      omega
    · exact ⟨b, a, z, a1, by omega, by rw [a2, b2, lcp_comm]; exact q4⟩
section MDL
variable {σ : St} {m : Stt} {K : Int32 → St → Prop}
theorem sM_longest {p : Int32} (h : InvM σ m) (hO : OutM (oLongest p m) K) : wX6_longest σ p K := by
  have hl := h.len
  unfold oLongest at hO
  refine sX6_in (a := 0) (b := m.1.length) rfl (by rw [h.1.1, nI_toInt (by omega)]) (fun ha => bit1 ?_) (fun ha => bit0 ?_)
  · rw [if_pos ha] at hO
    obtain ⟨ep, lp, ip⟩ := of_nn (x := p) (by omega)
    generalize nt p = i at ep ip hO
    subst ep
    unfold wX6_longest_J18
    refine sX6_good h fun τ h1 h2 _ => ?_
    obtain ⟨wl, a3, a4⟩ := h1.2.2.1
    exact sX6_longestAt a3 a4 h1.1 (by omega) (hO.ok h1 h2)
  · rw [if_neg ha] at hO
    unfold wX6_longest_J18
    exact sX6_bad (e := 0) h (by omega) fun τ h1 h2 => hO.no h1 h2
theorem CoS_perm {wl ws : Ws} (hp : wl.Perm ws) {s : List Nat} (n : Nat) : CoS wl s n ↔ CoS ws s n := by
  constructor
  · rintro ⟨i, hi, h1⟩
    obtain ⟨j, j1, j2, -⟩ := perm_at hp hi
    exact ⟨j, j1, by rw [j2]; exact h1⟩
  · rintro ⟨i, hi, h1⟩
    obtain ⟨j, j1, j2, -⟩ := perm_ta hp hi
    exact ⟨j, j1, by rw [j2]; exact h1⟩
theorem sM_shared (h : InvM σ m) (hO : OutM (oShared m) K) : wX6_shared σ K := by
  rintro _ rfl
  obtain ⟨g1, g2⟩ := h.zero
  obtain ⟨wl, a3, a4⟩ := g1.2.2.1
  have hl := a3.2.1
  generalize pI σ 0 0 = τ at g1 g2 a3 ⊢
  unfold oShared at hO
  have key : ∀ d k n, k + d = wl.length → n ≤ 10 → Top (CoS (wl.take k) m.1) n → wX6_shared_L9 K τ (d + 1) (nI n) (nI k) := by
    intro d
    induction d with
    | zero =>
      intro k n hk hn hT
      rw [wX6_shared_L9]
      refine pk_le wl.length k (fun _ => ?_) (fun q => by omega) a3.1
      rw [List.take_of_length_le (by omega)] at hT
      rw [hT.uniq (coF_top m.2.1 m.1) fun x => CoS_perm a4 x]
      exact hO.ok g1 g2
    | succ d ih =>
      intro k n hk hn hT
      rw [wX6_shared_L9]
      have hwk := fun q => (a3.2.2 k q).1
      refine pk_le wl.length k (fun _ => by omega) (fun q => sX6_like0 (hwk q) g1.1 (by omega) ?_) a3.1
      have h10 := (hwk q).2.1
      have hle := (lcp_le (wd wl k) m.1).1
      have hT2 := hT.add (n := lcp (wd wl k) m.1) (T := CoS (wl.take (k + 1)) m.1) fun x => by rw [CoS_snoc q, lcp_comm]
      rw [nI_1]
      refine pk_le (lcp (wd wl k) m.1) n (fun z => ih (k + 1) n (by omega) hn ?_) (fun z => sX6_like0 (hwk q) g1.1 (by omega) (ih (k + 1) _ (by omega) (by omega) ?_))
      · rwa [Nat.max_eq_left z] at hT2
      · rwa [Nat.max_eq_right (by omega)] at hT2
  exact ⟨_, key wl.length 0 0 (by omega) (by omega) (Top.nil fun n => by rintro ⟨i, hi, -⟩; simp at hi)⟩
theorem sM_twin (h : InvM σ m) (hO : OutM (oTwin m) K) : wX6_twin σ K := by
  obtain ⟨a1, a2, ⟨wl, a3, a4⟩, a5, a6, a7, a8, a9⟩ := id h
  have hl := a3.2.1
  have hll := a4.length_eq
  unfold oTwin at hO
  refine pk_le 2 wl.length (fun z => ?_) (fun z => ?_) rfl a3.1
  · rw [if_pos (by omega)] at hO
    unfold wX6_twin_J14
    refine sX6_good h fun τ g1 g2 hc0 => ?_
    have b3 := a3.kept hc0 (by omega) (by omega) (by omega)
    have outer : ∀ d k n, k + d = wl.length → n ≤ 10 → Top (TwM wl k 0) n → wX6_twin_L26 K τ (d + 1) (nI n) (nI k) := by
      intro d
      induction d with
      | zero =>
        intro k n hk hn hT
        rw [wX6_twin_L26]
        refine pk_le wl.length k (fun _ => ?_) (fun q => by omega) b3.1
        have e : k = wl.length := by omega
        subst e
        rw [hT.uniq (twF_top m.2.1) fun x => TwS_perm a4 a5 x]
        exact hO.ok g1 g2
      | succ d ih =>
        intro k n hk hn hT
        rw [wX6_twin_L26]
        refine pk_le wl.length k (fun _ => by omega) (fun q => ?_) b3.1
        have inner : ∀ e j n, j + e = k → n ≤ 10 → Top (TwM wl k j) n → wX6_twin_L36 K (wX6_twin_L26 K τ (d + 1)) τ (nI k) (e + 1) (nI n) (nI j) := by
          intro e
          induction e with
          | zero =>
            intro j n hj hn hT
            rw [wX6_twin_L36, nI_1]
            refine pk_le k j (fun y => ih (k + 1) n (by omega) hn (hT.skip fun x => TwM_next y x)) (fun y => by omega)
          | succ e ih2 =>
            intro j n hj hn hT
            have q1 := (b3.2.2 j (by omega)).1
            have q2 := (b3.2.2 k q).1
            have h10 := q1.2.1
            have hle := (lcp_le (wd wl j) (wd wl k)).1
            rw [wX6_twin_L36, nI_1, nI_1]
            have hT2 := hT.add (n := lcp (wd wl j) (wd wl k)) (T := TwM wl k (j + 1)) fun x => TwM_step (by omega) q x
            refine pk_le k j (fun y => by omega) (fun y => sX6_likeWords q1 q2 (by omega) (by omega) (pk_le (lcp (wd wl j) (wd wl k)) n (fun z => ih2 (j + 1) n (by omega) hn ?_) (fun z => sX6_likeWords q1 q2 (by omega) (by omega) (ih2 (j + 1) _ (by omega) (by omega) ?_))))
            · rwa [Nat.max_eq_left z] at hT2
            · rwa [Nat.max_eq_right (by omega)] at hT2
        exact ⟨_, inner k 0 n (by omega) hn hT⟩
    exact ⟨_, outer wl.length 0 0 (by omega) (by omega) (Top.nil fun n => by rintro ⟨i, j, q1, q2, q3, -⟩; omega)⟩
  · rw [if_neg (by omega)] at hO
    unfold wX6_twin_J14
    exact sX6_bad (e := 0) h (by omega) fun τ h1 h2 => hO.no h1 h2
theorem sM_pieces (h : InvM σ m) (hO : OutM (oPieces m) K) : wX6_pieces σ K := by
  have htl := h.len
  rintro _ rfl
  obtain ⟨g1, g2⟩ := h.zero
  obtain ⟨wl, a3, a4⟩ := g1.2.2.1
  have hl := a3.2.1
  generalize pI σ 0 0 = τ at g1 g2 a3 ⊢
  unfold oPieces at hO
  have key : ∀ d k, k + d = 25 → (∀ j, j < k → 0 < lgL m.2.1 m.1 (gp (lgL m.2.1 m.1) j)) → wX6_pieces_L9 K τ (d + 1) (nI (gp (lgL m.2.1 m.1) k)) (nI k) := by
    intro d
    induction d with
    | zero =>
      intro k hk hp
      have h1 := gp_ge k hp
      have h2 := gp_le m.2.1 m.1 k
      omega
    | succ d ih =>
      intro k hk hp
      have h2 := gp_le m.2.1 m.1 k
      have h3 := lgL_le m.2.1 m.1 h2
      rw [wX6_pieces_L9]
      refine sX6_longestAt a3 a4 g1.1 h2 (pk_le (lgL m.2.1 m.1 (gp (lgL m.2.1 m.1) k)) 0 (fun z => ?_) (fun z => sX6_longestAt a3 a4 g1.1 h2 ?_))
      · have e : pcs m = k := stp_eq hp (by omega) 25 0 (Nat.zero_le _) (by omega)
        rw [e] at hO
        refine pk_eq (gp (lgL m.2.1 m.1) k) m.1.length (fun y => ?_) (fun y => ?_) rfl g1.1.1 (by omega) (by omega)
        · rw [if_pos y] at hO; exact hO.ok g1 g2
        · rw [if_neg y] at hO; exact hO.ok g1 g2
      · rw [nI_add, nI_1]
        exact ih (k + 1) (by omega) fun j hj => by
          by_cases e : j = k
          · rw [e]; omega
          · exact hp j (by omega)
  exact ⟨_, key 25 0 (by omega) (fun j hj => by omega)⟩
theorem sM_piece {v : Int32} (h : InvM σ m) (hO : OutM (oPiece v m) K) : wX6_piece σ v K := by
  have htl := h.len
  obtain ⟨wl, a3, a4⟩ := h.2.2.1
  have hl := a3.2.1
  unfold oPiece at hO
  have bad : ¬ (0 ≤ v.toInt ∧ 0 < lgL m.2.1 m.1 (gp (lgL m.2.1 m.1) (nt v))) → ∀ x, wX6_piece_J43 K σ x := fun q x => by
    rw [if_neg q] at hO
    unfold wX6_piece_J43 wX6_piece_J48
    exact sX6_bad (e := 0) h (by omega) fun τ h1 h2 => hO.no h1 h2
  rcases int_cases v with ⟨n1, n2⟩ | ⟨i, hi, rfl, ei⟩
  · refine ⟨1, ?_⟩
    rw [wX6_piece_L4]
    refine ⟨fun _ => ?_, fun z => absurd ?_ z⟩
    · unfold wX6_piece_J30
      refine ⟨fun z => ?_, fun _ => bad (by omega) _⟩
      rw [z] at n2; exact absurd n2 (by decide)
    · rw [Int32.le_iff_toInt_le]
      show v.toInt ≤ 0
      omega
  · rw [nt_nI hi, ei] at hO bad
    have key : ∀ d k, k + d = 25 → k ≤ i → (∀ j, j < k → 0 < lgL m.2.1 m.1 (gp (lgL m.2.1 m.1) j)) → wX6_piece_L4 K σ (d + 1) (nI (gp (lgL m.2.1 m.1) k)) (nI (i - k)) := by
      intro d
      induction d with
      | zero =>
        intro k hk hki hp
        have h1 := gp_ge k hp
        have h2 := gp_le m.2.1 m.1 k
        omega
      | succ d ih =>
        intro k hk hki hp
        have h2 := gp_le m.2.1 m.1 k
        have h3 := lgL_le m.2.1 m.1 h2
        rw [wX6_piece_L4]
        refine pk_le (i - k) 0 (fun z => ?_) (fun z => sX6_longestAt a3 a4 h.1 h2 (pk_le (lgL m.2.1 m.1 (gp (lgL m.2.1 m.1) k)) 0 (fun y => ?_) (fun y => sX6_longestAt a3 a4 h.1 h2 ?_)))
        · have e : k = i := by omega
          subst e
          unfold wX6_piece_J30
          refine pk_eq (k - k) 0 (fun _ => sX6_longestAt a3 a4 h.1 h2 (pk_eq (lgL m.2.1 m.1 (gp (lgL m.2.1 m.1) k)) 0 (fun w => bad (by omega) _) (fun w => ?_) rfl rfl (by omega) (by omega))) (fun q => by omega) rfl rfl (by omega) (by omega)
          rw [if_pos ⟨by omega, by omega⟩] at hO
          unfold wX6_piece_J48
          refine sX6_good h fun τ g1 g2 hc => ?_
          exact sX6_longestAt (a3.kept hc (by omega) (by omega) (by omega)) a4 g1.1 h2 (hO.ok g1 g2)
        · unfold wX6_piece_J30
          refine pk_eq (i - k) 0 (fun q => by omega) (fun q => bad ?_ _) rfl rfl (by omega) (by omega)
          rintro ⟨-, w⟩
          have e := gp_stuck (L := lgL m.2.1 m.1) (s := k) (by omega) (i - k)
          rw [show k + (i - k) = i by omega] at e
          rw [e] at w; omega
        · rw [nI_add, nI_n1 (by omega), show i - k - 1 = i - (k + 1) by omega]
          exact ih (k + 1) (by omega) (by omega) fun j hj => by
            by_cases e : j = k
            · rw [e]; omega
            · exact hp j (by omega)
    exact ⟨_, key 25 0 (by omega) (by omega) (fun j hj => by omega)⟩
/-! ways: over the words instead of over the lengths -/
def sumW (g : Nat → Nat) (s : List Nat) (ws : Ws) : Nat := (ws.map fun w => if preB w.1 s = true then g w.1.length else 0).sum
theorem sumW_cons (g : Nat → Nat) (s : List Nat) (w : List Nat × Nat) (ws : Ws) : sumW g s (w :: ws) = (if preB w.1 s = true then g w.1.length else 0) + sumW g s ws := by simp [sumW]
theorem sumW_snoc {g : Nat → Nat} {s : List Nat} {ws : Ws} {k : Nat} (h : k < ws.length) : sumW g s (ws.take (k + 1)) = sumW g s (ws.take k) + if preB (wd ws k) s = true then g (wd ws k).length else 0 := by
  unfold sumW
  rw [take_snoc h, List.map_append, List.sum_append]
  simp
theorem sumW_perm {g : Nat → Nat} {s : List Nat} {wl ws : Ws} (hp : wl.Perm ws) : sumW g s wl = sumW g s ws := by
  unfold sumW
  exact (hp.map _).sum_nat
theorem tailS_F {F G : Nat → Nat → Bool} {f : Nat → Nat} {q : Nat} : ∀ (e m : Nat), (∀ i, m ≤ i → F q i = G q i) → tailS F f q e m = tailS G f q e m
  | 0, _, _ => rfl
  | e + 1, m, h => by
    show (if F q m = true then _ else _) + _ = (if G q m = true then _ else _) + _
    rw [tailS_F e (m + 1) fun i hi => h i (by omega), h m (Nat.le_refl _)]
theorem tailS_add {F G : Nat → Nat → Bool} {f : Nat → Nat} {q n : Nat} (h : ∀ i, G q i = (F q i || decide (i = n))) (hn : F q n = false) : ∀ (e m : Nat), m ≤ n → n < m + e → tailS G f q e m = tailS F f q e m + f (q + n)
  | 0, m, h1, h2 => by omega
  | e + 1, m, h1, h2 => by
    show (if G q m = true then _ else _) + _ = (if F q m = true then _ else _) + _ + _
    by_cases z : m = n
    · subst z
      rw [h m, hn, tailS_F (F := G) (G := F) e (m + 1) fun i hi => by rw [h i, decide_eq_false (by omega), Bool.or_false]]
      simp; omega
    · rw [tailS_add h hn e (m + 1) (by omega) (by omega), h m, decide_eq_false z, Bool.or_false]
      omega
theorem fitB_cons {w : List Nat × Nat} {ws : Ws} {t : List Nat} {q i : Nat} : fitB (w :: ws) t q i = (fitB ws t q i || (preB w.1 (t.drop q) && decide (i = w.1.length))) := by
  unfold fitB
  rw [List.any_cons, Bool.or_comm]
  congr 2
  rw [Bool.eq_iff_iff, beq_iff_eq, decide_eq_true_iff]
  exact eq_comm
theorem ways_sum {f : Nat → Nat} {t : List Nat} {q : Nat} : ∀ (ws : Ws), Srt ws → LenW ws → tailS (fitB ws t) f q 10 1 = sumW (fun n => f (q + n)) (t.drop q) ws
  | [], _, _ => rfl
  | w :: ws, hs, hw => by
    have ih := ways_sum (f := f) (t := t) (q := q) ws hs.tail (fun i hi => by
      have := hw (i + 1) (by simpa using hi)
      rwa [wd_s] at this)
    have h0 := hw 0 (by simp)
    rw [wd_0] at h0
    rw [sumW_cons, ← ih]
    by_cases z : preB w.1 (t.drop q) = true
    · rw [if_pos z, Nat.add_comm]
      refine tailS_add (n := w.1.length) (fun i => by rw [fitB_cons, z, Bool.true_and]) ?_ 10 1 (by omega) (by omega)
      by_cases y : fitB ws t q w.1.length = true
      · obtain ⟨i, i1, i2, i3⟩ := fitB_iff.mp y
        have e := pre_eq i2 (preB_iff.mp z) i3.symm
        have := hs 0 (i + 1) (by omega) (by simpa using i1)
        rw [wd_0, wd_s, e] at this
        exact absurd rfl (lt_ne this)
      · simpa using y
    · rw [if_neg z, Nat.zero_add]
      refine tailS_F 10 1 fun i _ => ?_
      rw [fitB_cons]
      have : preB w.1 (t.drop q) = false := by simpa using z
      rw [this, Bool.false_and, Bool.or_false]
theorem sumW_end {g : Nat → Nat} : ∀ (ws : Ws), LenW ws → sumW g [] ws = 0
  | [], _ => rfl
  | w :: ws, h => by
    have h0 := (h 0 (by simp)).1
    rw [wd_0] at h0
    rw [sumW_cons, sumW_end ws (fun i hi => by
      have := h (i + 1) (by simpa using hi)
      rwa [wd_s] at this), if_neg (fun z => by
      have := pre_len (preB_iff.mp z)
      simp only [List.length_nil] at this
      omega)]
theorem bk_len {ws : Ws} {t : List Nat} (hw : LenW ws) : ∀ {k q : Nat}, bk ws t k q → k + q ≤ t.length
  | 0, q, h => by
    have h : q = t.length := h
    omega
  | k + 1, q, h => by
    obtain ⟨n, a, b⟩ := h
    have h1 := bk_len hw b
    have h2 := LgS_10 hw a
    omega
/-- the least of both -/
theorem Lst_add {S T U : Nat → Prop} {v : Int32} {k : Nat} (hv : Lst S v) (h1 : T k) (h2 : ∀ j, j < k → ¬ T j) (hk : k ≤ 24) (hU : ∀ k, U k ↔ S k ∨ T k) : Lst U (if v < 0 ∨ ¬ v ≤ nI k then nI k else v) := by
  rcases hv with ⟨rfl, n⟩ | ⟨j, rfl, s1, l1, b1⟩
  · rw [if_pos (Or.inl (by decide))]
    exact Or.inr ⟨k, rfl, (hU k).mpr (Or.inr h1), fun j hj z => ((hU j).mp z).elim (n j) (h2 j hj), hk⟩
  · by_cases z : k < j
    · rw [if_pos (Or.inr (nI_ge z (by omega)))]
      exact Or.inr ⟨k, rfl, (hU k).mpr (Or.inr h1), fun i hi y => ((hU i).mp y).elim (l1 i (by omega)) (h2 i hi), hk⟩
    · rw [if_neg (by
        rintro (y | y)
        · exact absurd y (nI_neg (by omega))
        · exact y (nI_le (by omega) (by omega)))]
      exact Or.inr ⟨j, rfl, (hU j).mpr (Or.inl s1), fun i hi y => ((hU i).mp y).elim (l1 i hi) (h2 i (by omega)), b1⟩
/-- pieces from q, by the first k words -/
def bkP (wl ws : Ws) (t : List Nat) (q k n : Nat) : Prop := (q = t.length ∧ n = 0) ∨ ∃ i, i < k ∧ Pre (wd wl i) (t.drop q) ∧ ∃ n', n = n' + 1 ∧ bk ws t n' (q + (wd wl i).length)
theorem bkP_all {wl ws : Ws} {t : List Nat} (hp : wl.Perm ws) {q n : Nat} : bkP wl ws t q wl.length n ↔ bk ws t n q := by
  constructor
  · rintro (⟨h1, rfl⟩ | ⟨i, hi, h1, n', rfl, h2⟩)
    · exact h1
    · exact ⟨_, (LgS_perm hp _).mp ⟨i, hi, h1, rfl⟩, h2⟩
  · intro h
    cases n with
    | zero => exact Or.inl ⟨h, rfl⟩
    | succ n =>
      obtain ⟨a, h1, h2⟩ := h
      obtain ⟨i, hi, h3, rfl⟩ := (LgS_perm hp _).mpr h1
      exact Or.inr ⟨i, hi, h3, n, rfl, h2⟩
theorem bkP_snoc {wl ws : Ws} {t : List Nat} {q k n : Nat} : bkP wl ws t q (k + 1) n ↔ bkP wl ws t q k n ∨ (Pre (wd wl k) (t.drop q) ∧ ∃ n', n = n' + 1 ∧ bk ws t n' (q + (wd wl k).length)) := by
  constructor
  · rintro (h | ⟨i, hi, h⟩)
    · exact Or.inl (Or.inl h)
    · by_cases e : i = k
      · rw [e] at h; exact Or.inr h
      · exact Or.inl (Or.inr ⟨i, by omega, h⟩)
  · rintro ((h | ⟨i, hi, h⟩) | h)
    · exact Or.inl h
    · exact Or.inr ⟨i, by omega, h⟩
    · exact Or.inr ⟨k, by omega, h⟩
theorem sX6_cutsAll (h : InvM σ m) {K : St → Prop} (hK : ∀ τ, Chg (fun k => k = 11) σ τ → gL τ 0 = lN (nwF m.2.1 m.1) → Lst (fun k => bk m.2.1 m.1 k 0) (gA τ 11 0) → K τ) : wX6_cutsAll σ K := by
  have htl := h.len
  obtain ⟨a1, a2, ⟨wl, a3, a4⟩, a5, a6, a7, a8, a9⟩ := id h
  have hl := a3.2.1
  rw [show nwF m.2.1 m.1 = nwv (fitB m.2.1 m.1) m.1.length (m.1.length + 1) 0 from rfl] at hK
  have hNW := NW_nwv m.2.1 m.1
  generalize hf : nwv (fitB m.2.1 m.1) m.1.length (m.1.length + 1) = f at hK hNW
  rintro _ rfl
  have outer : ∀ j (τ : St), j ≤ m.1.length + 1 → Chg (fun k => k = 11) σ τ → (∀ q, j ≤ q → q ≤ m.1.length → gL τ q = lN (f q) ∧ Lst (fun k => bk m.2.1 m.1 k q) (gA τ 11 q)) → wX6_cutsAll_L5 K (j + 1) τ (nI j - 1) := by
    intro j
    induction j with
    | zero =>
      intro τ _ hc hg
      rw [wX6_cutsAll_L5]
      exact ⟨fun _ => hK τ hc (hg 0 (Nat.le_refl _) (Nat.zero_le _)).1 (hg 0 (Nat.le_refl _) (Nat.zero_le _)).2, fun q => absurd ((m1_neg (by omega)).mpr rfl) q⟩
    | succ q ih =>
      intro τ hj hc hg
      rw [wX6_cutsAll_L5]
      refine ⟨fun z => absurd ((m1_neg (by omega)).mp z) (by omega), fun _ => ?_⟩
      have em : nI q + -1 = nI q - 1 := (Int32.sub_eq_add_neg _ _).symm
      rw [nI_m1 (by omega), show q + 1 - 1 = q by omega]
      have b1 := a1.kept hc (by omega)
      have b3 := a3.kept hc (by omega) (by omega) (by omega)
      -- the words
      have inner : ∀ d k (υ : St), k + d = wl.length → Chg (fun k => k = 11) σ υ → (∀ p, q < p → p ≤ m.1.length → gL υ p = lN (f p) ∧ Lst (fun k => bk m.2.1 m.1 k p) (gA υ 11 p)) → gL υ q = lN ((if q = m.1.length then 1 else 0) + sumW (fun n => f (q + n)) (m.1.drop q) (wl.take k)) → Lst (bkP wl m.2.1 m.1 q k) (gA υ 11 q) → wX6_cutsAll_L49 K (wX6_cutsAll_L5 K (q + 1)) (nI q) (d + 1) υ (nI k) := by
        intro d
        induction d with
        | zero =>
          intro k υ hk hcu hgu h1 h2
          have e : k = wl.length := by omega
          subst e
          rw [wX6_cutsAll_L49]
          refine pk_le wl.length wl.length (fun _ => ?_) (fun z => by omega) (a3.kept hcu (by omega) (by omega) (by omega)).1
          rw [em]
          refine ih υ (by omega) hcu fun p hp1 hp2 => ?_
          by_cases e : p = q
          · subst e
            rw [List.take_length, sumW_perm a4, ← ways_sum m.2.1 a5 a7] at h1
            refine ⟨?_, h2.same fun n => (bkP_all a4).symm⟩
            rw [h1]
            congr 1
            by_cases e2 : p = m.1.length
            · rw [if_pos e2, e2, hNW.1]
              rw [ways_sum m.2.1 a5 a7, List.drop_length]
              rw [sumW_end m.2.1 a7]
            · rw [if_neg e2, Nat.zero_add, hNW.2 p (by omega)]
          · exact hgu p (by omega) hp2
        | succ d ih2 =>
          intro k υ hk hcu hgu h1 h2
          have c1 := a1.kept hcu (by omega)
          have c3 := a3.kept hcu (by omega) (by omega) (by omega)
          rw [wX6_cutsAll_L49]
          refine pk_le wl.length k (fun _ => by omega) (fun y => sX6_like (c3.2.2 k y).1 c1 (by omega) (by omega) ?_) c3.1
          have hwk := (c3.2.2 k y).1
          have h10 := hwk.2.1
          have hw1 : 1 ≤ (wd wl k).length := by
            obtain ⟨i, i1, i2, -⟩ := perm_at a4 y
            have := (a7 i i1).1
            rwa [i2] at this
          have hle := lcp_le (wd wl k) (m.1.drop q)
          rw [List.length_drop] at hle
          rw [nI_clamp (n := k) (by omega), hwk.1, nI_1]
          have hsn := sumW_snoc (g := fun n => f (q + n)) (s := m.1.drop q) y
          refine ⟨vp_in_nI (by omega) (by omega), pk_le (wd wl k).length (lcp (wd wl k) (m.1.drop q)) (fun z => ⟨vp_in_nI (by omega) (by omega), ?_⟩) (fun z => ?_)⟩
          · have hpre : Pre (wd wl k) (m.1.drop q) := by
              show lcp _ _ = _
              omega
            rw [if_pos (preB_iff.mpr hpre)] at hsn
            obtain ⟨g1, g2⟩ := hgu (q + (wd wl k).length) (by omega) (by omega)
            rintro _ rfl
            rw [nI_add, nI_clamp (n := q) (by omega), nI_clamp (n := q + (wd wl k).length) (by omega), g1, h1, lN_add]
            refine ⟨vp_in_nI (by omega) (by omega), vp_in_nI (by omega) (by omega), vp_in_nI (by omega) (by omega), ?_⟩
            rintro _ rfl
            refine ⟨vp_in_nI (by omega) (by omega), ?_⟩
            rintro _ rfl
            rw [gA_pL, gA_pL]
            have hl1 : ∀ φ : St, (∀ p, gL φ p = gL (pL υ q (lN ((if q = m.1.length then 1 else 0) + sumW (fun n => f (q + n)) (m.1.drop q) (wl.take k) + f (q + (wd wl k).length)))) p) → gL φ q = lN ((if q = m.1.length then 1 else 0) + sumW (fun n => f (q + n)) (m.1.drop q) (wl.take (k + 1))) ∧ ∀ p, q < p → gL φ p = gL υ p := fun φ hφ => ⟨by rw [hφ, gL_pL, if_pos rfl, hsn, Nat.add_assoc], fun p hp => by rw [hφ, gL_pL, if_neg (by omega)]⟩
            have hA : ∀ a i, gA (pL υ q (lN ((if q = m.1.length then 1 else 0) + sumW (fun n => f (q + n)) (m.1.drop q) (wl.take k) + f (q + (wd wl k).length)))) a i = gA υ a i := fun a i => gA_pL _ _ _ _ _
            have hcp : Chg (fun k => k = 11) σ (pL υ q (lN ((if q = m.1.length then 1 else 0) + sumW (fun n => f (q + n)) (m.1.drop q) (wl.take k) + f (q + (wd wl k).length)))) := hcu.tr Chg_pL
            have hl2 := fun φ hφ => hl1 φ hφ
            generalize pL υ q (lN ((if q = m.1.length then 1 else 0) + sumW (fun n => f (q + n)) (m.1.drop q) (wl.take k) + f (q + (wd wl k).length))) = φ at hl1 hA hcp ⊢
            have go : ∀ ψ : St, (∀ p, gL ψ p = gL φ p) → (∀ p, p ≠ q → gA ψ 11 p = gA υ 11 p) → Chg (fun k => k = 11) σ ψ → Lst (bkP wl m.2.1 m.1 q (k + 1)) (gA ψ 11 q) → wX6_cutsAll_L49 K (wX6_cutsAll_L5 K (q + 1)) (nI q) (d + 1) ψ (nI (k + 1)) := fun ψ z1 z2 z3 z4 =>
              ih2 (k + 1) ψ (by omega) z3 (fun p hp1 hp2 => by
                obtain ⟨w1, w2⟩ := hgu p hp1 hp2
                exact ⟨by rw [(hl1 ψ z1).2 p hp1]; exact w1, by rw [z2 p (by omega)]; exact w2⟩) (hl1 ψ z1).1 z4
            rcases g2 with ⟨e, nn⟩ | ⟨n, e, s1, l1, n24⟩
            · rw [e]
              refine ⟨fun _ => go φ (fun _ => rfl) (fun p _ => hA 11 p) hcp (by
                rw [hA]
                refine h2.same fun n => ?_
                rw [bkP_snoc]
                exact ⟨fun x => x.elim id fun x => by
                  obtain ⟨_, n', _, y⟩ := x
                  exact absurd y (nn n'), Or.inl⟩), fun x => absurd (by decide) x⟩
            · have hb := bk_len a7 s1
              rw [e, nI_1]
              have hL := Lst_add (k := n + 1) (T := fun n => Pre (wd wl k) (m.1.drop q) ∧ ∃ n', n = n' + 1 ∧ bk m.2.1 m.1 n' (q + (wd wl k).length)) (U := bkP wl m.2.1 m.1 q (k + 1)) h2 ⟨hpre, n, rfl, s1⟩ (fun j hj x => by
                obtain ⟨_, n', x1, x2⟩ := x
                exact l1 n' (by omega) x2) (by omega) (fun n => bkP_snoc)
              have store : (gA υ 11 q < 0 ∨ ¬ gA υ 11 q ≤ nI (n + 1)) → wX6_cutsAll_J134 K (wX6_cutsAll_L5 K (q + 1)) (wX6_cutsAll_L49 K (wX6_cutsAll_L5 K (q + 1)) (nI q) (d + 1)) φ (nI q) (nI k) (nI (n + 1)) := fun x => by
                rw [if_pos x] at hL
                unfold wX6_cutsAll_J134
                rw [nI_clamp (by omega), nI_1]
                refine ⟨vp_in_nI (by omega) (by omega), ?_⟩
                rintro _ rfl
                refine go _ (fun _ => rfl) (fun p hp => by rw [gA_pA, if_neg (fun z => hp z.2)]; exact hA 11 p) (hcp.tr Chg_pA) ?_
                rw [gA_pA, if_pos ⟨rfl, rfl⟩]
                exact hL
              refine ⟨fun x => absurd x (nI_nle (by omega) (by omega)), fun _ => ⟨vp_in_nI (by omega) (by omega), fun x => store (Or.inl x), fun x => ⟨vp_in_nI (by omega) (by omega), fun y => ?_, fun y => store (Or.inr y)⟩⟩⟩
              rw [if_neg (by
                rintro (w | w)
                · exact x w
                · exact w y)] at hL
              exact go φ (fun _ => rfl) (fun p _ => hA 11 p) hcp (by rw [hA]; exact hL)
          · have hn : ¬ Pre (wd wl k) (m.1.drop q) := fun e => by
              have e : lcp _ _ = _ := e
              omega
            rw [if_neg (fun e => hn (preB_iff.mp e)), Nat.add_zero] at hsn
            refine ih2 (k + 1) υ (by omega) hcu hgu (by rw [hsn]; exact h1) (h2.same fun n => ?_)
            rw [bkP_snoc]
            exact ⟨fun e => e.elim id fun e => absurd e.1 hn, Or.inl⟩
      have start : ∀ (u : Int64) (v : Int32), u = lN (if q = m.1.length then 1 else 0) → Lst (bkP wl m.2.1 m.1 q 0) v → wX6_cutsAll_J46 K (wX6_cutsAll_L5 K (q + 1)) (pL τ q u) (nI q) (nI q) v := by
        rintro u v rfl hv
        unfold wX6_cutsAll_J46
        rw [nI_clamp (by omega)]
        refine ⟨vp_in_nI (by omega) (by omega), ?_⟩
        rintro _ rfl
        refine ⟨_, inner wl.length 0 _ (by omega) (hc.tr (Chg_pL.tr Chg_pA)) (fun p hp1 hp2 => ?_) ?_ ?_⟩
        · rw [gL_pA, gL_pL, if_neg (by omega), gA_pA, if_neg (by omega), gA_pL]
          exact hg p (by omega) hp2
        · rw [gL_pA, gL_pL, if_pos rfl]
          rfl
        · rw [gA_pA, if_pos ⟨rfl, rfl⟩]; exact hv
      have hb0 : ∀ n, bkP wl m.2.1 m.1 q 0 n ↔ q = m.1.length ∧ n = 0 := fun n => ⟨fun x => x.elim id fun x => by
        obtain ⟨i, i1, _⟩ := x
        omega, Or.inl⟩
      refine pk_eq q m.1.length (fun e => ?_) (fun e => ?_) rfl b1.1 (by omega) (by omega)
      · unfold wX6_cutsAll_J27
        rw [nI_clamp (by omega)]
        refine ⟨vp_in_nI (by omega) (by omega), ?_⟩
        rintro _ rfl
        refine pk_eq q m.1.length (fun _ => start _ _ (by rw [if_pos e]; rfl) (Or.inr ⟨0, rfl, (hb0 0).mpr ⟨e, rfl⟩, fun j hj => by omega, by omega⟩)) (fun y => absurd e y) rfl b1.1 (by omega) (by omega)
      · unfold wX6_cutsAll_J27
        rw [nI_clamp (by omega)]
        refine ⟨vp_in_nI (by omega) (by omega), ?_⟩
        rintro _ rfl
        refine pk_eq q m.1.length (fun y => absurd y e) (fun _ => start _ _ (by rw [if_neg e]; rfl) (Or.inl ⟨rfl, fun n x => e ((hb0 n).mp x).1⟩)) rfl b1.1 (by omega) (by omega)
  have e0 : nI (m.1.length + 1) - 1 = nI m.1.length := nI_m1 (by omega)
  rw [a1.1, ← e0]
  exact ⟨_, outer (m.1.length + 1) σ (Nat.le_refl _) Chg.rf fun q h1 h2 => by omega⟩
theorem sM_cuts (h : InvM σ m) {K : Int64 → St → Prop} (hK : ∀ τ, InvM τ m → gI τ 0 = nI 0 → K (lN (nwF m.2.1 m.1)) τ) : wX6_cuts σ K := by
  rintro _ rfl
  obtain ⟨g1, g2⟩ := h.zero
  refine sX6_cutsAll g1 fun τ t1 t2 t3 => ⟨vp_in_nI (n := 0) (by omega) (by omega), ?_⟩
  have e : ((0 : Int32)).toNatClampNeg = 0 := by decide
  rw [e, t2]
  exact hK τ (g1.free t1 fun k hk => by unfold FreeM; omega) ((t1.1 0 (by omega)).1.trans g2)
theorem sM_fewest (h : InvM σ m) (hO : OutM (oFewest m) K) : wX6_fewest σ K := by
  rintro _ rfl
  obtain ⟨g1, g2⟩ := h.zero
  refine sX6_cutsAll g1 fun τ t1 t2 t3 => ⟨vp_in_nI (n := 0) (by omega) (by omega), ?_⟩
  have e : ((0 : Int32)).toNatClampNeg = 0 := by decide
  rw [e, ← lstF_eq (t3.same fun k => rch_iff k)]
  exact hO.ok (g1.free t1 fun k hk => by unfold FreeM; omega) ((t1.1 0 (by omega)).1.trans g2)
end MDL
