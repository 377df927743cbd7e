/-! THE REFERENCE'S CALLS: the text -/
def InvM (σ : St) (m : Stt) : Prop := TxtM σ m.1 ∧ Sg m.1 ∧ (∃ wl, WdsM σ wl ∧ wl.Perm m.2.1) ∧ Srt m.2.1 ∧ SgW m.2.1 ∧ LenW m.2.1 ∧ CodM σ m.2.2 ∧ ∀ c, c < 6 → Sg (m.2.2 c)
def FreeM (k : Nat) : Prop := k = 0 ∨ k = 4 ∨ 8 ≤ k
theorem InvM.free {P : Nat → Prop} {σ τ : St} {m : Stt} (h : InvM σ m) (hc : Chg P σ τ) (hP : ∀ k, P k → FreeM k) : InvM τ m := by
  obtain ⟨a1, a2, ⟨wl, a3, a4⟩, a5, a6, a7, a8, a9⟩ := h
  have hc := hc.mono hP
  exact ⟨a1.kept hc (by unfold FreeM; omega), a2, ⟨wl, a3.kept hc (by unfold FreeM; omega) (by unfold FreeM; omega) (by unfold FreeM; omega), a4⟩, a5, a6, a7, a8.kept hc (by unfold FreeM; omega) (by unfold FreeM; omega), a9⟩
theorem InvM.text {P : Nat → Prop} {σ τ : St} {m : Stt} {t : List Nat} (h : InvM σ m) (hc : Chg P σ τ) (hP : ∀ k, P k → k = 1 ∨ FreeM k) (ht : TxtM τ t) (hs : Sg t) : InvM τ (t, m.2) := by
  obtain ⟨a1, a2, ⟨wl, a3, a4⟩, a5, a6, a7, a8, a9⟩ := h
  have hc := hc.mono hP
  exact ⟨ht, hs, ⟨wl, a3.kept hc (by unfold FreeM; omega) (by unfold FreeM; omega) (by unfold FreeM; omega), a4⟩, a5, a6, a7, a8.kept hc (by unfold FreeM; omega) (by unfold FreeM; omega), a9⟩
/-- what a call answers and leaves -/
def OutM (o : Res) (K : Int32 → St → Prop) : Prop := ∀ τ b, InvM τ o.2.2 → gI τ 0 = nI o.1 → (o.1 = 0 → b = o.2.1) → K b τ
theorem OutM.ok {r : Int32} {m : Stt} {K : Int32 → St → Prop} (h : OutM (0, r, m) K) {τ : St} (hτ : InvM τ m) (h0 : gI τ 0 = nI 0) : K r τ := h τ r hτ h0 fun _ => rfl
theorem OutM.no {e : Nat} {r : Int32} {m : Stt} {K : Int32 → St → Prop} (h : OutM (e + 1, r, m) K) {τ : St} {b : Int32} (hτ : InvM τ m) (h0 : gI τ 0 = nI (e + 1)) : K b τ := h τ b hτ h0 fun q => by cases q
theorem sX6_good {σ : St} {m : Stt} {A B : St → Prop} (h : InvM σ m) (hA : ∀ τ, InvM τ m → gI τ 0 = nI 0 → Chg (fun k => k = 0) σ τ → A τ) : wX6_fails σ 0 (fun r τ => (r = 0 → A τ) ∧ (¬ r = 0 → B τ)) := by
  rintro _ rfl
  exact ⟨fun _ => ⟨fun _ => hA _ (h.free Chg_pI (fun k hk => Or.inl hk)) (by rw [gI_pI, if_pos rfl]; rfl) Chg_pI, fun z => absurd rfl z⟩, fun z => absurd (by decide) z⟩
theorem sX6_bad {σ : St} {m : Stt} {A B : St → Prop} (h : InvM σ m) {e : Nat} (he : e < 3) (hB : ∀ τ, InvM τ m → gI τ 0 = nI (e + 1) → B τ) : wX6_fails σ (nI (e + 1)) (fun r τ => (r = 0 → A τ) ∧ (¬ r = 0 → B τ)) := by
  rintro _ rfl
  refine ⟨fun z => ?_, fun _ => ⟨fun z => absurd z (by decide), fun _ => hB _ (h.free Chg_pI (fun k hk => Or.inl hk)) (by rw [gI_pI, if_pos rfl])⟩⟩
  exact absurd z (nI_nle (by omega) (by omega))
theorem InvM.zero {σ : St} {m : Stt} (h : InvM σ m) : InvM (pI σ 0 0) m ∧ gI (pI σ 0 0) 0 = nI 0 := ⟨h.free Chg_pI (fun k hk => Or.inl hk), by rw [gI_pI, if_pos rfl]; rfl⟩
theorem sX6_isSign {σ : St} {q : Nat} (hq : q < 65536) {K : Int32 → Prop} (h1 : 97 ≤ q ∧ q < 103 → K 1) (h0 : ¬ (97 ≤ q ∧ q < 103) → K 0) : wX6_isSign σ (nI q) K :=
  pk_lt q 97 (fun z => h0 (by omega)) (fun z => pk_lt 102 q (fun y => h0 (by omega)) (fun y => h1 ⟨z, by omega⟩))
theorem sX6_in {σ : St} {x lo hi : Int32} {a b : Int} (hlo : lo.toInt = a) (hhi : hi.toInt = b) {K : Int32 → Prop} (h1 : a ≤ x.toInt ∧ x.toInt ≤ b → K 1) (h0 : ¬ (a ≤ x.toInt ∧ x.toInt ≤ b) → K 0) : wX6_in σ x lo hi K := by
  subst hlo hhi
  refine ⟨fun z => h0 ?_, fun z => ⟨fun y => h0 ?_, fun y => h1 ?_⟩⟩
  · rw [Int32.lt_iff_toInt_lt] at z; omega
  · rw [Int32.lt_iff_toInt_lt] at y; omega
  · rw [Int32.lt_iff_toInt_lt] at z y; omega
theorem bit1 {A : Prop} (h : A) {B : Prop} : ((1 : Int32) = 0 → B) ∧ (¬ (1 : Int32) = 0 → A) := ⟨fun z => absurd z (by decide), fun _ => h⟩
theorem bit0 {A : Prop} (h : A) {B : Prop} : ((0 : Int32) = 0 → A) ∧ (¬ (0 : Int32) = 0 → B) := ⟨fun _ => h, fun z => absurd rfl z⟩
theorem TxtM.push {σ : St} {t : List Nat} {q : Nat} (h : TxtM σ t) (hl : t.length < 24) (hq : q < 103) : TxtM (pI (pA σ 1 t.length (nI q)) 1 (nI (t.length + 1))) (t ++ [q]) := by
  obtain ⟨t1, t2, t3, t4⟩ := h
  refine ⟨?_, by simp; omega, fun k hk => ?_, fun k => ?_⟩
  · rw [gI_pI, if_pos rfl]; simp
  · simp only [List.length_append, List.length_cons, List.length_nil] at hk
    rw [gA_pI, gA_pA]
    by_cases e : k = t.length
    · rw [if_pos ⟨rfl, e⟩, e, gd_app_r (Nat.le_refl _), Nat.sub_self, gd_0]
    · rw [if_neg (fun z => e z.2), gd_app_l (by omega)]
      exact t3 k (by omega)
  · rcases Nat.lt_or_ge k t.length with z | z
    · rw [gd_app_l z]; exact t4 k
    · rw [gd_app_r z]
      rcases Nat.eq_zero_or_pos (k - t.length) with y | y
      · rw [y, gd_0]; exact hq
      · rw [gd_ge (by simp; omega)]; omega
theorem Chg_push {σ : St} {k i : Nat} {v w : Int32} : Chg (fun q => q = k) σ (pI (pA σ k i v) k w) := Chg_pA.tr Chg_pI
section MDL
variable {σ : St} {m : Stt} {K : Int32 → St → Prop}
theorem InvM.len (h : InvM σ m) : m.1.length ≤ 24 := h.1.2.1
theorem sM_type {q : Nat} (h : InvM σ m) (hq : q < 65536) (hO : OutM (oType q m) K) : wX6_type σ (nI q) K := by
  have hl := h.len
  unfold oType at hO
  refine sX6_isSign hq (fun hs => bit1 (pk_eq m.1.length 24 (fun z => ?_) (fun z => ?_) h.1.1 rfl (by omega) (by omega))) (fun hs => bit0 ?_)
  · rw [if_pos hs, if_neg (by omega)] at hO
    unfold wX6_type_J26
    exact sX6_bad (e := 1) h (by omega) fun τ h1 h2 => hO.no h1 h2
  · rw [if_pos hs, if_pos (by omega)] at hO
    unfold wX6_type_J26
    refine sX6_good h fun τ h1 h2 _ => ?_
    rw [h1.1.1, nI_clamp (by omega), charN hq]
    refine ⟨vp_in_nI (by omega) (by omega), ?_⟩
    rintro _ rfl _ rfl
    rw [gI_pA, h1.1.1, nI_1, gI_pI, if_pos rfl]
    exact hO.ok (h1.text Chg_push (fun k e => Or.inl e) (h1.1.push (by omega) hs.2) (Sg_app h.2.1 (Sg_one hs))) h2
  · rw [if_neg hs] at hO
    unfold wX6_type_J26
    exact sX6_bad (e := 0) h (by omega) fun τ h1 h2 => hO.no h1 h2
theorem char97 {c : Nat} (h : c < 6) : vp_nar .char ((97 + nI c).toUInt32 % 65536).toInt32 = nI (97 + c) := by
  have e : (97 : Int32) + nI c = nI (97 + c) := nI_add 97 c
  rw [e, pk_char, pk_tn (by omega), Nat.mod_eq_of_lt (by omega), charN (by omega)]
theorem sM_typeMore {a b : Int32} (h : InvM σ m) (hO : OutM (oTypeMore a b m) K) : wX6_typeMore σ a b K := by
  have hl := h.len
  unfold oTypeMore at hO
  refine sX6_in (a := 1) (b := 8) rfl rfl (fun ha => bit1 (sX6_in (a := 0) (b := 1679615) rfl rfl (fun hb => bit1 ?_) (fun hb => bit0 ?_))) (fun ha => bit0 ?_)
  · rw [if_pos ⟨ha, hb⟩] at hO
    obtain ⟨ea, la, ia⟩ := of_nn (x := a) (by omega)
    obtain ⟨eb, lb, ib⟩ := of_nn (x := b) (by omega)
    generalize nt a = i at ea ia hO
    generalize nt b = j at eb ib hO
    subst ea eb
    rw [h.1.1, nI_add]
    refine pk_le (m.1.length + i) 24 (fun w => ?_) (fun w => ?_)
    · rw [if_pos w] at hO
      unfold wX6_typeMore_J41
      refine sX6_good h fun τ0 g1 g2 _ => ?_
      have key : ∀ d k (τ : St), k + d = i → TxtM τ (m.1 ++ digs j k) → Chg (fun q => q = 1) τ0 τ → Sg (m.1 ++ digs j k) → wX6_typeMore_L54 K (nI i) (d + 1) τ (nI (j / 6 ^ k)) (nI k) := by
        intro d
        induction d with
        | zero =>
          intro k τ hk h1 h2 h3
          rw [wX6_typeMore_L54]
          refine pk_le i k (fun _ => ?_) (fun q => by omega)
          have e : k = i := by omega
          subst e
          rw [h1.1, List.length_append, digs_len]
          exact hO.ok (g1.text h2 (fun k e => Or.inl e) h1 h3) ((h2.1 0 (by omega)).1.trans g2)
        | succ d ih =>
          intro k τ hk h1 h2 h3
          have hj : j / 6 ^ k < 2 ^ 31 := Nat.lt_of_le_of_lt (Nat.div_le_self _ _) (by omega)
          have hlen : (m.1 ++ digs j k).length = m.1.length + k := by rw [List.length_append, digs_len]
          rw [wX6_typeMore_L54]
          refine pk_le i k (fun q => by omega) (fun q => ?_)
          have h6 := Nat.mod_lt (j / 6 ^ k) (y := 6) (by omega)
          rw [rem6 hj, char97 h6, h1.1, nI_clamp (by omega), div6 hj, nI_1, Nat.div_div_eq_div_mul, ← Nat.pow_succ]
          refine ⟨vp_in_nI (by omega) (by omega), ?_⟩
          rintro _ rfl _ rfl
          rw [gI_pA, h1.1, nI_1]
          have hp := h1.push (by omega) (q := 97 + j / 6 ^ k % 6) (by omega)
          rw [List.append_assoc, ← digs_snoc] at hp
          refine ih (k + 1) _ (by omega) hp (h2.tr Chg_push) ?_
          rw [digs_snoc, ← List.append_assoc]
          exact Sg_app h3 (Sg_one ⟨by omega, by omega⟩)
      have := key i 0 τ0 (by omega) (by simpa [digs] using g1.1) Chg.rf (by simpa [digs] using h.2.1)
      rw [Nat.pow_zero, Nat.div_one] at this
      exact ⟨_, this⟩
    · rw [if_neg (by omega)] at hO
      unfold wX6_typeMore_J41
      exact sX6_bad (e := 1) h (by omega) fun τ h1 h2 => hO.no h1 h2
  · rw [if_neg (fun z => hb z.2)] at hO
    unfold wX6_typeMore_J21 wX6_typeMore_J41
    exact sX6_bad (e := 0) h (by omega) fun τ h1 h2 => hO.no h1 h2
  · rw [if_neg (fun z => ha z.1)] at hO
    unfold wX6_typeMore_J21 wX6_typeMore_J41
    exact sX6_bad (e := 0) h (by omega) fun τ h1 h2 => hO.no h1 h2
theorem sM_typeAt {p : Int32} {q : Nat} (h : InvM σ m) (hq : q < 65536) (hO : OutM (oTypeAt p q m) K) : wX6_typeAt σ p (nI q) K := by
  have hl := h.len
  unfold oTypeAt at hO
  refine sX6_in (a := 0) (b := m.1.length) rfl (by rw [h.1.1, nI_toInt (by omega)]) (fun ha => bit1 (sX6_isSign hq (fun hs => bit1 ?_) (fun hs => bit0 ?_))) (fun ha => bit0 ?_)
  · rw [if_pos ha, if_pos hs] at hO
    refine pk_eq m.1.length 24 (fun z => ?_) (fun z => ?_) h.1.1 rfl (by omega) (by omega)
    · rw [if_neg (by omega)] at hO
      unfold wX6_typeAt_J42
      exact sX6_bad (e := 2) h (by omega) fun τ h1 h2 => hO.no h1 h2
    · rw [if_pos (by omega)] at hO
      obtain ⟨ep, lp, ip⟩ := of_nn (x := p) (by omega)
      generalize nt p = i at ep ip hO
      subst ep
      unfold wX6_typeAt_J42
      refine sX6_good h fun τ0 g1 g2 _ => ?_
      rintro _ rfl
      have key : ∀ d k (τ : St), k = i + d → k ≤ m.1.length → gI τ 1 = nI m.1.length → (∀ j, k < j → j ≤ m.1.length → gA τ 1 j = nI (gd m.1 (j - 1))) → (∀ j, j < m.1.length → j ≤ k → gA τ 1 j = nI (gd m.1 j)) → Chg (fun q => q = 1) τ0 τ → wX6_typeAt_L55 K (nI i) (nI q) (d + 1) τ (nI k) := by
        intro d
        induction d with
        | zero =>
          intro k τ hk hka hg h1 h2 hc
          rw [wX6_typeAt_L55]
          refine pk_le k i (fun _ => ?_) (fun h => by omega)
          rw [nI_clamp (by omega), charN (by omega)]
          refine ⟨vp_in_nI (by omega) (by omega), ?_⟩
          rintro _ rfl _ rfl
          rw [gI_pI, if_pos rfl, gI_pA, hg, nI_1]
          refine hO.ok (g1.text (hc.tr Chg_push) (fun k e => Or.inl e) ⟨?_, ?_, fun j hj => ?_, fun j => ?_⟩ ?_) ((hc.1 0 (by omega)).1.trans g2)
          · rw [gI_pI, if_pos rfl]
            simp only [List.length_append, List.length_cons, List.length_take, List.length_drop]
            rw [show min i m.1.length + (m.1.length - i + 1) = m.1.length + 1 by omega]
          · simp only [List.length_append, List.length_cons, List.length_take, List.length_drop]; omega
          · simp only [List.length_append, List.length_cons, List.length_take, List.length_drop] at hj
            rw [gA_pI, gA_pA]
            rcases Nat.lt_trichotomy j i with y | y | y
            · rw [if_neg (by omega), gd_app_l (by simp; omega), gd_take y]
              exact h2 j (by omega) (by omega)
            · subst y
              rw [if_pos ⟨rfl, rfl⟩, gd_app_r (by simp; omega), List.length_take, show j - min j m.1.length = 0 by omega, gd_0]
            · rw [if_neg (by omega), gd_app_r (by simp; omega), List.length_take, show j - min i m.1.length = (j - 1 - i) + 1 by omega, gd_s, gd_drop, show i + (j - 1 - i) = j - 1 by omega]
              exact h1 j (by omega) (by omega)
          · rcases Nat.lt_or_ge j i with y | y
            · rw [gd_app_l (by simp; omega), gd_take y]; exact h.1.2.2.2 j
            · rw [gd_app_r (by simp; omega)]
              generalize j - (List.take i m.1).length = n
              cases n with
              | zero => rw [gd_0]; exact hs.2
              | succ n => rw [gd_s, gd_drop]; exact h.1.2.2.2 _
          · exact Sg_app (Sg_take h.2.1 _) (Sg_cons hs (Sg_drop h.2.1 _))
        | succ d ih =>
          intro k τ hk hka hg h1 h2 hc
          rw [wX6_typeAt_L55]
          refine pk_le k i (fun h => by omega) (fun y => ?_)
          rw [nI_m1 (by omega), nI_clamp (by omega), nI_clamp (by omega), h2 (k - 1) (by omega) (by omega), charN (by have := h.1.2.2.2 (k - 1); omega)]
          refine ⟨vp_in_nI (by omega) (by omega), vp_in_nI (by omega) (by omega), ?_⟩
          rintro _ rfl
          rw [nI_n1 (by omega)]
          refine ih (k - 1) _ (by omega) (by omega) hg (fun j hj hj2 => ?_) (fun j hj hj2 => ?_) (hc.tr Chg_pA)
          · rw [gA_pA]
            by_cases e : j = k
            · rw [if_pos ⟨rfl, e⟩, e]
            · rw [if_neg (fun z => e z.2)]; exact h1 j (by omega) hj2
          · rw [gA_pA, if_neg (by omega)]
            exact h2 j hj (by omega)
      rw [g1.1.1]
      exact ⟨_, key (m.1.length - i) m.1.length τ0 (by omega) (Nat.le_refl _) g1.1.1 (fun j h1 h2 => by omega) (fun j h1 _ => g1.1.2.2.1 j h1) Chg.rf⟩
  · rw [if_pos ha, if_neg hs] at hO
    unfold wX6_typeAt_J42
    exact sX6_bad (e := 1) h (by omega) fun τ h1 h2 => hO.no h1 h2
  · rw [if_neg ha] at hO
    unfold wX6_typeAt_J42
    exact sX6_bad (e := 0) h (by omega) fun τ h1 h2 => hO.no h1 h2
theorem TxtM.shorter {σ : St} {t : List Nat} {n : Nat} (h : TxtM σ t) (hn : n ≤ t.length) : TxtM (pI σ 1 (nI n)) (t.take n) :=
  ⟨by rw [gI_pI, if_pos rfl, List.length_take, Nat.min_eq_left hn], by rw [List.length_take]; have := h.2.1; omega, fun k hk => by
    rw [List.length_take] at hk
    rw [gA_pI, gd_take (by omega)]; exact h.2.2.1 k (by omega), fun k => by
    rcases Nat.lt_or_ge k n with q | q
    · rw [gd_take q]; exact h.2.2.2 k
    · rw [gd_ge (by rw [List.length_take]; omega)]; omega⟩
theorem sM_drop (h : InvM σ m) (hO : OutM (oDrop m) K) : wX6_drop σ K := by
  have hl := h.len
  unfold oDrop at hO
  refine pk_eq m.1.length 0 (fun z => ?_) (fun z => ?_) h.1.1 rfl (by omega) (by omega)
  · rw [if_pos z] at hO
    unfold wX6_drop_J13
    exact sX6_bad (e := 0) h (by omega) fun τ h1 h2 => hO.no h1 h2
  · rw [if_neg z] at hO
    unfold wX6_drop_J13
    refine sX6_good h fun τ h1 h2 _ => ?_
    rintro _ rfl
    rw [gI_pI, if_pos rfl, h1.1.1, nI_m1 (by omega)]
    exact hO.ok (h1.text Chg_pI (fun k e => Or.inl e) (h1.1.shorter (by omega)) (Sg_take h.2.1 _)) h2
theorem sM_clip {a b : Int32} (h : InvM σ m) (hO : OutM (oClip a b m) K) : wX6_clip σ a b K := by
  have hl := h.len
  unfold oClip at hO
  have hx : ¬ (0 ≤ a.toInt ∧ a.toInt ≤ b.toInt ∧ b.toInt ≤ m.1.length) → wX6_clip_J23 K σ a b 1 := fun q => by
    rw [if_neg q] at hO
    unfold wX6_clip_J23
    exact sX6_bad (e := 0) h (by omega) fun τ h1 h2 => hO.no h1 h2
  refine ⟨fun z => hx (by have := neg_iff.mp z; omega), fun z1 => ⟨fun z => hx ?_, fun z2 => ⟨fun z3 => ?_, fun z => hx fun w => z ?_⟩⟩⟩
  · rw [Int32.lt_iff_toInt_lt] at z; omega
  · have z1 := nneg z1
    rw [Int32.lt_iff_toInt_lt] at z2
    rw [h.1.1] at z3
    have z3 := (le_lit (by omega)).mp z3
    obtain ⟨ea, la, ia⟩ := of_nn (x := a) (by omega)
    obtain ⟨eb, lb, ib⟩ := of_nn (x := b) (by omega)
    rw [if_pos ⟨by omega, by omega, by omega⟩] at hO
    generalize nt a = f at ea ia hO
    generalize nt b = t at eb ib hO
    subst ea eb
    unfold wX6_clip_J23
    refine sX6_good h fun τ0 g1 g2 _ => ?_
    have key : ∀ d k (τ : St), k + d = m.1.length → t ≤ k → gI τ 1 = nI m.1.length → (∀ j, j < f → gA τ 1 j = nI (gd m.1 j)) → (∀ j, t ≤ j → j < k → gA τ 1 (j - (t - f)) = nI (gd m.1 j)) → (∀ j, k ≤ j → j < m.1.length → gA τ 1 j = nI (gd m.1 j)) → Chg (fun q => q = 1) τ0 τ → wX6_clip_L33 K (nI f) (nI t) (d + 1) τ (nI k) := by
      intro d
      induction d with
      | zero =>
        intro k τ hk htk hg h1 h2 h3 hc
        rw [wX6_clip_L33]
        refine pk_le m.1.length k (fun _ => ?_) (fun h => by omega) hg
        rintro _ rfl
        rw [gI_pI, if_pos rfl, hg, nI_subI (by omega), nI_subI (by omega)]
        refine hO.ok (g1.text (hc.tr Chg_pI) (fun k e => Or.inl e) ⟨?_, ?_, fun j hj => ?_, fun j => ?_⟩ (Sg_app (Sg_take h.2.1 _) (Sg_drop h.2.1 _))) ((hc.1 0 (by omega)).1.trans g2)
        · rw [gI_pI, if_pos rfl]
          simp only [List.length_append, List.length_take, List.length_drop]
          congr 1; omega
        · simp only [List.length_append, List.length_take, List.length_drop]; omega
        · simp only [List.length_append, List.length_take, List.length_drop] at hj
          rw [gA_pI]
          rcases Nat.lt_or_ge j f with q | q
          · rw [gd_app_l (by simp; omega), gd_take q]; exact h1 j q
          · rw [gd_app_r (by simp; omega), List.length_take, gd_drop]
            have := h2 (t + (j - min f m.1.length)) (by omega) (by omega)
            rw [← this]
            congr 1; omega
        · rcases Nat.lt_or_ge j f with q | q
          · rw [gd_app_l (by simp; omega), gd_take q]; exact h.1.2.2.2 j
          · rw [gd_app_r (by simp; omega), gd_drop]; exact h.1.2.2.2 _
      | succ d ih =>
        intro k τ hk htk hg h1 h2 h3 hc
        rw [wX6_clip_L33]
        refine pk_le m.1.length k (fun h => by omega) (fun y => ?_) hg
        rw [nI_add, nI_subI (by omega), nI_clamp (by omega), nI_clamp (by omega), h3 k (Nat.le_refl _) y, charN (by have := h.1.2.2.2 k; omega), nI_1]
        refine ⟨vp_in_nI (by omega) (by omega), vp_in_nI (by omega) (by omega), ?_⟩
        rintro _ rfl
        refine ih (k + 1) _ (by omega) (by omega) hg (fun j hj => ?_) (fun j hj hj2 => ?_) (fun j hj hj2 => ?_) (hc.tr Chg_pA)
        · rw [gA_pA, if_neg (by omega)]; exact h1 j hj
        · rw [gA_pA]
          by_cases e : j = k
          · rw [if_pos ⟨rfl, by omega⟩, e]
          · rw [if_neg (by omega)]
            exact h2 j hj (by omega)
        · rw [gA_pA, if_neg (by omega)]
          exact h3 j (by omega) hj2
    exact ⟨_, key (m.1.length - t) t τ0 (by omega) (Nat.le_refl _) g1.1.1 (fun j h => g1.1.2.2.1 j (by omega)) (fun j h1 h2 => by omega) (fun j _ h => g1.1.2.2.1 j h) Chg.rf⟩
  · rw [h.1.1]; exact (le_lit (by omega)).mpr w.2.2
theorem sM_wipe (h : InvM σ m) (hO : OutM (oWipe m) K) : wX6_wipe σ K := by
  rintro _ rfl _ rfl _ rfl
  have h1 := h.zero
  rw [h1.1.1.1]
  exact hO.ok (h1.1.text Chg_pI (fun k e => Or.inl e) (h1.1.1.shorter (Nat.zero_le _)) Sg_nil) h1.2
theorem sM_signAt {p : Int32} (h : InvM σ m) (hO : OutM (oSignAt p m) K) : wX6_signAt σ p K := by
  have hl := h.len
  unfold oSignAt at hO
  refine sX6_in (a := 0) (b := (m.1.length : Int) - 1) rfl (by rw [h.1.1]; exact pk_sub_toInt (b := 1) (by omega) (by omega)) (fun ha => bit1 ?_) (fun ha => bit0 ?_)
  · rw [if_pos ⟨by omega, by omega⟩] at hO
    obtain ⟨ep, lp, ip⟩ := of_nn (x := p) (by omega)
    generalize nt p = i at ep ip hO
    subst ep
    unfold wX6_signAt_J20
    refine sX6_good h fun τ h1 h2 _ => ?_
    rw [nI_clamp (by omega), h1.1.2.2.1 i (by omega)]
    exact ⟨vp_in_nI (by omega) (by omega), nar_char (by have := h.1.2.2.2 i; omega), hO.ok h1 h2⟩
  · rw [if_neg (fun z => ha ⟨z.1, by omega⟩)] at hO
    unfold wX6_signAt_J20
    exact sX6_bad (e := 0) h (by omega) fun τ h1 h2 => ⟨rfl, hO.no h1 h2⟩
end MDL
