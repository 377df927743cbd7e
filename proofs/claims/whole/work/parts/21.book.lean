/-! SIGNS AND CODES -/
theorem sX5_isSign {σ : St} {v : Int32} {K : Int32 → Prop} (h1 : ∀ q, 97 ≤ q → q < 103 → v = nI q → K 1) (h0 : ¬ (∃ q, 97 ≤ q ∧ q < 103 ∧ v = nI q) → K 0) : wX5_isSign σ v K := by
  refine ⟨fun a => h0 ?_, fun a => ⟨fun b => h0 ?_, fun b => ?_⟩⟩
  · rintro ⟨q, q1, q2, rfl⟩
    have := (nI_ltI (a := q) (b := 97) (by omega) (by omega)).mp a
    omega
  · rintro ⟨q, q1, q2, rfl⟩
    have := (nI_leI (a := 103) (b := q) (by omega) (by omega)).mp b
    omega
  · have n0 : ¬ v < 0 := fun q => a (Int32.lt_trans q (by decide))
    obtain ⟨q, hq, rfl⟩ := nI_of n0
    have c1 : ¬ q < 97 := fun z => a ((nI_ltI (b := 97) hq (by omega)).mpr z)
    have c2 : ¬ 103 ≤ q := fun z => b ((nI_leI (a := 103) (by omega) hq).mpr z)
    exact h1 q (by omega) (by omega) rfl
theorem sX5_signOf {σ : St} {c : Nat} (hc : c < 6) {K : Int32 → Prop} (hK : K (nI (97 + c))) : wX5_signOf σ (nI c) K := by
  unfold wX5_signOf
  have e : (97 : Int32) + nI c = nI (97 + c) := nI_add 97 c
  rw [e, pk_char, pk_tn (by omega), Nat.mod_eq_of_lt (by omega)]
  exact hK
theorem capC_code {c : Nat} (h : c < 6) : capC (60 + 2 * c) = 3 := by
  unfold capC
  rw [if_neg (by omega), if_neg (by omega), if_neg (by omega), if_pos (by omega)]
theorem capC_wr {c : Nat} (h : c < 24) : capC (73 + 2 * c) = 30 := by
  unfold capC
  rw [if_neg (by omega), if_neg (by omega), if_neg (by omega), if_neg (by omega), if_pos (by omega)]
abbrev Cs : Type := Nat → List Nat
def BookIs (σ : St) (cs : Cs) : Prop := (∀ c, c < 6 → RowIs σ (60 + 2 * c) (cs c) ∧ 1 ≤ (cs c).length) ∧ RowIs σ 121 []
/-- all are signs -/
def Sg (a : List Nat) : Prop := ∀ s ∈ a, 97 ≤ s ∧ s < 103
theorem Sg.gd {a : List Nat} (h : Sg a) {k : Nat} (hk : k < a.length) : 97 ≤ gd a k ∧ gd a k < 103 := h _ (gd_mem hk)
theorem BookIs.len {σ : St} {cs : Cs} (h : BookIs σ cs) {c : Nat} (hc : c < 6) : (cs c).length ≤ 3 := by
  have := (h.1 c hc).1.2.1
  rwa [capC_code hc] at this
theorem BookIs.kept {P : Nat → Prop} {σ τ : St} {cs : Cs} (h : BookIs σ cs) (hc : Chg P σ τ) (hp : ∀ c, c < 6 → ¬ P (60 + 2 * c)) (h1 : ¬ P 121) : BookIs τ cs :=
  ⟨fun c q => ⟨(h.1 c q).1.kept hc (hp c q), (h.1 c q).2⟩, h.2.kept hc h1⟩
theorem sX0_codeOf {σ : St} {cs : Cs} (h : BookIs σ cs) {q : Nat} (h1 : 97 ≤ q) (h2 : q < 103) {K : Nat → Prop} (hK : K (60 + 2 * (q - 97))) : wX0_codeOf σ (nI q) K := by
  refine sX5_isSign (fun q1 _ _ e => ⟨fun z => absurd z (by decide), fun _ => ?_⟩) (fun z => absurd ⟨q, h1, h2, rfl⟩ z)
  have e : nI q - (97 : Int32) = nI (q - 97) := nI_subI (b := 97) h1
  rw [e, nI_clamp (by omega)]
  exact ⟨vp_in_nI (by omega) (by omega), hK⟩
/-- a row, written -/
def wrt (cs : Cs) (a : List Nat) : List Nat := a.flatMap fun s => cs (s - 97)
theorem wrt_nil (cs : Cs) : wrt cs [] = [] := rfl
theorem wrt_cons (cs : Cs) (s : Nat) (a : List Nat) : wrt cs (s :: a) = cs (s - 97) ++ wrt cs a := by simp [wrt]
theorem wrt_app (cs : Cs) (a b : List Nat) : wrt cs (a ++ b) = wrt cs a ++ wrt cs b := by simp [wrt]
theorem wrt_snoc (cs : Cs) (a : List Nat) {k : Nat} (h : k < a.length) : wrt cs (a.take (k + 1)) = wrt cs (a.take k) ++ cs (gd a k - 97) := by
  rw [← List.take_append_getElem h, wrt_app, gd_lt h]
  simp [wrt]
theorem wrt_len {σ : St} {cs : Cs} (h : BookIs σ cs) : ∀ (a : List Nat), Sg a → a.length ≤ (wrt cs a).length ∧ (wrt cs a).length ≤ 3 * a.length
  | [], _ => by simp [wrt]
  | s :: a, hs => by
    have := wrt_len h a (fun x hx => hs x (List.mem_cons_of_mem _ hx))
    have h2 := hs s List.mem_cons_self
    have h3 := h.len (c := s - 97) (by omega)
    have h4 := (h.1 (s - 97) (by omega)).2
    rw [wrt_cons]
    simp only [List.length_append, List.length_cons]
    omega
theorem wrt_pre_len {σ : St} {cs : Cs} (a : List Nat) (k : Nat) : (wrt cs (a.take k)).length ≤ (wrt cs a).length := by
  have : wrt cs a = wrt cs (a.take k) ++ wrt cs (a.drop k) := by rw [← wrt_app, List.take_append_drop]
  rw [this, List.length_append]; omega
theorem sX0_sizeWritten {σ : St} {cs : Cs} {x : Nat} {a : List Nat} (h : BookIs σ cs) (hx : RowIs σ x a) (hs : Sg a) {K : Int32 → Prop} (hK : K (nI (wrt cs a).length)) : wX0_sizeWritten σ x K := by
  have hl := hx.len
  have key : ∀ d k, k + d = a.length → wX0_sizeWritten_L4 K σ x (d + 1) (nI (wrt cs (a.take k)).length) (nI k) := by
    intro d
    induction d with
    | zero =>
      intro k hk
      rw [wX0_sizeWritten_L4]
      refine sX2_size hx (pk_le a.length k (fun _ => ?_) (fun q => by omega))
      rw [List.take_of_length_le (by omega)]; exact hK
    | succ d ih =>
      intro k hk
      rw [wX0_sizeWritten_L4]
      refine sX2_size hx (pk_le a.length k (fun _ => by omega) (fun q => sX2_at hx q ?_))
      have hg := hs.gd q
      refine sX0_codeOf h hg.1 hg.2 (sX2_size (h.1 (gd a k - 97) (by omega)).1 ?_)
      rw [nI_add, nI_1, ← List.length_append, ← wrt_snoc cs a q]
      exact ih (k + 1) (by omega)
  exact ⟨_, key a.length 0 (by omega)⟩
theorem sX0_writeInto {σ : St} {cs : Cs} {x y : Nat} {a : List Nat} (h : BookIs σ cs) (hx : RowIs σ x a) (hs : Sg a) (hxy : x ≠ y) (hy : ∀ c, c < 6 → 60 + 2 * c ≠ y) (hy1 : 121 ≠ y) (hl : (wrt cs a).length ≤ capC y) {K : St → Prop} (hK : ∀ τ, RowIs τ y (wrt cs a) → Chg (fun q => q = y) σ τ → K τ) : wX0_writeInto σ x y K := by
  have hal := hx.len
  have key : ∀ d k (τ : St), k + d = a.length → RowIs τ y (wrt cs (a.take k)) → Chg (fun q => q = y) σ τ → wX0_writeInto_L6 K x y (d + 1) τ (nI k) := by
    intro d
    induction d with
    | zero =>
      intro k τ hk h1 h2
      rw [wX0_writeInto_L6]
      refine sX2_size (hx.kept h2 hxy) (pk_le a.length k (fun _ => ?_) (fun q => by omega))
      rw [List.take_of_length_le (by omega)] at h1
      exact hK τ h1 h2
    | succ d ih =>
      intro k τ hk h1 h2
      rw [wX0_writeInto_L6]
      have hx2 := hx.kept h2 hxy
      have hb := h.kept h2 hy hy1
      refine sX2_size hx2 (pk_le a.length k (fun _ => by omega) (fun q => sX2_at hx2 q ?_))
      have hg := hs.gd q
      have hw := wrt_pre_len (σ := σ) (cs := cs) a (k + 1)
      rw [wrt_snoc cs a q, List.length_append] at hw
      refine sX0_codeOf hb hg.1 hg.2 (sX2_appendAll h1 (hb.1 (gd a k - 97) (by omega)).1 (hy _ (by omega)) (by omega) fun υ u1 u2 => ?_)
      rw [nI_1]
      exact ih (k + 1) υ (by omega) (by rw [wrt_snoc cs a q]; exact u1) (h2.tr u2)
  refine sX2_clear fun τ h1 h2 => ⟨_, key a.length 0 τ (by omega) (by simpa [wrt] using h1) h2⟩
/-- the words have signs alone -/
def SgW (ws : Ws) : Prop := ∀ i, i < ws.length → Sg (wd ws i)
theorem sX0_mostWritten {σ : St} {ws : Ws} {cs : Cs} (h : ListIs σ ws) (hb : BookIs σ cs) (hs : SgW ws) {K : Int32 → Prop} (hK : ∀ m, Top (fun n => ∃ i, i < ws.length ∧ n = (wrt cs (wd ws i)).length) m → m ≤ 90 → K (nI m)) : wX0_mostWritten σ K := by
  have h2 := h.2.1
  have key : ∀ d k m, k + d = ws.length → m ≤ 90 → Top (fun n => ∃ i, i < k ∧ n = (wrt cs (wd ws i)).length) m → wX0_mostWritten_L4 K σ (d + 1) (nI m) (nI k) := by
    intro d
    induction d with
    | zero =>
      intro k m hk hm ht
      rw [wX0_mostWritten_L4]
      refine sX4_size h (pk_le ws.length k (fun _ => hK m (by rwa [show k = ws.length by omega] at ht) hm) (fun q => by omega))
    | succ d ih =>
      intro k m hk hm ht
      rw [wX0_mostWritten_L4]
      refine sX4_size h (pk_le ws.length k (fun _ => by omega) (fun q => sX4_rowAt h k (by omega) fun r hr _ => sX0_sizeWritten hb hr (hs k q) ?_))
      have hl := hr.len
      have hw := (wrt_len hb _ (hs k q)).2
      rw [nI_1, nI_max (by omega) (by omega)]
      rintro _ rfl
      refine ih (k + 1) _ (by omega) (by omega) (ht.add fun n => ?_)
      constructor
      · rintro ⟨i, hi, e⟩
        rcases Nat.lt_or_ge i k with z | z
        · exact Or.inl ⟨i, z, e⟩
        · exact Or.inr (by rw [e, show i = k by omega])
      · rintro (⟨i, hi, e⟩ | e)
        · exact ⟨i, by omega, e⟩
        · exact ⟨k, by omega, e⟩
  exact ⟨_, key ws.length 0 0 (by omega) (by omega) (Top.nil fun n => by rintro ⟨i, hi, -⟩; omega)⟩
theorem sX0_writtenAt {σ : St} {k : Nat} (hk : k < 24) {K : Nat → Prop} (hK : K (73 + 2 * k)) : wX0_writtenAt σ (nI k) K := by
  refine ⟨fun q => absurd q (nI_neg (by omega)), fun _ => pk_le 24 k (fun q => by omega) (fun q => ?_)⟩
  rw [nI_clamp (by omega)]
  exact ⟨vp_in_nI (by omega) (by omega), hK⟩
/-- the rows for what is written -/
def WrB (k : Nat) : Prop := ∃ i, i < 24 ∧ k = 73 + 2 * i
theorem WrB_no {k : Nat} (h : k < 73) : ¬ WrB k := by rintro ⟨i, _, e⟩; omega
theorem sX0_writeWords {σ : St} {ws : Ws} {cs : Cs} (h : ListIs σ ws) (hb : BookIs σ cs) (hs : SgW ws) (hlen : ∀ i, i < ws.length → (wd ws i).length ≤ 10) {K : St → Prop} (hK : ∀ τ, (∀ i, i < ws.length → RowIs τ (73 + 2 * i) (wrt cs (wd ws i))) → Chg WrB σ τ → K τ) : wX0_writeWords σ K := by
  have h2 := h.2.1
  have key : ∀ d k (τ : St), k + d = ws.length → (∀ i, i < k → RowIs τ (73 + 2 * i) (wrt cs (wd ws i))) → Chg WrB σ τ → wX0_writeWords_L2 K (d + 1) τ (nI k) := by
    intro d
    induction d with
    | zero =>
      intro k τ hk h1 hc
      have hL : ListIs τ ws := h.kept hc (WrB_no (by omega)) (WrB_no (by omega)) (WrB_no (by omega)) (fun r hr => WrB_no (by have := hr.2.1; omega))
      rw [wX0_writeWords_L2]
      exact sX4_size hL (pk_le ws.length k (fun _ => hK τ (fun i hi => h1 i (by omega)) hc) (fun q => by omega))
    | succ d ih =>
      intro k τ hk h1 hc
      have hL : ListIs τ ws := h.kept hc (WrB_no (by omega)) (WrB_no (by omega)) (WrB_no (by omega)) (fun r hr => WrB_no (by have := hr.2.1; omega))
      have hB : BookIs τ cs := hb.kept hc (fun c q => WrB_no (by omega)) (fun ⟨i, _, e⟩ => by omega)
      rw [wX0_writeWords_L2]
      refine sX4_size hL (pk_le ws.length k (fun _ => by omega) (fun q => sX4_rowAt hL k (by omega) fun r hr hr2 => sX0_writtenAt (by omega) ?_))
      have hrp := hL.2.2.2.2.1 k (by omega)
      rw [← hr2 q] at hrp
      have hw := (wrt_len hB _ (hs k q)).2
      have h10 := hlen k q
      refine sX0_writeInto hB hr (hs k q) (fun e => by have := hrp.2.1; omega) (fun c hc e => by omega) (fun e => by omega) (by rw [capC_wr (by omega)]; omega) fun υ u1 u2 => ?_
      rw [nI_1]
      refine ih (k + 1) υ (by omega) (fun i hi => ?_) (hc.tr (u2.mono fun j e => ⟨k, by omega, e⟩))
      rcases Nat.lt_or_ge i k with z | z
      · exact (h1 i z).kept u2 (by omega)
      · rw [show i = k by omega]; exact u1
  exact ⟨_, key ws.length 0 σ (by omega) (fun i hi => by omega) Chg.rf⟩
/-- the codes are orderly -/
def Ord (cs : Cs) : Prop := ∀ a b, a < b → b < 6 → lt (cs a) (cs b) = true ∧ ¬ Pre (cs a) (cs b)
theorem sX0_isOrderly {σ : St} {cs : Cs} (h : BookIs σ cs) {K : Int32 → Prop} (h1 : Ord cs → K 1) (h0 : ¬ Ord cs → K 0) : wX0_isOrderly σ K := by
  have inner : ∀ (B : Int32 → Prop) a, a < 6 → ((∀ b, a < b → b < 6 → lt (cs a) (cs b) = true ∧ ¬ Pre (cs a) (cs b)) → B (nI (a + 1))) → ∀ d k, k + d = 6 → a < k → (∀ b, a < b → b < k → lt (cs a) (cs b) = true ∧ ¬ Pre (cs a) (cs b)) → wX0_isOrderly_L12 K B σ (nI a) (d + 1) (nI k) := by
    intro B a ha hB d
    induction d with
    | zero =>
      intro k hk hak hp
      rw [wX0_isOrderly_L12]
      refine pk_le 6 k (fun _ => ?_) (fun q => by omega)
      rw [nI_1]
      exact hB fun b b1 b2 => hp b b1 (by omega)
    | succ d ih =>
      intro k hk hak hp
      rw [wX0_isOrderly_L12]
      refine pk_le 6 k (fun _ => by omega) (fun q => ?_)
      rw [nI_clamp (by omega), nI_clamp (by omega)]
      refine ⟨vp_in_nI (by omega) (by omega), vp_in_nI (by omega) (by omega), sX2_compareWith (h.1 a ha).1 (h.1 k q).1 fun v hv => ⟨fun z => h0 fun o => ?_, fun z => ⟨vp_in_nI (by omega) (by omega), vp_in_nI (by omega) (by omega), sX2_beginsWith (h.1 k q).1 (h.1 a ha).1 ?_⟩⟩⟩
      · rw [hv.ge] at z
        exact z (o a k hak q).1
      · rw [hv.ge] at z
        rw [bool01, nI_1]
        refine ⟨fun y => ih (k + 1) (by omega) (by omega) fun b b1 b2 => ?_, fun y => h0 fun o => (o a k hak q).2 (preB_iff.mp (by simpa using y))⟩
        rcases Nat.lt_or_ge b k with w | w
        · exact hp b b1 w
        · rw [show b = k by omega]
          exact ⟨Classical.not_not.mp z, fun p => by rw [preB_iff.mpr p] at y; cases y⟩
  have outer : ∀ d a, a + d = 6 → (∀ b c, b < a → b < c → c < 6 → lt (cs b) (cs c) = true ∧ ¬ Pre (cs b) (cs c)) → wX0_isOrderly_L2 K σ (d + 1) (nI a) := by
    intro d
    induction d with
    | zero =>
      intro a ha hp
      rw [wX0_isOrderly_L2]
      exact pk_le 6 a (fun _ => h1 fun b c b1 c1 => hp b c (by omega) b1 c1) (fun q => by omega)
    | succ d ih =>
      intro a ha hp
      rw [wX0_isOrderly_L2]
      refine pk_le 6 a (fun _ => by omega) (fun q => ?_)
      rw [nI_1]
      refine ⟨_, inner _ a q (fun hq => ih (a + 1) (by omega) fun b c b1 b2 c1 => ?_) (6 - (a + 1)) (a + 1) (by omega) (by omega) (fun b b1 b2 => by omega)⟩
      rcases Nat.lt_or_ge b a with w | w
      · exact hp b c w b2 c1
      · have e : b = a := by omega
        subst e
        exact hq c b2 c1
  exact ⟨_, outer 6 0 (by omega) (fun b c b1 => by omega)⟩
theorem sX0_signRead {σ : St} {cs : Cs} {x p : Nat} {t : List Nat} (h : BookIs σ cs) (hx : RowIs σ x t) (hp : p ≤ t.length) {K : Int32 → Prop} (h1 : ∀ c, c < 6 → Pre (cs c) (t.drop p) → (∀ b, b < c → ¬ Pre (cs b) (t.drop p)) → K (nI (97 + c))) (h0 : (∀ c, c < 6 → ¬ Pre (cs c) (t.drop p)) → K 0) : wX0_signRead σ x (nI p) K := by
  have key : ∀ d k, k + d = 6 → (∀ b, b < k → ¬ Pre (cs b) (t.drop p)) → wX0_signRead_L2 K σ x (nI p) (d + 1) (nI k) := by
    intro d
    induction d with
    | zero =>
      intro k hk hn
      rw [wX0_signRead_L2]
      exact pk_le 6 k (fun _ => h0 fun c hc => hn c (by omega)) (fun q => by omega)
    | succ d ih =>
      intro k hk hn
      rw [wX0_signRead_L2]
      refine pk_le 6 k (fun _ => by omega) (fun q => ?_)
      rw [nI_clamp (by omega)]
      refine ⟨vp_in_nI (by omega) (by omega), sX2_hasAt hx (h.1 k q).1 hp ?_⟩
      rw [bool01, nI_1]
      refine ⟨fun z => ih (k + 1) (by omega) fun b hb => ?_, fun z => sX5_signOf q (h1 k q (preB_iff.mp (by simpa using z)) hn)⟩
      rcases Nat.lt_or_ge b k with w | w
      · exact hn b w
      · rw [show b = k by omega]
        exact fun p => by rw [preB_iff.mpr p] at z; cases z
  exact ⟨_, key 6 0 (by omega) (fun b hb => by omega)⟩
theorem pre_split {p w : List Nat} (h : Pre p w) : w = p ++ w.drop p.length := by
  have := pre_take.mp h
  conv => lhs; rw [← List.take_append_drop p.length w, ← this]
theorem pre_app {p w : List Nat} : Pre p (p ++ w) := by
  rw [pre_take]; simp
/-- no code begins with another one -/
theorem Ord.free {cs : Cs} (h : Ord cs) {a b : Nat} (ha : a < 6) (hb : b < 6) (hp : Pre (cs a) (cs b)) : a = b := by
  rcases Nat.lt_trichotomy a b with q | q | q
  · exact absurd hp (h a b q hb).2
  · exact q
  · exact absurd (h b a q ha).1 (pre_nlt hp)
/-- orderly codes: what is read is the only row that is written so -/
theorem wrt_split {σ : St} {cs : Cs} (hb : BookIs σ cs) (ho : Ord cs) : ∀ (u v : List Nat) (r : List Nat), Sg u → Sg v → wrt cs v = wrt cs u ++ r → ∃ w, v = u ++ w ∧ wrt cs w = r
  | [], v, r, _, _, e => ⟨v, rfl, by simpa [wrt] using e⟩
  | s :: u, [], r, hu, _, e => by
    have h1 := hu s List.mem_cons_self
    have := (hb.1 (s - 97) (by omega)).2
    rw [wrt_cons] at e
    have := congrArg List.length e
    simp [wrt] at this
    omega
  | s :: u, x :: v, r, hu, hv, e => by
    have h1 := hu s List.mem_cons_self
    have h2 := hv x List.mem_cons_self
    rw [wrt_cons, wrt_cons] at e
    have p1 : Pre (cs (s - 97)) (cs (x - 97) ++ wrt cs v) := by rw [e, List.append_assoc]; exact pre_app
    have p2 : Pre (cs (x - 97)) (cs (x - 97) ++ wrt cs v) := pre_app
    have es : s - 97 = x - 97 := by
      rcases Nat.le_total (cs (s - 97)).length (cs (x - 97)).length with q | q
      · exact ho.free (by omega) (by omega) (pre_both p1 p2 q)
      · exact (ho.free (by omega) (by omega) (pre_both p2 p1 q)).symm
    have es2 : s = x := by omega
    subst es2
    rw [List.append_assoc] at e
    have e2 := List.append_cancel_left e
    obtain ⟨w, hw1, hw2⟩ := wrt_split hb ho u v r (fun y hy => hu y (List.mem_cons_of_mem _ hy)) (fun y hy => hv y (List.mem_cons_of_mem _ hy)) e2
    exact ⟨w, by rw [hw1]; rfl, hw2⟩
theorem Sg_snoc {u : List Nat} {c : Nat} (h : Sg u) (hc : c < 6) : Sg (u ++ [97 + c]) := by
  intro s hs
  rcases List.mem_append.mp hs with q | q
  · exact h s q
  · rw [List.mem_singleton.mp q]; omega
theorem wrt_one (cs : Cs) (u : List Nat) (c : Nat) : wrt cs (u ++ [97 + c]) = wrt cs u ++ cs c := by
  rw [wrt_app, wrt_cons, wrt_nil, List.append_nil, show 97 + c - 97 = c by omega]
theorem take_pre {t : List Nat} {p : Nat} {c : List Nat} (hp : p ≤ t.length) (h : Pre c (t.drop p)) : t.take (p + c.length) = t.take p ++ c := by
  have := pre_take.mp h
  rw [List.take_add, ← this]
theorem pre_drop_len {t : List Nat} {p : Nat} {c : List Nat} (hp : p ≤ t.length) (h : Pre c (t.drop p)) : p + c.length ≤ t.length := by
  have := pre_len h
  rw [List.length_drop] at this
  omega
theorem sX0_readInto {σ : St} {cs : Cs} {x y : Nat} {t : List Nat} (h : BookIs σ cs) (ho : Ord cs) (hx : RowIs σ x t) (htl : t.length ≤ 24) (hxy : x ≠ y) (hy : ∀ c, c < 6 → 60 + 2 * c ≠ y) (hy1 : 121 ≠ y) (hcap : 24 ≤ capC y) {K : Int32 → St → Prop} (h1 : ∀ τ u, Sg u → wrt cs u = t → RowIs τ y u → Chg (fun q => q = y) σ τ → K 1 τ) (h0 : (∀ u, Sg u → wrt cs u ≠ t) → ∀ τ, Chg (fun q => q = y) σ τ → K 0 τ) : wX0_readInto σ x y K := by
  have endJ : ∀ p (τ : St) u, p ≤ t.length → Sg u → wrt cs u = t.take p → RowIs τ y u → Chg (fun q => q = y) σ τ → (p < t.length → ∀ u, Sg u → wrt cs u ≠ t) → wX0_readInto_J63 K τ x (nI p) := by
    intro p τ u hp hu hw hr hc hn
    refine sX2_size (hx.kept hc hxy) (pk_eq p t.length (fun e => h1 τ u hu (by rw [hw, e, List.take_length]) hr hc) (fun e => h0 (hn (by omega)) τ hc) rfl rfl (by omega) (by omega))
  have key : ∀ d k p (τ : St) u, k + d = 24 → p ≤ t.length → k ≤ p → u.length = k → Sg u → wrt cs u = t.take p → RowIs τ y u → Chg (fun q => q = y) σ τ → wX0_readInto_L9 K x y (d + 1) τ (nI p) (nI k) := by
    intro d
    induction d with
    | zero =>
      intro k p τ u hk hp hkp hul hu hw hr hc
      rw [wX0_readInto_L9]
      exact pk_le 24 k (fun _ => endJ p τ u hp hu hw hr hc (fun q => by omega)) (fun q => by omega)
    | succ d ih =>
      intro k p τ u hk hp hkp hul hu hw hr hc
      rw [wX0_readInto_L9]
      have hx2 := hx.kept hc hxy
      have hb := h.kept hc hy hy1
      refine pk_le 24 k (fun _ => by omega) (fun q => sX2_size hx2 (pk_le t.length p (fun z => endJ p τ u hp hu hw hr hc (fun q => by omega)) (fun z => sX0_signRead hb hx2 hp (fun c hc1 hc2 _ => ?_) (fun hn => ⟨fun _ => h0 (fun v hv e => ?_) τ hc, fun q => absurd rfl q⟩))))
      · have ne : ¬ (nI (97 + c) : Int32) = 0 := nI_ne0 (by omega) (by omega)
        refine ⟨fun q => absurd q ne, fun _ => sX2_append hr (by omega) (by omega) fun υ u1 u2 => ?_⟩
        have hb2 := hb.kept u2 hy hy1
        have hcl := (h.1 c hc1).2
        have hpl := pre_drop_len hp hc2
        refine sX0_codeOf hb2 (by omega) (by omega) ?_
        rw [show 97 + c - 97 = c by omega]
        refine sX2_size (hb2.1 c hc1).1 ?_
        rw [nI_add, nI_1]
        exact ih (k + 1) (p + (cs c).length) υ (u ++ [97 + c]) (by omega) hpl (by omega) (by simp; omega) (Sg_snoc hu hc1) (by rw [wrt_one, hw, take_pre hp hc2]) u1 (hc.tr u2)
      · have e2 : wrt cs v = wrt cs u ++ t.drop p := by rw [e, hw, List.take_append_drop]
        obtain ⟨w, -, hw2⟩ := wrt_split h ho u v (t.drop p) hu hv e2
        obtain ⟨w', rfl⟩ : ∃ w', v = u ++ w' := by
          obtain ⟨w, hw1, -⟩ := wrt_split h ho u v (t.drop p) hu hv e2
          exact ⟨w, hw1⟩
        have hw3 : wrt cs w' = t.drop p := by
          rw [wrt_app] at e2
          exact List.append_cancel_left e2
        cases w' with
        | nil =>
          rw [wrt_nil] at hw3
          have := congrArg List.length hw3
          rw [List.length_drop] at this
          simp at this
          omega
        | cons s w' =>
          have hs := hv s (List.mem_append_right _ List.mem_cons_self)
          rw [wrt_cons] at hw3
          exact hn (s - 97) (by omega) (by rw [← hw3]; exact pre_app)
  exact sX2_clear fun τ t1 t2 => ⟨_, key 24 0 0 τ [] (by omega) (by omega) (by omega) rfl (fun s hs => by cases hs) (by simp [wrt]) t1 t2⟩
