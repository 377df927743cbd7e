/-! WHAT EACH CALL ANSWERS AND LEAVES: (which exception, answer, state) -/
abbrev Stt : Type := List Nat × Ws × Cs
abbrev Res : Type := Nat × Int32 × Stt
def nt (x : Int32) : Nat := x.toInt.toNat
theorem nt_nI {j : Nat} (h : j < 2 ^ 31) : nt (nI j) = j := by unfold nt; rw [nI_toInt h]; omega
theorem neg_iff {x : Int32} : x < 0 ↔ x.toInt < 0 := by
  rw [Int32.lt_iff_toInt_lt]; rfl
theorem int_cases (x : Int32) : (x < 0 ∧ x.toInt < 0) ∨ ∃ j, j < 2 ^ 31 ∧ x = nI j ∧ x.toInt = j := by
  by_cases h : x < 0
  · exact Or.inl ⟨h, neg_iff.mp h⟩
  · obtain ⟨j, hj, rfl⟩ := nI_of h
    exact Or.inr ⟨j, hj, rfl, nI_toInt hj⟩
def isS (q : Nat) : Prop := 97 ≤ q ∧ q < 103
/-- the place of t among the words, their number if it is none -/
def idx : Ws → List Nat → Nat
  | [], _ => 0
  | w :: ws, t => if w.1 = t then 0 else idx ws t + 1
theorem idx_lt : ∀ {ws : Ws} {t : List Nat}, idx ws t < ws.length → wd ws (idx ws t) = t
  | [], _, h => by simp at h
  | w :: ws, t, h => by
    unfold idx at h ⊢
    by_cases e : w.1 = t
    · rw [if_pos e, wd_0, e]
    · rw [if_neg e] at h ⊢
      rw [wd_s]
      exact idx_lt (by simpa using h)
theorem idx_ge : ∀ {ws : Ws} {t : List Nat} {i : Nat}, i < ws.length → wd ws i = t → idx ws t ≤ i
  | [], _, _, h, _ => by simp at h
  | w :: ws, t, i, h, e => by
    unfold idx
    by_cases z : w.1 = t
    · rw [if_pos z]; omega
    · rw [if_neg z]
      cases i with
      | zero => exact absurd e z
      | succ i =>
        rw [wd_s] at e
        have := idx_ge (i := i) (by simpa using h) e
        omega
theorem idx_eq {ws : Ws} (hs : Srt ws) {t : List Nat} {i : Nat} (hi : i < ws.length) (e : wd ws i = t) : idx ws t = i := by
  have h1 := idx_ge hi e
  have h2 := idx_lt (ws := ws) (t := t) (by omega)
  exact hs.inj (by omega) hi (h2.trans e.symm)
theorem idx_no {ws : Ws} {t : List Nat} (h : ∀ i, i < ws.length → wd ws i ≠ t) : ¬ idx ws t < ws.length := fun q => h _ q (idx_lt q)
def digs (row k : Nat) : List Nat := (List.range k).map fun i => 97 + row / 6 ^ i % 6
theorem digs_snoc (row k : Nat) : digs row (k + 1) = digs row k ++ [97 + row / 6 ^ k % 6] := by
  simp [digs, List.range_succ]
theorem digs_len (row k : Nat) : (digs row k).length = k := by simp [digs]
/-- the i-th word that begins with t -/
def bAt : Ws → List Nat → Nat → Nat
  | [], _, _ => 0
  | w :: ws, t, n => if preB t w.1 = true then (if n = 0 then 0 else bAt ws t (n - 1) + 1) else bAt ws t n + 1
def coF : Ws → List Nat → Nat
  | [], _ => 0
  | w :: ws, t => max (coF ws t) (lcp t w.1)
theorem coF_top : ∀ (ws : Ws) (t : List Nat), Top (CoS ws t) (coF ws t)
  | [], t => Top.nil fun n => by rintro ⟨i, hi, -⟩; simp at hi
  | w :: ws, t => (coF_top ws t).add fun n => by
    constructor
    · rintro ⟨i, hi, e⟩
      cases i with
      | zero => exact Or.inr e
      | succ i => rw [wd_s] at e; exact Or.inl ⟨i, by simpa using hi, e⟩
    · rintro (⟨i, hi, e⟩ | e)
      · exact ⟨i + 1, by simpa using hi, by rw [wd_s]; exact e⟩
      · exact ⟨0, by simp, e⟩
def twF : Ws → Nat
  | [] => 0
  | w :: ws => max (twF ws) (coF ws w.1)
theorem Top.join {S T U : Nat → Prop} {m n : Nat} (h1 : Top S m) (h2 : Top T n) (h : ∀ x, U x ↔ S x ∨ T x) : Top U (max m n) := by
  refine ⟨fun x hx => ?_, ?_⟩
  · rcases (h x).mp hx with q | q
    · have := h1.1 x q; omega
    · have := h2.1 x q; omega
  · rcases Nat.le_total m n with q | q
    · rw [Nat.max_eq_right q]; exact h2.2.elim Or.inl fun z => Or.inr ((h n).mpr (Or.inr z))
    · rw [Nat.max_eq_left q]; exact h1.2.elim Or.inl fun z => Or.inr ((h m).mpr (Or.inl z))
theorem twF_top : ∀ (ws : Ws), Top (TwS ws) (twF ws)
  | [] => Top.nil fun n => by rintro ⟨i, j, _, hj, -⟩; simp at hj
  | w :: ws => (twF_top ws).join (coF_top ws w.1) fun n => by
    constructor
    · rintro ⟨i, j, h1, h2, e⟩
      cases j with
      | zero => omega
      | succ j =>
        rw [wd_s] at e
        cases i with
        | zero => exact Or.inr ⟨j, by simpa using h2, e⟩
        | succ i => rw [wd_s] at e; exact Or.inl ⟨i, j, by omega, by simpa using h2, e⟩
    · rintro (⟨i, j, h1, h2, e⟩ | ⟨j, h2, e⟩)
      · exact ⟨i + 1, j + 1, by omega, by simpa using h2, by rw [wd_s, wd_s]; exact e⟩
      · exact ⟨0, j + 1, by omega, by simpa using h2, by rw [wd_s, wd_0]; exact e⟩
/-- how many pieces by the longest each time -/
def stp (L : Nat → Nat) : Nat → Nat → Nat
  | 0, k => k
  | f + 1, k => if L (gp L k) = 0 then k else stp L f (k + 1)
theorem stp_eq {L : Nat → Nat} {s : Nat} (h1 : ∀ k, k < s → 0 < L (gp L k)) (h2 : L (gp L s) = 0) : ∀ (f k : Nat), k ≤ s → s < k + f → stp L f k = s
  | 0, k, a, b => by omega
  | f + 1, k, a, b => by
    unfold stp
    by_cases e : k = s
    · rw [if_pos (e ▸ h2), e]
    · have := h1 k (by omega)
      rw [if_neg (by omega)]
      exact stp_eq h1 h2 f (k + 1) (by omega) (by omega)
noncomputable def lstF (S : Nat → Prop) : Int32 := @dite _ (∃ v, Lst S v) (Classical.propDecidable _) (fun h => h.choose) (fun _ => 0)
theorem lstF_eq {S : Nat → Prop} {v : Int32} (h : Lst S v) : lstF S = v := by
  have hx : ∃ v, Lst S v := ⟨v, h⟩
  unfold lstF
  rw [dif_pos hx]
  exact hx.choose_spec.uniq h fun _ => Iff.rfl
noncomputable def ordB (cs : Cs) : Bool := @decide (Ord cs) (Classical.propDecidable _)
theorem ordB_iff {cs : Cs} : ordB cs = true ↔ Ord cs := by unfold ordB; exact @decide_eq_true_iff _ (Classical.propDecidable _)
noncomputable def rdF (cs : Cs) (t : List Nat) : Option (List Nat) := @dite _ (∃ u, Sg u ∧ wrt cs u = t) (Classical.propDecidable _) (fun h => some h.choose) (fun _ => none)
def nwF (ws : Ws) (t : List Nat) : Nat := nwv (fitB ws t) t.length (t.length + 1) 0
theorem NW_nwv (ws : Ws) (t : List Nat) : NW ws t (nwv (fitB ws t) t.length (t.length + 1)) := by
  have hF : ∀ p m, p ≤ t.length → fitB ws t p m = true → p + m ≤ t.length := fun p m hp h => by
    have := LgS_le (fitB_iff.mp h)
    rw [List.length_drop] at this
    omega
  refine ⟨?_, fun p hp => ?_⟩
  · show (if t.length = t.length then 1 else _) = 1
    rw [if_pos rfl]
  · show (if p = t.length then 1 else _) = _
    rw [if_neg (by omega)]
    exact tailS_cong 10 1 fun i h1 h2 h3 => nwv_same hF t.length (p + i) (hF p i (by omega) h3) (by have := hF p i (by omega) h3; omega)
def grw (cs : Cs) (ws : Ws) : Nat := ws.countP fun w => decide (w.1.length < (wrt cs w.1).length)
def wmap (cs : Cs) (ws : Ws) : Ws := ws.map fun w => (wrt cs w.1, w.2)
def oType (q : Nat) (m : Stt) : Res := if 97 ≤ q ∧ q < 103 then (if m.1.length < 24 then (0, nI (m.1.length + 1), (m.1 ++ [q], m.2)) else (2, 0, m)) else (1, 0, m)
def oTypeMore (a b : Int32) (m : Stt) : Res := if (1 ≤ a.toInt ∧ a.toInt ≤ 8) ∧ (0 ≤ b.toInt ∧ b.toInt ≤ 1679615) then (if m.1.length + nt a ≤ 24 then (0, nI (m.1.length + nt a), (m.1 ++ digs (nt b) (nt a), m.2)) else (2, 0, m)) else (1, 0, m)
def oTypeAt (p : Int32) (q : Nat) (m : Stt) : Res := if 0 ≤ p.toInt ∧ p.toInt ≤ m.1.length then (if 97 ≤ q ∧ q < 103 then (if m.1.length < 24 then (0, nI (m.1.length + 1), (m.1.take (nt p) ++ q :: m.1.drop (nt p), m.2)) else (3, 0, m)) else (2, 0, m)) else (1, 0, m)
def oDrop (m : Stt) : Res := if m.1.length = 0 then (1, 0, m) else (0, nI (m.1.length - 1), (m.1.take (m.1.length - 1), m.2))
def oClip (a b : Int32) (m : Stt) : Res := if 0 ≤ a.toInt ∧ a.toInt ≤ b.toInt ∧ b.toInt ≤ m.1.length then (0, nI (m.1.length - (nt b - nt a)), (m.1.take (nt a) ++ m.1.drop (nt b), m.2)) else (1, 0, m)
def oWipe (m : Stt) : Res := (0, nI m.1.length, ([], m.2))
def oTurn (m : Stt) : Res := (0, (if m.1.reverse = m.1 then 1 else 0), (m.1.reverse, m.2))
def oSignAt (p : Int32) (m : Stt) : Res := if 0 ≤ p.toInt ∧ p.toInt < m.1.length then (0, nI (gd m.1 (nt p)), m) else (1, 0, m)
def oPut (n : Int32) (m : Stt) : Res := if 0 ≤ n.toInt ∧ n.toInt ≤ 999 then (if 1 ≤ m.1.length ∧ m.1.length ≤ 10 then (if idx m.2.1 m.1 < m.2.1.length then (0, nI (nu m.2.1 (idx m.2.1 m.1)), (m.1, setNu m.2.1 (idx m.2.1 m.1) (nt n), m.2.2)) else if m.2.1.length < 24 then (0, -1, (m.1, insW m.2.1 (cL m.2.1 m.1) m.1 (nt n), m.2.2)) else (3, 0, m)) else (2, 0, m)) else (1, 0, m)
def oTake (m : Stt) : Res := if idx m.2.1 m.1 < m.2.1.length then (0, nI (nu m.2.1 (idx m.2.1 m.1)), (m.1, remW m.2.1 (idx m.2.1 m.1), m.2.2)) else (1, 0, m)
def oNumber (m : Stt) : Res := if idx m.2.1 m.1 < m.2.1.length then (0, nI (nu m.2.1 (idx m.2.1 m.1)), m) else (1, 0, m)
def oWords (m : Stt) : Res := (0, nI m.2.1.length, m)
def oRank (m : Stt) : Res := (0, nI (cL m.2.1 m.1), m)
def oBecome (i : Nat) (m : Stt) : Stt := (wd m.2.1 i, m.2)
def oWord (k : Int32) (m : Stt) : Res := if 0 ≤ k.toInt ∧ k.toInt < m.2.1.length then (0, nI (wd m.2.1 (nt k)).length, oBecome (nt k) m) else (1, 0, m)
/-- the rank of the word that is near, plus 1 -/
def nrk (h : Nat) (m : Stt) : Nat := if h = 102 then cG m.2.1 m.1 else if h = 99 then cL m.2.1 m.1 + 1 else if h = 108 then cL m.2.1 m.1 else cG m.2.1 m.1 + 1
def oNear (h : Nat) (m : Stt) : Res := if h = 102 ∨ h = 99 ∨ h = 108 ∨ h = 104 then (if 1 ≤ nrk h m ∧ nrk h m ≤ m.2.1.length then (0, nI (nu m.2.1 (nrk h m - 1)), oBecome (nrk h m - 1) m) else (2, 0, m)) else (1, 0, m)
def oBegun (m : Stt) : Res := (0, nI (cB m.2.1 m.1), m)
def oBegunAt (v : Int32) (m : Stt) : Res := if 0 ≤ v.toInt ∧ bAt m.2.1 m.1 (nt v) < m.2.1.length then (0, nI (nu m.2.1 (bAt m.2.1 m.1 (nt v))), oBecome (bAt m.2.1 m.1 (nt v)) m) else (1, 0, m)
def oSum (m : Stt) : Res := (0, nI (sB m.2.1 m.1), m)
def oGone (m : Stt) : Res := (0, nI (cB m.2.1 m.1), (m.1, m.2.1.filter (fun w => !preB m.1 w.1), m.2.2))
def oLongest (p : Int32) (m : Stt) : Res := if 0 ≤ p.toInt ∧ p.toInt ≤ m.1.length then (0, nI (lgL m.2.1 m.1 (nt p)), m) else (1, 0, m)
def oShared (m : Stt) : Res := (0, nI (coF m.2.1 m.1), m)
def oTwin (m : Stt) : Res := if 2 ≤ m.2.1.length then (0, nI (twF m.2.1), m) else (1, 0, m)
def pcs (m : Stt) : Nat := stp (lgL m.2.1 m.1) 25 0
def oPieces (m : Stt) : Res := (0, (if gp (lgL m.2.1 m.1) (pcs m) = m.1.length then nI (pcs m) else -1 - nI (gp (lgL m.2.1 m.1) (pcs m))), m)
def oPiece (v : Int32) (m : Stt) : Res := if 0 ≤ v.toInt ∧ 0 < lgL m.2.1 m.1 (gp (lgL m.2.1 m.1) (nt v)) then (0, nI (lgL m.2.1 m.1 (gp (lgL m.2.1 m.1) (nt v))), m) else (1, 0, m)
noncomputable def oFewest (m : Stt) : Res := (0, lstF (fun k => rch m.2.1 m.1 k m.1.length), m)
def oCode (q : Nat) (m : Stt) : Res := if 97 ≤ q ∧ q < 103 then (if 1 ≤ m.1.length ∧ m.1.length ≤ 3 then (0, nI (m.2.2 (q - 97)).length, (m.1, m.2.1, fun c => if c = q - 97 then m.1 else m.2.2 c)) else (2, 0, m)) else (1, 0, m)
def oWrite (m : Stt) : Res := if (wrt m.2.2 m.1).length ≤ 24 then (0, nI (wrt m.2.2 m.1).length, (wrt m.2.2 m.1, m.2)) else (1, 0, m)
noncomputable def oRead (m : Stt) : Res := if ordB m.2.2 = true then (match rdF m.2.2 m.1 with | some u => (0, nI u.length, (u, m.2)) | none => (2, 0, m)) else (1, 0, m)
noncomputable def oWriteAll (m : Stt) : Res := if ordB m.2.2 = true then (if m.2.1.all (fun w => decide ((wrt m.2.2 w.1).length ≤ 10)) = true then (0, nI (grw m.2.2 m.2.1), (m.1, wmap m.2.2 m.2.1, m.2.2)) else (2, 0, m)) else (1, 0, m)
/-- the sum over all -/
def addW (s : Int64) (ws : Ws) : Int64 := ws.foldl (fun s w => 31 * addS s w.1 + lN w.2) s
def addC (cs : Cs) (s : Int64) : Nat → Int64
  | 0 => s
  | c + 1 => addS (31 * addC cs s c + lN (cs c).length) (cs c)
def oSumAll (m : Stt) : Int64 := addC m.2.2 (addW (addS 7 m.1) m.2.1) 6
/-! THE CLASS'S STATE -/
def InvC (σ : St) (m : Stt) : Prop := RowIs σ 1 m.1 ∧ Sg m.1 ∧ ListIs σ m.2.1 ∧ Srt m.2.1 ∧ SgW m.2.1 ∧ LenW m.2.1 ∧ BookIs σ m.2.2 ∧ ∀ c, c < 6 → Sg (m.2.2 c)
theorem InvC.len {σ : St} {m : Stt} (h : InvC σ m) : m.1.length ≤ 24 := h.1.2.1
/-- objects that are no part of the state -/
def Free (k : Nat) : Prop := k = 3 ∨ T3 k ∨ CutB k ∨ WrB k
theorem Free.no {k : Nat} (h : Free k) : k ≠ 1 ∧ k ≠ 5 ∧ k ≠ 55 ∧ k ≠ 56 ∧ ¬ poolB k ∧ (∀ c, c < 6 → k ≠ 60 + 2 * c) ∧ k ≠ 121 := by
  unfold Free T3 T2 CutB WrB poolB at *
  rcases h with h | ((h | h) | h) | (h | h) | ⟨i, hi, h⟩ <;> (refine ⟨by omega, by omega, by omega, by omega, by omega, fun c hc => by omega, by omega⟩)
theorem InvC.free {P : Nat → Prop} {σ τ : St} {m : Stt} (h : InvC σ m) (hc : Chg P σ τ) (hP : ∀ k, P k → Free k) : InvC τ m := by
  obtain ⟨a1, a2, a3, a4, a5, a6, a7, a8⟩ := h
  have hc := hc.mono hP
  exact ⟨a1.kept hc (fun q => q.no.1 rfl), a2, a3.kept hc (fun q => q.no.2.1 rfl) (fun q => q.no.2.2.1 rfl) (fun q => q.no.2.2.2.1 rfl) (fun r hr q => q.no.2.2.2.2.1 hr), a4, a5, a6, a7.kept hc (fun c hc q => q.no.2.2.2.2.2.1 c hc rfl) (fun q => q.no.2.2.2.2.2.2 rfl), a8⟩
theorem InvC.text {σ τ : St} {m : Stt} {t : List Nat} (h : InvC σ m) (hc : Chg (fun k => k = 1) σ τ) (ht : RowIs τ 1 t) (hs : Sg t) : InvC τ (t, m.2) := by
  obtain ⟨a1, a2, a3, a4, a5, a6, a7, a8⟩ := h
  exact ⟨ht, hs, a3.kept hc (by omega) (by omega) (by omega) (fun r hr => by have := hr.1; omega), a4, a5, a6, a7.kept hc (fun c _ => by omega) (by omega), a8⟩
theorem InvC.list {σ τ : St} {m : Stt} {ws : Ws} (h : InvC σ m) (hc : ChgL σ τ) (hL : ListIs τ ws) (h1 : Srt ws) (h2 : SgW ws) (h3 : LenW ws) : InvC τ (m.1, ws, m.2.2) := by
  obtain ⟨a1, a2, a3, a4, a5, a6, a7, a8⟩ := h
  have np : ∀ {k}, 55 ≤ k → ¬ poolB k := fun hk q => by have := q.2.1; omega
  refine ⟨a1.keptL hc (by omega) (by omega) (fun q => by have := q.1; omega), a2, hL, h1, h2, h3, ⟨fun c hc2 => ⟨(a7.1 c hc2).1.keptL hc (by omega) (by omega) (np (by omega)), (a7.1 c hc2).2⟩, a7.2.keptL hc (by omega) (by omega) (np (by omega))⟩, a8⟩
/-- what a call leaves: an answer, or one of its exceptions -/
def OutC (E : List String) (o : Res) (K : Int32 → St → Prop) (X : String → St → Prop) : Prop := (o.1 = 0 → ∀ τ, InvC τ o.2.2 → K o.2.1 τ) ∧ ∀ (e : Nat) (n : String), o.1 = e + 1 → E[e]? = some n → ∀ τ, InvC τ o.2.2 → X n τ
theorem OutC.k {E : List String} {r : Int32} {m : Stt} {K : Int32 → St → Prop} {X : String → St → Prop} (h : OutC E (0, r, m) K X) {τ : St} (hτ : InvC τ m) : K r τ := h.1 rfl τ hτ
theorem OutC.x {E : List String} {k : Nat} {r : Int32} {m : Stt} {K : Int32 → St → Prop} {X : String → St → Prop} (h : OutC E (k + 1, r, m) K X) {n : String} (hn : E[k]? = some n) {τ : St} (hτ : InvC τ m) : X n τ := h.2 k n rfl hn τ hτ
abbrev eA : String := "java/lang/IllegalArgumentException"
abbrev eS : String := "java/lang/IllegalStateException"
abbrev eI : String := "java/lang/IndexOutOfBoundsException"
abbrev eN : String := "java/util/NoSuchElementException"
abbrev eU : String := "java/lang/UnsupportedOperationException"
