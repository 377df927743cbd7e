/-! NUMBERS: what the predicates' words say of natural numbers -/
theorem nlit (n : Nat) : (OfNat.ofNat n : Int32) = nI n := rfl
theorem nI_eqI {a b : Nat} (ha : a < 2 ^ 31) (hb : b < 2 ^ 31) : nI a = nI b ↔ a = b := nI_eq ha hb
theorem vp_inN {n N : Nat} (h : n < 2 ^ 31) : vp_in (nI n) N ↔ n < N := by
  rw [vp_in_iff, nI_toInt h]
  omega
theorem nI_subI {a b : Nat} (h : b ≤ a) : nI a - nI b = nI (a - b) := pk_sub h
theorem nI_neg {a : Nat} (h : a < 2 ^ 31) : ¬ nI a < 0 := nI_pos h
theorem charN {q : Nat} (h : q < 65536) : vp_nar .char (nI q) = nI q := by
  have := (pk_charN h).1
  unfold vp_nar
  rw [this]
theorem capC_le (o : Nat) : capC o ≤ 30 := by
  unfold capC
  repeat' split
  all_goals omega
/-! ROWS AS LISTS -/
def gd (a : List Nat) (k : Nat) : Nat := a.getD k 0
theorem gd_lt {a : List Nat} {k : Nat} (h : k < a.length) : gd a k = a[k] := by simp [gd, h]
theorem gd_ge {a : List Nat} {k : Nat} (h : a.length ≤ k) : gd a k = 0 := by simp [gd, h]
theorem gd_nil (k : Nat) : gd [] k = 0 := by simp [gd]
theorem gd_0 (x : Nat) (l : List Nat) : gd (x :: l) 0 = x := by simp [gd]
theorem gd_s (x : Nat) (l : List Nat) (k : Nat) : gd (x :: l) (k + 1) = gd l k := by simp [gd]
theorem gd_app_l {a b : List Nat} {k : Nat} (h : k < a.length) : gd (a ++ b) k = gd a k := by
  simp [gd, List.getD_eq_getElem?_getD, List.getElem?_append_left h]
theorem gd_app_r {a b : List Nat} {k : Nat} (h : a.length ≤ k) : gd (a ++ b) k = gd b (k - a.length) := by
  simp [gd, List.getD_eq_getElem?_getD, List.getElem?_append_right h]
theorem gd_take {a : List Nat} {n k : Nat} (h : k < n) : gd (a.take n) k = gd a k := by
  simp [gd, List.getD_eq_getElem?_getD, List.getElem?_take, h]
theorem gd_drop {a : List Nat} {n k : Nat} : gd (a.drop n) k = gd a (n + k) := by
  simp [gd, List.getD_eq_getElem?_getD, List.getElem?_drop]
theorem gd_mem {a : List Nat} {k : Nat} (h : k < a.length) : gd a k ∈ a := by
  rw [gd_lt h]; exact List.getElem_mem h
theorem gd_of_mem {a : List Nat} {x : Nat} (h : x ∈ a) : ∃ k, k < a.length ∧ gd a k = x := by
  obtain ⟨k, hk, e⟩ := List.getElem_of_mem h
  exact ⟨k, hk, by rw [gd_lt hk, e]⟩
theorem gd_ext {a b : List Nat} (h : a.length = b.length) (hk : ∀ k, k < a.length → gd a k = gd b k) : a = b := by
  refine List.ext_getElem h fun k h1 h2 => ?_
  have := hk k h1
  rwa [gd_lt h1, gd_lt h2] at this
/-- how many first signs two rows have in common -/
def lcp : List Nat → List Nat → Nat
  | a :: l, b :: m => if a = b then lcp l m + 1 else 0
  | [], _ => 0
  | _ :: _, [] => 0
theorem lcp_nil (a : List Nat) : lcp [] a = 0 := by cases a <;> rfl
theorem lcp_nil' (a : List Nat) : lcp a [] = 0 := by cases a <;> rfl
theorem lcp_cc (a b : Nat) (l m : List Nat) : lcp (a :: l) (b :: m) = if a = b then lcp l m + 1 else 0 := rfl
theorem lcp_le : ∀ (a b : List Nat), lcp a b ≤ a.length ∧ lcp a b ≤ b.length
  | [], b => by rw [lcp_nil]; exact ⟨Nat.zero_le _, Nat.zero_le _⟩
  | a :: l, [] => by rw [lcp_nil']; exact ⟨Nat.zero_le _, Nat.zero_le _⟩
  | a :: l, b :: m => by
    have := lcp_le l m
    rw [lcp_cc]
    simp only [List.length_cons]
    split <;> omega
theorem lcp_comm : ∀ (a b : List Nat), lcp a b = lcp b a
  | [], b => by rw [lcp_nil, lcp_nil']
  | a :: l, [] => rfl
  | a :: l, b :: m => by
    rw [lcp_cc, lcp_cc, lcp_comm l m]
    by_cases h : a = b
    · rw [if_pos h, if_pos h.symm]
    · rw [if_neg h, if_neg (fun q => h q.symm)]
theorem lcp_gd : ∀ (a b : List Nat) (k : Nat), k < lcp a b → gd a k = gd b k
  | [], b, k, h => by rw [lcp_nil] at h; omega
  | a :: l, [], k, h => by rw [lcp_nil'] at h; omega
  | a :: l, b :: m, k, h => by
    rw [lcp_cc] at h
    split at h
    · rename_i e
      cases k with
      | zero => rw [gd_0, gd_0, e]
      | succ k => rw [gd_s, gd_s]; exact lcp_gd l m k (by omega)
    · omega
theorem lcp_stop : ∀ (a b : List Nat), lcp a b < a.length → lcp a b < b.length → gd a (lcp a b) ≠ gd b (lcp a b)
  | [], b, h, _ => by simp at h
  | a :: l, [], _, h => by simp at h
  | a :: l, b :: m, h1, h2 => by
    rw [lcp_cc] at h1 h2 ⊢
    by_cases e : a = b
    · rw [if_pos e] at h1 h2 ⊢
      simp only [List.length_cons] at h1 h2
      rw [gd_s, gd_s]
      exact lcp_stop l m (by omega) (by omega)
    · rw [if_neg e, gd_0, gd_0]
      exact e
theorem lcp_eq {a b : List Nat} {k : Nat} (ha : k ≤ a.length) (hb : k ≤ b.length) (h : ∀ j, j < k → gd a j = gd b j) (hs : k = a.length ∨ k = b.length ∨ gd a k ≠ gd b k) : lcp a b = k := by
  have h1 := lcp_le a b
  rcases Nat.lt_trichotomy (lcp a b) k with q | q | q
  · exact absurd (h _ q) (lcp_stop a b (by omega) (by omega))
  · exact q
  · rcases hs with e | e | e
    · omega
    · omega
    · exact absurd (lcp_gd a b k q) e
theorem lcp_ge {a b : List Nat} {k : Nat} (ha : k ≤ a.length) (hb : k ≤ b.length) (h : ∀ j, j < k → gd a j = gd b j) : k ≤ lcp a b := by
  have h1 := lcp_le a b
  rcases Nat.lt_or_ge (lcp a b) k with q | q
  · exact absurd (h _ q) (lcp_stop a b (by omega) (by omega))
  · exact q
/-- p is how w begins -/
def Pre (p w : List Nat) : Prop := lcp p w = p.length
theorem Pre_dec (p w : List Nat) : Pre p w ∨ ¬ Pre p w := by unfold Pre; omega
theorem pre_iff {p w : List Nat} : Pre p w ↔ p.length ≤ w.length ∧ ∀ k, k < p.length → gd p k = gd w k := by
  constructor
  · intro h
    have h1 := lcp_le p w
    refine ⟨by unfold Pre at h; omega, fun k hk => lcp_gd p w k (by unfold Pre at h; omega)⟩
  · rintro ⟨h1, h2⟩
    exact lcp_eq (Nat.le_refl _) h1 h2 (Or.inl rfl)
theorem pre_take {p w : List Nat} : Pre p w ↔ p = w.take p.length := by
  rw [pre_iff]
  constructor
  · rintro ⟨h1, h2⟩
    refine gd_ext (by simp; omega) fun k hk => ?_
    rw [gd_take hk]
    exact h2 k hk
  · intro h
    have h1 : p.length ≤ w.length := by
      have := congrArg List.length h
      simp at this
      omega
    refine ⟨h1, fun k hk => ?_⟩
    have : gd p k = gd (w.take p.length) k := by rw [← h]
    rwa [gd_take hk] at this
theorem pre_nil (w : List Nat) : Pre [] w := by unfold Pre; rw [lcp_nil]; rfl
theorem pre_refl (w : List Nat) : Pre w w := pre_iff.mpr ⟨Nat.le_refl _, fun _ _ => rfl⟩
theorem pre_trans {a b c : List Nat} (h1 : Pre a b) (h2 : Pre b c) : Pre a c := by
  rw [pre_iff] at *
  exact ⟨by omega, fun k hk => (h1.2 k hk).trans (h2.2 k (by omega))⟩
theorem pre_len {a b : List Nat} (h : Pre a b) : a.length ≤ b.length := (pre_iff.mp h).1
theorem pre_eq {a b c : List Nat} (h1 : Pre a c) (h2 : Pre b c) (e : a.length = b.length) : a = b := by
  rw [pre_take] at h1 h2
  rw [h1, h2, e]
theorem pre_both {a b c : List Nat} (h1 : Pre a c) (h2 : Pre b c) (e : a.length ≤ b.length) : Pre a b := by
  rw [pre_iff] at *
  exact ⟨e, fun k hk => (h1.2 k hk).trans (h2.2 k (by omega)).symm⟩
/-! THE ORDER -/
def lt : List Nat → List Nat → Bool
  | a :: l, b :: m => decide (a < b) || (decide (a = b) && lt l m)
  | [], _ :: _ => true
  | [], [] => false
  | _ :: _, [] => false
theorem lt_cc (a b : Nat) (l m : List Nat) : lt (a :: l) (b :: m) = true ↔ a < b ∨ (a = b ∧ lt l m = true) := by
  simp [lt]
theorem lt_nn : lt [] [] = false := rfl
theorem lt_cn (a : Nat) (l : List Nat) : lt (a :: l) [] = false := rfl
theorem lt_nc (a : Nat) (l : List Nat) : lt [] (a :: l) = true := rfl
theorem lt_x_n (a : List Nat) : lt a [] = false := by cases a <;> rfl
/-- the order by what two rows have in common -/
theorem lt_lcp : ∀ (a b : List Nat), lt a b = true ↔ lcp a b < b.length ∧ (lcp a b = a.length ∨ gd a (lcp a b) < gd b (lcp a b))
  | [], [] => by simp [lt, lcp]
  | [], b :: m => by simp [lt, lcp]
  | a :: l, [] => by simp [lt, lcp]
  | a :: l, b :: m => by
    rw [lt_cc, lcp_cc]
    by_cases e : a = b
    · rw [if_pos e, gd_s, gd_s]
      have := lt_lcp l m
      simp only [List.length_cons]
      rw [this]
      omega
    · rw [if_neg e, gd_0, gd_0]
      simp only [List.length_cons]
      omega
theorem lt_irr : ∀ (a : List Nat), lt a a = false
  | [] => rfl
  | a :: l => by
    have := lt_irr l
    cases h : lt (a :: l) (a :: l)
    · rfl
    · rw [lt_cc] at h
      rcases h with h | h
      · omega
      · rw [this] at h; cases h.2
theorem lt_tri : ∀ (a b : List Nat), lt a b = true ∨ a = b ∨ lt b a = true
  | [], [] => Or.inr (Or.inl rfl)
  | [], b :: m => Or.inl rfl
  | a :: l, [] => Or.inr (Or.inr rfl)
  | a :: l, b :: m => by
    rw [lt_cc, lt_cc]
    rcases Nat.lt_trichotomy a b with q | q | q
    · exact Or.inl (Or.inl q)
    · subst q
      rcases lt_tri l m with h | h | h
      · exact Or.inl (Or.inr ⟨rfl, h⟩)
      · exact Or.inr (Or.inl (by rw [h]))
      · exact Or.inr (Or.inr (Or.inr ⟨rfl, h⟩))
    · exact Or.inr (Or.inr (Or.inl q))
theorem lt_tr : ∀ (a b c : List Nat), lt a b = true → lt b c = true → lt a c = true
  | a, [], c, h, _ => by rw [lt_x_n] at h; cases h
  | a, b :: m, [], _, h => by cases h
  | [], b :: m, c :: n, _, _ => rfl
  | a :: l, b :: m, c :: n, h1, h2 => by
    rw [lt_cc] at *
    rcases h1 with h1 | ⟨e1, h1⟩ <;> rcases h2 with h2 | ⟨e2, h2⟩
    · left; omega
    · left; omega
    · left; omega
    · right; exact ⟨by omega, lt_tr l m n h1 h2⟩
theorem lt_asym {a b : List Nat} (h1 : lt a b = true) (h2 : lt b a = true) : False := by
  have := lt_tr a b a h1 h2
  rw [lt_irr] at this
  cases this
theorem lt_ne {a b : List Nat} (h : lt a b = true) : a ≠ b := fun e => by rw [e, lt_irr] at h; cases h
theorem nlt {a b : List Nat} (h : ¬ lt a b = true) : a = b ∨ lt b a = true := (lt_tri a b).resolve_left h
/-- a row that begins with p is not less than p -/
theorem pre_nlt {p w : List Nat} (h : Pre p w) : ¬ lt w p = true := by
  intro q
  rw [lt_lcp] at q
  unfold Pre at h
  rw [lcp_comm] at h
  omega
theorem pre_lt {p w : List Nat} (h : Pre p w) : p = w ∨ lt p w = true := by
  have := nlt (pre_nlt h)
  rcases this with e | e
  · exact Or.inl e.symm
  · exact Or.inr e
/-- what two rows have in common, by a third between them -/
theorem lcp_min {a b c : List Nat} : ∀ k, k ≤ lcp a b → k ≤ lcp b c → k ≤ lcp a c := fun k h1 h2 => by
  have l1 := lcp_le a b
  have l2 := lcp_le b c
  exact lcp_ge (by omega) (by omega) fun j hj => (lcp_gd a b j (by omega)).trans (lcp_gd b c j (by omega))
theorem lcp_btw : ∀ (a b c : List Nat), lt a b = true → lt b c = true → lcp a c ≤ lcp a b ∧ lcp a c ≤ lcp b c
  | [], b, c, _, _ => by rw [lcp_nil]; exact ⟨Nat.zero_le _, Nat.zero_le _⟩
  | a :: l, [], c, h, _ => by cases h
  | a :: l, b :: m, [], _, h => by cases h
  | a :: l, b :: m, c :: n, h1, h2 => by
    rw [lt_cc] at *
    rw [lcp_cc, lcp_cc, lcp_cc]
    by_cases e : a = c
    · rw [if_pos e]
      have e1 : a = b := by
        rcases h1 with h1 | h1
        · rcases h2 with h2 | h2 <;> omega
        · exact h1.1
      have e2 : b = c := by omega
      rw [if_pos e1, if_pos e2]
      have h1' : lt l m = true := by
        rcases h1 with h1 | h1
        · omega
        · exact h1.2
      have h2' : lt m n = true := by
        rcases h2 with h2 | h2
        · omega
        · exact h2.2
      have := lcp_btw l m n h1' h2'
      omega
    · rw [if_neg e]; omega
/-- not less than p and not beginning with it: behind all that begin with it -/
theorem lt_behind {p u v : List Nat} (hu : Pre p u) (hv : ¬ Pre p v) (h : lt p v = true) : lt u v = true := by
  rw [lt_lcp] at h
  have l1 := lcp_le p v
  have hne : lcp p v ≠ p.length := hv
  obtain ⟨h1, h2⟩ := h
  have h2 := h2.resolve_left hne
  obtain ⟨hu1, hu2⟩ := pre_iff.mp hu
  have e : lcp u v = lcp p v := lcp_eq (by omega) (by omega) (fun j hj => by rw [← hu2 j (by omega)]; exact lcp_gd p v j hj) (Or.inr (Or.inr (by
    rw [← hu2 _ (by omega)]
    exact lcp_stop p v (by omega) h1)))
  rw [lt_lcp, e]
  refine ⟨h1, Or.inr ?_⟩
  rw [← hu2 _ (by omega)]
  exact h2
