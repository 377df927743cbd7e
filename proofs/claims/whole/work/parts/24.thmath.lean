/-! THE THEOREM, AS MATHEMATICS -/
theorem countP_add {α : Type} (p q r : α → Bool) (l : List α) (h : ∀ x ∈ l, r x = (p x || q x)) (hd : ∀ x ∈ l, p x = true → q x = false) : l.countP r = l.countP p + l.countP q := by
  induction l with
  | nil => rfl
  | cons a l ih =>
    have h1 := h a List.mem_cons_self
    have h2 := hd a List.mem_cons_self
    have ih := ih (fun x hx => h x (List.mem_cons_of_mem _ hx)) (fun x hx => hd x (List.mem_cons_of_mem _ hx))
    rw [List.countP_cons, List.countP_cons, List.countP_cons, ih, h1]
    cases hp : p a
    · simp; omega
    · simp [h2 hp]; omega
/-- the words that begin with p stand side by side -/
theorem together {ws : Ws} (hs : Srt ws) (p : List Nat) : CutAt ws (fun w => lt w p || preB p w) (cL ws p + cB ws p) := by
  have h := cut_count ws (fun w => lt w p || preB p w) fun i j hij hj hp => by
    have hlt := hs i j hij hj
    simp only [Bool.or_eq_true] at hp ⊢
    rcases hp with hp | hp
    · exact Or.inl (lt_tr _ _ _ hlt hp)
    · rcases lt_tri (wd ws i) p with q | q | q
      · exact Or.inl q
      · exact Or.inr (preB_iff.mpr (q ▸ pre_refl _))
      · by_cases z : Pre p (wd ws i)
        · exact Or.inr (preB_iff.mpr z)
        · exact absurd hlt (fun y => lt_asym y (lt_behind (preB_iff.mp hp) z q))
  have e : ws.countP (fun w => lt w.1 p || preB p w.1) = cL ws p + cB ws p := countP_add _ _ _ ws (fun _ _ => rfl) fun x _ hx => by
    cases q : preB p x.1
    · rfl
    · exact absurd hx (pre_nlt (preB_iff.mp q))
  rw [← e]
  exact h
theorem together_iff {ws : Ws} (hs : Srt ws) (p : List Nat) {i : Nat} (hi : i < ws.length) : (cL ws p ≤ i ∧ i < cL ws p + cB ws p) ↔ Pre p (wd ws i) := by
  have h1 := cL_cut hs p
  have h2 := together hs p
  constructor
  · rintro ⟨a, b⟩
    have c := h2.2.1 i b
    have d := h1.2.2 i a hi
    simp only [d, Bool.false_or] at c
    exact preB_iff.mp c
  · intro h
    refine ⟨?_, ?_⟩
    · rcases Nat.lt_or_ge i (cL ws p) with q | q
      · exact absurd (h1.2.1 i q) (pre_nlt h)
      · exact q
    · rcases Nat.lt_or_ge i (cL ws p + cB ws p) with q | q
      · exact q
      · have := h2.2.2 i q hi
        simp [preB_iff.mpr h] at this
theorem pre_le {w s : List Nat} (h : Pre w s) : ¬ lt s w = true := pre_nlt h
/-- w, not greater than f, f not greater than s: what w has in common with s, it has with f -/
theorem lcp_le_mid {w f s : List Nat} (h1 : ¬ lt f w = true) (h2 : ¬ lt s f = true) : lcp w s ≤ lcp w f ∧ lcp w s ≤ lcp f s := by
  rcases nlt h1 with e1 | e1
  · subst e1
    have := (lcp_le f s).1
    have e : lcp f f = f.length := pre_refl f
    omega
  · rcases nlt h2 with e2 | e2
    · subst e2
      have := (lcp_le w s).2
      have e : lcp s s = s.length := pre_refl s
      omega
    · exact lcp_btw w f s e1 e2
theorem Srt.le {ws : Ws} (h : Srt ws) {i j : Nat} (hij : i ≤ j) (hj : j < ws.length) : ¬ lt (wd ws j) (wd ws i) = true := by
  intro q
  rcases Nat.lt_or_ge i j with z | z
  · exact lt_asym q (h i j z hj)
  · rw [show i = j by omega, lt_irr] at q; cases q
/-- by the order: the words with which s begins -/
theorem lg_none {ws : Ws} (hs : Srt ws) {s : List Nat} (h : cG ws s = 0) : lgF ws s = 0 := by
  refine (lgF_top ws s).uniq (T := fun _ => False) (Top.nil fun _ q => q) fun n => ?_
  constructor
  · rintro ⟨i, hi, h1, -⟩
    have := (cG_cut hs s).2.2 i (by omega) hi
    simp only [Bool.not_eq_false'] at this
    exact pre_le h1 this
  · exact False.elim
theorem lg_floor {ws : Ws} (hs : Srt ws) {s : List Nat} {i n : Nat} (hg : 0 < cG ws s) (hi : i < ws.length) (hp : Pre (wd ws i) s) (hn : n = (wd ws i).length) : Pre (wd ws i) (wd ws (cG ws s - 1)) ∧ n ≤ lcp s (wd ws (cG ws s - 1)) := by
  have hc := cG_cut hs s
  have hc1 := hc.1
  have hig : i < cG ws s := by
    rcases Nat.lt_or_ge i (cG ws s) with q | q
    · exact q
    · have := hc.2.2 i q hi
      simp only [Bool.not_eq_false'] at this
      exact absurd this (pre_le hp)
  have h1 := hs.le (i := i) (j := cG ws s - 1) (by omega) (by omega)
  have h2 := hc.2.1 (cG ws s - 1) (by omega)
  simp only [Bool.not_eq_true'] at h2
  have h2 : ¬ lt s (wd ws (cG ws s - 1)) = true := by rw [h2]; decide
  have h3 := lcp_le_mid h1 h2
  have e : lcp (wd ws i) s = (wd ws i).length := hp
  have h4 := (lcp_le (wd ws i) (wd ws (cG ws s - 1))).1
  refine ⟨?_, ?_⟩
  · unfold Pre; omega
  · rw [hn, lcp_comm]; omega
theorem lg_is_floor {ws : Ws} (hs : Srt ws) {s : List Nat} (hg : 0 < cG ws s) (hp : Pre (wd ws (cG ws s - 1)) s) : lgF ws s = (wd ws (cG ws s - 1)).length := by
  have hc1 := (cG_cut hs s).1
  refine (lgF_top ws s).uniq (T := LgS ws s) ⟨?_, Or.inr ⟨cG ws s - 1, by omega, hp, rfl⟩⟩ fun _ => Iff.rfl
  rintro n ⟨i, hi, h1, h2⟩
  have := pre_len (lg_floor hs hg hi h1 h2).1
  omega
theorem lg_both {ws : Ws} (hs : Srt ws) {s : List Nat} (hg : 0 < cG ws s) : lgF ws s = lgF ws (s.take (lcp s (wd ws (cG ws s - 1)))) := by
  refine (lgF_top ws s).uniq (lgF_top ws _) fun n => ?_
  constructor
  · rintro ⟨i, hi, h1, h2⟩
    have h3 := (lg_floor hs hg hi h1 h2).2
    refine ⟨i, hi, ?_, h2⟩
    rw [pre_iff] at h1 ⊢
    have := (lcp_le s (wd ws (cG ws s - 1))).1
    exact ⟨by rw [List.length_take]; omega, fun k hk => by rw [gd_take (by omega)]; exact h1.2 k hk⟩
  · rintro ⟨i, hi, h1, h2⟩
    refine ⟨i, hi, ?_, h2⟩
    rw [pre_iff] at h1 ⊢
    rw [List.length_take] at h1
    exact ⟨by omega, fun k hk => by rw [h1.2 k hk, gd_take (by omega)]⟩
/-- the most in common, by the order -/
theorem co_order {ws : Ws} (hs : Srt ws) {t fl : List Nat} (h0 : cG ws t = 0 → fl = []) (h1 : 0 < cG ws t → fl = wd ws (cG ws t - 1)) : Top (CoS ws t) (max (lcp t fl) (lcp t (wd ws (cL ws t)))) := by
  have hc := cL_cut hs t
  have hg := cG_cut hs t
  have hc1 := hc.1
  have hg1 := hg.1
  refine ⟨?_, ?_⟩
  · rintro n ⟨i, hi, rfl⟩
    by_cases q : lt t (wd ws i) = true
    · have hge : cL ws t ≤ i := by
        rcases Nat.lt_or_ge i (cL ws t) with z | z
        · exact absurd (hc.2.1 i z) (fun y => lt_asym q y)
        · exact z
      have z1 := hs.le hge hi
      have z2 := hc.2.2 (cL ws t) (Nat.le_refl _) (by omega)
      have z2 : ¬ lt (wd ws (cL ws t)) t = true := fun y => by simp only [y] at z2; cases z2
      have := (lcp_le_mid z2 z1).1
      omega
    · have hlt : i < cG ws t := by
        rcases Nat.lt_or_ge i (cG ws t) with z | z
        · exact z
        · have := hg.2.2 i z hi
          simp only [Bool.not_eq_false'] at this
          exact absurd this q
      have e := h1 (by omega)
      have z1 := hs.le (i := i) (j := cG ws t - 1) (by omega) (by omega)
      have z2 := hg.2.1 (cG ws t - 1) (by omega)
      simp only [Bool.not_eq_true'] at z2
      have := (lcp_le_mid z1 (by rw [z2]; decide)).2
      rw [lcp_comm t (wd ws i), e, lcp_comm t (wd ws (cG ws t - 1))]
      omega
  · by_cases z : cL ws t < ws.length
    · rcases Nat.lt_or_ge (lcp t fl) (lcp t (wd ws (cL ws t))) with y | y
      · rw [Nat.max_eq_right (by omega)]
        exact Or.inr ⟨_, z, rfl⟩
      · rw [Nat.max_eq_left y]
        rcases Nat.eq_zero_or_pos (cG ws t) with x | x
        · rw [h0 x, lcp_nil']; exact Or.inl rfl
        · rw [h1 x]; exact Or.inr ⟨_, by omega, rfl⟩
    · rw [wd_ge (by omega), lcp_nil', Nat.max_eq_left (Nat.zero_le _)]
      rcases Nat.eq_zero_or_pos (cG ws t) with x | x
      · rw [h0 x, lcp_nil']; exact Or.inl rfl
      · rw [h1 x]; exact Or.inr ⟨_, by omega, rfl⟩
/-- what two that are next to each other have in common -/
def AdS (ws : Ws) (k n : Nat) : Prop := ∃ i, i + 1 < k ∧ n = lcp (wd ws i) (wd ws (i + 1))
theorem tw_order {ws : Ws} (hs : Srt ws) {m : Nat} (h : Top (AdS ws ws.length) m) : Top (TwS ws) m := by
  refine ⟨?_, h.2.elim Or.inl fun ⟨i, h1, h2⟩ => Or.inr ⟨i, i + 1, by omega, h1, h2⟩⟩
  rintro n ⟨i, j, h1, h2, rfl⟩
  have a := h.1 _ ⟨i, by omega, rfl⟩
  rcases Nat.lt_or_ge (i + 1) j with q | q
  · have := (lcp_btw _ _ _ (hs i (i + 1) (by omega) (by omega)) (hs (i + 1) j q h2)).1
    omega
  · rw [show j = i + 1 by omega]; exact a
/-! ways -/
theorem tailS_cong {F : Nat → Nat → Bool} {f g : Nat → Nat} {q : Nat} : ∀ (e m : Nat), (∀ i, m ≤ i → i < m + e → F q i = true → f (q + i) = g (q + i)) → tailS F f q e m = tailS F g q e m
  | 0, _, _ => rfl
  | e + 1, m, h => by
    show (if F q m = true then _ else _) + _ = (if F q m = true then _ else _) + _
    rw [tailS_cong e (m + 1) fun i h1 h2 => h i (by omega) (by omega)]
    by_cases z : F q m = true
    · rw [if_pos z, if_pos z, h m (Nat.le_refl _) (by omega) z]
    · rw [if_neg z, if_neg z]
def nwv (F : Nat → Nat → Bool) (n : Nat) : Nat → Nat → Nat
  | 0, _ => 0
  | k + 1, p => if p = n then 1 else tailS F (nwv F n k) p 10 1
theorem nwv_same {F : Nat → Nat → Bool} {n : Nat} (hF : ∀ p m, p ≤ n → F p m = true → p + m ≤ n) : ∀ k p, p ≤ n → n - p < k → nwv F n k p = nwv F n (k + 1) p
  | 0, p, _, h => by omega
  | k + 1, p, hp, h => by
    show (if p = n then 1 else _) = (if p = n then 1 else _)
    by_cases e : p = n
    · rw [if_pos e, if_pos e]
    · rw [if_neg e, if_neg e]
      exact tailS_cong 10 1 fun i h1 h2 h3 => by
        have := hF p i hp h3
        exact nwv_same hF k (p + i) this (by omega)
theorem NW_ex (ws : Ws) (t : List Nat) : ∃ f, NW ws t f := by
  have hF : ∀ p m, p ≤ t.length → fitB ws t p m = true → p + m ≤ t.length := fun p m hp h => by
    have := LgS_le (fitB_iff.mp h)
    rw [List.length_drop] at this
    omega
  refine ⟨nwv (fitB ws t) t.length (t.length + 1), ?_, fun p hp => ?_⟩
  · show (if t.length = t.length then 1 else _) = 1
    rw [if_pos rfl]
  · show (if p = t.length then 1 else _) = _
    rw [if_neg (by omega)]
    exact tailS_cong 10 1 fun i h1 h2 h3 => nwv_same hF t.length (p + i) (hF p i (by omega) h3) (by have := hF p i (by omega) h3; omega)
/-! few pieces -/
/-- k pieces lead from q to the end -/
def bk (ws : Ws) (t : List Nat) : Nat → Nat → Prop
  | 0, q => q = t.length
  | k + 1, q => ∃ m, LgS ws (t.drop q) m ∧ bk ws t k (q + m)
theorem rch_bk {ws : Ws} {t : List Nat} : ∀ (k p j : Nat), rch ws t k p → bk ws t j p → bk ws t (j + k) 0
  | 0, p, j, h1, h2 => by
    have h1 : p = 0 := h1
    subst h1
    exact h2
  | k + 1, p, j, h1, h2 => by
    obtain ⟨q, m, a, b, rfl⟩ := h1
    have := rch_bk k q (j + 1) a ⟨m, b, h2⟩
    rwa [show j + 1 + k = j + (k + 1) by omega] at this
theorem bk_rch {ws : Ws} {t : List Nat} : ∀ (j q k : Nat), bk ws t j q → rch ws t k q → rch ws t (k + j) t.length
  | 0, q, k, h1, h2 => by
    have h1 : q = t.length := h1
    subst h1
    exact h2
  | j + 1, q, k, h1, h2 => by
    obtain ⟨m, a, b⟩ := h1
    have := bk_rch j (q + m) (k + 1) b ⟨q, m, h2, a, rfl⟩
    rwa [show k + 1 + j = k + (j + 1) by omega] at this
theorem rch_iff {ws : Ws} {t : List Nat} (k : Nat) : rch ws t k t.length ↔ bk ws t k 0 := by
  constructor
  · intro h
    have := rch_bk k t.length 0 h rfl
    rwa [Nat.zero_add] at this
  · intro h
    have := bk_rch k 0 0 h rfl
    rwa [Nat.zero_add] at this
theorem bk_le {ws : Ws} {t : List Nat} : ∀ {k q : Nat}, bk ws t k q → q ≤ t.length
  | 0, q, h => by
    have h : q = t.length := h
    omega
  | k + 1, q, h => by
    obtain ⟨m, _, b⟩ := h
    have := bk_le b
    omega
/-- each end of each word is a word -/
def Ends (ws : Ws) : Prop := ∀ i, i < ws.length → ∀ p, 1 ≤ p → p < (wd ws i).length → ∃ j, j < ws.length ∧ wd ws j = (wd ws i).drop p
theorem bk_mono {ws : Ws} {t : List Nat} (he : Ends ws) : ∀ (k p q : Nat), bk ws t k p → p ≤ q → q ≤ t.length → ∃ k', k' ≤ k ∧ bk ws t k' q
  | 0, p, q, h, h1, h2 => by
    have h : p = t.length := h
    exact ⟨0, Nat.le_refl _, show q = t.length by omega⟩
  | k + 1, p, q, h, h1, h2 => by
    obtain ⟨m, a, b⟩ := id h
    rcases Nat.lt_or_ge q (p + m) with z | z
    · rcases Nat.lt_or_ge p q with y | y
      · obtain ⟨i, hi, c1, c2⟩ := a
        obtain ⟨j, hj, e⟩ := he i hi (q - p) (by omega) (by omega)
        refine ⟨k + 1, Nat.le_refl _, p + m - q, ⟨j, hj, ?_, ?_⟩, ?_⟩
        · rw [e, pre_iff]
          rw [pre_iff] at c1
          rw [List.length_drop] at c1 ⊢
          refine ⟨by rw [List.length_drop]; omega, fun x hx => ?_⟩
          rw [gd_drop, gd_drop, c1.2 _ (by omega), gd_drop]
          congr 1; omega
        · rw [e, List.length_drop]; omega
        · rw [show q + (p + m - q) = p + m by omega]; exact b
      · rw [show q = p by omega]; exact ⟨k + 1, Nat.le_refl _, h⟩
    · obtain ⟨k', h3, h4⟩ := bk_mono he k (p + m) q b z h2
      exact ⟨k', by omega, h4⟩
theorem greedy {ws : Ws} {t : List Nat} (hw : LenW ws) (he : Ends ws) : ∀ (k j : Nat), bk ws t k (gp (lgL ws t) j) → ∃ s, j ≤ s ∧ s ≤ j + k ∧ gp (lgL ws t) s = t.length ∧ ∀ i, j ≤ i → i < s → 0 < lgL ws t (gp (lgL ws t) i) := by
  intro k
  induction k using Nat.strongRecOn with
  | _ k ih =>
    intro j h
    cases k with
    | zero => exact ⟨j, Nat.le_refl _, by omega, h, fun i h1 h2 => by omega⟩
    | succ k =>
      obtain ⟨m, a, b⟩ := h
      have h1 := (LgS_10 hw a).1
      have h2 : m ≤ lgL ws t (gp (lgL ws t) j) := (lgF_top ws (t.drop (gp (lgL ws t) j))).1 m a
      have h3 := gp_le ws t (j + 1)
      obtain ⟨k', h4, h5⟩ := bk_mono he k _ (gp (lgL ws t) (j + 1)) b (by show _ ≤ gp (lgL ws t) j + lgL ws t (gp (lgL ws t) j); omega) h3
      obtain ⟨s, s1, s2, s3, s4⟩ := ih k' (by omega) (j + 1) h5
      refine ⟨s, by omega, by omega, s3, fun i i1 i2 => ?_⟩
      rcases Nat.lt_or_ge j i with z | z
      · exact s4 i (by omega) i2
      · rw [show i = j by omega]; omega
theorem gp_rch {ws : Ws} {t : List Nat} : ∀ (s : Nat), (∀ i, i < s → 0 < lgL ws t (gp (lgL ws t) i)) → rch ws t s (gp (lgL ws t) s)
  | 0, _ => rfl
  | s + 1, h => by
    have ih := gp_rch s fun i hi => h i (by omega)
    refine ⟨gp (lgL ws t) s, lgL ws t (gp (lgL ws t) s), ih, ?_, rfl⟩
    rcases (lgF_top ws (t.drop (gp (lgL ws t) s))).2 with q | q
    · have h1 : 0 < lgF ws (t.drop (gp (lgL ws t) s)) := h s (by omega)
      omega
    · exact q
/-- by the longest each time: the fewest pieces -/
theorem fewest_greedy {ws : Ws} {t : List Nat} (hw : LenW ws) (he : Ends ws) {k s : Nat} (hk : rch ws t k t.length) (hm : ∀ j, j < k → ¬ rch ws t j t.length) (h1 : ∀ i, i < s → 0 < lgL ws t (gp (lgL ws t) i)) (h2 : lgL ws t (gp (lgL ws t) s) = 0) : gp (lgL ws t) s = t.length ∧ s = k := by
  obtain ⟨r, r1, r2, r3, r4⟩ := greedy hw he k 0 ((rch_iff k).mp hk)
  have er : r = s := by
    rcases Nat.lt_trichotomy r s with q | q | q
    · have := h1 r q
      rw [r3, lgL_end (Nat.le_refl _)] at this
      omega
    · exact q
    · have := r4 s (by omega) q
      omega
  subst er
  refine ⟨r3, ?_⟩
  have := gp_rch r h1
  rw [r3] at this
  rcases Nat.lt_or_ge r k with q | q
  · exact absurd this (hm r q)
  · omega
/-! codes -/
theorem lcp_app (c x y : List Nat) : lcp (c ++ x) (c ++ y) = c.length + lcp x y := by
  induction c with
  | nil => simp
  | cons a c ih =>
    rw [List.cons_append, List.cons_append, lcp_cc, if_pos rfl, ih, List.length_cons]
    omega
theorem pre_app_same {c x y : List Nat} : Pre (c ++ x) (c ++ y) ↔ Pre x y := by
  unfold Pre
  rw [lcp_app, List.length_append]
  omega
theorem lt_app_same : ∀ (c x y : List Nat), lt (c ++ x) (c ++ y) = lt x y
  | [], x, y => rfl
  | a :: c, x, y => by
    have := lt_app_same c x y
    rw [List.cons_append, List.cons_append]
    show (decide (a < a) || (decide (a = a) && lt (c ++ x) (c ++ y))) = _
    rw [this]; simp
theorem lt_app_diff {c d : List Nat} (h : lt c d = true) (hp : ¬ Pre c d) (x y : List Nat) : lt (c ++ x) (d ++ y) = true ∧ ¬ Pre (d ++ y) (c ++ x) ∧ ¬ Pre (c ++ x) (d ++ y) := by
  have l1 := lcp_le c d
  rw [lt_lcp] at h
  have hne : lcp c d ≠ c.length := hp
  have h2 := h.2.resolve_left hne
  have e : lcp (c ++ x) (d ++ y) = lcp c d := lcp_eq (by rw [List.length_append]; omega) (by rw [List.length_append]; omega) (fun j hj => by rw [gd_app_l (by omega), gd_app_l (by omega)]; exact lcp_gd c d j hj) (Or.inr (Or.inr (by rw [gd_app_l (by omega), gd_app_l (by omega)]; omega)))
  refine ⟨?_, ?_, ?_⟩
  · rw [lt_lcp, e, gd_app_l (by omega), gd_app_l (by omega), List.length_append]
    exact ⟨by omega, Or.inr h2⟩
  · intro q
    unfold Pre at q
    rw [lcp_comm, e, List.length_append] at q
    omega
  · intro q
    unfold Pre at q
    rw [e, List.length_append] at q
    omega
theorem codes_keep {σ : St} {cs : Cs} (hb : BookIs σ cs) (ho : Ord cs) : ∀ (a b : List Nat), Sg a → Sg b → lt a b = true → lt (wrt cs a) (wrt cs b) = true ∧ ¬ Pre (wrt cs b) (wrt cs a) ∧ (Pre (wrt cs a) (wrt cs b) ↔ Pre a b)
  | a, [], _, _, h => by rw [lt_x_n] at h; cases h
  | [], b :: m, _, hs, _ => by
    have h1 := hs b List.mem_cons_self
    have h2 := (hb.1 (b - 97) (by omega)).2
    rw [wrt_nil, wrt_cons]
    cases hc : cs (b - 97) with
    | nil => rw [hc] at h2; simp at h2
    | cons x l =>
      refine ⟨rfl, fun q => ?_, ⟨fun _ => pre_nil _, fun _ => pre_nil _⟩⟩
      have := pre_len q
      simp at this
  | a :: l, b :: m, ha, hs, h => by
    have h1 := ha a List.mem_cons_self
    have h2 := hs b List.mem_cons_self
    rw [lt_cc] at h
    rw [wrt_cons, wrt_cons]
    rcases h with h | ⟨e, h⟩
    · have o := ho (a - 97) (b - 97) (by omega) (by omega)
      obtain ⟨r1, r2, r3⟩ := lt_app_diff o.1 o.2 (wrt cs l) (wrt cs m)
      refine ⟨r1, r2, ⟨fun q => absurd q r3, fun q => ?_⟩⟩
      have := (pre_iff.mp q).2 0 (by simp)
      rw [gd_0, gd_0] at this
      omega
    · subst e
      obtain ⟨r1, r2, r3⟩ := codes_keep hb ho l m (fun x hx => ha x (List.mem_cons_of_mem _ hx)) (fun x hx => hs x (List.mem_cons_of_mem _ hx)) h
      refine ⟨by rw [lt_app_same]; exact r1, fun q => r2 (pre_app_same.mp q), ?_⟩
      rw [pre_app_same, r3]
      exact (pre_app_same (c := [a])).symm
