/-! the reference: what each method does, as predicates over the state; the walks of their bytecode -/
def wX6_thrown (σ : St) (K : Int32 → Prop) : Prop := K (gI σ 0)
def wX6_fails (σ : St) (x1 : Int32) (K : Int32 → St → Prop) : Prop := ∀ σ_1 : St, σ_1 = pI σ 0 x1 → ((x1 ≤ 0 → K (0 : Int32) σ_1) ∧ (¬ x1 ≤ 0 → K (1 : Int32) σ_1))
def wX6_in (σ : St) (x0 : Int32) (x1 : Int32) (x2 : Int32) (K : Int32 → Prop) : Prop := ((x0 < x1 → K (0 : Int32)) ∧ (¬ x0 < x1 → ((x2 < x0 → K (0 : Int32)) ∧ (¬ x2 < x0 → K (1 : Int32)))))
def wX6_isSign (σ : St) (x0 : Int32) (K : Int32 → Prop) : Prop := ((x0 < (97 : Int32) → K (0 : Int32)) ∧ (¬ x0 < (97 : Int32) → (((102 : Int32) < x0 → K (0 : Int32)) ∧ (¬ (102 : Int32) < x0 → K (1 : Int32)))))
def wX6_like_L2 (K : Int32 → Prop) (σ : St) (x1 : Int32) (x2 : Int32) : Nat → Int32 → Prop
  | 0, _ => False
  | n + 1, x3 => vp_in x1 24 ∧ ((((gA σ 5 (x1).toNatClampNeg) ≤ x3 → K x3) ∧ (¬ (gA σ 5 (x1).toNatClampNeg) ≤ x3 → (((gI σ 1) ≤ (x2 + x3) → K x3) ∧ (¬ (gI σ 1) ≤ (x2 + x3) → vp_in (((10 : Int32) * x1) + x3) 240 ∧ (vp_in (x2 + x3) 24 ∧ ((((gA σ 2 ((((10 : Int32) * x1) + x3)).toNatClampNeg) = (gA σ 1 ((x2 + x3)).toNatClampNeg) → wX6_like_L2 K σ x1 x2 n (x3 + 1)) ∧ (¬ (gA σ 2 ((((10 : Int32) * x1) + x3)).toNatClampNeg) = (gA σ 1 ((x2 + x3)).toNatClampNeg) → K x3)))))))))
def wX6_like (σ : St) (x1 : Int32) (x2 : Int32) (K : Int32 → Prop) : Prop := (∃ n : Nat, wX6_like_L2 K σ x1 x2 n (0 : Int32))
def wX6_likeWords_L2 (K : Int32 → Prop) (σ : St) (x1 : Int32) (x2 : Int32) : Nat → Int32 → Prop
  | 0, _ => False
  | n + 1, x3 => vp_in x1 24 ∧ ((((gA σ 5 (x1).toNatClampNeg) ≤ x3 → K x3) ∧ (¬ (gA σ 5 (x1).toNatClampNeg) ≤ x3 → vp_in x2 24 ∧ ((((gA σ 5 (x2).toNatClampNeg) ≤ x3 → K x3) ∧ (¬ (gA σ 5 (x2).toNatClampNeg) ≤ x3 → vp_in (((10 : Int32) * x1) + x3) 240 ∧ (vp_in (((10 : Int32) * x2) + x3) 240 ∧ ((((gA σ 2 ((((10 : Int32) * x1) + x3)).toNatClampNeg) = (gA σ 2 ((((10 : Int32) * x2) + x3)).toNatClampNeg) → wX6_likeWords_L2 K σ x1 x2 n (x3 + 1)) ∧ (¬ (gA σ 2 ((((10 : Int32) * x1) + x3)).toNatClampNeg) = (gA σ 2 ((((10 : Int32) * x2) + x3)).toNatClampNeg) → K x3))))))))))
def wX6_likeWords (σ : St) (x1 : Int32) (x2 : Int32) (K : Int32 → Prop) : Prop := (∃ n : Nat, wX6_likeWords_L2 K σ x1 x2 n (0 : Int32))
def wX6_beside (σ : St) (x1 : Int32) (K : Int32 → Prop) : Prop := wX6_like σ x1 (0 : Int32) (fun r_1 => vp_in x1 24 ∧ (((r_1 = (gA σ 5 (x1).toNatClampNeg) → ((r_1 = (gI σ 1) → K (0 : Int32)) ∧ (¬ r_1 = (gI σ 1) → K (-1 : Int32)))) ∧ (¬ r_1 = (gA σ 5 (x1).toNatClampNeg) → ((r_1 = (gI σ 1) → K (1 : Int32)) ∧ (¬ r_1 = (gI σ 1) → vp_in (((10 : Int32) * x1) + r_1) 240 ∧ (vp_in r_1 24 ∧ (K ((gA σ 2 ((((10 : Int32) * x1) + r_1)).toNatClampNeg) - (gA σ 1 (r_1).toNatClampNeg))))))))))
def wX6_isLess (σ : St) (x1 : Int32) (x2 : Int32) (K : Int32 → Prop) : Prop := wX6_likeWords σ x1 x2 (fun r_1 => vp_in x2 24 ∧ (((r_1 = (gA σ 5 (x2).toNatClampNeg) → K (0 : Int32)) ∧ (¬ r_1 = (gA σ 5 (x2).toNatClampNeg) → vp_in x1 24 ∧ (((r_1 = (gA σ 5 (x1).toNatClampNeg) → K (1 : Int32)) ∧ (¬ r_1 = (gA σ 5 (x1).toNatClampNeg) → vp_in (((10 : Int32) * x1) + r_1) 240 ∧ (vp_in (((10 : Int32) * x2) + r_1) 240 ∧ ((((gA σ 2 ((((10 : Int32) * x2) + r_1)).toNatClampNeg) ≤ (gA σ 2 ((((10 : Int32) * x1) + r_1)).toNatClampNeg) → K (0 : Int32)) ∧ (¬ (gA σ 2 ((((10 : Int32) * x2) + r_1)).toNatClampNeg) ≤ (gA σ 2 ((((10 : Int32) * x1) + r_1)).toNatClampNeg) → K (1 : Int32))))))))))))
def wX6_isBegun (σ : St) (x1 : Int32) (K : Int32 → Prop) : Prop := wX6_like σ x1 (0 : Int32) (fun r_1 => ((r_1 = (gI σ 1) → K (1 : Int32)) ∧ (¬ r_1 = (gI σ 1) → K (0 : Int32))))
def wX6_own_L2 (K : Int32 → Prop) (σ : St) : Nat → Int32 → Prop
  | 0, _ => False
  | n + 1, x1 => (((gI σ 2) ≤ x1 → K (-1 : Int32)) ∧ (¬ (gI σ 2) ≤ x1 → wX6_beside σ x1 (fun r_2 => ((r_2 = 0 → K x1) ∧ (¬ r_2 = 0 → wX6_own_L2 K σ n (x1 + 1))))))
def wX6_own (σ : St) (K : Int32 → Prop) : Prop := (∃ n : Nat, wX6_own_L2 K σ n (0 : Int32))
def wX6_rankOf_L4 (K : Int32 → Prop) (σ : St) (x1 : Int32) : Nat → Int32 → Int32 → Prop
  | 0, _, _ => False
  | n + 1, x2, x3 => (((gI σ 2) ≤ x3 → K x2) ∧ (¬ (gI σ 2) ≤ x3 → wX6_isLess σ x3 x1 (fun r_2 => ((r_2 = 0 → wX6_rankOf_L4 K σ x1 n x2 (x3 + 1)) ∧ (¬ r_2 = 0 → wX6_rankOf_L4 K σ x1 n (x2 + 1) (x3 + 1))))))
def wX6_rankOf (σ : St) (x1 : Int32) (K : Int32 → Prop) : Prop := (∃ n : Nat, wX6_rankOf_L4 K σ x1 n (0 : Int32) (0 : Int32))
def wX6_orders_L2 (K : St → Prop) : Nat → St → Int32 → Prop
  | 0, _, _ => False
  | n + 1, σ, x1 => (((gI σ 2) ≤ x1 → K σ) ∧ (¬ (gI σ 2) ≤ x1 → wX6_rankOf σ x1 (fun r_2 => vp_in x1 24 ∧ (∀ σ_4 : St, σ_4 = pA σ 9 (x1).toNatClampNeg r_2 → vp_in x1 24 ∧ (vp_in (gA σ_4 9 (x1).toNatClampNeg) 24 ∧ (∀ σ_7 : St, σ_7 = pA σ_4 8 ((gA σ_4 9 (x1).toNatClampNeg)).toNatClampNeg x1 → wX6_orders_L2 K n σ_7 (x1 + 1)))))))
def wX6_orders (σ : St) (K : St → Prop) : Prop := (∃ n : Nat, wX6_orders_L2 K n σ (0 : Int32))
def wX6_becomes_L12 (K : St → Prop) (x1 : Int32) : Nat → St → Int32 → Prop
  | 0, _, _ => False
  | n + 1, σ, x2 => (((gI σ 1) ≤ x2 → K σ) ∧ (¬ (gI σ 1) ≤ x2 → vp_in (((10 : Int32) * x1) + x2) 240 ∧ (vp_in x2 24 ∧ (∀ σ_4 : St, σ_4 = pA σ 1 (x2).toNatClampNeg (vp_nar .char (gA σ 2 ((((10 : Int32) * x1) + x2)).toNatClampNeg)) → wX6_becomes_L12 K x1 n σ_4 (x2 + 1)))))
def wX6_becomes (σ : St) (x1 : Int32) (K : St → Prop) : Prop := vp_in x1 24 ∧ (∀ σ_6 : St, σ_6 = pI σ 1 (gA σ 5 (x1).toNatClampNeg) → (∃ n : Nat, wX6_becomes_L12 K x1 n σ_6 (0 : Int32)))
def wX6_goes_L42 (K : St → Prop) (x1 : Int32) : Nat → St → Int32 → Prop
  | 0, _, _ => False
  | n + 1, σ, x2 => (((10 : Int32) ≤ x2 → K σ) ∧ (¬ (10 : Int32) ≤ x2 → vp_in (((10 : Int32) * (gI σ 2)) + x2) 240 ∧ (vp_in (((10 : Int32) * x1) + x2) 240 ∧ (∀ σ_4 : St, σ_4 = pA σ 2 ((((10 : Int32) * x1) + x2)).toNatClampNeg (vp_nar .char (gA σ 2 ((((10 : Int32) * (gI σ 2)) + x2)).toNatClampNeg)) → wX6_goes_L42 K x1 n σ_4 (x2 + 1)))))
def wX6_goes (σ : St) (x1 : Int32) (K : St → Prop) : Prop := ∀ σ_5 : St, σ_5 = pI σ 2 ((gI σ 2) - (1 : Int32)) → vp_in (gI σ_5 2) 24 ∧ (vp_in x1 24 ∧ (∀ σ_8 : St, σ_8 = pA σ_5 5 (x1).toNatClampNeg (gA σ_5 5 ((gI σ_5 2)).toNatClampNeg) → vp_in (gI σ_8 2) 24 ∧ (vp_in x1 24 ∧ (∀ σ_11 : St, σ_11 = pA σ_8 6 (x1).toNatClampNeg (gA σ_8 6 ((gI σ_8 2)).toNatClampNeg) → (∃ n : Nat, wX6_goes_L42 K x1 n σ_11 (0 : Int32))))))
def wX6_type_J26 (K : Int32 → St → Prop) (σ : St) (x1 : Int32) (s1 : Int32) : Prop := wX6_fails σ s1 (fun r_1 σ_2 => ((r_1 = 0 → vp_in (gI σ_2 1) 24 ∧ (∀ σ_5 : St, σ_5 = pA σ_2 1 ((gI σ_2 1)).toNatClampNeg (vp_nar .char x1) → ∀ σ_6 : St, σ_6 = pI σ_5 1 ((gI σ_5 1) + (1 : Int32)) → K (gI σ_6 1) σ_6)) ∧ (¬ r_1 = 0 → K (0 : Int32) σ_2)))
def wX6_type (σ : St) (x1 : Int32) (K : Int32 → St → Prop) : Prop := wX6_isSign σ x1 (fun r_7 => ((r_7 = 0 → wX6_type_J26 K σ x1 (1 : Int32)) ∧ (¬ r_7 = 0 → (((gI σ 1) = (24 : Int32) → wX6_type_J26 K σ x1 (2 : Int32)) ∧ (¬ (gI σ 1) = (24 : Int32) → wX6_type_J26 K σ x1 (0 : Int32))))))
def wX6_typeMore_L54 (K : Int32 → St → Prop) (x1 : Int32) : Nat → St → Int32 → Int32 → Prop
  | 0, _, _, _ => False
  | n + 1, σ, x3, x4 => ((x1 ≤ x4 → K (gI σ 1) σ) ∧ (¬ x1 ≤ x4 → vp_in (gI σ 1) 24 ∧ (∀ σ_3 : St, σ_3 = pA σ 1 ((gI σ 1)).toNatClampNeg (vp_nar .char ((((97 : Int32) + (x3 - x3 / (6 : Int32) * (6 : Int32)))).toUInt32 % 65536).toInt32) → ∀ σ_4 : St, σ_4 = pI σ_3 1 ((gI σ_3 1) + (1 : Int32)) → wX6_typeMore_L54 K x1 n σ_4 (x3 / (6 : Int32)) (x4 + 1))))
def wX6_typeMore_J41 (K : Int32 → St → Prop) (σ : St) (x1 : Int32) (x2 : Int32) (s1 : Int32) : Prop := wX6_fails σ s1 (fun r_5 σ_6 => ((r_5 = 0 → (∃ n : Nat, wX6_typeMore_L54 K x1 n σ_6 x2 (0 : Int32))) ∧ (¬ r_5 = 0 → K (0 : Int32) σ_6)))
def wX6_typeMore_J21 (K : Int32 → St → Prop) (σ : St) (x1 : Int32) (x2 : Int32) : Prop := wX6_typeMore_J41 K σ x1 x2 (1 : Int32)
def wX6_typeMore (σ : St) (x1 : Int32) (x2 : Int32) (K : Int32 → St → Prop) : Prop := wX6_in σ x1 (1 : Int32) (8 : Int32) (fun r_9 => ((r_9 = 0 → wX6_typeMore_J21 K σ x1 x2) ∧ (¬ r_9 = 0 → wX6_in σ x2 (0 : Int32) (1679615 : Int32) (fun r_11 => ((r_11 = 0 → wX6_typeMore_J21 K σ x1 x2) ∧ (¬ r_11 = 0 → ((((gI σ 1) + x1) ≤ (24 : Int32) → wX6_typeMore_J41 K σ x1 x2 (0 : Int32)) ∧ (¬ ((gI σ 1) + x1) ≤ (24 : Int32) → wX6_typeMore_J41 K σ x1 x2 (2 : Int32)))))))))
def wX6_typeAt_L55 (K : Int32 → St → Prop) (x1 : Int32) (x2 : Int32) : Nat → St → Int32 → Prop
  | 0, _, _ => False
  | n + 1, σ, x3 => ((x3 ≤ x1 → vp_in x1 24 ∧ (∀ σ_3 : St, σ_3 = pA σ 1 (x1).toNatClampNeg (vp_nar .char x2) → ∀ σ_4 : St, σ_4 = pI σ_3 1 ((gI σ_3 1) + (1 : Int32)) → K (gI σ_4 1) σ_4)) ∧ (¬ x3 ≤ x1 → vp_in (x3 - (1 : Int32)) 24 ∧ (vp_in x3 24 ∧ (∀ σ_7 : St, σ_7 = pA σ 1 (x3).toNatClampNeg (vp_nar .char (gA σ 1 ((x3 - (1 : Int32))).toNatClampNeg)) → wX6_typeAt_L55 K x1 x2 n σ_7 (x3 + (-1))))))
def wX6_typeAt_J42 (K : Int32 → St → Prop) (σ : St) (x1 : Int32) (x2 : Int32) (s1 : Int32) : Prop := wX6_fails σ s1 (fun r_8 σ_9 => ((r_8 = 0 → ∀ x3_11 : Int32, x3_11 = (gI σ_9 1) → (∃ n : Nat, wX6_typeAt_L55 K x1 x2 n σ_9 x3_11)) ∧ (¬ r_8 = 0 → K (0 : Int32) σ_9)))
def wX6_typeAt (σ : St) (x1 : Int32) (x2 : Int32) (K : Int32 → St → Prop) : Prop := wX6_in σ x1 (0 : Int32) (gI σ 1) (fun r_13 => ((r_13 = 0 → wX6_typeAt_J42 K σ x1 x2 (1 : Int32)) ∧ (¬ r_13 = 0 → wX6_isSign σ x2 (fun r_15 => ((r_15 = 0 → wX6_typeAt_J42 K σ x1 x2 (2 : Int32)) ∧ (¬ r_15 = 0 → (((gI σ 1) = (24 : Int32) → wX6_typeAt_J42 K σ x1 x2 (3 : Int32)) ∧ (¬ (gI σ 1) = (24 : Int32) → wX6_typeAt_J42 K σ x1 x2 (0 : Int32)))))))))
def wX6_drop_J13 (K : Int32 → St → Prop) (σ : St) (s1 : Int32) : Prop := wX6_fails σ s1 (fun r_1 σ_2 => ((r_1 = 0 → ∀ σ_4 : St, σ_4 = pI σ_2 1 ((gI σ_2 1) - (1 : Int32)) → K (gI σ_4 1) σ_4) ∧ (¬ r_1 = 0 → K (0 : Int32) σ_2)))
def wX6_drop (σ : St) (K : Int32 → St → Prop) : Prop := (((gI σ 1) = 0 → wX6_drop_J13 K σ (1 : Int32)) ∧ (¬ (gI σ 1) = 0 → wX6_drop_J13 K σ (0 : Int32)))
def wX6_clip_L33 (K : Int32 → St → Prop) (x1 : Int32) (x2 : Int32) : Nat → St → Int32 → Prop
  | 0, _, _ => False
  | n + 1, σ, x3 => (((gI σ 1) ≤ x3 → ∀ σ_2 : St, σ_2 = pI σ 1 ((gI σ 1) - (x2 - x1)) → K (gI σ_2 1) σ_2) ∧ (¬ (gI σ 1) ≤ x3 → vp_in x3 24 ∧ (vp_in ((x1 + x3) - x2) 24 ∧ (∀ σ_5 : St, σ_5 = pA σ 1 (((x1 + x3) - x2)).toNatClampNeg (vp_nar .char (gA σ 1 (x3).toNatClampNeg)) → wX6_clip_L33 K x1 x2 n σ_5 (x3 + 1)))))
def wX6_clip_J23 (K : Int32 → St → Prop) (σ : St) (x1 : Int32) (x2 : Int32) (s1 : Int32) : Prop := wX6_fails σ s1 (fun r_6 σ_7 => ((r_6 = 0 → (∃ n : Nat, wX6_clip_L33 K x1 x2 n σ_7 x2)) ∧ (¬ r_6 = 0 → K (0 : Int32) σ_7)))
def wX6_clip_J18 (K : Int32 → St → Prop) (σ : St) (x1 : Int32) (x2 : Int32) : Prop := wX6_clip_J23 K σ x1 x2 (1 : Int32)
def wX6_clip (σ : St) (x1 : Int32) (x2 : Int32) (K : Int32 → St → Prop) : Prop := ((x1 < 0 → wX6_clip_J18 K σ x1 x2) ∧ (¬ x1 < 0 → ((x2 < x1 → wX6_clip_J18 K σ x1 x2) ∧ (¬ x2 < x1 → ((x2 ≤ (gI σ 1) → wX6_clip_J23 K σ x1 x2 (0 : Int32)) ∧ (¬ x2 ≤ (gI σ 1) → wX6_clip_J18 K σ x1 x2))))))
def wX6_wipe (σ : St) (K : Int32 → St → Prop) : Prop := ∀ σ_1 : St, σ_1 = pI σ 0 (0 : Int32) → ∀ x1_2 : Int32, x1_2 = (gI σ_1 1) → ∀ σ_3 : St, σ_3 = pI σ_1 1 (0 : Int32) → K x1_2 σ_3
def wX6_turn_J73 (K : Int32 → St → Prop) (B44 : St → Int32 → Int32 → Prop) (σ : St) (x2 : Int32) (s0 : Int32) (s1 : Int32) : Prop := vp_in x2 72 ∧ (vp_in x2 24 ∧ (∀ σ_3 : St, σ_3 = pA σ 1 (x2).toNatClampNeg (vp_nar .char (gA σ 4 (x2).toNatClampNeg)) → B44 σ_3 (s0 &&& s1) (x2 + 1)))
def wX6_turn_L44 (K : Int32 → St → Prop) : Nat → St → Int32 → Int32 → Prop
  | 0, _, _, _ => False
  | n + 1, σ, x1, x2 => (((gI σ 1) ≤ x2 → narrow .boolean (.int x1) = .int x1 ∧ (K x1 σ)) ∧ (¬ (gI σ 1) ≤ x2 → vp_in x2 72 ∧ (vp_in x2 24 ∧ ((((gA σ 4 (x2).toNatClampNeg) = (gA σ 1 (x2).toNatClampNeg) → wX6_turn_J73 K (wX6_turn_L44 K n) σ x2 x1 (1 : Int32)) ∧ (¬ (gA σ 4 (x2).toNatClampNeg) = (gA σ 1 (x2).toNatClampNeg) → wX6_turn_J73 K (wX6_turn_L44 K n) σ x2 x1 (0 : Int32)))))))
def wX6_turn_L9 (K : Int32 → St → Prop) (x1 : Int32) : Nat → St → Int32 → Prop
  | 0, _, _ => False
  | n + 1, σ, x2 => (((gI σ 1) ≤ x2 → (∃ n : Nat, wX6_turn_L44 K n σ x1 (0 : Int32))) ∧ (¬ (gI σ 1) ≤ x2 → vp_in (((gI σ 1) - (1 : Int32)) - x2) 24 ∧ (vp_in x2 72 ∧ (∀ σ_12 : St, σ_12 = pA σ 4 (x2).toNatClampNeg (vp_nar .char (gA σ 1 ((((gI σ 1) - (1 : Int32)) - x2)).toNatClampNeg)) → wX6_turn_L9 K x1 n σ_12 (x2 + 1)))))
def wX6_turn (σ : St) (K : Int32 → St → Prop) : Prop := ∀ σ_13 : St, σ_13 = pI σ 0 (0 : Int32) → (∃ n : Nat, wX6_turn_L9 K (1 : Int32) n σ_13 (0 : Int32))
def wX6_signAt_J20 (K : Int32 → St → Prop) (σ : St) (x1 : Int32) (s1 : Int32) : Prop := wX6_fails σ s1 (fun r_1 σ_2 => ((r_1 = 0 → vp_in x1 24 ∧ (narrow .char (.int (gA σ_2 1 (x1).toNatClampNeg)) = .int (gA σ_2 1 (x1).toNatClampNeg) ∧ (K (gA σ_2 1 (x1).toNatClampNeg) σ_2))) ∧ (¬ r_1 = 0 → narrow .char (.int (32 : Int32)) = .int (32 : Int32) ∧ (K (32 : Int32) σ_2))))
def wX6_signAt (σ : St) (x1 : Int32) (K : Int32 → St → Prop) : Prop := wX6_in σ x1 (0 : Int32) ((gI σ 1) - (1 : Int32)) (fun r_5 => ((r_5 = 0 → wX6_signAt_J20 K σ x1 (1 : Int32)) ∧ (¬ r_5 = 0 → wX6_signAt_J20 K σ x1 (0 : Int32))))
def wX6_put_J145 (K : Int32 → St → Prop) (σ : St) (x1 : Int32) (x2 : Int32) (x3 : Int32) : Prop := vp_in x2 24 ∧ (∀ σ_2 : St, σ_2 = pA σ 6 (x2).toNatClampNeg x1 → K x3 σ_2)
def wX6_put_L111 (K : Int32 → St → Prop) (x1 : Int32) (x2 : Int32) (x3 : Int32) : Nat → St → Int32 → Prop
  | 0, _, _ => False
  | n + 1, σ, x4 => (((gI σ 1) ≤ x4 → wX6_put_J145 K σ x1 x2 x3) ∧ (¬ (gI σ 1) ≤ x4 → vp_in x4 24 ∧ (vp_in (((10 : Int32) * x2) + x4) 240 ∧ (∀ σ_6 : St, σ_6 = pA σ 2 ((((10 : Int32) * x2) + x4)).toNatClampNeg (vp_nar .char (gA σ 1 (x4).toNatClampNeg)) → wX6_put_L111 K x1 x2 x3 n σ_6 (x4 + 1)))))
def wX6_put_J78 (K : Int32 → St → Prop) (σ : St) (x1 : Int32) (x2 : Int32) (s0 : Int32) : Prop := ((0 ≤ x2 → wX6_put_J145 K σ x1 x2 s0) ∧ (¬ 0 ≤ x2 → ∀ x2_8 : Int32, x2_8 = (gI σ 2) → ∀ σ_9 : St, σ_9 = pI σ 2 ((gI σ 2) + (1 : Int32)) → vp_in x2_8 24 ∧ (∀ σ_11 : St, σ_11 = pA σ_9 5 (x2_8).toNatClampNeg (gI σ_9 1) → (∃ n : Nat, wX6_put_L111 K x1 x2_8 s0 n σ_11 (0 : Int32)))))
def wX6_put_J56 (K : Int32 → St → Prop) (σ : St) (x1 : Int32) (x2 : Int32) (s1 : Int32) : Prop := wX6_fails σ s1 (fun r_13 σ_14 => ((r_13 = 0 → ((0 ≤ x2 → vp_in x2 24 ∧ (wX6_put_J78 K σ_14 x1 x2 (gA σ_14 6 (x2).toNatClampNeg))) ∧ (¬ 0 ≤ x2 → wX6_put_J78 K σ_14 x1 x2 (-1 : Int32)))) ∧ (¬ r_13 = 0 → K (0 : Int32) σ_14)))
def wX6_put_J55 (K : Int32 → St → Prop) (σ : St) (x1 : Int32) (x2 : Int32) : Prop := wX6_put_J56 K σ x1 x2 (0 : Int32)
def wX6_put (σ : St) (x1 : Int32) (K : Int32 → St → Prop) : Prop := wX6_own σ (fun r_18 => wX6_in σ x1 (0 : Int32) (999 : Int32) (fun r_19 => ((r_19 = 0 → wX6_put_J56 K σ x1 r_18 (1 : Int32)) ∧ (¬ r_19 = 0 → wX6_in σ (gI σ 1) (1 : Int32) (10 : Int32) (fun r_21 => ((r_21 = 0 → wX6_put_J56 K σ x1 r_18 (2 : Int32)) ∧ (¬ r_21 = 0 → ((0 ≤ r_18 → wX6_put_J55 K σ x1 r_18) ∧ (¬ 0 ≤ r_18 → (((gI σ 2) = (24 : Int32) → wX6_put_J56 K σ x1 r_18 (3 : Int32)) ∧ (¬ (gI σ 2) = (24 : Int32) → wX6_put_J55 K σ x1 r_18)))))))))))
def wX6_take_J15 (K : Int32 → St → Prop) (σ : St) (x1 : Int32) (s1 : Int32) : Prop := wX6_fails σ s1 (fun r_1 σ_2 => ((r_1 = 0 → vp_in x1 24 ∧ (∀ x2_5 : Int32, x2_5 = (gA σ_2 6 (x1).toNatClampNeg) → wX6_goes σ_2 x1 (fun σ_7 => K x2_5 σ_7))) ∧ (¬ r_1 = 0 → K (0 : Int32) σ_2)))
def wX6_take (σ : St) (K : Int32 → St → Prop) : Prop := wX6_own σ (fun r_8 => ((0 ≤ r_8 → wX6_take_J15 K σ r_8 (0 : Int32)) ∧ (¬ 0 ≤ r_8 → wX6_take_J15 K σ r_8 (1 : Int32))))
def wX6_number_J15 (K : Int32 → St → Prop) (σ : St) (x1 : Int32) (s1 : Int32) : Prop := wX6_fails σ s1 (fun r_1 σ_2 => ((r_1 = 0 → vp_in x1 24 ∧ (K (gA σ_2 6 (x1).toNatClampNeg) σ_2)) ∧ (¬ r_1 = 0 → K (0 : Int32) σ_2)))
def wX6_number (σ : St) (K : Int32 → St → Prop) : Prop := wX6_own σ (fun r_5 => ((0 ≤ r_5 → wX6_number_J15 K σ r_5 (0 : Int32)) ∧ (¬ 0 ≤ r_5 → wX6_number_J15 K σ r_5 (1 : Int32))))
def wX6_words (σ : St) (K : Int32 → St → Prop) : Prop := ∀ σ_1 : St, σ_1 = pI σ 0 (0 : Int32) → K (gI σ_1 2) σ_1
def wX6_rank_L9 (K : Int32 → St → Prop) (σ : St) : Nat → Int32 → Int32 → Prop
  | 0, _, _ => False
  | n + 1, x1, x2 => (((gI σ 2) ≤ x2 → K x1 σ) ∧ (¬ (gI σ 2) ≤ x2 → wX6_beside σ x2 (fun r_2 => ((0 ≤ r_2 → wX6_rank_L9 K σ n x1 (x2 + 1)) ∧ (¬ 0 ≤ r_2 → wX6_rank_L9 K σ n (x1 + 1) (x2 + 1))))))
def wX6_rank (σ : St) (K : Int32 → St → Prop) : Prop := ∀ σ_4 : St, σ_4 = pI σ 0 (0 : Int32) → (∃ n : Nat, wX6_rank_L9 K σ_4 n (0 : Int32) (0 : Int32))
def wX6_word_J20 (K : Int32 → St → Prop) (σ : St) (x1 : Int32) (s1 : Int32) : Prop := wX6_fails σ s1 (fun r_1 σ_2 => ((r_1 = 0 → wX6_orders σ_2 (fun σ_5 => vp_in x1 24 ∧ (wX6_becomes σ_5 (gA σ_5 8 (x1).toNatClampNeg) (fun σ_8 => K (gI σ_8 1) σ_8)))) ∧ (¬ r_1 = 0 → K (0 : Int32) σ_2)))
def wX6_word (σ : St) (x1 : Int32) (K : Int32 → St → Prop) : Prop := wX6_in σ x1 (0 : Int32) ((gI σ 2) - (1 : Int32)) (fun r_9 => ((r_9 = 0 → wX6_word_J20 K σ x1 (1 : Int32)) ∧ (¬ r_9 = 0 → wX6_word_J20 K σ x1 (0 : Int32))))
def wX6_near_J188 (K : Int32 → St → Prop) (σ : St) (x2 : Int32) (s1 : Int32) : Prop := wX6_fails σ s1 (fun r_1 σ_2 => ((r_1 = 0 → wX6_becomes σ_2 x2 (fun σ_5 => vp_in x2 24 ∧ (K (gA σ_5 6 (x2).toNatClampNeg) σ_5))) ∧ (¬ r_1 = 0 → K (0 : Int32) σ_2)))
def wX6_near_J179 (K : Int32 → St → Prop) (σ : St) (x2 : Int32) : Prop := ((0 ≤ x2 → wX6_near_J188 K σ x2 (0 : Int32)) ∧ (¬ 0 ≤ x2 → wX6_near_J188 K σ x2 (2 : Int32)))
def wX6_near_J105 (K : Int32 → St → Prop) (B4 : Int32 → Int32 → Prop) (σ : St) (x1 : Int32) (x2 : Int32) (x3 : Int32) (x5 : Int32) (s0 : Int32) : Prop := ((x5 = 0 → B4 x2 (x3 + 1)) ∧ (¬ x5 = 0 → ((x2 < 0 → B4 x3 (x3 + 1)) ∧ (¬ x2 < 0 → ((s0 = 0 → wX6_isLess σ x3 x2 (fun r_11 => ((r_11 = 0 → B4 x2 (x3 + 1)) ∧ (¬ r_11 = 0 → B4 x3 (x3 + 1))))) ∧ (¬ s0 = 0 → wX6_isLess σ x2 x3 (fun r_13 => ((r_13 = 0 → B4 x2 (x3 + 1)) ∧ (¬ r_13 = 0 → B4 x3 (x3 + 1))))))))))
def wX6_near_J100 (K : Int32 → St → Prop) (B4 : Int32 → Int32 → Prop) (σ : St) (x1 : Int32) (x2 : Int32) (x3 : Int32) (x5 : Int32) : Prop := wX6_near_J105 K B4 σ x1 x2 x3 x5 (1 : Int32)
def wX6_near_J86 (K : Int32 → St → Prop) (B4 : Int32 → Int32 → Prop) (σ : St) (x1 : Int32) (x2 : Int32) (x3 : Int32) (s0 : Int32) : Prop := ((x1 = (102 : Int32) → wX6_near_J100 K B4 σ x1 x2 x3 s0) ∧ (¬ x1 = (102 : Int32) → ((x1 = (108 : Int32) → wX6_near_J100 K B4 σ x1 x2 x3 s0) ∧ (¬ x1 = (108 : Int32) → wX6_near_J105 K B4 σ x1 x2 x3 s0 (0 : Int32)))))
def wX6_near_L4 (K : Int32 → St → Prop) (σ : St) (x1 : Int32) : Nat → Int32 → Int32 → Prop
  | 0, _, _ => False
  | n + 1, x2, x3 => (((gI σ 2) ≤ x3 → ((x1 = (102 : Int32) → wX6_near_J179 K σ x2) ∧ (¬ x1 = (102 : Int32) → ((x1 = (99 : Int32) → wX6_near_J179 K σ x2) ∧ (¬ x1 = (99 : Int32) → ((x1 = (108 : Int32) → wX6_near_J179 K σ x2) ∧ (¬ x1 = (108 : Int32) → ((x1 = (104 : Int32) → wX6_near_J179 K σ x2) ∧ (¬ x1 = (104 : Int32) → wX6_near_J188 K σ x2 (1 : Int32)))))))))) ∧ (¬ (gI σ 2) ≤ x3 → wX6_beside σ x3 (fun r_22 => ((x1 = (102 : Int32) → ((0 < r_22 → wX6_near_J86 K (wX6_near_L4 K σ x1 n) σ x1 x2 x3 (0 : Int32)) ∧ (¬ 0 < r_22 → wX6_near_J86 K (wX6_near_L4 K σ x1 n) σ x1 x2 x3 (1 : Int32)))) ∧ (¬ x1 = (102 : Int32) → ((x1 = (99 : Int32) → ((r_22 < 0 → wX6_near_J86 K (wX6_near_L4 K σ x1 n) σ x1 x2 x3 (0 : Int32)) ∧ (¬ r_22 < 0 → wX6_near_J86 K (wX6_near_L4 K σ x1 n) σ x1 x2 x3 (1 : Int32)))) ∧ (¬ x1 = (99 : Int32) → ((x1 = (108 : Int32) → ((0 ≤ r_22 → wX6_near_J86 K (wX6_near_L4 K σ x1 n) σ x1 x2 x3 (0 : Int32)) ∧ (¬ 0 ≤ r_22 → wX6_near_J86 K (wX6_near_L4 K σ x1 n) σ x1 x2 x3 (1 : Int32)))) ∧ (¬ x1 = (108 : Int32) → ((r_22 ≤ 0 → wX6_near_J86 K (wX6_near_L4 K σ x1 n) σ x1 x2 x3 (0 : Int32)) ∧ (¬ r_22 ≤ 0 → wX6_near_J86 K (wX6_near_L4 K σ x1 n) σ x1 x2 x3 (1 : Int32))))))))))))
def wX6_near (σ : St) (x1 : Int32) (K : Int32 → St → Prop) : Prop := (∃ n : Nat, wX6_near_L4 K σ x1 n (-1 : Int32) (0 : Int32))
def wX6_begun_L9 (K : Int32 → St → Prop) (σ : St) : Nat → Int32 → Int32 → Prop
  | 0, _, _ => False
  | n + 1, x1, x2 => (((gI σ 2) ≤ x2 → K x1 σ) ∧ (¬ (gI σ 2) ≤ x2 → wX6_isBegun σ x2 (fun r_2 => ((r_2 = 0 → wX6_begun_L9 K σ n x1 (x2 + 1)) ∧ (¬ r_2 = 0 → wX6_begun_L9 K σ n (x1 + 1) (x2 + 1))))))
def wX6_begun (σ : St) (K : Int32 → St → Prop) : Prop := ∀ σ_4 : St, σ_4 = pI σ 0 (0 : Int32) → (∃ n : Nat, wX6_begun_L9 K σ_4 n (0 : Int32) (0 : Int32))
def wX6_begunAt_J87 (K : Int32 → St → Prop) (σ : St) (x2 : Int32) (s1 : Int32) : Prop := wX6_fails σ s1 (fun r_1 σ_2 => ((r_1 = 0 → wX6_becomes σ_2 x2 (fun σ_5 => vp_in x2 24 ∧ (K (gA σ_5 6 (x2).toNatClampNeg) σ_5))) ∧ (¬ r_1 = 0 → K (0 : Int32) σ_2)))
def wX6_begunAt_L18 (K : Int32 → St → Prop) (B4 : Int32 → Int32 → Prop) (σ : St) (x1 : Int32) (x2 : Int32) (x3 : Int32) : Nat → Int32 → Int32 → Prop
  | 0, _, _ => False
  | n + 1, x4, x5 => (((gI σ 2) ≤ x5 → wX6_isBegun σ x3 (fun r_8 => ((r_8 = 0 → B4 x2 (x3 + 1)) ∧ (¬ r_8 = 0 → ((x4 = x1 → B4 x3 (x3 + 1)) ∧ (¬ x4 = x1 → B4 x2 (x3 + 1))))))) ∧ (¬ (gI σ 2) ≤ x5 → wX6_isBegun σ x5 (fun r_11 => ((r_11 = 0 → wX6_begunAt_L18 K B4 σ x1 x2 x3 n x4 (x5 + 1)) ∧ (¬ r_11 = 0 → wX6_isLess σ x5 x3 (fun r_13 => ((r_13 = 0 → wX6_begunAt_L18 K B4 σ x1 x2 x3 n x4 (x5 + 1)) ∧ (¬ r_13 = 0 → wX6_begunAt_L18 K B4 σ x1 x2 x3 n (x4 + 1) (x5 + 1)))))))))
def wX6_begunAt_L4 (K : Int32 → St → Prop) (σ : St) (x1 : Int32) : Nat → Int32 → Int32 → Prop
  | 0, _, _ => False
  | n + 1, x2, x3 => (((gI σ 2) ≤ x3 → ((0 ≤ x2 → wX6_begunAt_J87 K σ x2 (0 : Int32)) ∧ (¬ 0 ≤ x2 → wX6_begunAt_J87 K σ x2 (1 : Int32)))) ∧ (¬ (gI σ 2) ≤ x3 → (∃ nn : Nat, wX6_begunAt_L18 K (wX6_begunAt_L4 K σ x1 n) σ x1 x2 x3 nn (0 : Int32) (0 : Int32))))
def wX6_begunAt (σ : St) (x1 : Int32) (K : Int32 → St → Prop) : Prop := (∃ n : Nat, wX6_begunAt_L4 K σ x1 n (-1 : Int32) (0 : Int32))
def wX6_sum_L9 (K : Int32 → St → Prop) (σ : St) : Nat → Int32 → Int32 → Prop
  | 0, _, _ => False
  | n + 1, x1, x2 => (((gI σ 2) ≤ x2 → K x1 σ) ∧ (¬ (gI σ 2) ≤ x2 → wX6_isBegun σ x2 (fun r_2 => ((r_2 = 0 → wX6_sum_L9 K σ n x1 (x2 + 1)) ∧ (¬ r_2 = 0 → vp_in x2 24 ∧ (∀ x1_5 : Int32, x1_5 = (x1 + (gA σ 6 (x2).toNatClampNeg)) → wX6_sum_L9 K σ n x1_5 (x2 + 1)))))))
def wX6_sum (σ : St) (K : Int32 → St → Prop) : Prop := ∀ σ_6 : St, σ_6 = pI σ 0 (0 : Int32) → (∃ n : Nat, wX6_sum_L9 K σ_6 n (0 : Int32) (0 : Int32))
def wX6_gone_L14 (K : Int32 → St → Prop) : Nat → St → Int32 → Int32 → Prop
  | 0, _, _, _ => False
  | n + 1, σ, x1, x2 => ((x2 < 0 → K x1 σ) ∧ (¬ x2 < 0 → wX6_isBegun σ x2 (fun r_2 => ((r_2 = 0 → wX6_gone_L14 K n σ x1 (x2 + (-1))) ∧ (¬ r_2 = 0 → wX6_goes σ x2 (fun σ_5 => wX6_gone_L14 K n σ_5 (x1 + 1) (x2 + (-1))))))))
def wX6_gone (σ : St) (K : Int32 → St → Prop) : Prop := ∀ σ_6 : St, σ_6 = pI σ 0 (0 : Int32) → ∀ x2_7 : Int32, x2_7 = ((gI σ_6 2) - (1 : Int32)) → (∃ n : Nat, wX6_gone_L14 K n σ_6 (0 : Int32) x2_7)
def wX6_longestAt_L4 (K : Int32 → Prop) (σ : St) (x1 : Int32) : Nat → Int32 → Int32 → Prop
  | 0, _, _ => False
  | n + 1, x2, x3 => (((gI σ 2) ≤ x3 → K x2) ∧ (¬ (gI σ 2) ≤ x3 → wX6_like σ x3 x1 (fun r_2 => vp_in x3 24 ∧ (((r_2 = (gA σ 5 (x3).toNatClampNeg) → vp_in x3 24 ∧ ((((gA σ 5 (x3).toNatClampNeg) ≤ x2 → wX6_longestAt_L4 K σ x1 n x2 (x3 + 1)) ∧ (¬ (gA σ 5 (x3).toNatClampNeg) ≤ x2 → vp_in x3 24 ∧ (∀ x2_8 : Int32, x2_8 = (gA σ 5 (x3).toNatClampNeg) → wX6_longestAt_L4 K σ x1 n x2_8 (x3 + 1)))))) ∧ (¬ r_2 = (gA σ 5 (x3).toNatClampNeg) → wX6_longestAt_L4 K σ x1 n x2 (x3 + 1)))))))
def wX6_longestAt (σ : St) (x1 : Int32) (K : Int32 → Prop) : Prop := (∃ n : Nat, wX6_longestAt_L4 K σ x1 n (0 : Int32) (0 : Int32))
def wX6_longest_J18 (K : Int32 → St → Prop) (σ : St) (x1 : Int32) (s1 : Int32) : Prop := wX6_fails σ s1 (fun r_1 σ_2 => ((r_1 = 0 → wX6_longestAt σ_2 x1 (fun r_4 => K r_4 σ_2)) ∧ (¬ r_1 = 0 → K (0 : Int32) σ_2)))
def wX6_longest (σ : St) (x1 : Int32) (K : Int32 → St → Prop) : Prop := wX6_in σ x1 (0 : Int32) (gI σ 1) (fun r_5 => ((r_5 = 0 → wX6_longest_J18 K σ x1 (1 : Int32)) ∧ (¬ r_5 = 0 → wX6_longest_J18 K σ x1 (0 : Int32))))
def wX6_shared_L9 (K : Int32 → St → Prop) (σ : St) : Nat → Int32 → Int32 → Prop
  | 0, _, _ => False
  | n + 1, x1, x2 => (((gI σ 2) ≤ x2 → K x1 σ) ∧ (¬ (gI σ 2) ≤ x2 → wX6_like σ x2 (0 : Int32) (fun r_2 => ((r_2 ≤ x1 → wX6_shared_L9 K σ n x1 (x2 + 1)) ∧ (¬ r_2 ≤ x1 → wX6_like σ x2 (0 : Int32) (fun r_4 => wX6_shared_L9 K σ n r_4 (x2 + 1)))))))
def wX6_shared (σ : St) (K : Int32 → St → Prop) : Prop := ∀ σ_5 : St, σ_5 = pI σ 0 (0 : Int32) → (∃ n : Nat, wX6_shared_L9 K σ_5 n (0 : Int32) (0 : Int32))
def wX6_twin_L36 (K : Int32 → St → Prop) (B26 : Int32 → Int32 → Prop) (σ : St) (x2 : Int32) : Nat → Int32 → Int32 → Prop
  | 0, _, _ => False
  | n + 1, x1, x3 => ((x2 ≤ x3 → B26 x1 (x2 + 1)) ∧ (¬ x2 ≤ x3 → wX6_likeWords σ x3 x2 (fun r_2 => ((r_2 ≤ x1 → wX6_twin_L36 K B26 σ x2 n x1 (x3 + 1)) ∧ (¬ r_2 ≤ x1 → wX6_likeWords σ x3 x2 (fun r_4 => wX6_twin_L36 K B26 σ x2 n r_4 (x3 + 1)))))))
def wX6_twin_L26 (K : Int32 → St → Prop) (σ : St) : Nat → Int32 → Int32 → Prop
  | 0, _, _ => False
  | n + 1, x1, x2 => (((gI σ 2) ≤ x2 → K x1 σ) ∧ (¬ (gI σ 2) ≤ x2 → (∃ nn : Nat, wX6_twin_L36 K (wX6_twin_L26 K σ n) σ x2 nn x1 (0 : Int32))))
def wX6_twin_J14 (K : Int32 → St → Prop) (σ : St) (s1 : Int32) : Prop := wX6_fails σ s1 (fun r_7 σ_8 => ((r_7 = 0 → (∃ n : Nat, wX6_twin_L26 K σ_8 n (0 : Int32) (0 : Int32))) ∧ (¬ r_7 = 0 → K (0 : Int32) σ_8)))
def wX6_twin (σ : St) (K : Int32 → St → Prop) : Prop := (((2 : Int32) ≤ (gI σ 2) → wX6_twin_J14 K σ (0 : Int32)) ∧ (¬ (2 : Int32) ≤ (gI σ 2) → wX6_twin_J14 K σ (1 : Int32)))
def wX6_pieces_L9 (K : Int32 → St → Prop) (σ : St) : Nat → Int32 → Int32 → Prop
  | 0, _, _ => False
  | n + 1, x1, x2 => wX6_longestAt σ x1 (fun r_1 => ((r_1 ≤ 0 → ((x1 = (gI σ 1) → K x2 σ) ∧ (¬ x1 = (gI σ 1) → K ((-1 : Int32) - x1) σ))) ∧ (¬ r_1 ≤ 0 → wX6_longestAt σ x1 (fun r_4 => wX6_pieces_L9 K σ n (x1 + r_4) (x2 + 1)))))
def wX6_pieces (σ : St) (K : Int32 → St → Prop) : Prop := ∀ σ_5 : St, σ_5 = pI σ 0 (0 : Int32) → (∃ n : Nat, wX6_pieces_L9 K σ_5 n (0 : Int32) (0 : Int32))
def wX6_piece_J48 (K : Int32 → St → Prop) (σ : St) (x2 : Int32) (s1 : Int32) : Prop := wX6_fails σ s1 (fun r_1 σ_2 => ((r_1 = 0 → wX6_longestAt σ_2 x2 (fun r_4 => K r_4 σ_2)) ∧ (¬ r_1 = 0 → K (0 : Int32) σ_2)))
def wX6_piece_J43 (K : Int32 → St → Prop) (σ : St) (x2 : Int32) : Prop := wX6_piece_J48 K σ x2 (1 : Int32)
def wX6_piece_J30 (K : Int32 → St → Prop) (σ : St) (x2 : Int32) (x3 : Int32) : Prop := ((x3 = 0 → wX6_longestAt σ x2 (fun r_6 => ((r_6 = 0 → wX6_piece_J43 K σ x2) ∧ (¬ r_6 = 0 → wX6_piece_J48 K σ x2 (0 : Int32))))) ∧ (¬ x3 = 0 → wX6_piece_J43 K σ x2))
def wX6_piece_L4 (K : Int32 → St → Prop) (σ : St) : Nat → Int32 → Int32 → Prop
  | 0, _, _ => False
  | n + 1, x2, x3 => ((x3 ≤ 0 → wX6_piece_J30 K σ x2 x3) ∧ (¬ x3 ≤ 0 → wX6_longestAt σ x2 (fun r_9 => ((r_9 ≤ 0 → wX6_piece_J30 K σ x2 x3) ∧ (¬ r_9 ≤ 0 → wX6_longestAt σ x2 (fun r_11 => wX6_piece_L4 K σ n (x2 + r_11) (x3 + (-1))))))))
def wX6_piece (σ : St) (x1 : Int32) (K : Int32 → St → Prop) : Prop := (∃ n : Nat, wX6_piece_L4 K σ n (0 : Int32) x1)
def wX6_cutsAll_J134 (K : St → Prop) (B5 : St → Int32 → Prop) (B49 : St → Int32 → Prop) (σ : St) (x1 : Int32) (x2 : Int32) (x4 : Int32) : Prop := vp_in x1 25 ∧ (∀ σ_2 : St, σ_2 = pA σ 11 (x1).toNatClampNeg x4 → B49 σ_2 (x2 + 1))
def wX6_cutsAll_L49 (K : St → Prop) (B5 : St → Int32 → Prop) (x1 : Int32) : Nat → St → Int32 → Prop
  | 0, _, _ => False
  | n + 1, σ, x2 => (((gI σ 2) ≤ x2 → B5 σ (x1 + (-1))) ∧ (¬ (gI σ 2) ≤ x2 → wX6_like σ x2 x1 (fun r_4 => vp_in x2 24 ∧ ((((gA σ 5 (x2).toNatClampNeg) ≤ r_4 → vp_in x2 24 ∧ (∀ x3_8 : Int32, x3_8 = (x1 + (gA σ 5 (x2).toNatClampNeg)) → vp_in x1 25 ∧ (vp_in x3_8 25 ∧ (vp_in x1 25 ∧ (∀ σ_12 : St, σ_12 = pL σ (x1).toNatClampNeg ((gL σ (x1).toNatClampNeg) + (gL σ (x3_8).toNatClampNeg)) → vp_in x3_8 25 ∧ (∀ x4_14 : Int32, x4_14 = ((gA σ_12 11 (x3_8).toNatClampNeg) + (1 : Int32)) → ((x4_14 ≤ 0 → wX6_cutsAll_L49 K B5 x1 n σ_12 (x2 + 1)) ∧ (¬ x4_14 ≤ 0 → vp_in x1 25 ∧ ((((gA σ_12 11 (x1).toNatClampNeg) < 0 → wX6_cutsAll_J134 K B5 (wX6_cutsAll_L49 K B5 x1 n) σ_12 x1 x2 x4_14) ∧ (¬ (gA σ_12 11 (x1).toNatClampNeg) < 0 → vp_in x1 25 ∧ ((((gA σ_12 11 (x1).toNatClampNeg) ≤ x4_14 → wX6_cutsAll_L49 K B5 x1 n σ_12 (x2 + 1)) ∧ (¬ (gA σ_12 11 (x1).toNatClampNeg) ≤ x4_14 → wX6_cutsAll_J134 K B5 (wX6_cutsAll_L49 K B5 x1 n) σ_12 x1 x2 x4_14)))))))))))))) ∧ (¬ (gA σ 5 (x2).toNatClampNeg) ≤ r_4 → wX6_cutsAll_L49 K B5 x1 n σ (x2 + 1)))))))
def wX6_cutsAll_J46 (K : St → Prop) (B5 : St → Int32 → Prop) (σ : St) (x1 : Int32) (s1 : Int32) (s2 : Int32) : Prop := vp_in s1 25 ∧ (∀ σ_21 : St, σ_21 = pA σ 11 (s1).toNatClampNeg s2 → (∃ n : Nat, wX6_cutsAll_L49 K B5 x1 n σ_21 (0 : Int32)))
def wX6_cutsAll_J27 (K : St → Prop) (B5 : St → Int32 → Prop) (σ : St) (x1 : Int32) (s1 : Int32) (s2 : Int64) : Prop := vp_in s1 25 ∧ (∀ σ_24 : St, σ_24 = pL σ (s1).toNatClampNeg s2 → ((x1 = (gI σ_24 1) → wX6_cutsAll_J46 K B5 σ_24 x1 x1 (0 : Int32)) ∧ (¬ x1 = (gI σ_24 1) → wX6_cutsAll_J46 K B5 σ_24 x1 x1 (-1 : Int32))))
def wX6_cutsAll_L5 (K : St → Prop) : Nat → St → Int32 → Prop
  | 0, _, _ => False
  | n + 1, σ, x1 => ((x1 < 0 → K σ) ∧ (¬ x1 < 0 → ((x1 = (gI σ 1) → wX6_cutsAll_J27 K (wX6_cutsAll_L5 K n) σ x1 x1 (1 : Int64)) ∧ (¬ x1 = (gI σ 1) → wX6_cutsAll_J27 K (wX6_cutsAll_L5 K n) σ x1 x1 (0 : Int64)))))
def wX6_cutsAll (σ : St) (K : St → Prop) : Prop := ∀ x1_28 : Int32, x1_28 = (gI σ 1) → (∃ n : Nat, wX6_cutsAll_L5 K n σ x1_28)
def wX6_cuts (σ : St) (K : Int64 → St → Prop) : Prop := ∀ σ_1 : St, σ_1 = pI σ 0 (0 : Int32) → wX6_cutsAll σ_1 (fun σ_3 => vp_in (0 : Int32) 25 ∧ (K (gL σ_3 ((0 : Int32)).toNatClampNeg) σ_3))
def wX6_fewest (σ : St) (K : Int32 → St → Prop) : Prop := ∀ σ_1 : St, σ_1 = pI σ 0 (0 : Int32) → wX6_cutsAll σ_1 (fun σ_3 => vp_in (0 : Int32) 25 ∧ (K (gA σ_3 11 ((0 : Int32)).toNatClampNeg) σ_3))
def wX6_code_L62 (K : Int32 → St → Prop) (x2 : Int32) (x3 : Int32) : Nat → St → Int32 → Prop
  | 0, _, _ => False
  | n + 1, σ, x4 => (((gI σ 1) ≤ x4 → K x3 σ) ∧ (¬ (gI σ 1) ≤ x4 → vp_in x4 24 ∧ (vp_in (((3 : Int32) * x2) + x4) 18 ∧ (∀ σ_4 : St, σ_4 = pA σ 3 ((((3 : Int32) * x2) + x4)).toNatClampNeg (vp_nar .char (gA σ 1 (x4).toNatClampNeg)) → wX6_code_L62 K x2 x3 n σ_4 (x4 + 1)))))
def wX6_code_J29 (K : Int32 → St → Prop) (σ : St) (x1 : Int32) (s1 : Int32) : Prop := wX6_fails σ s1 (fun r_5 σ_6 => ((r_5 = 0 → vp_in (x1 - (97 : Int32)) 6 ∧ (∀ x3_9 : Int32, x3_9 = (gA σ_6 7 ((x1 - (97 : Int32))).toNatClampNeg) → vp_in (x1 - (97 : Int32)) 6 ∧ (∀ σ_11 : St, σ_11 = pA σ_6 7 ((x1 - (97 : Int32))).toNatClampNeg (gI σ_6 1) → (∃ n : Nat, wX6_code_L62 K (x1 - (97 : Int32)) x3_9 n σ_11 (0 : Int32))))) ∧ (¬ r_5 = 0 → K (0 : Int32) σ_6)))
def wX6_code (σ : St) (x1 : Int32) (K : Int32 → St → Prop) : Prop := wX6_isSign σ x1 (fun r_13 => ((r_13 = 0 → wX6_code_J29 K σ x1 (1 : Int32)) ∧ (¬ r_13 = 0 → wX6_in σ (gI σ 1) (1 : Int32) (3 : Int32) (fun r_15 => ((r_15 = 0 → wX6_code_J29 K σ x1 (2 : Int32)) ∧ (¬ r_15 = 0 → wX6_code_J29 K σ x1 (0 : Int32)))))))
def wX6_isAhead_J51 (K : Int32 → Prop) (σ : St) (x1 : Int32) (x2 : Int32) (x3 : Int32) : Prop := vp_in x1 6 ∧ ((((gA σ 7 (x1).toNatClampNeg) ≤ x3 → K (0 : Int32)) ∧ (¬ (gA σ 7 (x1).toNatClampNeg) ≤ x3 → vp_in x2 6 ∧ ((((gA σ 7 (x2).toNatClampNeg) ≤ x3 → K (0 : Int32)) ∧ (¬ (gA σ 7 (x2).toNatClampNeg) ≤ x3 → vp_in (((3 : Int32) * x1) + x3) 18 ∧ (vp_in (((3 : Int32) * x2) + x3) 18 ∧ ((((gA σ 3 ((((3 : Int32) * x2) + x3)).toNatClampNeg) ≤ (gA σ 3 ((((3 : Int32) * x1) + x3)).toNatClampNeg) → K (0 : Int32)) ∧ (¬ (gA σ 3 ((((3 : Int32) * x2) + x3)).toNatClampNeg) ≤ (gA σ 3 ((((3 : Int32) * x1) + x3)).toNatClampNeg) → K (1 : Int32)))))))))))
def wX6_isAhead_L2 (K : Int32 → Prop) (σ : St) (x1 : Int32) (x2 : Int32) : Nat → Int32 → Prop
  | 0, _ => False
  | n + 1, x3 => vp_in x1 6 ∧ ((((gA σ 7 (x1).toNatClampNeg) ≤ x3 → wX6_isAhead_J51 K σ x1 x2 x3) ∧ (¬ (gA σ 7 (x1).toNatClampNeg) ≤ x3 → vp_in x2 6 ∧ ((((gA σ 7 (x2).toNatClampNeg) ≤ x3 → wX6_isAhead_J51 K σ x1 x2 x3) ∧ (¬ (gA σ 7 (x2).toNatClampNeg) ≤ x3 → vp_in (((3 : Int32) * x1) + x3) 18 ∧ (vp_in (((3 : Int32) * x2) + x3) 18 ∧ ((((gA σ 3 ((((3 : Int32) * x1) + x3)).toNatClampNeg) = (gA σ 3 ((((3 : Int32) * x2) + x3)).toNatClampNeg) → wX6_isAhead_L2 K σ x1 x2 n (x3 + 1)) ∧ (¬ (gA σ 3 ((((3 : Int32) * x1) + x3)).toNatClampNeg) = (gA σ 3 ((((3 : Int32) * x2) + x3)).toNatClampNeg) → wX6_isAhead_J51 K σ x1 x2 x3))))))))))
def wX6_isAhead (σ : St) (x1 : Int32) (x2 : Int32) (K : Int32 → Prop) : Prop := (∃ n : Nat, wX6_isAhead_L2 K σ x1 x2 n (0 : Int32))
def wX6_areOrderly_L10 (K : Int32 → Prop) (B2 : Int32 → Prop) (σ : St) (x1 : Int32) : Nat → Int32 → Prop
  | 0, _ => False
  | n + 1, x2 => ((x1 ≤ x2 → B2 (x1 + 1)) ∧ (¬ x1 ≤ x2 → wX6_isAhead σ x2 x1 (fun r_2 => ((r_2 = 0 → K (0 : Int32)) ∧ (¬ r_2 = 0 → wX6_areOrderly_L10 K B2 σ x1 n (x2 + 1))))))
def wX6_areOrderly_L2 (K : Int32 → Prop) (σ : St) : Nat → Int32 → Prop
  | 0, _ => False
  | n + 1, x1 => (((6 : Int32) ≤ x1 → K (1 : Int32)) ∧ (¬ (6 : Int32) ≤ x1 → (∃ nn : Nat, wX6_areOrderly_L10 K (wX6_areOrderly_L2 K σ n) σ x1 nn (0 : Int32))))
def wX6_areOrderly (σ : St) (K : Int32 → Prop) : Prop := (∃ n : Nat, wX6_areOrderly_L2 K σ n (0 : Int32))
def wX6_puts_L8 (K : Int32 → St → Prop) (x1 : Int32) (x3 : Int32) : Nat → St → Int32 → Prop
  | 0, _, _ => False
  | n + 1, σ, x4 => vp_in x3 6 ∧ ((((gA σ 7 (x3).toNatClampNeg) ≤ x4 → vp_in x3 6 ∧ (K (x1 + (gA σ 7 (x3).toNatClampNeg)) σ)) ∧ (¬ (gA σ 7 (x3).toNatClampNeg) ≤ x4 → vp_in (((3 : Int32) * x3) + x4) 18 ∧ (vp_in (x1 + x4) 72 ∧ (∀ σ_6 : St, σ_6 = pA σ 4 ((x1 + x4)).toNatClampNeg (vp_nar .char (gA σ 3 ((((3 : Int32) * x3) + x4)).toNatClampNeg)) → wX6_puts_L8 K x1 x3 n σ_6 (x4 + 1))))))
def wX6_puts (σ : St) (x1 : Int32) (x2 : Int32) (K : Int32 → St → Prop) : Prop := (∃ n : Nat, wX6_puts_L8 K x1 (x2 - (97 : Int32)) n σ (0 : Int32))
def wX6_write_L57 (K : Int32 → St → Prop) (x1 : Int32) : Nat → St → Int32 → Prop
  | 0, _, _ => False
  | n + 1, σ, x2 => ((x1 ≤ x2 → K (gI σ 1) σ) ∧ (¬ x1 ≤ x2 → vp_in x2 72 ∧ (vp_in x2 24 ∧ (∀ σ_4 : St, σ_4 = pA σ 1 (x2).toNatClampNeg (vp_nar .char (gA σ 4 (x2).toNatClampNeg)) → wX6_write_L57 K x1 n σ_4 (x2 + 1)))))
def wX6_write_J42 (K : Int32 → St → Prop) (σ : St) (x1 : Int32) (s1 : Int32) : Prop := wX6_fails σ s1 (fun r_5 σ_6 => ((r_5 = 0 → ∀ σ_8 : St, σ_8 = pI σ_6 1 x1 → (∃ n : Nat, wX6_write_L57 K x1 n σ_8 (0 : Int32))) ∧ (¬ r_5 = 0 → K (0 : Int32) σ_6)))
def wX6_write_L4 (K : Int32 → St → Prop) : Nat → St → Int32 → Int32 → Prop
  | 0, _, _, _ => False
  | n + 1, σ, x1, x2 => (((gI σ 1) ≤ x2 → ((x1 ≤ (24 : Int32) → wX6_write_J42 K σ x1 (0 : Int32)) ∧ (¬ x1 ≤ (24 : Int32) → wX6_write_J42 K σ x1 (1 : Int32)))) ∧ (¬ (gI σ 1) ≤ x2 → vp_in x2 24 ∧ (wX6_puts σ x1 (gA σ 1 (x2).toNatClampNeg) (fun r_13 σ_14 => wX6_write_L4 K n σ_14 r_13 (x2 + 1)))))
def wX6_write (σ : St) (K : Int32 → St → Prop) : Prop := (∃ n : Nat, wX6_write_L4 K n σ (0 : Int32) (0 : Int32))
def wX6_codeAt_J57 (K : Int32 → Prop) (B2 : Int32 → Prop) (σ : St) (x1 : Int32) (x2 : Int32) (x3 : Int32) : Prop := vp_in x2 6 ∧ (((x3 = (gA σ 7 (x2).toNatClampNeg) → K x2) ∧ (¬ x3 = (gA σ 7 (x2).toNatClampNeg) → B2 (x2 + 1))))
def wX6_codeAt_L10 (K : Int32 → Prop) (B2 : Int32 → Prop) (σ : St) (x1 : Int32) (x2 : Int32) : Nat → Int32 → Prop
  | 0, _ => False
  | n + 1, x3 => vp_in x2 6 ∧ ((((gA σ 7 (x2).toNatClampNeg) ≤ x3 → wX6_codeAt_J57 K B2 σ x1 x2 x3) ∧ (¬ (gA σ 7 (x2).toNatClampNeg) ≤ x3 → (((gI σ 1) ≤ (x1 + x3) → wX6_codeAt_J57 K B2 σ x1 x2 x3) ∧ (¬ (gI σ 1) ≤ (x1 + x3) → vp_in (((3 : Int32) * x2) + x3) 18 ∧ (vp_in (x1 + x3) 24 ∧ ((((gA σ 3 ((((3 : Int32) * x2) + x3)).toNatClampNeg) = (gA σ 1 ((x1 + x3)).toNatClampNeg) → wX6_codeAt_L10 K B2 σ x1 x2 n (x3 + 1)) ∧ (¬ (gA σ 3 ((((3 : Int32) * x2) + x3)).toNatClampNeg) = (gA σ 1 ((x1 + x3)).toNatClampNeg) → wX6_codeAt_J57 K B2 σ x1 x2 x3)))))))))
def wX6_codeAt_L2 (K : Int32 → Prop) (σ : St) (x1 : Int32) : Nat → Int32 → Prop
  | 0, _ => False
  | n + 1, x2 => (((6 : Int32) ≤ x2 → K (-1 : Int32)) ∧ (¬ (6 : Int32) ≤ x2 → (∃ nn : Nat, wX6_codeAt_L10 K (wX6_codeAt_L2 K σ x1 n) σ x1 x2 nn (0 : Int32))))
def wX6_codeAt (σ : St) (x1 : Int32) (K : Int32 → Prop) : Prop := (∃ n : Nat, wX6_codeAt_L2 K σ x1 n (0 : Int32))
def wX6_read_L92 (K : Int32 → St → Prop) (x2 : Int32) : Nat → St → Int32 → Prop
  | 0, _, _ => False
  | n + 1, σ, x3 => ((x2 ≤ x3 → K (gI σ 1) σ) ∧ (¬ x2 ≤ x3 → vp_in x3 72 ∧ (vp_in x3 24 ∧ (∀ σ_4 : St, σ_4 = pA σ 1 (x3).toNatClampNeg (vp_nar .char (gA σ 4 (x3).toNatClampNeg)) → wX6_read_L92 K x2 n σ_4 (x3 + 1)))))
def wX6_read_J77 (K : Int32 → St → Prop) (σ : St) (x2 : Int32) (s1 : Int32) : Prop := wX6_fails σ s1 (fun r_5 σ_6 => ((r_5 = 0 → ∀ σ_8 : St, σ_8 = pI σ_6 1 x2 → (∃ n : Nat, wX6_read_L92 K x2 n σ_8 (0 : Int32))) ∧ (¬ r_5 = 0 → K (0 : Int32) σ_6)))
def wX6_read_J52 (K : Int32 → St → Prop) (σ : St) (x1 : Int32) (x2 : Int32) : Prop := wX6_areOrderly σ (fun r_10 => ((r_10 = 0 → wX6_read_J77 K σ x2 (1 : Int32)) ∧ (¬ r_10 = 0 → (((gI σ 1) ≤ x1 → wX6_read_J77 K σ x2 (0 : Int32)) ∧ (¬ (gI σ 1) ≤ x1 → wX6_read_J77 K σ x2 (2 : Int32))))))
def wX6_read_L4 (K : Int32 → St → Prop) : Nat → St → Int32 → Int32 → Prop
  | 0, _, _, _ => False
  | n + 1, σ, x1, x2 => (((gI σ 1) ≤ x1 → wX6_read_J52 K σ x1 x2) ∧ (¬ (gI σ 1) ≤ x1 → wX6_codeAt σ x1 (fun r_14 => ((r_14 < 0 → wX6_read_J52 K σ x1 x2) ∧ (¬ r_14 < 0 → wX6_codeAt σ x1 (fun r_16 => vp_in x2 72 ∧ (∀ σ_18 : St, σ_18 = pA σ 4 (x2).toNatClampNeg (vp_nar .char ((((97 : Int32) + r_16)).toUInt32 % 65536).toInt32) → vp_in r_16 6 ∧ (∀ x1_20 : Int32, x1_20 = (x1 + (gA σ_18 7 (r_16).toNatClampNeg)) → wX6_read_L4 K n σ_18 x1_20 (x2 + 1)))))))))
def wX6_read (σ : St) (K : Int32 → St → Prop) : Prop := (∃ n : Nat, wX6_read_L4 K n σ (0 : Int32) (0 : Int32))
def wX6_written_L4 (K : Int32 → St → Prop) (x1 : Int32) : Nat → St → Int32 → Int32 → Prop
  | 0, _, _, _ => False
  | n + 1, σ, x2, x3 => vp_in x1 24 ∧ ((((gA σ 5 (x1).toNatClampNeg) ≤ x3 → K x2 σ) ∧ (¬ (gA σ 5 (x1).toNatClampNeg) ≤ x3 → vp_in (((10 : Int32) * x1) + x3) 240 ∧ (wX6_puts σ x2 (gA σ 2 ((((10 : Int32) * x1) + x3)).toNatClampNeg) (fun r_4 σ_5 => wX6_written_L4 K x1 n σ_5 r_4 (x3 + 1))))))
def wX6_written (σ : St) (x1 : Int32) (K : Int32 → St → Prop) : Prop := (∃ n : Nat, wX6_written_L4 K x1 n σ (0 : Int32) (0 : Int32))
def wX6_writeAll_L109 (K : Int32 → St → Prop) (B69 : St → Int32 → Int32 → Prop) (x2 : Int32) (x3 : Int32) (x4 : Int32) : Nat → St → Int32 → Prop
  | 0, _, _ => False
  | n + 1, σ, x5 => ((x4 ≤ x5 → B69 σ x2 (x3 + 1)) ∧ (¬ x4 ≤ x5 → vp_in x5 72 ∧ (vp_in (((10 : Int32) * x3) + x5) 240 ∧ (∀ σ_4 : St, σ_4 = pA σ 2 ((((10 : Int32) * x3) + x5)).toNatClampNeg (vp_nar .char (gA σ 4 (x5).toNatClampNeg)) → wX6_writeAll_L109 K B69 x2 x3 x4 n σ_4 (x5 + 1)))))
def wX6_writeAll_J98 (K : Int32 → St → Prop) (B69 : St → Int32 → Int32 → Prop) (σ : St) (x2 : Int32) (x3 : Int32) (x4 : Int32) : Prop := vp_in x3 24 ∧ (∀ σ_6 : St, σ_6 = pA σ 5 (x3).toNatClampNeg x4 → (∃ n : Nat, wX6_writeAll_L109 K B69 x2 x3 x4 n σ_6 (0 : Int32)))
def wX6_writeAll_L69 (K : Int32 → St → Prop) : Nat → St → Int32 → Int32 → Prop
  | 0, _, _, _ => False
  | n + 1, σ, x2, x3 => (((gI σ 2) ≤ x3 → K x2 σ) ∧ (¬ (gI σ 2) ≤ x3 → wX6_written σ x3 (fun r_9 σ_10 => vp_in x3 24 ∧ (((r_9 ≤ (gA σ_10 5 (x3).toNatClampNeg) → wX6_writeAll_J98 K (wX6_writeAll_L69 K n) σ_10 x2 x3 r_9) ∧ (¬ r_9 ≤ (gA σ_10 5 (x3).toNatClampNeg) → wX6_writeAll_J98 K (wX6_writeAll_L69 K n) σ_10 (x2 + 1) x3 r_9))))))
def wX6_writeAll_J57 (K : Int32 → St → Prop) (σ : St) (s1 : Int32) : Prop := wX6_fails σ s1 (fun r_13 σ_14 => ((r_13 = 0 → (∃ n : Nat, wX6_writeAll_L69 K n σ_14 (0 : Int32) (0 : Int32))) ∧ (¬ r_13 = 0 → K (0 : Int32) σ_14)))
def wX6_writeAll_L4 (K : Int32 → St → Prop) : Nat → St → Int32 → Int32 → Prop
  | 0, _, _, _ => False
  | n + 1, σ, x1, x2 => (((gI σ 2) ≤ x2 → wX6_areOrderly σ (fun r_18 => ((r_18 = 0 → wX6_writeAll_J57 K σ (1 : Int32)) ∧ (¬ r_18 = 0 → ((x1 = 0 → wX6_writeAll_J57 K σ (0 : Int32)) ∧ (¬ x1 = 0 → wX6_writeAll_J57 K σ (2 : Int32))))))) ∧ (¬ (gI σ 2) ≤ x2 → wX6_written σ x2 (fun r_21 σ_22 => ((r_21 ≤ (10 : Int32) → wX6_writeAll_L4 K n σ_22 (x1 ||| (0 : Int32)) (x2 + 1)) ∧ (¬ r_21 ≤ (10 : Int32) → wX6_writeAll_L4 K n σ_22 (x1 ||| (1 : Int32)) (x2 + 1))))))
def wX6_writeAll (σ : St) (K : Int32 → St → Prop) : Prop := (∃ n : Nat, wX6_writeAll_L4 K n σ (0 : Int32) (0 : Int32))
def wX6_isSideBySide_J81 (K : Int32 → Prop) (B16 : Int32 → Int32 → Int32 → Int32 → Int32 → Prop) (σ : St) (x1 : Int32) (x2 : Int32) (x3 : Int32) (x4 : Int32) (x5 : Int32) (x6 : Int32) : Prop := vp_in x6 24 ∧ ((((gA σ 9 (x6).toNatClampNeg) ≤ x3 → B16 x2 x3 x4 x5 (x6 + 1)) ∧ (¬ (gA σ 9 (x6).toNatClampNeg) ≤ x3 → vp_in x6 24 ∧ (∀ x3_4 : Int32, x3_4 = (gA σ 9 (x6).toNatClampNeg) → B16 x2 x3_4 x4 x5 (x6 + 1)))))
def wX6_isSideBySide_J52 (K : Int32 → Prop) (B16 : Int32 → Int32 → Int32 → Int32 → Int32 → Prop) (σ : St) (x1 : Int32) (x2 : Int32) (x3 : Int32) (x4 : Int32) (x5 : Int32) (x6 : Int32) (s0 : Int32) : Prop := ((s0 = 0 → wX6_like σ x6 (0 : Int32) (fun r_6 => vp_in x6 24 ∧ (((r_6 = (gA σ 5 (x6).toNatClampNeg) → B16 x2 x3 x4 (x5 + 1) (x6 + 1)) ∧ (¬ r_6 = (gA σ 5 (x6).toNatClampNeg) → wX6_like σ x6 (0 : Int32) (fun r_9 => ((x1 ≤ r_9 → B16 x2 x3 x4 x5 (x6 + 1)) ∧ (¬ x1 ≤ r_9 → wX6_like σ x6 (0 : Int32) (fun r_11 => vp_in (((10 : Int32) * x6) + r_11) 240 ∧ (wX6_like σ x6 (0 : Int32) (fun r_13 => vp_in r_13 24 ∧ ((((gA σ 1 (r_13).toNatClampNeg) ≤ (gA σ 2 ((((10 : Int32) * x6) + r_11)).toNatClampNeg) → B16 x2 x3 x4 x5 (x6 + 1)) ∧ (¬ (gA σ 1 (r_13).toNatClampNeg) ≤ (gA σ 2 ((((10 : Int32) * x6) + r_11)).toNatClampNeg) → B16 x2 x3 x4 (x5 + 1) (x6 + 1))))))))))))))) ∧ (¬ s0 = 0 → vp_in x6 24 ∧ (((x2 ≤ (gA σ 9 (x6).toNatClampNeg) → wX6_isSideBySide_J81 K B16 σ x1 x2 x3 (x4 + 1) x5 x6) ∧ (¬ x2 ≤ (gA σ 9 (x6).toNatClampNeg) → vp_in x6 24 ∧ (∀ x2_19 : Int32, x2_19 = (gA σ 9 (x6).toNatClampNeg) → wX6_isSideBySide_J81 K B16 σ x1 x2_19 x3 (x4 + 1) x5 x6))))))
def wX6_isSideBySide_J51 (K : Int32 → Prop) (B16 : Int32 → Int32 → Int32 → Int32 → Int32 → Prop) (σ : St) (x1 : Int32) (x2 : Int32) (x3 : Int32) (x4 : Int32) (x5 : Int32) (x6 : Int32) : Prop := wX6_isSideBySide_J52 K B16 σ x1 x2 x3 x4 x5 x6 (0 : Int32)
def wX6_isSideBySide_L16 (K : Int32 → Prop) (σ : St) (x1 : Int32) : Nat → Int32 → Int32 → Int32 → Int32 → Int32 → Prop
  | 0, _, _, _, _, _ => False
  | n + 1, x2, x3, x4, x5, x6 => (((gI σ 2) ≤ x6 → ((x4 = 0 → K (1 : Int32)) ∧ (¬ x4 = 0 → ((((x3 - x2) + (1 : Int32)) = x4 → ((x2 = x5 → K (1 : Int32)) ∧ (¬ x2 = x5 → K (0 : Int32)))) ∧ (¬ ((x3 - x2) + (1 : Int32)) = x4 → K (0 : Int32)))))) ∧ (¬ (gI σ 2) ≤ x6 → vp_in x6 24 ∧ ((((gA σ 5 (x6).toNatClampNeg) < x1 → wX6_isSideBySide_J51 K (wX6_isSideBySide_L16 K σ x1 n) σ x1 x2 x3 x4 x5 x6) ∧ (¬ (gA σ 5 (x6).toNatClampNeg) < x1 → wX6_like σ x6 (0 : Int32) (fun r_26 => ((r_26 < x1 → wX6_isSideBySide_J51 K (wX6_isSideBySide_L16 K σ x1 n) σ x1 x2 x3 x4 x5 x6) ∧ (¬ r_26 < x1 → wX6_isSideBySide_J52 K (wX6_isSideBySide_L16 K σ x1 n) σ x1 x2 x3 x4 x5 x6 (1 : Int32)))))))))
def wX6_isSideBySide (σ : St) (x1 : Int32) (K : Int32 → Prop) : Prop := ∀ x2_28 : Int32, x2_28 = (gI σ 2) → (∃ n : Nat, wX6_isSideBySide_L16 K σ x1 n x2_28 (-1 : Int32) (0 : Int32) (0 : Int32) (0 : Int32))
def wX6_areTwins_L66 (K : Int32 → Prop) (σ : St) (x1 : Int32) : Nat → Int32 → Int32 → Prop
  | 0, _, _ => False
  | n + 1, x2, x3 => (((gI σ 2) ≤ x3 → ((x1 = x2 → K (1 : Int32)) ∧ (¬ x1 = x2 → K (0 : Int32)))) ∧ (¬ (gI σ 2) ≤ x3 → vp_in (x3 - (1 : Int32)) 24 ∧ (vp_in x3 24 ∧ (wX6_likeWords σ (gA σ 8 ((x3 - (1 : Int32))).toNatClampNeg) (gA σ 8 (x3).toNatClampNeg) (fun r_5 => ((r_5 ≤ x2 → wX6_areTwins_L66 K σ x1 n x2 (x3 + 1)) ∧ (¬ r_5 ≤ x2 → vp_in (x3 - (1 : Int32)) 24 ∧ (vp_in x3 24 ∧ (wX6_likeWords σ (gA σ 8 ((x3 - (1 : Int32))).toNatClampNeg) (gA σ 8 (x3).toNatClampNeg) (fun r_9 => wX6_areTwins_L66 K σ x1 n r_9 (x3 + 1)))))))))))
def wX6_areTwins_L27 (K : Int32 → Prop) (B16 : Int32 → Int32 → Prop) (σ : St) (x2 : Int32) (x3 : Int32) : Nat → Int32 → Int32 → Prop
  | 0, _, _ => False
  | n + 1, x1, x4 => ((x3 ≤ x4 → B16 x1 (x3 + 1)) ∧ (¬ x3 ≤ x4 → wX6_likeWords σ x4 x3 (fun r_11 => ((r_11 ≤ x1 → wX6_areTwins_L27 K B16 σ x2 x3 n x1 (x4 + 1)) ∧ (¬ r_11 ≤ x1 → wX6_likeWords σ x4 x3 (fun r_13 => wX6_areTwins_L27 K B16 σ x2 x3 n r_13 (x4 + 1)))))))
def wX6_areTwins_L16 (K : Int32 → Prop) (σ : St) (x2 : Int32) : Nat → Int32 → Int32 → Prop
  | 0, _, _ => False
  | n + 1, x1, x3 => (((gI σ 2) ≤ x3 → (∃ n : Nat, wX6_areTwins_L66 K σ x1 n x2 (1 : Int32))) ∧ (¬ (gI σ 2) ≤ x3 → (∃ nn : Nat, wX6_areTwins_L27 K (wX6_areTwins_L16 K σ x2 n) σ x2 x3 nn x1 (0 : Int32))))
def wX6_areTwins (σ : St) (K : Int32 → Prop) : Prop := (((2 : Int32) ≤ (gI σ 2) → (∃ n : Nat, wX6_areTwins_L16 K σ (0 : Int32) n (0 : Int32) (0 : Int32))) ∧ (¬ (2 : Int32) ≤ (gI σ 2) → K (1 : Int32)))
def wX6_isTrue_J41 (K : Int32 → St → Prop) (σ : St) : Prop := wX6_areTwins σ (fun r_1 => K r_1 σ)
def wX6_isTrue_L11 (K : Int32 → St → Prop) (σ : St) : Nat → Int32 → Prop
  | 0, _ => False
  | n + 1, x1 => (((gI σ 1) < x1 → wX6_isTrue_J41 K σ) ∧ (¬ (gI σ 1) < x1 → (((10 : Int32) < x1 → wX6_isTrue_J41 K σ) ∧ (¬ (10 : Int32) < x1 → wX6_isSideBySide σ x1 (fun r_4 => ((r_4 = 0 → K (0 : Int32) σ) ∧ (¬ r_4 = 0 → wX6_isTrue_L11 K σ n (x1 + 1))))))))
def wX6_isTrue (σ : St) (K : Int32 → St → Prop) : Prop := ∀ σ_6 : St, σ_6 = pI σ 0 (0 : Int32) → wX6_orders σ_6 (fun σ_8 => (∃ n : Nat, wX6_isTrue_L11 K σ_8 n (0 : Int32)))
def wX6_checksum_L149 (K : Int64 → St → Prop) (B126 : Int64 → Int32 → Prop) (σ : St) (x3 : Int32) : Nat → Int64 → Int32 → Prop
  | 0, _, _ => False
  | n + 1, x1, x4 => vp_in x3 6 ∧ ((((gA σ 7 (x3).toNatClampNeg) ≤ x4 → B126 x1 (x3 + 1)) ∧ (¬ (gA σ 7 (x3).toNatClampNeg) ≤ x4 → vp_in (((3 : Int32) * x3) + x4) 18 ∧ (∀ x1_4 : Int64, x1_4 = (((31 : Int64) * x1) + ((gA σ 3 ((((3 : Int32) * x3) + x4)).toNatClampNeg)).toInt64) → wX6_checksum_L149 K B126 σ x3 n x1_4 (x4 + 1)))))
def wX6_checksum_L126 (K : Int64 → St → Prop) (σ : St) : Nat → Int64 → Int32 → Prop
  | 0, _, _ => False
  | n + 1, x1, x3 => (((6 : Int32) ≤ x3 → K x1 σ) ∧ (¬ (6 : Int32) ≤ x3 → vp_in x3 6 ∧ (∀ x1_7 : Int64, x1_7 = (((31 : Int64) * x1) + ((gA σ 7 (x3).toNatClampNeg)).toInt64) → (∃ nn : Nat, wX6_checksum_L149 K (wX6_checksum_L126 K σ n) σ x3 nn x1_7 (0 : Int32)))))
def wX6_checksum_L64 (K : Int64 → St → Prop) (B45 : Int64 → Int32 → Prop) (σ : St) (x3 : Int32) (x4 : Int32) : Nat → Int64 → Int32 → Prop
  | 0, _, _ => False
  | n + 1, x1, x5 => vp_in x4 24 ∧ ((((gA σ 5 (x4).toNatClampNeg) ≤ x5 → vp_in x4 24 ∧ (∀ x1_12 : Int64, x1_12 = (((31 : Int64) * x1) + ((gA σ 6 (x4).toNatClampNeg)).toInt64) → B45 x1_12 (x3 + 1))) ∧ (¬ (gA σ 5 (x4).toNatClampNeg) ≤ x5 → vp_in (((10 : Int32) * x4) + x5) 240 ∧ (∀ x1_14 : Int64, x1_14 = (((31 : Int64) * x1) + ((gA σ 2 ((((10 : Int32) * x4) + x5)).toNatClampNeg)).toInt64) → wX6_checksum_L64 K B45 σ x3 x4 n x1_14 (x5 + 1)))))
def wX6_checksum_L45 (K : Int64 → St → Prop) (σ : St) : Nat → Int64 → Int32 → Prop
  | 0, _, _ => False
  | n + 1, x1, x3 => (((gI σ 2) ≤ x3 → (∃ n : Nat, wX6_checksum_L126 K σ n x1 (0 : Int32))) ∧ (¬ (gI σ 2) ≤ x3 → vp_in x3 24 ∧ (∀ x4_18 : Int32, x4_18 = (gA σ 8 (x3).toNatClampNeg) → (∃ nn : Nat, wX6_checksum_L64 K (wX6_checksum_L45 K σ n) σ x3 x4_18 nn x1 (0 : Int32)))))
def wX6_checksum_L11 (K : Int64 → St → Prop) (σ : St) : Nat → Int64 → Int32 → Prop
  | 0, _, _ => False
  | n + 1, x1, x3 => (((gI σ 1) ≤ x3 → wX6_orders σ (fun σ_22 => (∃ n : Nat, wX6_checksum_L45 K σ_22 n x1 (0 : Int32)))) ∧ (¬ (gI σ 1) ≤ x3 → vp_in x3 24 ∧ (∀ x1_25 : Int64, x1_25 = (((31 : Int64) * x1) + ((gA σ 1 (x3).toNatClampNeg)).toInt64) → wX6_checksum_L11 K σ n x1_25 (x3 + 1))))
def wX6_checksum (σ : St) (K : Int64 → St → Prop) : Prop := ∀ σ_26 : St, σ_26 = pI σ 0 (0 : Int32) → (∃ n : Nat, wX6_checksum_L11 K σ_26 n (7 : Int64) (0 : Int32))
abbrev rmX6_thrown : Room := { frames := 0, cells := 0, slots := 0, locals := 0 }
theorem ddX6_thrown : yX6_thrown.cls = RX6 ∧ yX6_thrown.cls ≠ "java/lang/invoke/MethodHandle" ∧ yX6_thrown.cls ≠ "java/lang/invoke/VarHandle" ∧ (parseMethodDescriptor yX6_thrown.desc).map (fun d => d.parameters.length) = some 0 := by decide +kernel
set_option maxRecDepth 20000 in
theorem kX6_thrown_0 : Cond.fieldLink RX6 1 "StemspanModel" "code" "I" ∈ wsX6_thrown := by decide +kernel
set_option maxRecDepth 20000 in
theorem kX6_thrown_inX6 : ∀ w ∈ wsX60, w ∈ wsX6_thrown := by decide +kernel
abbrev rmX6_fails : Room := { frames := 0, cells := 0, slots := 0, locals := 0 }
theorem ddX6_fails : yX6_fails.cls = RX6 ∧ yX6_fails.cls ≠ "java/lang/invoke/MethodHandle" ∧ yX6_fails.cls ≠ "java/lang/invoke/VarHandle" ∧ (parseMethodDescriptor yX6_fails.desc).map (fun d => d.parameters.length) = some 1 := by decide +kernel
set_option maxRecDepth 20000 in
theorem kX6_fails_0 : Cond.fieldLink RX6 1 "StemspanModel" "code" "I" ∈ wsX6_fails := by decide +kernel
set_option maxRecDepth 20000 in
theorem kX6_fails_inX6 : ∀ w ∈ wsX60, w ∈ wsX6_fails := by decide +kernel
abbrev rmX6_in : Room := { frames := 0, cells := 0, slots := 0, locals := 0 }
theorem ddX6_in : yX6_in.cls ≠ "java/lang/invoke/MethodHandle" ∧ yX6_in.cls ≠ "java/lang/invoke/VarHandle" ∧ (parseMethodDescriptor yX6_in.desc).map (fun d => d.parameters.length) = some 3 := by decide +kernel
abbrev rmX6_isSign : Room := { frames := 0, cells := 0, slots := 0, locals := 0 }
theorem ddX6_isSign : yX6_isSign.cls ≠ "java/lang/invoke/MethodHandle" ∧ yX6_isSign.cls ≠ "java/lang/invoke/VarHandle" ∧ (parseMethodDescriptor yX6_isSign.desc).map (fun d => d.parameters.length) = some 1 := by decide +kernel
abbrev rmX6_like : Room := { frames := 0, cells := 0, slots := 0, locals := 0 }
theorem ddX6_like : yX6_like.cls = RX6 ∧ yX6_like.cls ≠ "java/lang/invoke/MethodHandle" ∧ yX6_like.cls ≠ "java/lang/invoke/VarHandle" ∧ (parseMethodDescriptor yX6_like.desc).map (fun d => d.parameters.length) = some 2 := by decide +kernel
set_option maxRecDepth 20000 in
theorem kX6_like_0 : Cond.fieldLink RX6 26 "StemspanModel" "wordLength" "[I" ∈ wsX6_like := by decide +kernel
set_option maxRecDepth 20000 in
theorem kX6_like_inX6 : ∀ w ∈ wsX60, w ∈ wsX6_like := by decide +kernel
set_option maxRecDepth 20000 in
theorem kX6_like_2 : Cond.fieldLink RX6 49 "StemspanModel" "length" "I" ∈ wsX6_like := by decide +kernel
set_option maxRecDepth 20000 in
theorem kX6_like_3 : Cond.fieldLink RX6 17 "StemspanModel" "word" "[C" ∈ wsX6_like := by decide +kernel
set_option maxRecDepth 20000 in
theorem kX6_like_4 : Cond.fieldLink RX6 13 "StemspanModel" "text" "[C" ∈ wsX6_like := by decide +kernel
abbrev rmX6_likeWords : Room := { frames := 0, cells := 0, slots := 0, locals := 0 }
theorem ddX6_likeWords : yX6_likeWords.cls = RX6 ∧ yX6_likeWords.cls ≠ "java/lang/invoke/MethodHandle" ∧ yX6_likeWords.cls ≠ "java/lang/invoke/VarHandle" ∧ (parseMethodDescriptor yX6_likeWords.desc).map (fun d => d.parameters.length) = some 2 := by decide +kernel
set_option maxRecDepth 20000 in
theorem kX6_likeWords_0 : Cond.fieldLink RX6 26 "StemspanModel" "wordLength" "[I" ∈ wsX6_likeWords := by decide +kernel
set_option maxRecDepth 20000 in
theorem kX6_likeWords_inX6 : ∀ w ∈ wsX60, w ∈ wsX6_likeWords := by decide +kernel
set_option maxRecDepth 20000 in
theorem kX6_likeWords_2 : Cond.fieldLink RX6 17 "StemspanModel" "word" "[C" ∈ wsX6_likeWords := by decide +kernel
abbrev rmX6_beside : Room := { frames := 1, cells := 0, slots := 0, locals := 23 }
theorem ddX6_beside : yX6_beside.cls = RX6 ∧ yX6_beside.cls ≠ "java/lang/invoke/MethodHandle" ∧ yX6_beside.cls ≠ "java/lang/invoke/VarHandle" ∧ (parseMethodDescriptor yX6_beside.desc).map (fun d => d.parameters.length) = some 1 := by decide +kernel
set_option maxRecDepth 20000 in
theorem kX6_beside_0 : Cond.fieldLink RX6 26 "StemspanModel" "wordLength" "[I" ∈ wsX6_beside := by decide +kernel
set_option maxRecDepth 20000 in
theorem kX6_beside_inX6 : ∀ w ∈ wsX60, w ∈ wsX6_beside := by decide +kernel
set_option maxRecDepth 20000 in
theorem kX6_beside_2 : Cond.fieldLink RX6 49 "StemspanModel" "length" "I" ∈ wsX6_beside := by decide +kernel
set_option maxRecDepth 20000 in
theorem kX6_beside_3 : Cond.fieldLink RX6 17 "StemspanModel" "word" "[C" ∈ wsX6_beside := by decide +kernel
set_option maxRecDepth 20000 in
theorem kX6_beside_4 : Cond.fieldLink RX6 13 "StemspanModel" "text" "[C" ∈ wsX6_beside := by decide +kernel
abbrev rmX6_isLess : Room := { frames := 1, cells := 0, slots := 0, locals := 23 }
theorem ddX6_isLess : yX6_isLess.cls = RX6 ∧ yX6_isLess.cls ≠ "java/lang/invoke/MethodHandle" ∧ yX6_isLess.cls ≠ "java/lang/invoke/VarHandle" ∧ (parseMethodDescriptor yX6_isLess.desc).map (fun d => d.parameters.length) = some 2 := by decide +kernel
set_option maxRecDepth 20000 in
theorem kX6_isLess_0 : Cond.fieldLink RX6 26 "StemspanModel" "wordLength" "[I" ∈ wsX6_isLess := by decide +kernel
set_option maxRecDepth 20000 in
theorem kX6_isLess_inX6 : ∀ w ∈ wsX60, w ∈ wsX6_isLess := by decide +kernel
set_option maxRecDepth 20000 in
theorem kX6_isLess_2 : Cond.fieldLink RX6 17 "StemspanModel" "word" "[C" ∈ wsX6_isLess := by decide +kernel
abbrev rmX6_isBegun : Room := { frames := 1, cells := 0, slots := 0, locals := 23 }
theorem ddX6_isBegun : yX6_isBegun.cls = RX6 ∧ yX6_isBegun.cls ≠ "java/lang/invoke/MethodHandle" ∧ yX6_isBegun.cls ≠ "java/lang/invoke/VarHandle" ∧ (parseMethodDescriptor yX6_isBegun.desc).map (fun d => d.parameters.length) = some 1 := by decide +kernel
set_option maxRecDepth 20000 in
theorem kX6_isBegun_0 : Cond.fieldLink RX6 49 "StemspanModel" "length" "I" ∈ wsX6_isBegun := by decide +kernel
set_option maxRecDepth 20000 in
theorem kX6_isBegun_inX6 : ∀ w ∈ wsX60, w ∈ wsX6_isBegun := by decide +kernel
abbrev rmX6_own : Room := { frames := 2, cells := 0, slots := 0, locals := 45 }
theorem ddX6_own : yX6_own.cls = RX6 ∧ yX6_own.cls ≠ "java/lang/invoke/MethodHandle" ∧ yX6_own.cls ≠ "java/lang/invoke/VarHandle" ∧ (parseMethodDescriptor yX6_own.desc).map (fun d => d.parameters.length) = some 0 := by decide +kernel
set_option maxRecDepth 20000 in
theorem kX6_own_0 : Cond.fieldLink RX6 59 "StemspanModel" "many" "I" ∈ wsX6_own := by decide +kernel
set_option maxRecDepth 20000 in
theorem kX6_own_inX6 : ∀ w ∈ wsX60, w ∈ wsX6_own := by decide +kernel
abbrev rmX6_rankOf : Room := { frames := 2, cells := 0, slots := 0, locals := 46 }
theorem ddX6_rankOf : yX6_rankOf.cls = RX6 ∧ yX6_rankOf.cls ≠ "java/lang/invoke/MethodHandle" ∧ yX6_rankOf.cls ≠ "java/lang/invoke/VarHandle" ∧ (parseMethodDescriptor yX6_rankOf.desc).map (fun d => d.parameters.length) = some 1 := by decide +kernel
set_option maxRecDepth 20000 in
theorem kX6_rankOf_0 : Cond.fieldLink RX6 59 "StemspanModel" "many" "I" ∈ wsX6_rankOf := by decide +kernel
set_option maxRecDepth 20000 in
theorem kX6_rankOf_inX6 : ∀ w ∈ wsX60, w ∈ wsX6_rankOf := by decide +kernel
abbrev rmX6_orders : Room := { frames := 3, cells := 0, slots := 0, locals := 69 }
theorem ddX6_orders : yX6_orders.cls = RX6 ∧ yX6_orders.cls ≠ "java/lang/invoke/MethodHandle" ∧ yX6_orders.cls ≠ "java/lang/invoke/VarHandle" ∧ (parseMethodDescriptor yX6_orders.desc).map (fun d => d.parameters.length) = some 0 := by decide +kernel
set_option maxRecDepth 20000 in
theorem kX6_orders_0 : Cond.fieldLink RX6 59 "StemspanModel" "many" "I" ∈ wsX6_orders := by decide +kernel
set_option maxRecDepth 20000 in
theorem kX6_orders_inX6 : ∀ w ∈ wsX60, w ∈ wsX6_orders := by decide +kernel
set_option maxRecDepth 20000 in
theorem kX6_orders_2 : Cond.fieldLink RX6 39 "StemspanModel" "ranks" "[I" ∈ wsX6_orders := by decide +kernel
set_option maxRecDepth 20000 in
theorem kX6_orders_3 : Cond.fieldLink RX6 36 "StemspanModel" "order" "[I" ∈ wsX6_orders := by decide +kernel
abbrev rmX6_becomes : Room := { frames := 0, cells := 0, slots := 0, locals := 0 }
theorem ddX6_becomes : yX6_becomes.cls = RX6 ∧ yX6_becomes.cls ≠ "java/lang/invoke/MethodHandle" ∧ yX6_becomes.cls ≠ "java/lang/invoke/VarHandle" ∧ (parseMethodDescriptor yX6_becomes.desc).map (fun d => d.parameters.length) = some 1 := by decide +kernel
set_option maxRecDepth 20000 in
theorem kX6_becomes_0 : Cond.fieldLink RX6 49 "StemspanModel" "length" "I" ∈ wsX6_becomes := by decide +kernel
set_option maxRecDepth 20000 in
theorem kX6_becomes_inX6 : ∀ w ∈ wsX60, w ∈ wsX6_becomes := by decide +kernel
set_option maxRecDepth 20000 in
theorem kX6_becomes_2 : Cond.fieldLink RX6 13 "StemspanModel" "text" "[C" ∈ wsX6_becomes := by decide +kernel
set_option maxRecDepth 20000 in
theorem kX6_becomes_3 : Cond.fieldLink RX6 17 "StemspanModel" "word" "[C" ∈ wsX6_becomes := by decide +kernel
set_option maxRecDepth 20000 in
theorem kX6_becomes_4 : Cond.fieldLink RX6 26 "StemspanModel" "wordLength" "[I" ∈ wsX6_becomes := by decide +kernel
abbrev rmX6_goes : Room := { frames := 0, cells := 0, slots := 0, locals := 0 }
theorem ddX6_goes : yX6_goes.cls = RX6 ∧ yX6_goes.cls ≠ "java/lang/invoke/MethodHandle" ∧ yX6_goes.cls ≠ "java/lang/invoke/VarHandle" ∧ (parseMethodDescriptor yX6_goes.desc).map (fun d => d.parameters.length) = some 1 := by decide +kernel
set_option maxRecDepth 20000 in
theorem kX6_goes_0 : Cond.fieldLink RX6 17 "StemspanModel" "word" "[C" ∈ wsX6_goes := by decide +kernel
set_option maxRecDepth 20000 in
theorem kX6_goes_inX6 : ∀ w ∈ wsX60, w ∈ wsX6_goes := by decide +kernel
set_option maxRecDepth 20000 in
theorem kX6_goes_2 : Cond.fieldLink RX6 59 "StemspanModel" "many" "I" ∈ wsX6_goes := by decide +kernel
set_option maxRecDepth 20000 in
theorem kX6_goes_3 : Cond.fieldLink RX6 26 "StemspanModel" "wordLength" "[I" ∈ wsX6_goes := by decide +kernel
set_option maxRecDepth 20000 in
theorem kX6_goes_4 : Cond.fieldLink RX6 30 "StemspanModel" "number" "[I" ∈ wsX6_goes := by decide +kernel
abbrev rmX6_type : Room := { frames := 1, cells := 0, slots := 0, locals := 21 }
theorem ddX6_type : yX6_type.cls = RX6 ∧ yX6_type.cls ≠ "java/lang/invoke/MethodHandle" ∧ yX6_type.cls ≠ "java/lang/invoke/VarHandle" ∧ (parseMethodDescriptor yX6_type.desc).map (fun d => d.parameters.length) = some 1 := by decide +kernel
set_option maxRecDepth 20000 in
theorem kX6_type_0 : Cond.fieldLink RX6 13 "StemspanModel" "text" "[C" ∈ wsX6_type := by decide +kernel
set_option maxRecDepth 20000 in
theorem kX6_type_inX6 : ∀ w ∈ wsX60, w ∈ wsX6_type := by decide +kernel
set_option maxRecDepth 20000 in
theorem kX6_type_2 : Cond.fieldLink RX6 49 "StemspanModel" "length" "I" ∈ wsX6_type := by decide +kernel
abbrev rmX6_typeMore : Room := { frames := 1, cells := 0, slots := 0, locals := 22 }
theorem ddX6_typeMore : yX6_typeMore.cls = RX6 ∧ yX6_typeMore.cls ≠ "java/lang/invoke/MethodHandle" ∧ yX6_typeMore.cls ≠ "java/lang/invoke/VarHandle" ∧ (parseMethodDescriptor yX6_typeMore.desc).map (fun d => d.parameters.length) = some 2 := by decide +kernel
set_option maxRecDepth 20000 in
theorem kX6_typeMore_0 : Cond.fieldLink RX6 49 "StemspanModel" "length" "I" ∈ wsX6_typeMore := by decide +kernel
set_option maxRecDepth 20000 in
theorem kX6_typeMore_inX6 : ∀ w ∈ wsX60, w ∈ wsX6_typeMore := by decide +kernel
set_option maxRecDepth 20000 in
theorem kX6_typeMore_2 : Cond.fieldLink RX6 13 "StemspanModel" "text" "[C" ∈ wsX6_typeMore := by decide +kernel
set_option maxRecDepth 20000 in
theorem kX6_typeMore_3 : Cond.constant RX6 85 (1679615) ∈ wsX6_typeMore := by decide +kernel
abbrev rmX6_typeAt : Room := { frames := 1, cells := 0, slots := 0, locals := 22 }
theorem ddX6_typeAt : yX6_typeAt.cls = RX6 ∧ yX6_typeAt.cls ≠ "java/lang/invoke/MethodHandle" ∧ yX6_typeAt.cls ≠ "java/lang/invoke/VarHandle" ∧ (parseMethodDescriptor yX6_typeAt.desc).map (fun d => d.parameters.length) = some 2 := by decide +kernel
set_option maxRecDepth 20000 in
theorem kX6_typeAt_0 : Cond.fieldLink RX6 13 "StemspanModel" "text" "[C" ∈ wsX6_typeAt := by decide +kernel
set_option maxRecDepth 20000 in
theorem kX6_typeAt_inX6 : ∀ w ∈ wsX60, w ∈ wsX6_typeAt := by decide +kernel
set_option maxRecDepth 20000 in
theorem kX6_typeAt_2 : Cond.fieldLink RX6 49 "StemspanModel" "length" "I" ∈ wsX6_typeAt := by decide +kernel
abbrev rmX6_drop : Room := { frames := 1, cells := 0, slots := 0, locals := 21 }
theorem ddX6_drop : yX6_drop.cls = RX6 ∧ yX6_drop.cls ≠ "java/lang/invoke/MethodHandle" ∧ yX6_drop.cls ≠ "java/lang/invoke/VarHandle" ∧ (parseMethodDescriptor yX6_drop.desc).map (fun d => d.parameters.length) = some 0 := by decide +kernel
set_option maxRecDepth 20000 in
theorem kX6_drop_0 : Cond.fieldLink RX6 49 "StemspanModel" "length" "I" ∈ wsX6_drop := by decide +kernel
set_option maxRecDepth 20000 in
theorem kX6_drop_inX6 : ∀ w ∈ wsX60, w ∈ wsX6_drop := by decide +kernel
abbrev rmX6_clip : Room := { frames := 1, cells := 0, slots := 0, locals := 21 }
theorem ddX6_clip : yX6_clip.cls = RX6 ∧ yX6_clip.cls ≠ "java/lang/invoke/MethodHandle" ∧ yX6_clip.cls ≠ "java/lang/invoke/VarHandle" ∧ (parseMethodDescriptor yX6_clip.desc).map (fun d => d.parameters.length) = some 2 := by decide +kernel
set_option maxRecDepth 20000 in
theorem kX6_clip_0 : Cond.fieldLink RX6 49 "StemspanModel" "length" "I" ∈ wsX6_clip := by decide +kernel
set_option maxRecDepth 20000 in
theorem kX6_clip_inX6 : ∀ w ∈ wsX60, w ∈ wsX6_clip := by decide +kernel
set_option maxRecDepth 20000 in
theorem kX6_clip_2 : Cond.fieldLink RX6 13 "StemspanModel" "text" "[C" ∈ wsX6_clip := by decide +kernel
abbrev rmX6_wipe : Room := { frames := 0, cells := 0, slots := 0, locals := 0 }
theorem ddX6_wipe : yX6_wipe.cls = RX6 ∧ yX6_wipe.cls ≠ "java/lang/invoke/MethodHandle" ∧ yX6_wipe.cls ≠ "java/lang/invoke/VarHandle" ∧ (parseMethodDescriptor yX6_wipe.desc).map (fun d => d.parameters.length) = some 0 := by decide +kernel
set_option maxRecDepth 20000 in
theorem kX6_wipe_0 : Cond.fieldLink RX6 1 "StemspanModel" "code" "I" ∈ wsX6_wipe := by decide +kernel
set_option maxRecDepth 20000 in
theorem kX6_wipe_inX6 : ∀ w ∈ wsX60, w ∈ wsX6_wipe := by decide +kernel
set_option maxRecDepth 20000 in
theorem kX6_wipe_2 : Cond.fieldLink RX6 49 "StemspanModel" "length" "I" ∈ wsX6_wipe := by decide +kernel
abbrev rmX6_turn : Room := { frames := 0, cells := 0, slots := 0, locals := 0 }
theorem ddX6_turn : yX6_turn.cls = RX6 ∧ yX6_turn.cls ≠ "java/lang/invoke/MethodHandle" ∧ yX6_turn.cls ≠ "java/lang/invoke/VarHandle" ∧ (parseMethodDescriptor yX6_turn.desc).map (fun d => d.parameters.length) = some 0 := by decide +kernel
set_option maxRecDepth 20000 in
theorem kX6_turn_0 : Cond.fieldLink RX6 13 "StemspanModel" "text" "[C" ∈ wsX6_turn := by decide +kernel
set_option maxRecDepth 20000 in
theorem kX6_turn_inX6 : ∀ w ∈ wsX60, w ∈ wsX6_turn := by decide +kernel
set_option maxRecDepth 20000 in
theorem kX6_turn_2 : Cond.fieldLink RX6 23 "StemspanModel" "made" "[C" ∈ wsX6_turn := by decide +kernel
set_option maxRecDepth 20000 in
theorem kX6_turn_3 : Cond.fieldLink RX6 49 "StemspanModel" "length" "I" ∈ wsX6_turn := by decide +kernel
set_option maxRecDepth 20000 in
theorem kX6_turn_4 : Cond.fieldLink RX6 1 "StemspanModel" "code" "I" ∈ wsX6_turn := by decide +kernel
abbrev rmX6_signAt : Room := { frames := 1, cells := 0, slots := 0, locals := 22 }
theorem ddX6_signAt : yX6_signAt.cls = RX6 ∧ yX6_signAt.cls ≠ "java/lang/invoke/MethodHandle" ∧ yX6_signAt.cls ≠ "java/lang/invoke/VarHandle" ∧ (parseMethodDescriptor yX6_signAt.desc).map (fun d => d.parameters.length) = some 1 := by decide +kernel
set_option maxRecDepth 20000 in
theorem kX6_signAt_0 : Cond.fieldLink RX6 13 "StemspanModel" "text" "[C" ∈ wsX6_signAt := by decide +kernel
set_option maxRecDepth 20000 in
theorem kX6_signAt_inX6 : ∀ w ∈ wsX60, w ∈ wsX6_signAt := by decide +kernel
set_option maxRecDepth 20000 in
theorem kX6_signAt_2 : Cond.fieldLink RX6 49 "StemspanModel" "length" "I" ∈ wsX6_signAt := by decide +kernel
abbrev rmX6_put : Room := { frames := 3, cells := 0, slots := 0, locals := 66 }
theorem ddX6_put : yX6_put.cls = RX6 ∧ yX6_put.cls ≠ "java/lang/invoke/MethodHandle" ∧ yX6_put.cls ≠ "java/lang/invoke/VarHandle" ∧ (parseMethodDescriptor yX6_put.desc).map (fun d => d.parameters.length) = some 1 := by decide +kernel
set_option maxRecDepth 20000 in
theorem kX6_put_0 : Cond.fieldLink RX6 30 "StemspanModel" "number" "[I" ∈ wsX6_put := by decide +kernel
set_option maxRecDepth 20000 in
theorem kX6_put_inX6 : ∀ w ∈ wsX60, w ∈ wsX6_put := by decide +kernel
set_option maxRecDepth 20000 in
theorem kX6_put_2 : Cond.fieldLink RX6 49 "StemspanModel" "length" "I" ∈ wsX6_put := by decide +kernel
set_option maxRecDepth 20000 in
theorem kX6_put_3 : Cond.fieldLink RX6 17 "StemspanModel" "word" "[C" ∈ wsX6_put := by decide +kernel
set_option maxRecDepth 20000 in
theorem kX6_put_4 : Cond.fieldLink RX6 13 "StemspanModel" "text" "[C" ∈ wsX6_put := by decide +kernel
set_option maxRecDepth 20000 in
theorem kX6_put_5 : Cond.fieldLink RX6 59 "StemspanModel" "many" "I" ∈ wsX6_put := by decide +kernel
set_option maxRecDepth 20000 in
theorem kX6_put_6 : Cond.fieldLink RX6 26 "StemspanModel" "wordLength" "[I" ∈ wsX6_put := by decide +kernel
abbrev rmX6_take : Room := { frames := 3, cells := 0, slots := 0, locals := 66 }
theorem ddX6_take : yX6_take.cls = RX6 ∧ yX6_take.cls ≠ "java/lang/invoke/MethodHandle" ∧ yX6_take.cls ≠ "java/lang/invoke/VarHandle" ∧ (parseMethodDescriptor yX6_take.desc).map (fun d => d.parameters.length) = some 0 := by decide +kernel
set_option maxRecDepth 20000 in
theorem kX6_take_0 : Cond.fieldLink RX6 30 "StemspanModel" "number" "[I" ∈ wsX6_take := by decide +kernel
set_option maxRecDepth 20000 in
theorem kX6_take_inX6 : ∀ w ∈ wsX60, w ∈ wsX6_take := by decide +kernel
abbrev rmX6_number : Room := { frames := 3, cells := 0, slots := 0, locals := 66 }
theorem ddX6_number : yX6_number.cls = RX6 ∧ yX6_number.cls ≠ "java/lang/invoke/MethodHandle" ∧ yX6_number.cls ≠ "java/lang/invoke/VarHandle" ∧ (parseMethodDescriptor yX6_number.desc).map (fun d => d.parameters.length) = some 0 := by decide +kernel
set_option maxRecDepth 20000 in
theorem kX6_number_0 : Cond.fieldLink RX6 30 "StemspanModel" "number" "[I" ∈ wsX6_number := by decide +kernel
set_option maxRecDepth 20000 in
theorem kX6_number_inX6 : ∀ w ∈ wsX60, w ∈ wsX6_number := by decide +kernel
abbrev rmX6_words : Room := { frames := 0, cells := 0, slots := 0, locals := 0 }
theorem ddX6_words : yX6_words.cls = RX6 ∧ yX6_words.cls ≠ "java/lang/invoke/MethodHandle" ∧ yX6_words.cls ≠ "java/lang/invoke/VarHandle" ∧ (parseMethodDescriptor yX6_words.desc).map (fun d => d.parameters.length) = some 0 := by decide +kernel
set_option maxRecDepth 20000 in
theorem kX6_words_0 : Cond.fieldLink RX6 1 "StemspanModel" "code" "I" ∈ wsX6_words := by decide +kernel
set_option maxRecDepth 20000 in
theorem kX6_words_inX6 : ∀ w ∈ wsX60, w ∈ wsX6_words := by decide +kernel
set_option maxRecDepth 20000 in
theorem kX6_words_2 : Cond.fieldLink RX6 59 "StemspanModel" "many" "I" ∈ wsX6_words := by decide +kernel
abbrev rmX6_rank : Room := { frames := 2, cells := 0, slots := 0, locals := 45 }
theorem ddX6_rank : yX6_rank.cls = RX6 ∧ yX6_rank.cls ≠ "java/lang/invoke/MethodHandle" ∧ yX6_rank.cls ≠ "java/lang/invoke/VarHandle" ∧ (parseMethodDescriptor yX6_rank.desc).map (fun d => d.parameters.length) = some 0 := by decide +kernel
set_option maxRecDepth 20000 in
theorem kX6_rank_0 : Cond.fieldLink RX6 59 "StemspanModel" "many" "I" ∈ wsX6_rank := by decide +kernel
set_option maxRecDepth 20000 in
theorem kX6_rank_inX6 : ∀ w ∈ wsX60, w ∈ wsX6_rank := by decide +kernel
set_option maxRecDepth 20000 in
theorem kX6_rank_2 : Cond.fieldLink RX6 1 "StemspanModel" "code" "I" ∈ wsX6_rank := by decide +kernel
abbrev rmX6_word : Room := { frames := 4, cells := 0, slots := 0, locals := 90 }
theorem ddX6_word : yX6_word.cls = RX6 ∧ yX6_word.cls ≠ "java/lang/invoke/MethodHandle" ∧ yX6_word.cls ≠ "java/lang/invoke/VarHandle" ∧ (parseMethodDescriptor yX6_word.desc).map (fun d => d.parameters.length) = some 1 := by decide +kernel
set_option maxRecDepth 20000 in
theorem kX6_word_0 : Cond.fieldLink RX6 36 "StemspanModel" "order" "[I" ∈ wsX6_word := by decide +kernel
set_option maxRecDepth 20000 in
theorem kX6_word_inX6 : ∀ w ∈ wsX60, w ∈ wsX6_word := by decide +kernel
set_option maxRecDepth 20000 in
theorem kX6_word_2 : Cond.fieldLink RX6 49 "StemspanModel" "length" "I" ∈ wsX6_word := by decide +kernel
set_option maxRecDepth 20000 in
theorem kX6_word_3 : Cond.fieldLink RX6 59 "StemspanModel" "many" "I" ∈ wsX6_word := by decide +kernel
abbrev rmX6_near : Room := { frames := 2, cells := 0, slots := 0, locals := 46 }
theorem ddX6_near : yX6_near.cls = RX6 ∧ yX6_near.cls ≠ "java/lang/invoke/MethodHandle" ∧ yX6_near.cls ≠ "java/lang/invoke/VarHandle" ∧ (parseMethodDescriptor yX6_near.desc).map (fun d => d.parameters.length) = some 1 := by decide +kernel
set_option maxRecDepth 20000 in
theorem kX6_near_0 : Cond.fieldLink RX6 30 "StemspanModel" "number" "[I" ∈ wsX6_near := by decide +kernel
set_option maxRecDepth 20000 in
theorem kX6_near_inX6 : ∀ w ∈ wsX60, w ∈ wsX6_near := by decide +kernel
set_option maxRecDepth 20000 in
theorem kX6_near_2 : Cond.fieldLink RX6 59 "StemspanModel" "many" "I" ∈ wsX6_near := by decide +kernel
abbrev rmX6_begun : Room := { frames := 2, cells := 0, slots := 0, locals := 44 }
theorem ddX6_begun : yX6_begun.cls = RX6 ∧ yX6_begun.cls ≠ "java/lang/invoke/MethodHandle" ∧ yX6_begun.cls ≠ "java/lang/invoke/VarHandle" ∧ (parseMethodDescriptor yX6_begun.desc).map (fun d => d.parameters.length) = some 0 := by decide +kernel
set_option maxRecDepth 20000 in
theorem kX6_begun_0 : Cond.fieldLink RX6 59 "StemspanModel" "many" "I" ∈ wsX6_begun := by decide +kernel
set_option maxRecDepth 20000 in
theorem kX6_begun_inX6 : ∀ w ∈ wsX60, w ∈ wsX6_begun := by decide +kernel
set_option maxRecDepth 20000 in
theorem kX6_begun_2 : Cond.fieldLink RX6 1 "StemspanModel" "code" "I" ∈ wsX6_begun := by decide +kernel
abbrev rmX6_begunAt : Room := { frames := 2, cells := 0, slots := 0, locals := 46 }
theorem ddX6_begunAt : yX6_begunAt.cls = RX6 ∧ yX6_begunAt.cls ≠ "java/lang/invoke/MethodHandle" ∧ yX6_begunAt.cls ≠ "java/lang/invoke/VarHandle" ∧ (parseMethodDescriptor yX6_begunAt.desc).map (fun d => d.parameters.length) = some 1 := by decide +kernel
set_option maxRecDepth 20000 in
theorem kX6_begunAt_0 : Cond.fieldLink RX6 30 "StemspanModel" "number" "[I" ∈ wsX6_begunAt := by decide +kernel
set_option maxRecDepth 20000 in
theorem kX6_begunAt_inX6 : ∀ w ∈ wsX60, w ∈ wsX6_begunAt := by decide +kernel
set_option maxRecDepth 20000 in
theorem kX6_begunAt_2 : Cond.fieldLink RX6 59 "StemspanModel" "many" "I" ∈ wsX6_begunAt := by decide +kernel
abbrev rmX6_sum : Room := { frames := 2, cells := 0, slots := 0, locals := 44 }
theorem ddX6_sum : yX6_sum.cls = RX6 ∧ yX6_sum.cls ≠ "java/lang/invoke/MethodHandle" ∧ yX6_sum.cls ≠ "java/lang/invoke/VarHandle" ∧ (parseMethodDescriptor yX6_sum.desc).map (fun d => d.parameters.length) = some 0 := by decide +kernel
set_option maxRecDepth 20000 in
theorem kX6_sum_0 : Cond.fieldLink RX6 59 "StemspanModel" "many" "I" ∈ wsX6_sum := by decide +kernel
set_option maxRecDepth 20000 in
theorem kX6_sum_inX6 : ∀ w ∈ wsX60, w ∈ wsX6_sum := by decide +kernel
set_option maxRecDepth 20000 in
theorem kX6_sum_2 : Cond.fieldLink RX6 30 "StemspanModel" "number" "[I" ∈ wsX6_sum := by decide +kernel
set_option maxRecDepth 20000 in
theorem kX6_sum_3 : Cond.fieldLink RX6 1 "StemspanModel" "code" "I" ∈ wsX6_sum := by decide +kernel
abbrev rmX6_gone : Room := { frames := 2, cells := 0, slots := 0, locals := 44 }
theorem ddX6_gone : yX6_gone.cls = RX6 ∧ yX6_gone.cls ≠ "java/lang/invoke/MethodHandle" ∧ yX6_gone.cls ≠ "java/lang/invoke/VarHandle" ∧ (parseMethodDescriptor yX6_gone.desc).map (fun d => d.parameters.length) = some 0 := by decide +kernel
set_option maxRecDepth 20000 in
theorem kX6_gone_0 : Cond.fieldLink RX6 1 "StemspanModel" "code" "I" ∈ wsX6_gone := by decide +kernel
set_option maxRecDepth 20000 in
theorem kX6_gone_inX6 : ∀ w ∈ wsX60, w ∈ wsX6_gone := by decide +kernel
set_option maxRecDepth 20000 in
theorem kX6_gone_2 : Cond.fieldLink RX6 59 "StemspanModel" "many" "I" ∈ wsX6_gone := by decide +kernel
abbrev rmX6_longestAt : Room := { frames := 1, cells := 0, slots := 0, locals := 23 }
theorem ddX6_longestAt : yX6_longestAt.cls = RX6 ∧ yX6_longestAt.cls ≠ "java/lang/invoke/MethodHandle" ∧ yX6_longestAt.cls ≠ "java/lang/invoke/VarHandle" ∧ (parseMethodDescriptor yX6_longestAt.desc).map (fun d => d.parameters.length) = some 1 := by decide +kernel
set_option maxRecDepth 20000 in
theorem kX6_longestAt_0 : Cond.fieldLink RX6 59 "StemspanModel" "many" "I" ∈ wsX6_longestAt := by decide +kernel
set_option maxRecDepth 20000 in
theorem kX6_longestAt_inX6 : ∀ w ∈ wsX60, w ∈ wsX6_longestAt := by decide +kernel
set_option maxRecDepth 20000 in
theorem kX6_longestAt_2 : Cond.fieldLink RX6 26 "StemspanModel" "wordLength" "[I" ∈ wsX6_longestAt := by decide +kernel
abbrev rmX6_longest : Room := { frames := 2, cells := 0, slots := 0, locals := 46 }
theorem ddX6_longest : yX6_longest.cls = RX6 ∧ yX6_longest.cls ≠ "java/lang/invoke/MethodHandle" ∧ yX6_longest.cls ≠ "java/lang/invoke/VarHandle" ∧ (parseMethodDescriptor yX6_longest.desc).map (fun d => d.parameters.length) = some 1 := by decide +kernel
set_option maxRecDepth 20000 in
theorem kX6_longest_0 : Cond.fieldLink RX6 49 "StemspanModel" "length" "I" ∈ wsX6_longest := by decide +kernel
set_option maxRecDepth 20000 in
theorem kX6_longest_inX6 : ∀ w ∈ wsX60, w ∈ wsX6_longest := by decide +kernel
abbrev rmX6_shared : Room := { frames := 1, cells := 0, slots := 0, locals := 23 }
theorem ddX6_shared : yX6_shared.cls = RX6 ∧ yX6_shared.cls ≠ "java/lang/invoke/MethodHandle" ∧ yX6_shared.cls ≠ "java/lang/invoke/VarHandle" ∧ (parseMethodDescriptor yX6_shared.desc).map (fun d => d.parameters.length) = some 0 := by decide +kernel
set_option maxRecDepth 20000 in
theorem kX6_shared_0 : Cond.fieldLink RX6 59 "StemspanModel" "many" "I" ∈ wsX6_shared := by decide +kernel
set_option maxRecDepth 20000 in
theorem kX6_shared_inX6 : ∀ w ∈ wsX60, w ∈ wsX6_shared := by decide +kernel
set_option maxRecDepth 20000 in
theorem kX6_shared_2 : Cond.fieldLink RX6 1 "StemspanModel" "code" "I" ∈ wsX6_shared := by decide +kernel
abbrev rmX6_twin : Room := { frames := 1, cells := 0, slots := 0, locals := 23 }
theorem ddX6_twin : yX6_twin.cls = RX6 ∧ yX6_twin.cls ≠ "java/lang/invoke/MethodHandle" ∧ yX6_twin.cls ≠ "java/lang/invoke/VarHandle" ∧ (parseMethodDescriptor yX6_twin.desc).map (fun d => d.parameters.length) = some 0 := by decide +kernel
set_option maxRecDepth 20000 in
theorem kX6_twin_0 : Cond.fieldLink RX6 59 "StemspanModel" "many" "I" ∈ wsX6_twin := by decide +kernel
set_option maxRecDepth 20000 in
theorem kX6_twin_inX6 : ∀ w ∈ wsX60, w ∈ wsX6_twin := by decide +kernel
abbrev rmX6_pieces : Room := { frames := 2, cells := 0, slots := 0, locals := 46 }
theorem ddX6_pieces : yX6_pieces.cls = RX6 ∧ yX6_pieces.cls ≠ "java/lang/invoke/MethodHandle" ∧ yX6_pieces.cls ≠ "java/lang/invoke/VarHandle" ∧ (parseMethodDescriptor yX6_pieces.desc).map (fun d => d.parameters.length) = some 0 := by decide +kernel
set_option maxRecDepth 20000 in
theorem kX6_pieces_0 : Cond.fieldLink RX6 49 "StemspanModel" "length" "I" ∈ wsX6_pieces := by decide +kernel
set_option maxRecDepth 20000 in
theorem kX6_pieces_inX6 : ∀ w ∈ wsX60, w ∈ wsX6_pieces := by decide +kernel
set_option maxRecDepth 20000 in
theorem kX6_pieces_2 : Cond.fieldLink RX6 1 "StemspanModel" "code" "I" ∈ wsX6_pieces := by decide +kernel
abbrev rmX6_piece : Room := { frames := 2, cells := 0, slots := 0, locals := 46 }
theorem ddX6_piece : yX6_piece.cls = RX6 ∧ yX6_piece.cls ≠ "java/lang/invoke/MethodHandle" ∧ yX6_piece.cls ≠ "java/lang/invoke/VarHandle" ∧ (parseMethodDescriptor yX6_piece.desc).map (fun d => d.parameters.length) = some 1 := by decide +kernel
abbrev rmX6_cutsAll : Room := { frames := 1, cells := 0, slots := 0, locals := 23 }
theorem ddX6_cutsAll : yX6_cutsAll.cls = RX6 ∧ yX6_cutsAll.cls ≠ "java/lang/invoke/MethodHandle" ∧ yX6_cutsAll.cls ≠ "java/lang/invoke/VarHandle" ∧ (parseMethodDescriptor yX6_cutsAll.desc).map (fun d => d.parameters.length) = some 0 := by decide +kernel
set_option maxRecDepth 20000 in
theorem kX6_cutsAll_0 : Cond.fieldLink RX6 46 "StemspanModel" "fewestFrom" "[I" ∈ wsX6_cutsAll := by decide +kernel
set_option maxRecDepth 20000 in
theorem kX6_cutsAll_inX6 : ∀ w ∈ wsX60, w ∈ wsX6_cutsAll := by decide +kernel
set_option maxRecDepth 20000 in
theorem kX6_cutsAll_2 : Cond.fieldLink RX6 59 "StemspanModel" "many" "I" ∈ wsX6_cutsAll := by decide +kernel
set_option maxRecDepth 20000 in
theorem kX6_cutsAll_3 : Cond.fieldLink RX6 26 "StemspanModel" "wordLength" "[I" ∈ wsX6_cutsAll := by decide +kernel
set_option maxRecDepth 20000 in
theorem kX6_cutsAll_4 : Cond.fieldLink RX6 42 "StemspanModel" "waysFrom" "[J" ∈ wsX6_cutsAll := by decide +kernel
set_option maxRecDepth 20000 in
theorem kX6_cutsAll_5 : Cond.fieldLink RX6 49 "StemspanModel" "length" "I" ∈ wsX6_cutsAll := by decide +kernel
abbrev rmX6_cuts : Room := { frames := 2, cells := 0, slots := 0, locals := 47 }
theorem ddX6_cuts : yX6_cuts.cls = RX6 ∧ yX6_cuts.cls ≠ "java/lang/invoke/MethodHandle" ∧ yX6_cuts.cls ≠ "java/lang/invoke/VarHandle" ∧ (parseMethodDescriptor yX6_cuts.desc).map (fun d => d.parameters.length) = some 0 := by decide +kernel
set_option maxRecDepth 20000 in
theorem kX6_cuts_0 : Cond.fieldLink RX6 1 "StemspanModel" "code" "I" ∈ wsX6_cuts := by decide +kernel
set_option maxRecDepth 20000 in
theorem kX6_cuts_inX6 : ∀ w ∈ wsX60, w ∈ wsX6_cuts := by decide +kernel
set_option maxRecDepth 20000 in
theorem kX6_cuts_2 : Cond.fieldLink RX6 42 "StemspanModel" "waysFrom" "[J" ∈ wsX6_cuts := by decide +kernel
abbrev rmX6_fewest : Room := { frames := 2, cells := 0, slots := 0, locals := 47 }
theorem ddX6_fewest : yX6_fewest.cls = RX6 ∧ yX6_fewest.cls ≠ "java/lang/invoke/MethodHandle" ∧ yX6_fewest.cls ≠ "java/lang/invoke/VarHandle" ∧ (parseMethodDescriptor yX6_fewest.desc).map (fun d => d.parameters.length) = some 0 := by decide +kernel
set_option maxRecDepth 20000 in
theorem kX6_fewest_0 : Cond.fieldLink RX6 1 "StemspanModel" "code" "I" ∈ wsX6_fewest := by decide +kernel
set_option maxRecDepth 20000 in
theorem kX6_fewest_inX6 : ∀ w ∈ wsX60, w ∈ wsX6_fewest := by decide +kernel
set_option maxRecDepth 20000 in
theorem kX6_fewest_2 : Cond.fieldLink RX6 46 "StemspanModel" "fewestFrom" "[I" ∈ wsX6_fewest := by decide +kernel
abbrev rmX6_code : Room := { frames := 1, cells := 0, slots := 0, locals := 22 }
theorem ddX6_code : yX6_code.cls = RX6 ∧ yX6_code.cls ≠ "java/lang/invoke/MethodHandle" ∧ yX6_code.cls ≠ "java/lang/invoke/VarHandle" ∧ (parseMethodDescriptor yX6_code.desc).map (fun d => d.parameters.length) = some 1 := by decide +kernel
set_option maxRecDepth 20000 in
theorem kX6_code_0 : Cond.fieldLink RX6 49 "StemspanModel" "length" "I" ∈ wsX6_code := by decide +kernel
set_option maxRecDepth 20000 in
theorem kX6_code_inX6 : ∀ w ∈ wsX60, w ∈ wsX6_code := by decide +kernel
set_option maxRecDepth 20000 in
theorem kX6_code_2 : Cond.fieldLink RX6 20 "StemspanModel" "codes" "[C" ∈ wsX6_code := by decide +kernel
set_option maxRecDepth 20000 in
theorem kX6_code_3 : Cond.fieldLink RX6 13 "StemspanModel" "text" "[C" ∈ wsX6_code := by decide +kernel
set_option maxRecDepth 20000 in
theorem kX6_code_4 : Cond.fieldLink RX6 33 "StemspanModel" "codeLength" "[I" ∈ wsX6_code := by decide +kernel
abbrev rmX6_isAhead : Room := { frames := 0, cells := 0, slots := 0, locals := 0 }
theorem ddX6_isAhead : yX6_isAhead.cls = RX6 ∧ yX6_isAhead.cls ≠ "java/lang/invoke/MethodHandle" ∧ yX6_isAhead.cls ≠ "java/lang/invoke/VarHandle" ∧ (parseMethodDescriptor yX6_isAhead.desc).map (fun d => d.parameters.length) = some 2 := by decide +kernel
set_option maxRecDepth 20000 in
theorem kX6_isAhead_0 : Cond.fieldLink RX6 33 "StemspanModel" "codeLength" "[I" ∈ wsX6_isAhead := by decide +kernel
set_option maxRecDepth 20000 in
theorem kX6_isAhead_inX6 : ∀ w ∈ wsX60, w ∈ wsX6_isAhead := by decide +kernel
set_option maxRecDepth 20000 in
theorem kX6_isAhead_2 : Cond.fieldLink RX6 20 "StemspanModel" "codes" "[C" ∈ wsX6_isAhead := by decide +kernel
abbrev rmX6_areOrderly : Room := { frames := 1, cells := 0, slots := 0, locals := 23 }
theorem ddX6_areOrderly : yX6_areOrderly.cls = RX6 ∧ yX6_areOrderly.cls ≠ "java/lang/invoke/MethodHandle" ∧ yX6_areOrderly.cls ≠ "java/lang/invoke/VarHandle" ∧ (parseMethodDescriptor yX6_areOrderly.desc).map (fun d => d.parameters.length) = some 0 := by decide +kernel
abbrev rmX6_puts : Room := { frames := 0, cells := 0, slots := 0, locals := 0 }
theorem ddX6_puts : yX6_puts.cls = RX6 ∧ yX6_puts.cls ≠ "java/lang/invoke/MethodHandle" ∧ yX6_puts.cls ≠ "java/lang/invoke/VarHandle" ∧ (parseMethodDescriptor yX6_puts.desc).map (fun d => d.parameters.length) = some 2 := by decide +kernel
set_option maxRecDepth 20000 in
theorem kX6_puts_0 : Cond.fieldLink RX6 33 "StemspanModel" "codeLength" "[I" ∈ wsX6_puts := by decide +kernel
set_option maxRecDepth 20000 in
theorem kX6_puts_inX6 : ∀ w ∈ wsX60, w ∈ wsX6_puts := by decide +kernel
set_option maxRecDepth 20000 in
theorem kX6_puts_2 : Cond.fieldLink RX6 23 "StemspanModel" "made" "[C" ∈ wsX6_puts := by decide +kernel
set_option maxRecDepth 20000 in
theorem kX6_puts_3 : Cond.fieldLink RX6 20 "StemspanModel" "codes" "[C" ∈ wsX6_puts := by decide +kernel
abbrev rmX6_write : Room := { frames := 1, cells := 0, slots := 0, locals := 24 }
theorem ddX6_write : yX6_write.cls = RX6 ∧ yX6_write.cls ≠ "java/lang/invoke/MethodHandle" ∧ yX6_write.cls ≠ "java/lang/invoke/VarHandle" ∧ (parseMethodDescriptor yX6_write.desc).map (fun d => d.parameters.length) = some 0 := by decide +kernel
set_option maxRecDepth 20000 in
theorem kX6_write_0 : Cond.fieldLink RX6 49 "StemspanModel" "length" "I" ∈ wsX6_write := by decide +kernel
set_option maxRecDepth 20000 in
theorem kX6_write_inX6 : ∀ w ∈ wsX60, w ∈ wsX6_write := by decide +kernel
set_option maxRecDepth 20000 in
theorem kX6_write_2 : Cond.fieldLink RX6 13 "StemspanModel" "text" "[C" ∈ wsX6_write := by decide +kernel
set_option maxRecDepth 20000 in
theorem kX6_write_3 : Cond.fieldLink RX6 23 "StemspanModel" "made" "[C" ∈ wsX6_write := by decide +kernel
abbrev rmX6_codeAt : Room := { frames := 0, cells := 0, slots := 0, locals := 0 }
theorem ddX6_codeAt : yX6_codeAt.cls = RX6 ∧ yX6_codeAt.cls ≠ "java/lang/invoke/MethodHandle" ∧ yX6_codeAt.cls ≠ "java/lang/invoke/VarHandle" ∧ (parseMethodDescriptor yX6_codeAt.desc).map (fun d => d.parameters.length) = some 1 := by decide +kernel
set_option maxRecDepth 20000 in
theorem kX6_codeAt_0 : Cond.fieldLink RX6 33 "StemspanModel" "codeLength" "[I" ∈ wsX6_codeAt := by decide +kernel
set_option maxRecDepth 20000 in
theorem kX6_codeAt_inX6 : ∀ w ∈ wsX60, w ∈ wsX6_codeAt := by decide +kernel
set_option maxRecDepth 20000 in
theorem kX6_codeAt_2 : Cond.fieldLink RX6 49 "StemspanModel" "length" "I" ∈ wsX6_codeAt := by decide +kernel
set_option maxRecDepth 20000 in
theorem kX6_codeAt_3 : Cond.fieldLink RX6 20 "StemspanModel" "codes" "[C" ∈ wsX6_codeAt := by decide +kernel
set_option maxRecDepth 20000 in
theorem kX6_codeAt_4 : Cond.fieldLink RX6 13 "StemspanModel" "text" "[C" ∈ wsX6_codeAt := by decide +kernel
abbrev rmX6_read : Room := { frames := 2, cells := 0, slots := 0, locals := 45 }
theorem ddX6_read : yX6_read.cls = RX6 ∧ yX6_read.cls ≠ "java/lang/invoke/MethodHandle" ∧ yX6_read.cls ≠ "java/lang/invoke/VarHandle" ∧ (parseMethodDescriptor yX6_read.desc).map (fun d => d.parameters.length) = some 0 := by decide +kernel
set_option maxRecDepth 20000 in
theorem kX6_read_0 : Cond.fieldLink RX6 49 "StemspanModel" "length" "I" ∈ wsX6_read := by decide +kernel
set_option maxRecDepth 20000 in
theorem kX6_read_inX6 : ∀ w ∈ wsX60, w ∈ wsX6_read := by decide +kernel
set_option maxRecDepth 20000 in
theorem kX6_read_2 : Cond.fieldLink RX6 13 "StemspanModel" "text" "[C" ∈ wsX6_read := by decide +kernel
set_option maxRecDepth 20000 in
theorem kX6_read_3 : Cond.fieldLink RX6 23 "StemspanModel" "made" "[C" ∈ wsX6_read := by decide +kernel
set_option maxRecDepth 20000 in
theorem kX6_read_4 : Cond.fieldLink RX6 33 "StemspanModel" "codeLength" "[I" ∈ wsX6_read := by decide +kernel
abbrev rmX6_written : Room := { frames := 1, cells := 0, slots := 0, locals := 24 }
theorem ddX6_written : yX6_written.cls = RX6 ∧ yX6_written.cls ≠ "java/lang/invoke/MethodHandle" ∧ yX6_written.cls ≠ "java/lang/invoke/VarHandle" ∧ (parseMethodDescriptor yX6_written.desc).map (fun d => d.parameters.length) = some 1 := by decide +kernel
set_option maxRecDepth 20000 in
theorem kX6_written_0 : Cond.fieldLink RX6 26 "StemspanModel" "wordLength" "[I" ∈ wsX6_written := by decide +kernel
set_option maxRecDepth 20000 in
theorem kX6_written_inX6 : ∀ w ∈ wsX60, w ∈ wsX6_written := by decide +kernel
set_option maxRecDepth 20000 in
theorem kX6_written_2 : Cond.fieldLink RX6 17 "StemspanModel" "word" "[C" ∈ wsX6_written := by decide +kernel
abbrev rmX6_writeAll : Room := { frames := 2, cells := 0, slots := 0, locals := 47 }
theorem ddX6_writeAll : yX6_writeAll.cls = RX6 ∧ yX6_writeAll.cls ≠ "java/lang/invoke/MethodHandle" ∧ yX6_writeAll.cls ≠ "java/lang/invoke/VarHandle" ∧ (parseMethodDescriptor yX6_writeAll.desc).map (fun d => d.parameters.length) = some 0 := by decide +kernel
set_option maxRecDepth 20000 in
theorem kX6_writeAll_0 : Cond.fieldLink RX6 17 "StemspanModel" "word" "[C" ∈ wsX6_writeAll := by decide +kernel
set_option maxRecDepth 20000 in
theorem kX6_writeAll_inX6 : ∀ w ∈ wsX60, w ∈ wsX6_writeAll := by decide +kernel
set_option maxRecDepth 20000 in
theorem kX6_writeAll_2 : Cond.fieldLink RX6 23 "StemspanModel" "made" "[C" ∈ wsX6_writeAll := by decide +kernel
set_option maxRecDepth 20000 in
theorem kX6_writeAll_3 : Cond.fieldLink RX6 26 "StemspanModel" "wordLength" "[I" ∈ wsX6_writeAll := by decide +kernel
set_option maxRecDepth 20000 in
theorem kX6_writeAll_4 : Cond.fieldLink RX6 59 "StemspanModel" "many" "I" ∈ wsX6_writeAll := by decide +kernel
abbrev rmX6_isSideBySide : Room := { frames := 1, cells := 0, slots := 0, locals := 23 }
theorem ddX6_isSideBySide : yX6_isSideBySide.cls = RX6 ∧ yX6_isSideBySide.cls ≠ "java/lang/invoke/MethodHandle" ∧ yX6_isSideBySide.cls ≠ "java/lang/invoke/VarHandle" ∧ (parseMethodDescriptor yX6_isSideBySide.desc).map (fun d => d.parameters.length) = some 1 := by decide +kernel
set_option maxRecDepth 20000 in
theorem kX6_isSideBySide_0 : Cond.fieldLink RX6 39 "StemspanModel" "ranks" "[I" ∈ wsX6_isSideBySide := by decide +kernel
set_option maxRecDepth 20000 in
theorem kX6_isSideBySide_inX6 : ∀ w ∈ wsX60, w ∈ wsX6_isSideBySide := by decide +kernel
set_option maxRecDepth 20000 in
theorem kX6_isSideBySide_2 : Cond.fieldLink RX6 26 "StemspanModel" "wordLength" "[I" ∈ wsX6_isSideBySide := by decide +kernel
set_option maxRecDepth 20000 in
theorem kX6_isSideBySide_3 : Cond.fieldLink RX6 17 "StemspanModel" "word" "[C" ∈ wsX6_isSideBySide := by decide +kernel
set_option maxRecDepth 20000 in
theorem kX6_isSideBySide_4 : Cond.fieldLink RX6 13 "StemspanModel" "text" "[C" ∈ wsX6_isSideBySide := by decide +kernel
set_option maxRecDepth 20000 in
theorem kX6_isSideBySide_5 : Cond.fieldLink RX6 59 "StemspanModel" "many" "I" ∈ wsX6_isSideBySide := by decide +kernel
abbrev rmX6_areTwins : Room := { frames := 1, cells := 0, slots := 0, locals := 23 }
theorem ddX6_areTwins : yX6_areTwins.cls = RX6 ∧ yX6_areTwins.cls ≠ "java/lang/invoke/MethodHandle" ∧ yX6_areTwins.cls ≠ "java/lang/invoke/VarHandle" ∧ (parseMethodDescriptor yX6_areTwins.desc).map (fun d => d.parameters.length) = some 0 := by decide +kernel
set_option maxRecDepth 20000 in
theorem kX6_areTwins_0 : Cond.fieldLink RX6 59 "StemspanModel" "many" "I" ∈ wsX6_areTwins := by decide +kernel
set_option maxRecDepth 20000 in
theorem kX6_areTwins_inX6 : ∀ w ∈ wsX60, w ∈ wsX6_areTwins := by decide +kernel
set_option maxRecDepth 20000 in
theorem kX6_areTwins_2 : Cond.fieldLink RX6 36 "StemspanModel" "order" "[I" ∈ wsX6_areTwins := by decide +kernel
abbrev rmX6_isTrue : Room := { frames := 4, cells := 0, slots := 0, locals := 90 }
theorem ddX6_isTrue : yX6_isTrue.cls = RX6 ∧ yX6_isTrue.cls ≠ "java/lang/invoke/MethodHandle" ∧ yX6_isTrue.cls ≠ "java/lang/invoke/VarHandle" ∧ (parseMethodDescriptor yX6_isTrue.desc).map (fun d => d.parameters.length) = some 0 := by decide +kernel
set_option maxRecDepth 20000 in
theorem kX6_isTrue_0 : Cond.fieldLink RX6 49 "StemspanModel" "length" "I" ∈ wsX6_isTrue := by decide +kernel
set_option maxRecDepth 20000 in
theorem kX6_isTrue_inX6 : ∀ w ∈ wsX60, w ∈ wsX6_isTrue := by decide +kernel
set_option maxRecDepth 20000 in
theorem kX6_isTrue_2 : Cond.fieldLink RX6 1 "StemspanModel" "code" "I" ∈ wsX6_isTrue := by decide +kernel
abbrev rmX6_checksum : Room := { frames := 4, cells := 0, slots := 0, locals := 90 }
theorem ddX6_checksum : yX6_checksum.cls = RX6 ∧ yX6_checksum.cls ≠ "java/lang/invoke/MethodHandle" ∧ yX6_checksum.cls ≠ "java/lang/invoke/VarHandle" ∧ (parseMethodDescriptor yX6_checksum.desc).map (fun d => d.parameters.length) = some 0 := by decide +kernel
set_option maxRecDepth 20000 in
theorem kX6_checksum_0 : Cond.fieldLink RX6 33 "StemspanModel" "codeLength" "[I" ∈ wsX6_checksum := by decide +kernel
set_option maxRecDepth 20000 in
theorem kX6_checksum_inX6 : ∀ w ∈ wsX60, w ∈ wsX6_checksum := by decide +kernel
set_option maxRecDepth 20000 in
theorem kX6_checksum_2 : Cond.constantLong RX6 134 (31) ∈ wsX6_checksum := by decide +kernel
set_option maxRecDepth 20000 in
theorem kX6_checksum_3 : Cond.fieldLink RX6 20 "StemspanModel" "codes" "[C" ∈ wsX6_checksum := by decide +kernel
set_option maxRecDepth 20000 in
theorem kX6_checksum_4 : Cond.fieldLink RX6 26 "StemspanModel" "wordLength" "[I" ∈ wsX6_checksum := by decide +kernel
set_option maxRecDepth 20000 in
theorem kX6_checksum_5 : Cond.fieldLink RX6 30 "StemspanModel" "number" "[I" ∈ wsX6_checksum := by decide +kernel
set_option maxRecDepth 20000 in
theorem kX6_checksum_6 : Cond.fieldLink RX6 17 "StemspanModel" "word" "[C" ∈ wsX6_checksum := by decide +kernel
set_option maxRecDepth 20000 in
theorem kX6_checksum_7 : Cond.fieldLink RX6 59 "StemspanModel" "many" "I" ∈ wsX6_checksum := by decide +kernel
set_option maxRecDepth 20000 in
theorem kX6_checksum_8 : Cond.fieldLink RX6 36 "StemspanModel" "order" "[I" ∈ wsX6_checksum := by decide +kernel
set_option maxRecDepth 20000 in
theorem kX6_checksum_9 : Cond.fieldLink RX6 49 "StemspanModel" "length" "I" ∈ wsX6_checksum := by decide +kernel
set_option maxRecDepth 20000 in
theorem kX6_checksum_10 : Cond.fieldLink RX6 13 "StemspanModel" "text" "[C" ∈ wsX6_checksum := by decide +kernel
set_option maxRecDepth 20000 in
theorem kX6_checksum_11 : Cond.fieldLink RX6 1 "StemspanModel" "code" "I" ∈ wsX6_checksum := by decide +kernel
set_option maxRecDepth 20000 in
theorem kX6_checksum_12 : Cond.constantLong RX6 132 (7) ∈ wsX6_checksum := by decide +kernel
section
variable {p : Program} {l : Launch} {e : Env} {s : State} {m : MethodId} {args : Array Value} {below : List Frame} {meth : Method} {c : Code} {Q : State → Prop} {D : va_G} {ad : Nat → Nat} {ci : Nat → ClassId} {A : Nat → Prop} {H0 : Heap}
set_option maxHeartbeats 4000000 in
set_option maxRecDepth 100000 in
theorem eX6_thrown (C0 : CallFix p m c cX6_thrown 1 s args wsX6_thrown RX6) (hK : Kx D (tyM ci) s) (K : Int32 → Prop) (σ : St) (hret : ∀ (r : Int32) (H : Heap) (locs : List Loc) (pc : Nat) (ls : Array Slot), K r → Sy D 12 ad A H0 (obM ad ci σ) H locs → decode cX6_thrown pc = .ok (.ireturn, 1) → W p l e rmX6_thrown s m args below meth c H locs 0 0 Q (F0 m pc ls [.int r])) (h : wX6_thrown σ K) (H : Heap) (locs : List Loc) (hY : Sy D 12 ad A H0 (obM ad ci σ) H locs) (hR : tt σ) (ls : Array Slot) (hl : lv_has ls 1 [(0, .ref (ad 0))]) : W p l e rmX6_thrown s m args below meth c H locs 0 0 Q (F0 m 0 ls []) := by
  obtain ⟨hx, hb, hml, hown, hts⟩ := id C0
  refine lv_aload_n hx hb dX6_thrown_0 rfl (lv_at hl 0 rfl) ?_
  refine w_get (o := 0) (ci := 6) (C := RX6) (T := TX6) (N1 := 14) (v := .int (gI σ 0)) hx hb hts kX6_thrown_inX6 hown hK.1 hY (by decide) obM_main rfl 0 (by decide) (hts _ kX6_thrown_0) rfl rfl dX6_thrown_1 ?_
  exact hret (gI σ 0) _ _ _ _ h hY dX6_thrown_4
set_option maxHeartbeats 4000000 in
set_option maxRecDepth 100000 in
theorem mX6_thrown (l : Launch) (D : va_G) (ad : Nat → Nat) (ci : Nat → ClassId) (A : Nat → Prop) (σ : St) (K : Int32 → Prop) (hR : tt σ) (h : wX6_thrown σ K) : Met l yX6_thrown wsX6_thrown rmX6_thrown (va_Pc [.ref (ad 0)] (PreW D 12 ad A (tyM ci) (obM ad ci σ))) (va_Qi (fun r (_ : Unit) => K r) (fun _ => (PostW D 12 ad (tyM ci) (obM ad ci) tt σ)) A) 0 0 A := by
  refine Met.ofW (cc := cX6_thrown) (maxL := 1) (ret := (some .int)) (by decide) rfl ?_
  intro p e s m args below meth c s₁ B hml hv
  obtain ⟨rfl, hP, hK, hD⟩ := hv
  have C0 : CallFix p m c cX6_thrown 1 s _ wsX6_thrown RX6 := ⟨B.exec, B.bytes, hml, findClass_of_methodNamed B.named, atoms_spec (ws := wsX6_thrown) B.pre⟩
  have hlocks := B.notSynchronized
  have hY : Sy D 12 ad A s.heap (obM ad ci σ) s.heap [] := ⟨hP, hD, va_S.rf⟩
  have hl := lv_entry ([.ref (ad 0)]) (n := 1) (Nat.le_of_ble_eq_true rfl)
  rw [lg_entry_eq]
  generalize (lg_sl ([.ref (ad 0)]) ++ List.replicate (1 - (lg_sl ([.ref (ad 0)])).length) Slot.unset).toArray = ls at hl ⊢
  exact eX6_thrown C0 hK K σ (fun r H locs pc ls hk hY hd => w_iret (I := tt) B.exec B.bytes B.returns hlocks (u := ()) hK hk (fun t ht => ht) hY hR hd) h _ _ hY hR ls hl
set_option maxHeartbeats 4000000 in
set_option maxRecDepth 100000 in
theorem eX6_fails (C0 : CallFix p m c cX6_fails 2 s args wsX6_fails RX6) (hK : Kx D (tyM ci) s) (K : Int32 → St → Prop) (σ : St) (hret : ∀ (r : Int32) (u : St) (H : Heap) (locs : List Loc) (pc : Nat) (ls : Array Slot), narrow .boolean (.int r) = .int r → K r u → Sy D 12 ad A H0 (obM ad ci u) H locs → tt u → decode cX6_fails pc = .ok (.ireturn, 1) → W p l e rmX6_fails s m args below meth c H locs 0 0 Q (F0 m pc ls [.int r])) (x1 : Int32) (h : wX6_fails σ x1 K) (H : Heap) (locs : List Loc) (hY : Sy D 12 ad A H0 (obM ad ci σ) H locs) (hR : tt σ) (ls : Array Slot) (hl : lv_has ls 2 [(0, .ref (ad 0)), (1, .int x1)]) : W p l e rmX6_fails s m args below meth c H locs 0 0 Q (F0 m 0 ls []) := by
  obtain ⟨hx, hb, hml, hown, hts⟩ := id C0
  refine lv_aload_n hx hb dX6_fails_0 rfl (lv_at hl 0 rfl) ?_
  refine lv_iload_n hx hb dX6_fails_1 rfl (lv_at hl 1 rfl) ?_
  obtain ⟨σ_1, e_σ_1⟩ : ∃ z : St, z = pI σ 0 x1 := ⟨_, rfl⟩
  have h := h σ_1 e_σ_1
  have hR_σ_1 : tt σ_1 := trivial
  refine w_put (o := 0) (ci := 6) (C := RX6) (T := TX6) (N1 := 14) hx hb hts kX6_fails_inX6 tyX6 tyX6_ok nmX6 hown hK.1 hY (by decide) obM_main rfl 0 (by decide) (hts _ kX6_fails_0) rfl rfl rfl (Nat.le_of_ble_eq_true rfl) dX6_fails_2 (ob' := obM ad ci σ_1) (by rw [e_σ_1]; exact obM_pI rfl) (fun H locs hY => ?_)
  refine lv_iload_n hx hb dX6_fails_5 rfl (lv_at hl 1 rfl) ?_
  refine lv_if_le (tgt := 13) hx hb dX6_fails_6 (by decide) (fun c_2 => ?_) (fun c_2 => ?_)
  · have h := h.1 c_2
    refine lv_iconst (v := (0 : Int32)) hx hb dX6_fails_13 (by decide) ?_
    exact hret (0 : Int32) σ_1 _ _ _ _ rfl h hY hR_σ_1 dX6_fails_14
  · have h := h.2 c_2
    refine lv_iconst (v := (1 : Int32)) hx hb dX6_fails_9 (by decide) ?_
    refine lv_goto (tgt := 14) hx hb dX6_fails_10 (by decide) ?_
    exact hret (1 : Int32) σ_1 _ _ _ _ rfl h hY hR_σ_1 dX6_fails_14
set_option maxHeartbeats 4000000 in
set_option maxRecDepth 100000 in
theorem mX6_fails (l : Launch) (D : va_G) (ad : Nat → Nat) (ci : Nat → ClassId) (A : Nat → Prop) (σ : St) (x1 : Int32) (K : Int32 → St → Prop) (hR : tt σ) (h : wX6_fails σ x1 K) : Met l yX6_fails wsX6_fails rmX6_fails (va_Pc [.ref (ad 0), .int x1] (PreW D 12 ad A (tyM ci) (obM ad ci σ))) (va_Qi (fun r u => narrow .boolean (.int r) = .int r ∧ K r u) (PostW D 12 ad (tyM ci) (obM ad ci) tt) A) 0 0 A := by
  refine Met.ofW (cc := cX6_fails) (maxL := 2) (ret := (some .boolean)) (by decide) rfl ?_
  intro p e s m args below meth c s₁ B hml hv
  obtain ⟨rfl, hP, hK, hD⟩ := hv
  have C0 : CallFix p m c cX6_fails 2 s _ wsX6_fails RX6 := ⟨B.exec, B.bytes, hml, findClass_of_methodNamed B.named, atoms_spec (ws := wsX6_fails) B.pre⟩
  have hlocks := B.notSynchronized
  have hY : Sy D 12 ad A s.heap (obM ad ci σ) s.heap [] := ⟨hP, hD, va_S.rf⟩
  have hl := lv_entry ([.ref (ad 0), .int x1]) (n := 2) (Nat.le_of_ble_eq_true rfl)
  rw [lg_entry_eq]
  generalize (lg_sl ([.ref (ad 0), .int x1]) ++ List.replicate (2 - (lg_sl ([.ref (ad 0), .int x1])).length) Slot.unset).toArray = ls at hl ⊢
  exact eX6_fails C0 hK K σ (fun r u H locs pc ls hn hk hY hR hd => w_zret (I := tt) B.exec B.bytes B.returns hn hlocks hK ⟨hn, hk⟩ (fun t ht => ht) hY hR hd) x1 h _ _ hY hR ls hl
set_option maxHeartbeats 4000000 in
set_option maxRecDepth 100000 in
theorem eX6_in (C0 : CallFix p m c cX6_in 3 s args wsX6_in RX6) (hK : Kx D (tyM ci) s) (K : Int32 → Prop) (σ : St) (hret : ∀ (r : Int32) (H : Heap) (locs : List Loc) (pc : Nat) (ls : Array Slot), narrow .boolean (.int r) = .int r → K r → Sy D 12 ad A H0 (obM ad ci σ) H locs → decode cX6_in pc = .ok (.ireturn, 1) → W p l e rmX6_in s m args below meth c H locs 0 0 Q (F0 m pc ls [.int r])) (x0 : Int32) (x1 : Int32) (x2 : Int32) (h : wX6_in σ x0 x1 x2 K) (H : Heap) (locs : List Loc) (hY : Sy D 12 ad A H0 (obM ad ci σ) H locs) (hR : tt σ) (ls : Array Slot) (hl : lv_has ls 3 [(0, .int x0), (1, .int x1), (2, .int x2)]) : W p l e rmX6_in s m args below meth c H locs 0 0 Q (F0 m 0 ls []) := by
  obtain ⟨hx, hb, hml, hown, hts⟩ := id C0
  refine lv_iload_n hx hb dX6_in_0 rfl (lv_at hl 0 rfl) ?_
  refine lv_iload_n hx hb dX6_in_1 rfl (lv_at hl 1 rfl) ?_
  refine lv_icmp_lt (tgt := 14) hx hb dX6_in_2 (by decide) (fun c_1 => ?_) (fun c_1 => ?_)
  · have h := h.1 c_1
    refine lv_iconst (v := (0 : Int32)) hx hb dX6_in_14 (by decide) ?_
    exact hret (0 : Int32) _ _ _ _ rfl h hY dX6_in_15
  · have h := h.2 c_1
    refine lv_iload_n hx hb dX6_in_5 rfl (lv_at hl 0 rfl) ?_
    refine lv_iload_n hx hb dX6_in_6 rfl (lv_at hl 2 rfl) ?_
    refine lv_icmp_gt (tgt := 14) hx hb dX6_in_7 (by decide) (fun c_2 => ?_) (fun c_2 => ?_)
    · have h := h.1 c_2
      refine lv_iconst (v := (0 : Int32)) hx hb dX6_in_14 (by decide) ?_
      exact hret (0 : Int32) _ _ _ _ rfl h hY dX6_in_15
    · have h := h.2 c_2
      refine lv_iconst (v := (1 : Int32)) hx hb dX6_in_10 (by decide) ?_
      refine lv_goto (tgt := 15) hx hb dX6_in_11 (by decide) ?_
      exact hret (1 : Int32) _ _ _ _ rfl h hY dX6_in_15
set_option maxHeartbeats 4000000 in
set_option maxRecDepth 100000 in
theorem mX6_in (l : Launch) (D : va_G) (ad : Nat → Nat) (ci : Nat → ClassId) (A : Nat → Prop) (σ : St) (x0 : Int32) (x1 : Int32) (x2 : Int32) (K : Int32 → Prop) (hR : tt σ) (h : wX6_in σ x0 x1 x2 K) : Met l yX6_in wsX6_in rmX6_in (va_Pc [.int x0, .int x1, .int x2] (PreW D 12 ad A (tyM ci) (obM ad ci σ))) (va_Qi (fun r (_ : Unit) => narrow .boolean (.int r) = .int r ∧ K r) (fun _ => (PostW D 12 ad (tyM ci) (obM ad ci) tt σ)) A) 0 0 A := by
  refine Met.ofW (cc := cX6_in) (maxL := 3) (ret := (some .boolean)) (by decide) rfl ?_
  intro p e s m args below meth c s₁ B hml hv
  obtain ⟨rfl, hP, hK, hD⟩ := hv
  have C0 : CallFix p m c cX6_in 3 s _ wsX6_in RX6 := ⟨B.exec, B.bytes, hml, findClass_of_methodNamed B.named, atoms_spec (ws := wsX6_in) B.pre⟩
  have hlocks := B.notSynchronized
  have hY : Sy D 12 ad A s.heap (obM ad ci σ) s.heap [] := ⟨hP, hD, va_S.rf⟩
  have hl := lv_entry ([.int x0, .int x1, .int x2]) (n := 3) (Nat.le_of_ble_eq_true rfl)
  rw [lg_entry_eq]
  generalize (lg_sl ([.int x0, .int x1, .int x2]) ++ List.replicate (3 - (lg_sl ([.int x0, .int x1, .int x2])).length) Slot.unset).toArray = ls at hl ⊢
  exact eX6_in C0 hK K σ (fun r H locs pc ls hn hk hY hd => w_zret (I := tt) B.exec B.bytes B.returns hn hlocks (u := ()) hK ⟨hn, hk⟩ (fun t ht => ht) hY hR hd) x0 x1 x2 h _ _ hY hR ls hl
set_option maxHeartbeats 4000000 in
set_option maxRecDepth 100000 in
theorem eX6_isSign (C0 : CallFix p m c cX6_isSign 1 s args wsX6_isSign RX6) (hK : Kx D (tyM ci) s) (K : Int32 → Prop) (σ : St) (hret : ∀ (r : Int32) (H : Heap) (locs : List Loc) (pc : Nat) (ls : Array Slot), narrow .boolean (.int r) = .int r → K r → Sy D 12 ad A H0 (obM ad ci σ) H locs → decode cX6_isSign pc = .ok (.ireturn, 1) → W p l e rmX6_isSign s m args below meth c H locs 0 0 Q (F0 m pc ls [.int r])) (x0 : Int32) (h : wX6_isSign σ x0 K) (H : Heap) (locs : List Loc) (hY : Sy D 12 ad A H0 (obM ad ci σ) H locs) (hR : tt σ) (ls : Array Slot) (hl : lv_has ls 1 [(0, .int x0)]) : W p l e rmX6_isSign s m args below meth c H locs 0 0 Q (F0 m 0 ls []) := by
  obtain ⟨hx, hb, hml, hown, hts⟩ := id C0
  refine lv_iload_n hx hb dX6_isSign_0 rfl (lv_at hl 0 rfl) ?_
  refine lv_bipush (v := (97 : Int32)) hx hb dX6_isSign_1 (by decide) ?_
  refine lv_icmp_lt (tgt := 16) hx hb dX6_isSign_3 (by decide) (fun c_1 => ?_) (fun c_1 => ?_)
  · have h := h.1 c_1
    refine lv_iconst (v := (0 : Int32)) hx hb dX6_isSign_16 (by decide) ?_
    exact hret (0 : Int32) _ _ _ _ rfl h hY dX6_isSign_17
  · have h := h.2 c_1
    refine lv_iload_n hx hb dX6_isSign_6 rfl (lv_at hl 0 rfl) ?_
    refine lv_bipush (v := (102 : Int32)) hx hb dX6_isSign_7 (by decide) ?_
    refine lv_icmp_gt (tgt := 16) hx hb dX6_isSign_9 (by decide) (fun c_2 => ?_) (fun c_2 => ?_)
    · have h := h.1 c_2
      refine lv_iconst (v := (0 : Int32)) hx hb dX6_isSign_16 (by decide) ?_
      exact hret (0 : Int32) _ _ _ _ rfl h hY dX6_isSign_17
    · have h := h.2 c_2
      refine lv_iconst (v := (1 : Int32)) hx hb dX6_isSign_12 (by decide) ?_
      refine lv_goto (tgt := 17) hx hb dX6_isSign_13 (by decide) ?_
      exact hret (1 : Int32) _ _ _ _ rfl h hY dX6_isSign_17
set_option maxHeartbeats 4000000 in
set_option maxRecDepth 100000 in
theorem mX6_isSign (l : Launch) (D : va_G) (ad : Nat → Nat) (ci : Nat → ClassId) (A : Nat → Prop) (σ : St) (x0 : Int32) (K : Int32 → Prop) (hR : tt σ) (h : wX6_isSign σ x0 K) : Met l yX6_isSign wsX6_isSign rmX6_isSign (va_Pc [.int x0] (PreW D 12 ad A (tyM ci) (obM ad ci σ))) (va_Qi (fun r (_ : Unit) => narrow .boolean (.int r) = .int r ∧ K r) (fun _ => (PostW D 12 ad (tyM ci) (obM ad ci) tt σ)) A) 0 0 A := by
  refine Met.ofW (cc := cX6_isSign) (maxL := 1) (ret := (some .boolean)) (by decide) rfl ?_
  intro p e s m args below meth c s₁ B hml hv
  obtain ⟨rfl, hP, hK, hD⟩ := hv
  have C0 : CallFix p m c cX6_isSign 1 s _ wsX6_isSign RX6 := ⟨B.exec, B.bytes, hml, findClass_of_methodNamed B.named, atoms_spec (ws := wsX6_isSign) B.pre⟩
  have hlocks := B.notSynchronized
  have hY : Sy D 12 ad A s.heap (obM ad ci σ) s.heap [] := ⟨hP, hD, va_S.rf⟩
  have hl := lv_entry ([.int x0]) (n := 1) (Nat.le_of_ble_eq_true rfl)
  rw [lg_entry_eq]
  generalize (lg_sl ([.int x0]) ++ List.replicate (1 - (lg_sl ([.int x0])).length) Slot.unset).toArray = ls at hl ⊢
  exact eX6_isSign C0 hK K σ (fun r H locs pc ls hn hk hY hd => w_zret (I := tt) B.exec B.bytes B.returns hn hlocks (u := ()) hK ⟨hn, hk⟩ (fun t ht => ht) hY hR hd) x0 h _ _ hY hR ls hl
set_option maxHeartbeats 4000000 in
set_option maxRecDepth 100000 in
theorem tX6_like_L2 (C0 : CallFix p m c cX6_like 4 s args wsX6_like RX6) (hK : Kx D (tyM ci) s) (K : Int32 → Prop) (σ : St) (x1 : Int32) (x2 : Int32) (hret : ∀ (r : Int32) (H : Heap) (locs : List Loc) (pc : Nat) (ls : Array Slot), K r → Sy D 12 ad A H0 (obM ad ci σ) H locs → decode cX6_like pc = .ok (.ireturn, 1) → W p l e rmX6_like s m args below meth c H locs 0 0 Q (F0 m pc ls [.int r])) : ∀ (n : Nat) (x3 : Int32), wX6_like_L2 K σ x1 x2 n x3 → ∀ (H : Heap) (locs : List Loc), Sy D 12 ad A H0 (obM ad ci σ) H locs → tt σ → ∀ ls : Array Slot, lv_has ls 4 [(0, .ref (ad 0)), (1, .int x1), (2, .int x2), (3, .int x3)] → W p l e rmX6_like s m args below meth c H locs 0 0 Q (F0 m 2 ls []) := by
  obtain ⟨hx, hb, hml, hown, hts⟩ := id C0
  intro n
  induction n with
  | zero =>
    intro x3 h
    exact h.elim
  | succ n ih =>
    intro x3 h H locs hY hR  ls hl
    refine lv_iload_n hx hb dX6_like_2 rfl (lv_at hl 3 rfl) ?_
    refine lv_aload_n hx hb dX6_like_3 rfl (lv_at hl 0 rfl) ?_
    refine w_get (o := 0) (ci := 6) (C := RX6) (T := TX6) (N1 := 14) (v := .ref (ad 5)) hx hb hts kX6_like_inX6 hown hK.1 hY (by decide) obM_main rfl 5 (by decide) (hts _ kX6_like_0) rfl rfl dX6_like_4 ?_
    refine lv_iload_n hx hb dX6_like_7 rfl (lv_at hl 1 rfl) ?_
    obtain ⟨b_1, h⟩ := h
    refine w_iald (o := 5) hx hb hK.1 hY (by decide) 1 rfl rfl b_1 dX6_like_8 ?_
    refine lv_icmp_ge (tgt := 50) hx hb dX6_like_9 (by decide) (fun c_2 => ?_) (fun c_2 => ?_)
    · have h := h.1 c_2
      refine lv_iload_n hx hb dX6_like_50 rfl (lv_at hl 3 rfl) ?_
      exact hret x3 _ _ _ _ h hY dX6_like_51
    · have h := h.2 c_2
      refine lv_iload_n hx hb dX6_like_12 rfl (lv_at hl 2 rfl) ?_
      refine lv_iload_n hx hb dX6_like_13 rfl (lv_at hl 3 rfl) ?_
      refine lv_iadd hx hb dX6_like_14 ?_
      refine lv_aload_n hx hb dX6_like_15 rfl (lv_at hl 0 rfl) ?_
      refine w_get (o := 0) (ci := 6) (C := RX6) (T := TX6) (N1 := 14) (v := .int (gI σ 1)) hx hb hts kX6_like_inX6 hown hK.1 hY (by decide) obM_main rfl 8 (by decide) (hts _ kX6_like_2) rfl rfl dX6_like_16 ?_
      refine lv_icmp_ge (tgt := 50) hx hb dX6_like_19 (by decide) (fun c_3 => ?_) (fun c_3 => ?_)
      · have h := h.1 c_3
        refine lv_iload_n hx hb dX6_like_50 rfl (lv_at hl 3 rfl) ?_
        exact hret x3 _ _ _ _ h hY dX6_like_51
      · have h := h.2 c_3
        refine lv_aload_n hx hb dX6_like_22 rfl (lv_at hl 0 rfl) ?_
        refine w_get (o := 0) (ci := 6) (C := RX6) (T := TX6) (N1 := 14) (v := .ref (ad 2)) hx hb hts kX6_like_inX6 hown hK.1 hY (by decide) obM_main rfl 2 (by decide) (hts _ kX6_like_3) rfl rfl dX6_like_23 ?_
        refine lv_bipush (v := (10 : Int32)) hx hb dX6_like_26 (by decide) ?_
        refine lv_iload_n hx hb dX6_like_28 rfl (lv_at hl 1 rfl) ?_
        refine lv_imul hx hb dX6_like_29 ?_
        refine lv_iload_n hx hb dX6_like_30 rfl (lv_at hl 3 rfl) ?_
        refine lv_iadd hx hb dX6_like_31 ?_
        obtain ⟨b_4, h⟩ := h
        refine w_cald (o := 2) hx hb hK.1 hY (by decide) 0 rfl rfl b_4 dX6_like_32 ?_
        refine lv_aload_n hx hb dX6_like_33 rfl (lv_at hl 0 rfl) ?_
        refine w_get (o := 0) (ci := 6) (C := RX6) (T := TX6) (N1 := 14) (v := .ref (ad 1)) hx hb hts kX6_like_inX6 hown hK.1 hY (by decide) obM_main rfl 1 (by decide) (hts _ kX6_like_4) rfl rfl dX6_like_34 ?_
        refine lv_iload_n hx hb dX6_like_37 rfl (lv_at hl 2 rfl) ?_
        refine lv_iload_n hx hb dX6_like_38 rfl (lv_at hl 3 rfl) ?_
        refine lv_iadd hx hb dX6_like_39 ?_
        obtain ⟨b_5, h⟩ := h
        refine w_cald (o := 1) hx hb hK.1 hY (by decide) 0 rfl rfl b_5 dX6_like_40 ?_
        refine lv_icmp_ne (tgt := 50) hx hb dX6_like_41 (by decide) (fun c_6 => ?_) (fun c_6 => ?_)
        · have h := h.2 c_6
          refine lv_iload_n hx hb dX6_like_50 rfl (lv_at hl 3 rfl) ?_
          exact hret x3 _ _ _ _ h hY dX6_like_51
        · have h := h.1 c_6
          refine lv_iinc (v := (x3 + 1)) (lv' := [(3, .int (x3 + 1)), (0, .ref (ad 0)), (1, .int x1), (2, .int x2)]) hx hb dX6_like_44 hl (k := 3) rfl rfl (by decide) rfl (fun ls hl => ?_)
          refine lv_goto (tgt := 2) hx hb dX6_like_47 (by decide) ?_
          exact ih (x3 + 1) h _ _ hY hR  _ (lv_sub hl [1, 2, 3, 0] rfl)
set_option maxHeartbeats 4000000 in
set_option maxRecDepth 100000 in
theorem eX6_like (C0 : CallFix p m c cX6_like 4 s args wsX6_like RX6) (hK : Kx D (tyM ci) s) (K : Int32 → Prop) (σ : St) (hret : ∀ (r : Int32) (H : Heap) (locs : List Loc) (pc : Nat) (ls : Array Slot), K r → Sy D 12 ad A H0 (obM ad ci σ) H locs → decode cX6_like pc = .ok (.ireturn, 1) → W p l e rmX6_like s m args below meth c H locs 0 0 Q (F0 m pc ls [.int r])) (x1 : Int32) (x2 : Int32) (h : wX6_like σ x1 x2 K) (H : Heap) (locs : List Loc) (hY : Sy D 12 ad A H0 (obM ad ci σ) H locs) (hR : tt σ) (ls : Array Slot) (hl : lv_has ls 4 [(0, .ref (ad 0)), (1, .int x1), (2, .int x2)]) : W p l e rmX6_like s m args below meth c H locs 0 0 Q (F0 m 0 ls []) := by
  obtain ⟨hx, hb, hml, hown, hts⟩ := id C0
  refine lv_iconst (v := (0 : Int32)) hx hb dX6_like_0 (by decide) ?_
  refine lv_istore_n (lv' := [(3, .int (0 : Int32)), (0, .ref (ad 0)), (1, .int x1), (2, .int x2)]) hx hb dX6_like_1 rfl hl (by decide) rfl (fun ls hl => ?_)
  obtain ⟨n_7, h⟩ := h
  exact tX6_like_L2 C0 hK K σ x1 x2 hret n_7 (0 : Int32) h _ _ hY hR  _ (lv_sub hl [1, 2, 3, 0] rfl)
set_option maxHeartbeats 4000000 in
set_option maxRecDepth 100000 in
theorem mX6_like (l : Launch) (D : va_G) (ad : Nat → Nat) (ci : Nat → ClassId) (A : Nat → Prop) (σ : St) (x1 : Int32) (x2 : Int32) (K : Int32 → Prop) (hR : tt σ) (h : wX6_like σ x1 x2 K) : Met l yX6_like wsX6_like rmX6_like (va_Pc [.ref (ad 0), .int x1, .int x2] (PreW D 12 ad A (tyM ci) (obM ad ci σ))) (va_Qi (fun r (_ : Unit) => K r) (fun _ => (PostW D 12 ad (tyM ci) (obM ad ci) tt σ)) A) 0 0 A := by
  refine Met.ofW (cc := cX6_like) (maxL := 4) (ret := (some .int)) (by decide) rfl ?_
  intro p e s m args below meth c s₁ B hml hv
  obtain ⟨rfl, hP, hK, hD⟩ := hv
  have C0 : CallFix p m c cX6_like 4 s _ wsX6_like RX6 := ⟨B.exec, B.bytes, hml, findClass_of_methodNamed B.named, atoms_spec (ws := wsX6_like) B.pre⟩
  have hlocks := B.notSynchronized
  have hY : Sy D 12 ad A s.heap (obM ad ci σ) s.heap [] := ⟨hP, hD, va_S.rf⟩
  have hl := lv_entry ([.ref (ad 0), .int x1, .int x2]) (n := 4) (Nat.le_of_ble_eq_true rfl)
  rw [lg_entry_eq]
  generalize (lg_sl ([.ref (ad 0), .int x1, .int x2]) ++ List.replicate (4 - (lg_sl ([.ref (ad 0), .int x1, .int x2])).length) Slot.unset).toArray = ls at hl ⊢
  exact eX6_like C0 hK K σ (fun r H locs pc ls hk hY hd => w_iret (I := tt) B.exec B.bytes B.returns hlocks (u := ()) hK hk (fun t ht => ht) hY hR hd) x1 x2 h _ _ hY hR ls hl
set_option maxHeartbeats 4000000 in
set_option maxRecDepth 100000 in
theorem tX6_likeWords_L2 (C0 : CallFix p m c cX6_likeWords 4 s args wsX6_likeWords RX6) (hK : Kx D (tyM ci) s) (K : Int32 → Prop) (σ : St) (x1 : Int32) (x2 : Int32) (hret : ∀ (r : Int32) (H : Heap) (locs : List Loc) (pc : Nat) (ls : Array Slot), K r → Sy D 12 ad A H0 (obM ad ci σ) H locs → decode cX6_likeWords pc = .ok (.ireturn, 1) → W p l e rmX6_likeWords s m args below meth c H locs 0 0 Q (F0 m pc ls [.int r])) : ∀ (n : Nat) (x3 : Int32), wX6_likeWords_L2 K σ x1 x2 n x3 → ∀ (H : Heap) (locs : List Loc), Sy D 12 ad A H0 (obM ad ci σ) H locs → tt σ → ∀ ls : Array Slot, lv_has ls 4 [(0, .ref (ad 0)), (1, .int x1), (2, .int x2), (3, .int x3)] → W p l e rmX6_likeWords s m args below meth c H locs 0 0 Q (F0 m 2 ls []) := by
  obtain ⟨hx, hb, hml, hown, hts⟩ := id C0
  intro n
  induction n with
  | zero =>
    intro x3 h
    exact h.elim
  | succ n ih =>
    intro x3 h H locs hY hR  ls hl
    refine lv_iload_n hx hb dX6_likeWords_2 rfl (lv_at hl 3 rfl) ?_
    refine lv_aload_n hx hb dX6_likeWords_3 rfl (lv_at hl 0 rfl) ?_
    refine w_get (o := 0) (ci := 6) (C := RX6) (T := TX6) (N1 := 14) (v := .ref (ad 5)) hx hb hts kX6_likeWords_inX6 hown hK.1 hY (by decide) obM_main rfl 5 (by decide) (hts _ kX6_likeWords_0) rfl rfl dX6_likeWords_4 ?_
    refine lv_iload_n hx hb dX6_likeWords_7 rfl (lv_at hl 1 rfl) ?_
    obtain ⟨b_1, h⟩ := h
    refine w_iald (o := 5) hx hb hK.1 hY (by decide) 1 rfl rfl b_1 dX6_likeWords_8 ?_
    refine lv_icmp_ge (tgt := 53) hx hb dX6_likeWords_9 (by decide) (fun c_2 => ?_) (fun c_2 => ?_)
    · have h := h.1 c_2
      refine lv_iload_n hx hb dX6_likeWords_53 rfl (lv_at hl 3 rfl) ?_
      exact hret x3 _ _ _ _ h hY dX6_likeWords_54
    · have h := h.2 c_2
      refine lv_iload_n hx hb dX6_likeWords_12 rfl (lv_at hl 3 rfl) ?_
      refine lv_aload_n hx hb dX6_likeWords_13 rfl (lv_at hl 0 rfl) ?_
      refine w_get (o := 0) (ci := 6) (C := RX6) (T := TX6) (N1 := 14) (v := .ref (ad 5)) hx hb hts kX6_likeWords_inX6 hown hK.1 hY (by decide) obM_main rfl 5 (by decide) (hts _ kX6_likeWords_0) rfl rfl dX6_likeWords_14 ?_
      refine lv_iload_n hx hb dX6_likeWords_17 rfl (lv_at hl 2 rfl) ?_
      obtain ⟨b_3, h⟩ := h
      refine w_iald (o := 5) hx hb hK.1 hY (by decide) 1 rfl rfl b_3 dX6_likeWords_18 ?_
      refine lv_icmp_ge (tgt := 53) hx hb dX6_likeWords_19 (by decide) (fun c_4 => ?_) (fun c_4 => ?_)
      · have h := h.1 c_4
        refine lv_iload_n hx hb dX6_likeWords_53 rfl (lv_at hl 3 rfl) ?_
        exact hret x3 _ _ _ _ h hY dX6_likeWords_54
      · have h := h.2 c_4
        refine lv_aload_n hx hb dX6_likeWords_22 rfl (lv_at hl 0 rfl) ?_
        refine w_get (o := 0) (ci := 6) (C := RX6) (T := TX6) (N1 := 14) (v := .ref (ad 2)) hx hb hts kX6_likeWords_inX6 hown hK.1 hY (by decide) obM_main rfl 2 (by decide) (hts _ kX6_likeWords_2) rfl rfl dX6_likeWords_23 ?_
        refine lv_bipush (v := (10 : Int32)) hx hb dX6_likeWords_26 (by decide) ?_
        refine lv_iload_n hx hb dX6_likeWords_28 rfl (lv_at hl 1 rfl) ?_
        refine lv_imul hx hb dX6_likeWords_29 ?_
        refine lv_iload_n hx hb dX6_likeWords_30 rfl (lv_at hl 3 rfl) ?_
        refine lv_iadd hx hb dX6_likeWords_31 ?_
        obtain ⟨b_5, h⟩ := h
        refine w_cald (o := 2) hx hb hK.1 hY (by decide) 0 rfl rfl b_5 dX6_likeWords_32 ?_
        refine lv_aload_n hx hb dX6_likeWords_33 rfl (lv_at hl 0 rfl) ?_
        refine w_get (o := 0) (ci := 6) (C := RX6) (T := TX6) (N1 := 14) (v := .ref (ad 2)) hx hb hts kX6_likeWords_inX6 hown hK.1 hY (by decide) obM_main rfl 2 (by decide) (hts _ kX6_likeWords_2) rfl rfl dX6_likeWords_34 ?_
        refine lv_bipush (v := (10 : Int32)) hx hb dX6_likeWords_37 (by decide) ?_
        refine lv_iload_n hx hb dX6_likeWords_39 rfl (lv_at hl 2 rfl) ?_
        refine lv_imul hx hb dX6_likeWords_40 ?_
        refine lv_iload_n hx hb dX6_likeWords_41 rfl (lv_at hl 3 rfl) ?_
        refine lv_iadd hx hb dX6_likeWords_42 ?_
        obtain ⟨b_6, h⟩ := h
        refine w_cald (o := 2) hx hb hK.1 hY (by decide) 0 rfl rfl b_6 dX6_likeWords_43 ?_
        refine lv_icmp_ne (tgt := 53) hx hb dX6_likeWords_44 (by decide) (fun c_7 => ?_) (fun c_7 => ?_)
        · have h := h.2 c_7
          refine lv_iload_n hx hb dX6_likeWords_53 rfl (lv_at hl 3 rfl) ?_
          exact hret x3 _ _ _ _ h hY dX6_likeWords_54
        · have h := h.1 c_7
          refine lv_iinc (v := (x3 + 1)) (lv' := [(3, .int (x3 + 1)), (0, .ref (ad 0)), (1, .int x1), (2, .int x2)]) hx hb dX6_likeWords_47 hl (k := 3) rfl rfl (by decide) rfl (fun ls hl => ?_)
          refine lv_goto (tgt := 2) hx hb dX6_likeWords_50 (by decide) ?_
          exact ih (x3 + 1) h _ _ hY hR  _ (lv_sub hl [1, 2, 3, 0] rfl)
set_option maxHeartbeats 4000000 in
set_option maxRecDepth 100000 in
theorem eX6_likeWords (C0 : CallFix p m c cX6_likeWords 4 s args wsX6_likeWords RX6) (hK : Kx D (tyM ci) s) (K : Int32 → Prop) (σ : St) (hret : ∀ (r : Int32) (H : Heap) (locs : List Loc) (pc : Nat) (ls : Array Slot), K r → Sy D 12 ad A H0 (obM ad ci σ) H locs → decode cX6_likeWords pc = .ok (.ireturn, 1) → W p l e rmX6_likeWords s m args below meth c H locs 0 0 Q (F0 m pc ls [.int r])) (x1 : Int32) (x2 : Int32) (h : wX6_likeWords σ x1 x2 K) (H : Heap) (locs : List Loc) (hY : Sy D 12 ad A H0 (obM ad ci σ) H locs) (hR : tt σ) (ls : Array Slot) (hl : lv_has ls 4 [(0, .ref (ad 0)), (1, .int x1), (2, .int x2)]) : W p l e rmX6_likeWords s m args below meth c H locs 0 0 Q (F0 m 0 ls []) := by
  obtain ⟨hx, hb, hml, hown, hts⟩ := id C0
  refine lv_iconst (v := (0 : Int32)) hx hb dX6_likeWords_0 (by decide) ?_
  refine lv_istore_n (lv' := [(3, .int (0 : Int32)), (0, .ref (ad 0)), (1, .int x1), (2, .int x2)]) hx hb dX6_likeWords_1 rfl hl (by decide) rfl (fun ls hl => ?_)
  obtain ⟨n_8, h⟩ := h
  exact tX6_likeWords_L2 C0 hK K σ x1 x2 hret n_8 (0 : Int32) h _ _ hY hR  _ (lv_sub hl [1, 2, 3, 0] rfl)
set_option maxHeartbeats 4000000 in
set_option maxRecDepth 100000 in
theorem mX6_likeWords (l : Launch) (D : va_G) (ad : Nat → Nat) (ci : Nat → ClassId) (A : Nat → Prop) (σ : St) (x1 : Int32) (x2 : Int32) (K : Int32 → Prop) (hR : tt σ) (h : wX6_likeWords σ x1 x2 K) : Met l yX6_likeWords wsX6_likeWords rmX6_likeWords (va_Pc [.ref (ad 0), .int x1, .int x2] (PreW D 12 ad A (tyM ci) (obM ad ci σ))) (va_Qi (fun r (_ : Unit) => K r) (fun _ => (PostW D 12 ad (tyM ci) (obM ad ci) tt σ)) A) 0 0 A := by
  refine Met.ofW (cc := cX6_likeWords) (maxL := 4) (ret := (some .int)) (by decide) rfl ?_
  intro p e s m args below meth c s₁ B hml hv
  obtain ⟨rfl, hP, hK, hD⟩ := hv
  have C0 : CallFix p m c cX6_likeWords 4 s _ wsX6_likeWords RX6 := ⟨B.exec, B.bytes, hml, findClass_of_methodNamed B.named, atoms_spec (ws := wsX6_likeWords) B.pre⟩
  have hlocks := B.notSynchronized
  have hY : Sy D 12 ad A s.heap (obM ad ci σ) s.heap [] := ⟨hP, hD, va_S.rf⟩
  have hl := lv_entry ([.ref (ad 0), .int x1, .int x2]) (n := 4) (Nat.le_of_ble_eq_true rfl)
  rw [lg_entry_eq]
  generalize (lg_sl ([.ref (ad 0), .int x1, .int x2]) ++ List.replicate (4 - (lg_sl ([.ref (ad 0), .int x1, .int x2])).length) Slot.unset).toArray = ls at hl ⊢
  exact eX6_likeWords C0 hK K σ (fun r H locs pc ls hk hY hd => w_iret (I := tt) B.exec B.bytes B.returns hlocks (u := ()) hK hk (fun t ht => ht) hY hR hd) x1 x2 h _ _ hY hR ls hl
set_option maxHeartbeats 4000000 in
set_option maxRecDepth 100000 in
theorem eX6_beside (C0 : CallFix p m c cX6_beside 3 s args wsX6_beside RX6) (hK : Kx D (tyM ci) s) (K : Int32 → Prop) (σ : St) (hret : ∀ (r : Int32) (H : Heap) (locs : List Loc) (pc : Nat) (ls : Array Slot), K r → Sy D 12 ad A H0 (obM ad ci σ) H locs → decode cX6_beside pc = .ok (.ireturn, 1) → W p l e rmX6_beside s m args below meth c H locs 0 0 Q (F0 m pc ls [.int r])) (x1 : Int32) (h : wX6_beside σ x1 K) (H : Heap) (locs : List Loc) (hY : Sy D 12 ad A H0 (obM ad ci σ) H locs) (hR : tt σ) (ls : Array Slot) (hl : lv_has ls 3 [(0, .ref (ad 0)), (1, .int x1)]) : W p l e rmX6_beside s m args below meth c H locs 0 0 Q (F0 m 0 ls []) := by
  obtain ⟨hx, hb, hml, hown, hts⟩ := id C0
  refine lv_aload_n hx hb dX6_beside_0 rfl (lv_at hl 0 rfl) ?_
  refine lv_iload_n hx hb dX6_beside_1 rfl (lv_at hl 1 rfl) ?_
  refine lv_iconst (v := (0 : Int32)) hx hb dX6_beside_2 (by decide) ?_
  refine w_callip (rest := []) (va_runV (As := [.int x1, .int (0 : Int32)]) (rest := []) C0 (mX6_like l D ad ci A σ x1 (0 : Int32) _ hR  h) (cwV 2 hts gX6_beside_X6_like rfl rfl rfl ddX6_like ⟨Nat.le_of_ble_eq_true rfl, Nat.le_of_ble_eq_true rfl⟩) (w_preV (o := 0) (ci := 6) (ob := obM ad ci) (σ := σ) hK hY (by decide) obM_main rfl rfl) rfl rfl hl.1 rfl (lv_room (Nat.le_of_ble_eq_true rfl)) dX6_beside_3 ⟨Nat.zero_le _, Nat.zero_le _⟩) hY (fun r_1 H locs h hY => ?_)
  refine lv_istore_n (lv' := [(2, .int r_1), (0, .ref (ad 0)), (1, .int x1)]) hx hb dX6_beside_6 rfl hl (by decide) rfl (fun ls hl => ?_)
  refine lv_iload_n hx hb dX6_beside_7 rfl (lv_at hl 0 rfl) ?_
  refine lv_aload_n hx hb dX6_beside_8 rfl (lv_at hl 1 rfl) ?_
  refine w_get (o := 0) (ci := 6) (C := RX6) (T := TX6) (N1 := 14) (v := .ref (ad 5)) hx hb hts kX6_beside_inX6 hown hK.1 hY (by decide) obM_main rfl 5 (by decide) (hts _ kX6_beside_0) rfl rfl dX6_beside_9 ?_
  refine lv_iload_n hx hb dX6_beside_12 rfl (lv_at hl 2 rfl) ?_
  obtain ⟨b_2, h⟩ := h
  refine w_iald (o := 5) hx hb hK.1 hY (by decide) 1 rfl rfl b_2 dX6_beside_13 ?_
  refine lv_icmp_ne (tgt := 31) hx hb dX6_beside_14 (by decide) (fun c_3 => ?_) (fun c_3 => ?_)
  · have h := h.2 c_3
    refine lv_iload_n hx hb dX6_beside_31 rfl (lv_at hl 0 rfl) ?_
    refine lv_aload_n hx hb dX6_beside_32 rfl (lv_at hl 1 rfl) ?_
    refine w_get (o := 0) (ci := 6) (C := RX6) (T := TX6) (N1 := 14) (v := .int (gI σ 1)) hx hb hts kX6_beside_inX6 hown hK.1 hY (by decide) obM_main rfl 8 (by decide) (hts _ kX6_beside_2) rfl rfl dX6_beside_33 ?_
    refine lv_icmp_ne (tgt := 43) hx hb dX6_beside_36 (by decide) (fun c_4 => ?_) (fun c_4 => ?_)
    · have h := h.2 c_4
      refine lv_aload_n hx hb dX6_beside_43 rfl (lv_at hl 1 rfl) ?_
      refine w_get (o := 0) (ci := 6) (C := RX6) (T := TX6) (N1 := 14) (v := .ref (ad 2)) hx hb hts kX6_beside_inX6 hown hK.1 hY (by decide) obM_main rfl 2 (by decide) (hts _ kX6_beside_3) rfl rfl dX6_beside_44 ?_
      refine lv_bipush (v := (10 : Int32)) hx hb dX6_beside_47 (by decide) ?_
      refine lv_iload_n hx hb dX6_beside_49 rfl (lv_at hl 2 rfl) ?_
      refine lv_imul hx hb dX6_beside_50 ?_
      refine lv_iload_n hx hb dX6_beside_51 rfl (lv_at hl 0 rfl) ?_
      refine lv_iadd hx hb dX6_beside_52 ?_
      obtain ⟨b_5, h⟩ := h
      refine w_cald (o := 2) hx hb hK.1 hY (by decide) 0 rfl rfl b_5 dX6_beside_53 ?_
      refine lv_aload_n hx hb dX6_beside_54 rfl (lv_at hl 1 rfl) ?_
      refine w_get (o := 0) (ci := 6) (C := RX6) (T := TX6) (N1 := 14) (v := .ref (ad 1)) hx hb hts kX6_beside_inX6 hown hK.1 hY (by decide) obM_main rfl 1 (by decide) (hts _ kX6_beside_4) rfl rfl dX6_beside_55 ?_
      refine lv_iload_n hx hb dX6_beside_58 rfl (lv_at hl 0 rfl) ?_
      obtain ⟨b_6, h⟩ := h
      refine w_cald (o := 1) hx hb hK.1 hY (by decide) 0 rfl rfl b_6 dX6_beside_59 ?_
      refine lv_isub hx hb dX6_beside_60 ?_
      exact hret ((gA σ 2 ((((10 : Int32) * x1) + r_1)).toNatClampNeg) - (gA σ 1 (r_1).toNatClampNeg)) _ _ _ _ h hY dX6_beside_61
    · have h := h.1 c_4
      refine lv_iconst (v := (1 : Int32)) hx hb dX6_beside_39 (by decide) ?_
      refine lv_goto (tgt := 61) hx hb dX6_beside_40 (by decide) ?_
      exact hret (1 : Int32) _ _ _ _ h hY dX6_beside_61
  · have h := h.1 c_3
    refine lv_iload_n hx hb dX6_beside_17 rfl (lv_at hl 0 rfl) ?_
    refine lv_aload_n hx hb dX6_beside_18 rfl (lv_at hl 1 rfl) ?_
    refine w_get (o := 0) (ci := 6) (C := RX6) (T := TX6) (N1 := 14) (v := .int (gI σ 1)) hx hb hts kX6_beside_inX6 hown hK.1 hY (by decide) obM_main rfl 8 (by decide) (hts _ kX6_beside_2) rfl rfl dX6_beside_19 ?_
    refine lv_icmp_ne (tgt := 29) hx hb dX6_beside_22 (by decide) (fun c_7 => ?_) (fun c_7 => ?_)
    · have h := h.2 c_7
      refine lv_iconst (v := (-1 : Int32)) hx hb dX6_beside_29 (by decide) ?_
      exact hret (-1 : Int32) _ _ _ _ h hY dX6_beside_30
    · have h := h.1 c_7
      refine lv_iconst (v := (0 : Int32)) hx hb dX6_beside_25 (by decide) ?_
      refine lv_goto (tgt := 30) hx hb dX6_beside_26 (by decide) ?_
      exact hret (0 : Int32) _ _ _ _ h hY dX6_beside_30
set_option maxHeartbeats 4000000 in
set_option maxRecDepth 100000 in
theorem mX6_beside (l : Launch) (D : va_G) (ad : Nat → Nat) (ci : Nat → ClassId) (A : Nat → Prop) (σ : St) (x1 : Int32) (K : Int32 → Prop) (hR : tt σ) (h : wX6_beside σ x1 K) : Met l yX6_beside wsX6_beside rmX6_beside (va_Pc [.ref (ad 0), .int x1] (PreW D 12 ad A (tyM ci) (obM ad ci σ))) (va_Qi (fun r (_ : Unit) => K r) (fun _ => (PostW D 12 ad (tyM ci) (obM ad ci) tt σ)) A) 0 0 A := by
  refine Met.ofW (cc := cX6_beside) (maxL := 3) (ret := (some .int)) (by decide) rfl ?_
  intro p e s m args below meth c s₁ B hml hv
  obtain ⟨rfl, hP, hK, hD⟩ := hv
  have C0 : CallFix p m c cX6_beside 3 s _ wsX6_beside RX6 := ⟨B.exec, B.bytes, hml, findClass_of_methodNamed B.named, atoms_spec (ws := wsX6_beside) B.pre⟩
  have hlocks := B.notSynchronized
  have hY : Sy D 12 ad A s.heap (obM ad ci σ) s.heap [] := ⟨hP, hD, va_S.rf⟩
  have hl := lv_entry ([.ref (ad 0), .int x1]) (n := 3) (Nat.le_of_ble_eq_true rfl)
  rw [lg_entry_eq]
  generalize (lg_sl ([.ref (ad 0), .int x1]) ++ List.replicate (3 - (lg_sl ([.ref (ad 0), .int x1])).length) Slot.unset).toArray = ls at hl ⊢
  exact eX6_beside C0 hK K σ (fun r H locs pc ls hk hY hd => w_iret (I := tt) B.exec B.bytes B.returns hlocks (u := ()) hK hk (fun t ht => ht) hY hR hd) x1 h _ _ hY hR ls hl
set_option maxHeartbeats 4000000 in
set_option maxRecDepth 100000 in
theorem eX6_isLess (C0 : CallFix p m c cX6_isLess 4 s args wsX6_isLess RX6) (hK : Kx D (tyM ci) s) (K : Int32 → Prop) (σ : St) (hret : ∀ (r : Int32) (H : Heap) (locs : List Loc) (pc : Nat) (ls : Array Slot), narrow .boolean (.int r) = .int r → K r → Sy D 12 ad A H0 (obM ad ci σ) H locs → decode cX6_isLess pc = .ok (.ireturn, 1) → W p l e rmX6_isLess s m args below meth c H locs 0 0 Q (F0 m pc ls [.int r])) (x1 : Int32) (x2 : Int32) (h : wX6_isLess σ x1 x2 K) (H : Heap) (locs : List Loc) (hY : Sy D 12 ad A H0 (obM ad ci σ) H locs) (hR : tt σ) (ls : Array Slot) (hl : lv_has ls 4 [(0, .ref (ad 0)), (1, .int x1), (2, .int x2)]) : W p l e rmX6_isLess s m args below meth c H locs 0 0 Q (F0 m 0 ls []) := by
  obtain ⟨hx, hb, hml, hown, hts⟩ := id C0
  refine lv_aload_n hx hb dX6_isLess_0 rfl (lv_at hl 0 rfl) ?_
  refine lv_iload_n hx hb dX6_isLess_1 rfl (lv_at hl 1 rfl) ?_
  refine lv_iload_n hx hb dX6_isLess_2 rfl (lv_at hl 2 rfl) ?_
  refine w_callip (rest := []) (va_runV (As := [.int x1, .int x2]) (rest := []) C0 (mX6_likeWords l D ad ci A σ x1 x2 _ hR  h) (cwV 2 hts gX6_isLess_X6_likeWords rfl rfl rfl ddX6_likeWords ⟨Nat.le_of_ble_eq_true rfl, Nat.le_of_ble_eq_true rfl⟩) (w_preV (o := 0) (ci := 6) (ob := obM ad ci) (σ := σ) hK hY (by decide) obM_main rfl rfl) rfl rfl hl.1 rfl (lv_room (Nat.le_of_ble_eq_true rfl)) dX6_isLess_3 ⟨Nat.zero_le _, Nat.zero_le _⟩) hY (fun r_1 H locs h hY => ?_)
  refine lv_istore_n (lv' := [(3, .int r_1), (0, .ref (ad 0)), (1, .int x1), (2, .int x2)]) hx hb dX6_isLess_6 rfl hl (by decide) rfl (fun ls hl => ?_)
  refine lv_iload_n hx hb dX6_isLess_7 rfl (lv_at hl 0 rfl) ?_
  refine lv_aload_n hx hb dX6_isLess_8 rfl (lv_at hl 1 rfl) ?_
  refine w_get (o := 0) (ci := 6) (C := RX6) (T := TX6) (N1 := 14) (v := .ref (ad 5)) hx hb hts kX6_isLess_inX6 hown hK.1 hY (by decide) obM_main rfl 5 (by decide) (hts _ kX6_isLess_0) rfl rfl dX6_isLess_9 ?_
  refine lv_iload_n hx hb dX6_isLess_12 rfl (lv_at hl 3 rfl) ?_
  obtain ⟨b_2, h⟩ := h
  refine w_iald (o := 5) hx hb hK.1 hY (by decide) 1 rfl rfl b_2 dX6_isLess_13 ?_
  refine lv_icmp_ne (tgt := 19) hx hb dX6_isLess_14 (by decide) (fun c_3 => ?_) (fun c_3 => ?_)
  · have h := h.2 c_3
    refine lv_iload_n hx hb dX6_isLess_19 rfl (lv_at hl 0 rfl) ?_
    refine lv_aload_n hx hb dX6_isLess_20 rfl (lv_at hl 1 rfl) ?_
    refine w_get (o := 0) (ci := 6) (C := RX6) (T := TX6) (N1 := 14) (v := .ref (ad 5)) hx hb hts kX6_isLess_inX6 hown hK.1 hY (by decide) obM_main rfl 5 (by decide) (hts _ kX6_isLess_0) rfl rfl dX6_isLess_21 ?_
    refine lv_iload_n hx hb dX6_isLess_24 rfl (lv_at hl 2 rfl) ?_
    obtain ⟨b_4, h⟩ := h
    refine w_iald (o := 5) hx hb hK.1 hY (by decide) 1 rfl rfl b_4 dX6_isLess_25 ?_
    refine lv_icmp_eq (tgt := 54) hx hb dX6_isLess_26 (by decide) (fun c_5 => ?_) (fun c_5 => ?_)
    · have h := h.1 c_5
      refine lv_iconst (v := (1 : Int32)) hx hb dX6_isLess_54 (by decide) ?_
      refine lv_goto (tgt := 59) hx hb dX6_isLess_55 (by decide) ?_
      exact hret (1 : Int32) _ _ _ _ rfl h hY dX6_isLess_59
    · have h := h.2 c_5
      refine lv_aload_n hx hb dX6_isLess_29 rfl (lv_at hl 1 rfl) ?_
      refine w_get (o := 0) (ci := 6) (C := RX6) (T := TX6) (N1 := 14) (v := .ref (ad 2)) hx hb hts kX6_isLess_inX6 hown hK.1 hY (by decide) obM_main rfl 2 (by decide) (hts _ kX6_isLess_2) rfl rfl dX6_isLess_30 ?_
      refine lv_bipush (v := (10 : Int32)) hx hb dX6_isLess_33 (by decide) ?_
      refine lv_iload_n hx hb dX6_isLess_35 rfl (lv_at hl 2 rfl) ?_
      refine lv_imul hx hb dX6_isLess_36 ?_
      refine lv_iload_n hx hb dX6_isLess_37 rfl (lv_at hl 0 rfl) ?_
      refine lv_iadd hx hb dX6_isLess_38 ?_
      obtain ⟨b_6, h⟩ := h
      refine w_cald (o := 2) hx hb hK.1 hY (by decide) 0 rfl rfl b_6 dX6_isLess_39 ?_
      refine lv_aload_n hx hb dX6_isLess_40 rfl (lv_at hl 1 rfl) ?_
      refine w_get (o := 0) (ci := 6) (C := RX6) (T := TX6) (N1 := 14) (v := .ref (ad 2)) hx hb hts kX6_isLess_inX6 hown hK.1 hY (by decide) obM_main rfl 2 (by decide) (hts _ kX6_isLess_2) rfl rfl dX6_isLess_41 ?_
      refine lv_bipush (v := (10 : Int32)) hx hb dX6_isLess_44 (by decide) ?_
      refine lv_iload_n hx hb dX6_isLess_46 rfl (lv_at hl 3 rfl) ?_
      refine lv_imul hx hb dX6_isLess_47 ?_
      refine lv_iload_n hx hb dX6_isLess_48 rfl (lv_at hl 0 rfl) ?_
      refine lv_iadd hx hb dX6_isLess_49 ?_
      obtain ⟨b_7, h⟩ := h
      refine w_cald (o := 2) hx hb hK.1 hY (by decide) 0 rfl rfl b_7 dX6_isLess_50 ?_
      refine lv_icmp_ge (tgt := 58) hx hb dX6_isLess_51 (by decide) (fun c_8 => ?_) (fun c_8 => ?_)
      · have h := h.1 c_8
        refine lv_iconst (v := (0 : Int32)) hx hb dX6_isLess_58 (by decide) ?_
        exact hret (0 : Int32) _ _ _ _ rfl h hY dX6_isLess_59
      · have h := h.2 c_8
        refine lv_iconst (v := (1 : Int32)) hx hb dX6_isLess_54 (by decide) ?_
        refine lv_goto (tgt := 59) hx hb dX6_isLess_55 (by decide) ?_
        exact hret (1 : Int32) _ _ _ _ rfl h hY dX6_isLess_59
  · have h := h.1 c_3
    refine lv_iconst (v := (0 : Int32)) hx hb dX6_isLess_17 (by decide) ?_
    exact hret (0 : Int32) _ _ _ _ rfl h hY dX6_isLess_18
set_option maxHeartbeats 4000000 in
set_option maxRecDepth 100000 in
theorem mX6_isLess (l : Launch) (D : va_G) (ad : Nat → Nat) (ci : Nat → ClassId) (A : Nat → Prop) (σ : St) (x1 : Int32) (x2 : Int32) (K : Int32 → Prop) (hR : tt σ) (h : wX6_isLess σ x1 x2 K) : Met l yX6_isLess wsX6_isLess rmX6_isLess (va_Pc [.ref (ad 0), .int x1, .int x2] (PreW D 12 ad A (tyM ci) (obM ad ci σ))) (va_Qi (fun r (_ : Unit) => narrow .boolean (.int r) = .int r ∧ K r) (fun _ => (PostW D 12 ad (tyM ci) (obM ad ci) tt σ)) A) 0 0 A := by
  refine Met.ofW (cc := cX6_isLess) (maxL := 4) (ret := (some .boolean)) (by decide) rfl ?_
  intro p e s m args below meth c s₁ B hml hv
  obtain ⟨rfl, hP, hK, hD⟩ := hv
  have C0 : CallFix p m c cX6_isLess 4 s _ wsX6_isLess RX6 := ⟨B.exec, B.bytes, hml, findClass_of_methodNamed B.named, atoms_spec (ws := wsX6_isLess) B.pre⟩
  have hlocks := B.notSynchronized
  have hY : Sy D 12 ad A s.heap (obM ad ci σ) s.heap [] := ⟨hP, hD, va_S.rf⟩
  have hl := lv_entry ([.ref (ad 0), .int x1, .int x2]) (n := 4) (Nat.le_of_ble_eq_true rfl)
  rw [lg_entry_eq]
  generalize (lg_sl ([.ref (ad 0), .int x1, .int x2]) ++ List.replicate (4 - (lg_sl ([.ref (ad 0), .int x1, .int x2])).length) Slot.unset).toArray = ls at hl ⊢
  exact eX6_isLess C0 hK K σ (fun r H locs pc ls hn hk hY hd => w_zret (I := tt) B.exec B.bytes B.returns hn hlocks (u := ()) hK ⟨hn, hk⟩ (fun t ht => ht) hY hR hd) x1 x2 h _ _ hY hR ls hl
set_option maxHeartbeats 4000000 in
set_option maxRecDepth 100000 in
theorem eX6_isBegun (C0 : CallFix p m c cX6_isBegun 2 s args wsX6_isBegun RX6) (hK : Kx D (tyM ci) s) (K : Int32 → Prop) (σ : St) (hret : ∀ (r : Int32) (H : Heap) (locs : List Loc) (pc : Nat) (ls : Array Slot), narrow .boolean (.int r) = .int r → K r → Sy D 12 ad A H0 (obM ad ci σ) H locs → decode cX6_isBegun pc = .ok (.ireturn, 1) → W p l e rmX6_isBegun s m args below meth c H locs 0 0 Q (F0 m pc ls [.int r])) (x1 : Int32) (h : wX6_isBegun σ x1 K) (H : Heap) (locs : List Loc) (hY : Sy D 12 ad A H0 (obM ad ci σ) H locs) (hR : tt σ) (ls : Array Slot) (hl : lv_has ls 2 [(0, .ref (ad 0)), (1, .int x1)]) : W p l e rmX6_isBegun s m args below meth c H locs 0 0 Q (F0 m 0 ls []) := by
  obtain ⟨hx, hb, hml, hown, hts⟩ := id C0
  refine lv_aload_n hx hb dX6_isBegun_0 rfl (lv_at hl 0 rfl) ?_
  refine lv_iload_n hx hb dX6_isBegun_1 rfl (lv_at hl 1 rfl) ?_
  refine lv_iconst (v := (0 : Int32)) hx hb dX6_isBegun_2 (by decide) ?_
  refine w_callip (rest := []) (va_runV (As := [.int x1, .int (0 : Int32)]) (rest := []) C0 (mX6_like l D ad ci A σ x1 (0 : Int32) _ hR  h) (cwV 2 hts gX6_isBegun_X6_like rfl rfl rfl ddX6_like ⟨Nat.le_of_ble_eq_true rfl, Nat.le_of_ble_eq_true rfl⟩) (w_preV (o := 0) (ci := 6) (ob := obM ad ci) (σ := σ) hK hY (by decide) obM_main rfl rfl) rfl rfl hl.1 rfl (lv_room (Nat.le_of_ble_eq_true rfl)) dX6_isBegun_3 ⟨Nat.zero_le _, Nat.zero_le _⟩) hY (fun r_1 H locs h hY => ?_)
  refine lv_aload_n hx hb dX6_isBegun_6 rfl (lv_at hl 0 rfl) ?_
  refine w_get (o := 0) (ci := 6) (C := RX6) (T := TX6) (N1 := 14) (v := .int (gI σ 1)) hx hb hts kX6_isBegun_inX6 hown hK.1 hY (by decide) obM_main rfl 8 (by decide) (hts _ kX6_isBegun_0) rfl rfl dX6_isBegun_7 ?_
  refine lv_icmp_ne (tgt := 17) hx hb dX6_isBegun_10 (by decide) (fun c_2 => ?_) (fun c_2 => ?_)
  · have h := h.2 c_2
    refine lv_iconst (v := (0 : Int32)) hx hb dX6_isBegun_17 (by decide) ?_
    exact hret (0 : Int32) _ _ _ _ rfl h hY dX6_isBegun_18
  · have h := h.1 c_2
    refine lv_iconst (v := (1 : Int32)) hx hb dX6_isBegun_13 (by decide) ?_
    refine lv_goto (tgt := 18) hx hb dX6_isBegun_14 (by decide) ?_
    exact hret (1 : Int32) _ _ _ _ rfl h hY dX6_isBegun_18
set_option maxHeartbeats 4000000 in
set_option maxRecDepth 100000 in
theorem mX6_isBegun (l : Launch) (D : va_G) (ad : Nat → Nat) (ci : Nat → ClassId) (A : Nat → Prop) (σ : St) (x1 : Int32) (K : Int32 → Prop) (hR : tt σ) (h : wX6_isBegun σ x1 K) : Met l yX6_isBegun wsX6_isBegun rmX6_isBegun (va_Pc [.ref (ad 0), .int x1] (PreW D 12 ad A (tyM ci) (obM ad ci σ))) (va_Qi (fun r (_ : Unit) => narrow .boolean (.int r) = .int r ∧ K r) (fun _ => (PostW D 12 ad (tyM ci) (obM ad ci) tt σ)) A) 0 0 A := by
  refine Met.ofW (cc := cX6_isBegun) (maxL := 2) (ret := (some .boolean)) (by decide) rfl ?_
  intro p e s m args below meth c s₁ B hml hv
  obtain ⟨rfl, hP, hK, hD⟩ := hv
  have C0 : CallFix p m c cX6_isBegun 2 s _ wsX6_isBegun RX6 := ⟨B.exec, B.bytes, hml, findClass_of_methodNamed B.named, atoms_spec (ws := wsX6_isBegun) B.pre⟩
  have hlocks := B.notSynchronized
  have hY : Sy D 12 ad A s.heap (obM ad ci σ) s.heap [] := ⟨hP, hD, va_S.rf⟩
  have hl := lv_entry ([.ref (ad 0), .int x1]) (n := 2) (Nat.le_of_ble_eq_true rfl)
  rw [lg_entry_eq]
  generalize (lg_sl ([.ref (ad 0), .int x1]) ++ List.replicate (2 - (lg_sl ([.ref (ad 0), .int x1])).length) Slot.unset).toArray = ls at hl ⊢
  exact eX6_isBegun C0 hK K σ (fun r H locs pc ls hn hk hY hd => w_zret (I := tt) B.exec B.bytes B.returns hn hlocks (u := ()) hK ⟨hn, hk⟩ (fun t ht => ht) hY hR hd) x1 h _ _ hY hR ls hl
set_option maxHeartbeats 4000000 in
set_option maxRecDepth 100000 in
theorem tX6_own_L2 (C0 : CallFix p m c cX6_own 2 s args wsX6_own RX6) (hK : Kx D (tyM ci) s) (K : Int32 → Prop) (σ : St) (hret : ∀ (r : Int32) (H : Heap) (locs : List Loc) (pc : Nat) (ls : Array Slot), K r → Sy D 12 ad A H0 (obM ad ci σ) H locs → decode cX6_own pc = .ok (.ireturn, 1) → W p l e rmX6_own s m args below meth c H locs 0 0 Q (F0 m pc ls [.int r])) : ∀ (n : Nat) (x1 : Int32), wX6_own_L2 K σ n x1 → ∀ (H : Heap) (locs : List Loc), Sy D 12 ad A H0 (obM ad ci σ) H locs → tt σ → ∀ ls : Array Slot, lv_has ls 2 [(0, .ref (ad 0)), (1, .int x1)] → W p l e rmX6_own s m args below meth c H locs 0 0 Q (F0 m 2 ls []) := by
  obtain ⟨hx, hb, hml, hown, hts⟩ := id C0
  intro n
  induction n with
  | zero =>
    intro x1 h
    exact h.elim
  | succ n ih =>
    intro x1 h H locs hY hR  ls hl
    refine lv_iload_n hx hb dX6_own_2 rfl (lv_at hl 1 rfl) ?_
    refine lv_aload_n hx hb dX6_own_3 rfl (lv_at hl 0 rfl) ?_
    refine w_get (o := 0) (ci := 6) (C := RX6) (T := TX6) (N1 := 14) (v := .int (gI σ 2)) hx hb hts kX6_own_inX6 hown hK.1 hY (by decide) obM_main rfl 9 (by decide) (hts _ kX6_own_0) rfl rfl dX6_own_4 ?_
    refine lv_icmp_ge (tgt := 26) hx hb dX6_own_7 (by decide) (fun c_1 => ?_) (fun c_1 => ?_)
    · have h := h.1 c_1
      refine lv_iconst (v := (-1 : Int32)) hx hb dX6_own_26 (by decide) ?_
      exact hret (-1 : Int32) _ _ _ _ h hY dX6_own_27
    · have h := h.2 c_1
      refine lv_aload_n hx hb dX6_own_10 rfl (lv_at hl 0 rfl) ?_
      refine lv_iload_n hx hb dX6_own_11 rfl (lv_at hl 1 rfl) ?_
      refine w_callip (rest := []) (va_runV (As := [.int x1]) (rest := []) C0 (mX6_beside l D ad ci A σ x1 _ hR  h) (cwV 1 hts gX6_own_X6_beside rfl rfl rfl ddX6_beside ⟨Nat.le_of_ble_eq_true rfl, Nat.le_of_ble_eq_true rfl⟩) (w_preV (o := 0) (ci := 6) (ob := obM ad ci) (σ := σ) hK hY (by decide) obM_main rfl rfl) rfl rfl hl.1 rfl (lv_room (Nat.le_of_ble_eq_true rfl)) dX6_own_12 ⟨Nat.zero_le _, Nat.zero_le _⟩) hY (fun r_2 H locs h hY => ?_)
      refine lv_if_ne (tgt := 20) hx hb dX6_own_15 (by decide) (fun c_3 => ?_) (fun c_3 => ?_)
      · have h := h.2 c_3
        refine lv_iinc (v := (x1 + 1)) (lv' := [(1, .int (x1 + 1)), (0, .ref (ad 0))]) hx hb dX6_own_20 hl (k := 1) rfl rfl (by decide) rfl (fun ls hl => ?_)
        refine lv_goto (tgt := 2) hx hb dX6_own_23 (by decide) ?_
        exact ih (x1 + 1) h _ _ hY hR  _ (lv_sub hl [1, 0] rfl)
      · have h := h.1 c_3
        refine lv_iload_n hx hb dX6_own_18 rfl (lv_at hl 1 rfl) ?_
        exact hret x1 _ _ _ _ h hY dX6_own_19
set_option maxHeartbeats 4000000 in
set_option maxRecDepth 100000 in
theorem eX6_own (C0 : CallFix p m c cX6_own 2 s args wsX6_own RX6) (hK : Kx D (tyM ci) s) (K : Int32 → Prop) (σ : St) (hret : ∀ (r : Int32) (H : Heap) (locs : List Loc) (pc : Nat) (ls : Array Slot), K r → Sy D 12 ad A H0 (obM ad ci σ) H locs → decode cX6_own pc = .ok (.ireturn, 1) → W p l e rmX6_own s m args below meth c H locs 0 0 Q (F0 m pc ls [.int r])) (h : wX6_own σ K) (H : Heap) (locs : List Loc) (hY : Sy D 12 ad A H0 (obM ad ci σ) H locs) (hR : tt σ) (ls : Array Slot) (hl : lv_has ls 2 [(0, .ref (ad 0))]) : W p l e rmX6_own s m args below meth c H locs 0 0 Q (F0 m 0 ls []) := by
  obtain ⟨hx, hb, hml, hown, hts⟩ := id C0
  refine lv_iconst (v := (0 : Int32)) hx hb dX6_own_0 (by decide) ?_
  refine lv_istore_n (lv' := [(1, .int (0 : Int32)), (0, .ref (ad 0))]) hx hb dX6_own_1 rfl hl (by decide) rfl (fun ls hl => ?_)
  obtain ⟨n_4, h⟩ := h
  exact tX6_own_L2 C0 hK K σ hret n_4 (0 : Int32) h _ _ hY hR  _ (lv_sub hl [1, 0] rfl)
set_option maxHeartbeats 4000000 in
set_option maxRecDepth 100000 in
theorem mX6_own (l : Launch) (D : va_G) (ad : Nat → Nat) (ci : Nat → ClassId) (A : Nat → Prop) (σ : St) (K : Int32 → Prop) (hR : tt σ) (h : wX6_own σ K) : Met l yX6_own wsX6_own rmX6_own (va_Pc [.ref (ad 0)] (PreW D 12 ad A (tyM ci) (obM ad ci σ))) (va_Qi (fun r (_ : Unit) => K r) (fun _ => (PostW D 12 ad (tyM ci) (obM ad ci) tt σ)) A) 0 0 A := by
  refine Met.ofW (cc := cX6_own) (maxL := 2) (ret := (some .int)) (by decide) rfl ?_
  intro p e s m args below meth c s₁ B hml hv
  obtain ⟨rfl, hP, hK, hD⟩ := hv
  have C0 : CallFix p m c cX6_own 2 s _ wsX6_own RX6 := ⟨B.exec, B.bytes, hml, findClass_of_methodNamed B.named, atoms_spec (ws := wsX6_own) B.pre⟩
  have hlocks := B.notSynchronized
  have hY : Sy D 12 ad A s.heap (obM ad ci σ) s.heap [] := ⟨hP, hD, va_S.rf⟩
  have hl := lv_entry ([.ref (ad 0)]) (n := 2) (Nat.le_of_ble_eq_true rfl)
  rw [lg_entry_eq]
  generalize (lg_sl ([.ref (ad 0)]) ++ List.replicate (2 - (lg_sl ([.ref (ad 0)])).length) Slot.unset).toArray = ls at hl ⊢
  exact eX6_own C0 hK K σ (fun r H locs pc ls hk hY hd => w_iret (I := tt) B.exec B.bytes B.returns hlocks (u := ()) hK hk (fun t ht => ht) hY hR hd) h _ _ hY hR ls hl
set_option maxHeartbeats 4000000 in
set_option maxRecDepth 100000 in
theorem tX6_rankOf_L4 (C0 : CallFix p m c cX6_rankOf 4 s args wsX6_rankOf RX6) (hK : Kx D (tyM ci) s) (K : Int32 → Prop) (σ : St) (x1 : Int32) (hret : ∀ (r : Int32) (H : Heap) (locs : List Loc) (pc : Nat) (ls : Array Slot), K r → Sy D 12 ad A H0 (obM ad ci σ) H locs → decode cX6_rankOf pc = .ok (.ireturn, 1) → W p l e rmX6_rankOf s m args below meth c H locs 0 0 Q (F0 m pc ls [.int r])) : ∀ (n : Nat) (x2 : Int32) (x3 : Int32), wX6_rankOf_L4 K σ x1 n x2 x3 → ∀ (H : Heap) (locs : List Loc), Sy D 12 ad A H0 (obM ad ci σ) H locs → tt σ → ∀ ls : Array Slot, lv_has ls 4 [(0, .ref (ad 0)), (1, .int x1), (2, .int x2), (3, .int x3)] → W p l e rmX6_rankOf s m args below meth c H locs 0 0 Q (F0 m 4 ls []) := by
  obtain ⟨hx, hb, hml, hown, hts⟩ := id C0
  intro n
  induction n with
  | zero =>
    intro x2 x3 h
    exact h.elim
  | succ n ih =>
    intro x2 x3 h H locs hY hR  ls hl
    refine lv_iload_n hx hb dX6_rankOf_4 rfl (lv_at hl 3 rfl) ?_
    refine lv_aload_n hx hb dX6_rankOf_5 rfl (lv_at hl 0 rfl) ?_
    refine w_get (o := 0) (ci := 6) (C := RX6) (T := TX6) (N1 := 14) (v := .int (gI σ 2)) hx hb hts kX6_rankOf_inX6 hown hK.1 hY (by decide) obM_main rfl 9 (by decide) (hts _ kX6_rankOf_0) rfl rfl dX6_rankOf_6 ?_
    refine lv_icmp_ge (tgt := 30) hx hb dX6_rankOf_9 (by decide) (fun c_1 => ?_) (fun c_1 => ?_)
    · have h := h.1 c_1
      refine lv_iload_n hx hb dX6_rankOf_30 rfl (lv_at hl 2 rfl) ?_
      exact hret x2 _ _ _ _ h hY dX6_rankOf_31
    · have h := h.2 c_1
      refine lv_aload_n hx hb dX6_rankOf_12 rfl (lv_at hl 0 rfl) ?_
      refine lv_iload_n hx hb dX6_rankOf_13 rfl (lv_at hl 3 rfl) ?_
      refine lv_iload_n hx hb dX6_rankOf_14 rfl (lv_at hl 1 rfl) ?_
      refine w_callip (rest := []) (va_runV (As := [.int x3, .int x1]) (rest := []) C0 (mX6_isLess l D ad ci A σ x3 x1 _ hR  h) (cwV 2 hts gX6_rankOf_X6_isLess rfl rfl rfl ddX6_isLess ⟨Nat.le_of_ble_eq_true rfl, Nat.le_of_ble_eq_true rfl⟩) (w_preV (o := 0) (ci := 6) (ob := obM ad ci) (σ := σ) hK hY (by decide) obM_main rfl rfl) rfl rfl hl.1 rfl (lv_room (Nat.le_of_ble_eq_true rfl)) dX6_rankOf_15 ⟨Nat.zero_le _, Nat.zero_le _⟩) hY (fun r_2 H locs h hY => ?_)
      obtain ⟨n_r_2, h⟩ := h
      refine lv_if_eq (tgt := 24) hx hb dX6_rankOf_18 (by decide) (fun c_3 => ?_) (fun c_3 => ?_)
      · have h := h.1 c_3
        refine lv_iinc (v := (x3 + 1)) (lv' := [(3, .int (x3 + 1)), (0, .ref (ad 0)), (1, .int x1), (2, .int x2)]) hx hb dX6_rankOf_24 hl (k := 3) rfl rfl (by decide) rfl (fun ls hl => ?_)
        refine lv_goto (tgt := 4) hx hb dX6_rankOf_27 (by decide) ?_
        exact ih x2 (x3 + 1) h _ _ hY hR  _ (lv_sub hl [1, 2, 3, 0] rfl)
      · have h := h.2 c_3
        refine lv_iinc (v := (x2 + 1)) (lv' := [(2, .int (x2 + 1)), (0, .ref (ad 0)), (1, .int x1), (3, .int x3)]) hx hb dX6_rankOf_21 hl (k := 2) rfl rfl (by decide) rfl (fun ls hl => ?_)
        refine lv_iinc (v := (x3 + 1)) (lv' := [(3, .int (x3 + 1)), (2, .int (x2 + 1)), (0, .ref (ad 0)), (1, .int x1)]) hx hb dX6_rankOf_24 hl (k := 3) rfl rfl (by decide) rfl (fun ls hl => ?_)
        refine lv_goto (tgt := 4) hx hb dX6_rankOf_27 (by decide) ?_
        exact ih (x2 + 1) (x3 + 1) h _ _ hY hR  _ (lv_sub hl [2, 3, 1, 0] rfl)
set_option maxHeartbeats 4000000 in
set_option maxRecDepth 100000 in
theorem eX6_rankOf (C0 : CallFix p m c cX6_rankOf 4 s args wsX6_rankOf RX6) (hK : Kx D (tyM ci) s) (K : Int32 → Prop) (σ : St) (hret : ∀ (r : Int32) (H : Heap) (locs : List Loc) (pc : Nat) (ls : Array Slot), K r → Sy D 12 ad A H0 (obM ad ci σ) H locs → decode cX6_rankOf pc = .ok (.ireturn, 1) → W p l e rmX6_rankOf s m args below meth c H locs 0 0 Q (F0 m pc ls [.int r])) (x1 : Int32) (h : wX6_rankOf σ x1 K) (H : Heap) (locs : List Loc) (hY : Sy D 12 ad A H0 (obM ad ci σ) H locs) (hR : tt σ) (ls : Array Slot) (hl : lv_has ls 4 [(0, .ref (ad 0)), (1, .int x1)]) : W p l e rmX6_rankOf s m args below meth c H locs 0 0 Q (F0 m 0 ls []) := by
  obtain ⟨hx, hb, hml, hown, hts⟩ := id C0
  refine lv_iconst (v := (0 : Int32)) hx hb dX6_rankOf_0 (by decide) ?_
  refine lv_istore_n (lv' := [(2, .int (0 : Int32)), (0, .ref (ad 0)), (1, .int x1)]) hx hb dX6_rankOf_1 rfl hl (by decide) rfl (fun ls hl => ?_)
  refine lv_iconst (v := (0 : Int32)) hx hb dX6_rankOf_2 (by decide) ?_
  refine lv_istore_n (lv' := [(3, .int (0 : Int32)), (2, .int (0 : Int32)), (0, .ref (ad 0)), (1, .int x1)]) hx hb dX6_rankOf_3 rfl hl (by decide) rfl (fun ls hl => ?_)
  obtain ⟨n_4, h⟩ := h
  exact tX6_rankOf_L4 C0 hK K σ x1 hret n_4 (0 : Int32) (0 : Int32) h _ _ hY hR  _ (lv_sub hl [2, 3, 1, 0] rfl)
set_option maxHeartbeats 4000000 in
set_option maxRecDepth 100000 in
theorem mX6_rankOf (l : Launch) (D : va_G) (ad : Nat → Nat) (ci : Nat → ClassId) (A : Nat → Prop) (σ : St) (x1 : Int32) (K : Int32 → Prop) (hR : tt σ) (h : wX6_rankOf σ x1 K) : Met l yX6_rankOf wsX6_rankOf rmX6_rankOf (va_Pc [.ref (ad 0), .int x1] (PreW D 12 ad A (tyM ci) (obM ad ci σ))) (va_Qi (fun r (_ : Unit) => K r) (fun _ => (PostW D 12 ad (tyM ci) (obM ad ci) tt σ)) A) 0 0 A := by
  refine Met.ofW (cc := cX6_rankOf) (maxL := 4) (ret := (some .int)) (by decide) rfl ?_
  intro p e s m args below meth c s₁ B hml hv
  obtain ⟨rfl, hP, hK, hD⟩ := hv
  have C0 : CallFix p m c cX6_rankOf 4 s _ wsX6_rankOf RX6 := ⟨B.exec, B.bytes, hml, findClass_of_methodNamed B.named, atoms_spec (ws := wsX6_rankOf) B.pre⟩
  have hlocks := B.notSynchronized
  have hY : Sy D 12 ad A s.heap (obM ad ci σ) s.heap [] := ⟨hP, hD, va_S.rf⟩
  have hl := lv_entry ([.ref (ad 0), .int x1]) (n := 4) (Nat.le_of_ble_eq_true rfl)
  rw [lg_entry_eq]
  generalize (lg_sl ([.ref (ad 0), .int x1]) ++ List.replicate (4 - (lg_sl ([.ref (ad 0), .int x1])).length) Slot.unset).toArray = ls at hl ⊢
  exact eX6_rankOf C0 hK K σ (fun r H locs pc ls hk hY hd => w_iret (I := tt) B.exec B.bytes B.returns hlocks (u := ()) hK hk (fun t ht => ht) hY hR hd) x1 h _ _ hY hR ls hl
set_option maxHeartbeats 4000000 in
set_option maxRecDepth 100000 in
theorem tX6_orders_L2 (C0 : CallFix p m c cX6_orders 2 s args wsX6_orders RX6) (hK : Kx D (tyM ci) s) (K : St → Prop) (hret : ∀ (u : St) (H : Heap) (locs : List Loc) (pc : Nat) (ls : Array Slot), K u → Sy D 12 ad A H0 (obM ad ci u) H locs → tt u → decode cX6_orders pc = .ok (.return_, 1) → W p l e rmX6_orders s m args below meth c H locs 0 0 Q (F0 m pc ls [])) : ∀ (n : Nat) (σ : St) (x1 : Int32), wX6_orders_L2 K n σ x1 → ∀ (H : Heap) (locs : List Loc), Sy D 12 ad A H0 (obM ad ci σ) H locs → tt σ → ∀ ls : Array Slot, lv_has ls 2 [(0, .ref (ad 0)), (1, .int x1)] → W p l e rmX6_orders s m args below meth c H locs 0 0 Q (F0 m 2 ls []) := by
  obtain ⟨hx, hb, hml, hown, hts⟩ := id C0
  intro n
  induction n with
  | zero =>
    intro σ x1 h
    exact h.elim
  | succ n ih =>
    intro σ x1 h H locs hY hR  ls hl
    refine lv_iload_n hx hb dX6_orders_2 rfl (lv_at hl 1 rfl) ?_
    refine lv_aload_n hx hb dX6_orders_3 rfl (lv_at hl 0 rfl) ?_
    refine w_get (o := 0) (ci := 6) (C := RX6) (T := TX6) (N1 := 14) (v := .int (gI σ 2)) hx hb hts kX6_orders_inX6 hown hK.1 hY (by decide) obM_main rfl 9 (by decide) (hts _ kX6_orders_0) rfl rfl dX6_orders_4 ?_
    refine lv_icmp_ge (tgt := 39) hx hb dX6_orders_7 (by decide) (fun c_1 => ?_) (fun c_1 => ?_)
    · have h := h.1 c_1
      exact hret σ _ _ _ _ h hY hR dX6_orders_39
    · have h := h.2 c_1
      refine lv_aload_n hx hb dX6_orders_10 rfl (lv_at hl 0 rfl) ?_
      refine w_get (o := 0) (ci := 6) (C := RX6) (T := TX6) (N1 := 14) (v := .ref (ad 9)) hx hb hts kX6_orders_inX6 hown hK.1 hY (by decide) obM_main rfl 11 (by decide) (hts _ kX6_orders_2) rfl rfl dX6_orders_11 ?_
      refine lv_iload_n hx hb dX6_orders_14 rfl (lv_at hl 1 rfl) ?_
      refine lv_aload_n hx hb dX6_orders_15 rfl (lv_at hl 0 rfl) ?_
      refine lv_iload_n hx hb dX6_orders_16 rfl (lv_at hl 1 rfl) ?_
      refine w_callip (rest := [.int x1, .ref (ad 9)]) (va_runV (As := [.int x1]) (rest := [.int x1, .ref (ad 9)]) C0 (mX6_rankOf l D ad ci A σ x1 _ hR  h) (cwV 1 hts gX6_orders_X6_rankOf rfl rfl rfl ddX6_rankOf ⟨Nat.le_of_ble_eq_true rfl, Nat.le_of_ble_eq_true rfl⟩) (w_preV (o := 0) (ci := 6) (ob := obM ad ci) (σ := σ) hK hY (by decide) obM_main rfl rfl) rfl rfl hl.1 rfl (lv_room (Nat.le_of_ble_eq_true rfl)) dX6_orders_17 ⟨Nat.zero_le _, Nat.zero_le _⟩) hY (fun r_2 H locs h hY => ?_)
      obtain ⟨b_3, h⟩ := h
      obtain ⟨σ_4, e_σ_4⟩ : ∃ z : St, z = pA σ 9 (x1).toNatClampNeg r_2 := ⟨_, rfl⟩
      have h := h σ_4 e_σ_4
      have hR_σ_4 : tt σ_4 := trivial
      refine w_iast (o := 9) hx hb hK.1 hY (by decide) 1 rfl rfl b_3 dX6_orders_20 (ob' := obM ad ci σ_4) (by rw [e_σ_4]; exact obM_pA (by rw [← gA_up]; rfl)) (fun H locs hY => ?_)
      refine lv_aload_n hx hb dX6_orders_21 rfl (lv_at hl 0 rfl) ?_
      refine w_get (o := 0) (ci := 6) (C := RX6) (T := TX6) (N1 := 14) (v := .ref (ad 8)) hx hb hts kX6_orders_inX6 hown hK.1 hY (by decide) obM_main rfl 10 (by decide) (hts _ kX6_orders_3) rfl rfl dX6_orders_22 ?_
      refine lv_aload_n hx hb dX6_orders_25 rfl (lv_at hl 0 rfl) ?_
      refine w_get (o := 0) (ci := 6) (C := RX6) (T := TX6) (N1 := 14) (v := .ref (ad 9)) hx hb hts kX6_orders_inX6 hown hK.1 hY (by decide) obM_main rfl 11 (by decide) (hts _ kX6_orders_2) rfl rfl dX6_orders_26 ?_
      refine lv_iload_n hx hb dX6_orders_29 rfl (lv_at hl 1 rfl) ?_
      obtain ⟨b_5, h⟩ := h
      refine w_iald (o := 9) hx hb hK.1 hY (by decide) 1 rfl rfl b_5 dX6_orders_30 ?_
      refine lv_iload_n hx hb dX6_orders_31 rfl (lv_at hl 1 rfl) ?_
      obtain ⟨b_6, h⟩ := h
      obtain ⟨σ_7, e_σ_7⟩ : ∃ z : St, z = pA σ_4 8 ((gA σ_4 9 (x1).toNatClampNeg)).toNatClampNeg x1 := ⟨_, rfl⟩
      have h := h σ_7 e_σ_7
      have hR_σ_7 : tt σ_7 := trivial
      refine w_iast (o := 8) hx hb hK.1 hY (by decide) 1 rfl rfl b_6 dX6_orders_32 (ob' := obM ad ci σ_7) (by rw [e_σ_7]; exact obM_pA (by rw [← gA_up]; rfl)) (fun H locs hY => ?_)
      refine lv_iinc (v := (x1 + 1)) (lv' := [(1, .int (x1 + 1)), (0, .ref (ad 0))]) hx hb dX6_orders_33 hl (k := 1) rfl rfl (by decide) rfl (fun ls hl => ?_)
      refine lv_goto (tgt := 2) hx hb dX6_orders_36 (by decide) ?_
      exact ih σ_7 (x1 + 1) h _ _ hY hR_σ_7  _ (lv_sub hl [1, 0] rfl)
set_option maxHeartbeats 4000000 in
set_option maxRecDepth 100000 in
theorem eX6_orders (C0 : CallFix p m c cX6_orders 2 s args wsX6_orders RX6) (hK : Kx D (tyM ci) s) (K : St → Prop) (σ : St) (hret : ∀ (u : St) (H : Heap) (locs : List Loc) (pc : Nat) (ls : Array Slot), K u → Sy D 12 ad A H0 (obM ad ci u) H locs → tt u → decode cX6_orders pc = .ok (.return_, 1) → W p l e rmX6_orders s m args below meth c H locs 0 0 Q (F0 m pc ls [])) (h : wX6_orders σ K) (H : Heap) (locs : List Loc) (hY : Sy D 12 ad A H0 (obM ad ci σ) H locs) (hR : tt σ) (ls : Array Slot) (hl : lv_has ls 2 [(0, .ref (ad 0))]) : W p l e rmX6_orders s m args below meth c H locs 0 0 Q (F0 m 0 ls []) := by
  obtain ⟨hx, hb, hml, hown, hts⟩ := id C0
  refine lv_iconst (v := (0 : Int32)) hx hb dX6_orders_0 (by decide) ?_
  refine lv_istore_n (lv' := [(1, .int (0 : Int32)), (0, .ref (ad 0))]) hx hb dX6_orders_1 rfl hl (by decide) rfl (fun ls hl => ?_)
  obtain ⟨n_8, h⟩ := h
  exact tX6_orders_L2 C0 hK K hret n_8 σ (0 : Int32) h _ _ hY hR  _ (lv_sub hl [1, 0] rfl)
set_option maxHeartbeats 4000000 in
set_option maxRecDepth 100000 in
theorem mX6_orders (l : Launch) (D : va_G) (ad : Nat → Nat) (ci : Nat → ClassId) (A : Nat → Prop) (σ : St) (K : St → Prop) (hR : tt σ) (h : wX6_orders σ K) : Met l yX6_orders wsX6_orders rmX6_orders (va_Pc [.ref (ad 0)] (PreW D 12 ad A (tyM ci) (obM ad ci σ))) (va_Qv (fun u => K u) (PostW D 12 ad (tyM ci) (obM ad ci) tt) A) 0 0 A := by
  refine Met.ofW (cc := cX6_orders) (maxL := 2) (ret := none) (by decide) rfl ?_
  intro p e s m args below meth c s₁ B hml hv
  obtain ⟨rfl, hP, hK, hD⟩ := hv
  have C0 : CallFix p m c cX6_orders 2 s _ wsX6_orders RX6 := ⟨B.exec, B.bytes, hml, findClass_of_methodNamed B.named, atoms_spec (ws := wsX6_orders) B.pre⟩
  have hlocks := B.notSynchronized
  have hY : Sy D 12 ad A s.heap (obM ad ci σ) s.heap [] := ⟨hP, hD, va_S.rf⟩
  have hl := lv_entry ([.ref (ad 0)]) (n := 2) (Nat.le_of_ble_eq_true rfl)
  rw [lg_entry_eq]
  generalize (lg_sl ([.ref (ad 0)]) ++ List.replicate (2 - (lg_sl ([.ref (ad 0)])).length) Slot.unset).toArray = ls at hl ⊢
  exact eX6_orders C0 hK K σ (fun u H locs pc ls hk hY hR hd => w_vret (I := tt) B.exec B.bytes B.returns hlocks hK hk (fun t ht => ht) hY hR hd) h _ _ hY hR ls hl
set_option maxHeartbeats 4000000 in
set_option maxRecDepth 100000 in
theorem tX6_becomes_L12 (C0 : CallFix p m c cX6_becomes 3 s args wsX6_becomes RX6) (hK : Kx D (tyM ci) s) (K : St → Prop) (x1 : Int32) (hret : ∀ (u : St) (H : Heap) (locs : List Loc) (pc : Nat) (ls : Array Slot), K u → Sy D 12 ad A H0 (obM ad ci u) H locs → tt u → decode cX6_becomes pc = .ok (.return_, 1) → W p l e rmX6_becomes s m args below meth c H locs 0 0 Q (F0 m pc ls [])) : ∀ (n : Nat) (σ : St) (x2 : Int32), wX6_becomes_L12 K x1 n σ x2 → ∀ (H : Heap) (locs : List Loc), Sy D 12 ad A H0 (obM ad ci σ) H locs → tt σ → ∀ ls : Array Slot, lv_has ls 3 [(0, .ref (ad 0)), (1, .int x1), (2, .int x2)] → W p l e rmX6_becomes s m args below meth c H locs 0 0 Q (F0 m 12 ls []) := by
  obtain ⟨hx, hb, hml, hown, hts⟩ := id C0
  intro n
  induction n with
  | zero =>
    intro σ x2 h
    exact h.elim
  | succ n ih =>
    intro σ x2 h H locs hY hR  ls hl
    refine lv_iload_n hx hb dX6_becomes_12 rfl (lv_at hl 2 rfl) ?_
    refine lv_aload_n hx hb dX6_becomes_13 rfl (lv_at hl 0 rfl) ?_
    refine w_get (o := 0) (ci := 6) (C := RX6) (T := TX6) (N1 := 14) (v := .int (gI σ 1)) hx hb hts kX6_becomes_inX6 hown hK.1 hY (by decide) obM_main rfl 8 (by decide) (hts _ kX6_becomes_0) rfl rfl dX6_becomes_14 ?_
    refine lv_icmp_ge (tgt := 43) hx hb dX6_becomes_17 (by decide) (fun c_1 => ?_) (fun c_1 => ?_)
    · have h := h.1 c_1
      exact hret σ _ _ _ _ h hY hR dX6_becomes_43
    · have h := h.2 c_1
      refine lv_aload_n hx hb dX6_becomes_20 rfl (lv_at hl 0 rfl) ?_
      refine w_get (o := 0) (ci := 6) (C := RX6) (T := TX6) (N1 := 14) (v := .ref (ad 1)) hx hb hts kX6_becomes_inX6 hown hK.1 hY (by decide) obM_main rfl 1 (by decide) (hts _ kX6_becomes_2) rfl rfl dX6_becomes_21 ?_
      refine lv_iload_n hx hb dX6_becomes_24 rfl (lv_at hl 2 rfl) ?_
      refine lv_aload_n hx hb dX6_becomes_25 rfl (lv_at hl 0 rfl) ?_
      refine w_get (o := 0) (ci := 6) (C := RX6) (T := TX6) (N1 := 14) (v := .ref (ad 2)) hx hb hts kX6_becomes_inX6 hown hK.1 hY (by decide) obM_main rfl 2 (by decide) (hts _ kX6_becomes_3) rfl rfl dX6_becomes_26 ?_
      refine lv_bipush (v := (10 : Int32)) hx hb dX6_becomes_29 (by decide) ?_
      refine lv_iload_n hx hb dX6_becomes_31 rfl (lv_at hl 1 rfl) ?_
      refine lv_imul hx hb dX6_becomes_32 ?_
      refine lv_iload_n hx hb dX6_becomes_33 rfl (lv_at hl 2 rfl) ?_
      refine lv_iadd hx hb dX6_becomes_34 ?_
      obtain ⟨b_2, h⟩ := h
      refine w_cald (o := 2) hx hb hK.1 hY (by decide) 0 rfl rfl b_2 dX6_becomes_35 ?_
      obtain ⟨b_3, h⟩ := h
      obtain ⟨σ_4, e_σ_4⟩ : ∃ z : St, z = pA σ 1 (x2).toNatClampNeg (vp_nar .char (gA σ 2 ((((10 : Int32) * x1) + x2)).toNatClampNeg)) := ⟨_, rfl⟩
      have h := h σ_4 e_σ_4
      have hR_σ_4 : tt σ_4 := trivial
      refine w_cast (o := 1) hx hb hK.1 hY (by decide) 0 rfl rfl b_3 dX6_becomes_36 (ob' := obM ad ci σ_4) (by rw [e_σ_4]; exact obM_pA (by rw [← gA_up]; rfl)) (fun H locs hY => ?_)
      refine lv_iinc (v := (x2 + 1)) (lv' := [(2, .int (x2 + 1)), (0, .ref (ad 0)), (1, .int x1)]) hx hb dX6_becomes_37 hl (k := 2) rfl rfl (by decide) rfl (fun ls hl => ?_)
      refine lv_goto (tgt := 12) hx hb dX6_becomes_40 (by decide) ?_
      exact ih σ_4 (x2 + 1) h _ _ hY hR_σ_4  _ (lv_sub hl [1, 2, 0] rfl)
set_option maxHeartbeats 4000000 in
set_option maxRecDepth 100000 in
theorem eX6_becomes (C0 : CallFix p m c cX6_becomes 3 s args wsX6_becomes RX6) (hK : Kx D (tyM ci) s) (K : St → Prop) (σ : St) (hret : ∀ (u : St) (H : Heap) (locs : List Loc) (pc : Nat) (ls : Array Slot), K u → Sy D 12 ad A H0 (obM ad ci u) H locs → tt u → decode cX6_becomes pc = .ok (.return_, 1) → W p l e rmX6_becomes s m args below meth c H locs 0 0 Q (F0 m pc ls [])) (x1 : Int32) (h : wX6_becomes σ x1 K) (H : Heap) (locs : List Loc) (hY : Sy D 12 ad A H0 (obM ad ci σ) H locs) (hR : tt σ) (ls : Array Slot) (hl : lv_has ls 3 [(0, .ref (ad 0)), (1, .int x1)]) : W p l e rmX6_becomes s m args below meth c H locs 0 0 Q (F0 m 0 ls []) := by
  obtain ⟨hx, hb, hml, hown, hts⟩ := id C0
  refine lv_aload_n hx hb dX6_becomes_0 rfl (lv_at hl 0 rfl) ?_
  refine lv_aload_n hx hb dX6_becomes_1 rfl (lv_at hl 0 rfl) ?_
  refine w_get (o := 0) (ci := 6) (C := RX6) (T := TX6) (N1 := 14) (v := .ref (ad 5)) hx hb hts kX6_becomes_inX6 hown hK.1 hY (by decide) obM_main rfl 5 (by decide) (hts _ kX6_becomes_4) rfl rfl dX6_becomes_2 ?_
  refine lv_iload_n hx hb dX6_becomes_5 rfl (lv_at hl 1 rfl) ?_
  obtain ⟨b_5, h⟩ := h
  refine w_iald (o := 5) hx hb hK.1 hY (by decide) 1 rfl rfl b_5 dX6_becomes_6 ?_
  obtain ⟨σ_6, e_σ_6⟩ : ∃ z : St, z = pI σ 1 (gA σ 5 (x1).toNatClampNeg) := ⟨_, rfl⟩
  have h := h σ_6 e_σ_6
  have hR_σ_6 : tt σ_6 := trivial
  refine w_put (o := 0) (ci := 6) (C := RX6) (T := TX6) (N1 := 14) hx hb hts kX6_becomes_inX6 tyX6 tyX6_ok nmX6 hown hK.1 hY (by decide) obM_main rfl 8 (by decide) (hts _ kX6_becomes_0) rfl rfl rfl (Nat.le_of_ble_eq_true rfl) dX6_becomes_7 (ob' := obM ad ci σ_6) (by rw [e_σ_6]; exact obM_pI rfl) (fun H locs hY => ?_)
  refine lv_iconst (v := (0 : Int32)) hx hb dX6_becomes_10 (by decide) ?_
  refine lv_istore_n (lv' := [(2, .int (0 : Int32)), (0, .ref (ad 0)), (1, .int x1)]) hx hb dX6_becomes_11 rfl hl (by decide) rfl (fun ls hl => ?_)
  obtain ⟨n_7, h⟩ := h
  exact tX6_becomes_L12 C0 hK K x1 hret n_7 σ_6 (0 : Int32) h _ _ hY hR_σ_6  _ (lv_sub hl [1, 2, 0] rfl)
set_option maxHeartbeats 4000000 in
set_option maxRecDepth 100000 in
theorem mX6_becomes (l : Launch) (D : va_G) (ad : Nat → Nat) (ci : Nat → ClassId) (A : Nat → Prop) (σ : St) (x1 : Int32) (K : St → Prop) (hR : tt σ) (h : wX6_becomes σ x1 K) : Met l yX6_becomes wsX6_becomes rmX6_becomes (va_Pc [.ref (ad 0), .int x1] (PreW D 12 ad A (tyM ci) (obM ad ci σ))) (va_Qv (fun u => K u) (PostW D 12 ad (tyM ci) (obM ad ci) tt) A) 0 0 A := by
  refine Met.ofW (cc := cX6_becomes) (maxL := 3) (ret := none) (by decide) rfl ?_
  intro p e s m args below meth c s₁ B hml hv
  obtain ⟨rfl, hP, hK, hD⟩ := hv
  have C0 : CallFix p m c cX6_becomes 3 s _ wsX6_becomes RX6 := ⟨B.exec, B.bytes, hml, findClass_of_methodNamed B.named, atoms_spec (ws := wsX6_becomes) B.pre⟩
  have hlocks := B.notSynchronized
  have hY : Sy D 12 ad A s.heap (obM ad ci σ) s.heap [] := ⟨hP, hD, va_S.rf⟩
  have hl := lv_entry ([.ref (ad 0), .int x1]) (n := 3) (Nat.le_of_ble_eq_true rfl)
  rw [lg_entry_eq]
  generalize (lg_sl ([.ref (ad 0), .int x1]) ++ List.replicate (3 - (lg_sl ([.ref (ad 0), .int x1])).length) Slot.unset).toArray = ls at hl ⊢
  exact eX6_becomes C0 hK K σ (fun u H locs pc ls hk hY hR hd => w_vret (I := tt) B.exec B.bytes B.returns hlocks hK hk (fun t ht => ht) hY hR hd) x1 h _ _ hY hR ls hl
set_option maxHeartbeats 4000000 in
set_option maxRecDepth 100000 in
theorem tX6_goes_L42 (C0 : CallFix p m c cX6_goes 3 s args wsX6_goes RX6) (hK : Kx D (tyM ci) s) (K : St → Prop) (x1 : Int32) (hret : ∀ (u : St) (H : Heap) (locs : List Loc) (pc : Nat) (ls : Array Slot), K u → Sy D 12 ad A H0 (obM ad ci u) H locs → tt u → decode cX6_goes pc = .ok (.return_, 1) → W p l e rmX6_goes s m args below meth c H locs 0 0 Q (F0 m pc ls [])) : ∀ (n : Nat) (σ : St) (x2 : Int32), wX6_goes_L42 K x1 n σ x2 → ∀ (H : Heap) (locs : List Loc), Sy D 12 ad A H0 (obM ad ci σ) H locs → tt σ → ∀ ls : Array Slot, lv_has ls 3 [(0, .ref (ad 0)), (1, .int x1), (2, .int x2)] → W p l e rmX6_goes s m args below meth c H locs 0 0 Q (F0 m 42 ls []) := by
  obtain ⟨hx, hb, hml, hown, hts⟩ := id C0
  intro n
  induction n with
  | zero =>
    intro σ x2 h
    exact h.elim
  | succ n ih =>
    intro σ x2 h H locs hY hR  ls hl
    refine lv_iload_n hx hb dX6_goes_42 rfl (lv_at hl 2 rfl) ?_
    refine lv_bipush (v := (10 : Int32)) hx hb dX6_goes_43 (by decide) ?_
    refine lv_icmp_ge (tgt := 79) hx hb dX6_goes_45 (by decide) (fun c_1 => ?_) (fun c_1 => ?_)
    · have h := h.1 c_1
      exact hret σ _ _ _ _ h hY hR dX6_goes_79
    · have h := h.2 c_1
      refine lv_aload_n hx hb dX6_goes_48 rfl (lv_at hl 0 rfl) ?_
      refine w_get (o := 0) (ci := 6) (C := RX6) (T := TX6) (N1 := 14) (v := .ref (ad 2)) hx hb hts kX6_goes_inX6 hown hK.1 hY (by decide) obM_main rfl 2 (by decide) (hts _ kX6_goes_0) rfl rfl dX6_goes_49 ?_
      refine lv_bipush (v := (10 : Int32)) hx hb dX6_goes_52 (by decide) ?_
      refine lv_iload_n hx hb dX6_goes_54 rfl (lv_at hl 1 rfl) ?_
      refine lv_imul hx hb dX6_goes_55 ?_
      refine lv_iload_n hx hb dX6_goes_56 rfl (lv_at hl 2 rfl) ?_
      refine lv_iadd hx hb dX6_goes_57 ?_
      refine lv_aload_n hx hb dX6_goes_58 rfl (lv_at hl 0 rfl) ?_
      refine w_get (o := 0) (ci := 6) (C := RX6) (T := TX6) (N1 := 14) (v := .ref (ad 2)) hx hb hts kX6_goes_inX6 hown hK.1 hY (by decide) obM_main rfl 2 (by decide) (hts _ kX6_goes_0) rfl rfl dX6_goes_59 ?_
      refine lv_bipush (v := (10 : Int32)) hx hb dX6_goes_62 (by decide) ?_
      refine lv_aload_n hx hb dX6_goes_64 rfl (lv_at hl 0 rfl) ?_
      refine w_get (o := 0) (ci := 6) (C := RX6) (T := TX6) (N1 := 14) (v := .int (gI σ 2)) hx hb hts kX6_goes_inX6 hown hK.1 hY (by decide) obM_main rfl 9 (by decide) (hts _ kX6_goes_2) rfl rfl dX6_goes_65 ?_
      refine lv_imul hx hb dX6_goes_68 ?_
      refine lv_iload_n hx hb dX6_goes_69 rfl (lv_at hl 2 rfl) ?_
      refine lv_iadd hx hb dX6_goes_70 ?_
      obtain ⟨b_2, h⟩ := h
      refine w_cald (o := 2) hx hb hK.1 hY (by decide) 0 rfl rfl b_2 dX6_goes_71 ?_
      obtain ⟨b_3, h⟩ := h
      obtain ⟨σ_4, e_σ_4⟩ : ∃ z : St, z = pA σ 2 ((((10 : Int32) * x1) + x2)).toNatClampNeg (vp_nar .char (gA σ 2 ((((10 : Int32) * (gI σ 2)) + x2)).toNatClampNeg)) := ⟨_, rfl⟩
      have h := h σ_4 e_σ_4
      have hR_σ_4 : tt σ_4 := trivial
      refine w_cast (o := 2) hx hb hK.1 hY (by decide) 0 rfl rfl b_3 dX6_goes_72 (ob' := obM ad ci σ_4) (by rw [e_σ_4]; exact obM_pA (by rw [← gA_up]; rfl)) (fun H locs hY => ?_)
      refine lv_iinc (v := (x2 + 1)) (lv' := [(2, .int (x2 + 1)), (0, .ref (ad 0)), (1, .int x1)]) hx hb dX6_goes_73 hl (k := 2) rfl rfl (by decide) rfl (fun ls hl => ?_)
      refine lv_goto (tgt := 42) hx hb dX6_goes_76 (by decide) ?_
      exact ih σ_4 (x2 + 1) h _ _ hY hR_σ_4  _ (lv_sub hl [1, 2, 0] rfl)
set_option maxHeartbeats 4000000 in
set_option maxRecDepth 100000 in
theorem eX6_goes (C0 : CallFix p m c cX6_goes 3 s args wsX6_goes RX6) (hK : Kx D (tyM ci) s) (K : St → Prop) (σ : St) (hret : ∀ (u : St) (H : Heap) (locs : List Loc) (pc : Nat) (ls : Array Slot), K u → Sy D 12 ad A H0 (obM ad ci u) H locs → tt u → decode cX6_goes pc = .ok (.return_, 1) → W p l e rmX6_goes s m args below meth c H locs 0 0 Q (F0 m pc ls [])) (x1 : Int32) (h : wX6_goes σ x1 K) (H : Heap) (locs : List Loc) (hY : Sy D 12 ad A H0 (obM ad ci σ) H locs) (hR : tt σ) (ls : Array Slot) (hl : lv_has ls 3 [(0, .ref (ad 0)), (1, .int x1)]) : W p l e rmX6_goes s m args below meth c H locs 0 0 Q (F0 m 0 ls []) := by
  obtain ⟨hx, hb, hml, hown, hts⟩ := id C0
  refine lv_aload_n hx hb dX6_goes_0 rfl (lv_at hl 0 rfl) ?_
  refine lv_dup hx hb dX6_goes_1 rfl ?_
  refine w_get (o := 0) (ci := 6) (C := RX6) (T := TX6) (N1 := 14) (v := .int (gI σ 2)) hx hb hts kX6_goes_inX6 hown hK.1 hY (by decide) obM_main rfl 9 (by decide) (hts _ kX6_goes_2) rfl rfl dX6_goes_2 ?_
  refine lv_iconst (v := (1 : Int32)) hx hb dX6_goes_5 (by decide) ?_
  refine lv_isub hx hb dX6_goes_6 ?_
  obtain ⟨σ_5, e_σ_5⟩ : ∃ z : St, z = pI σ 2 ((gI σ 2) - (1 : Int32)) := ⟨_, rfl⟩
  have h := h σ_5 e_σ_5
  have hR_σ_5 : tt σ_5 := trivial
  refine w_put (o := 0) (ci := 6) (C := RX6) (T := TX6) (N1 := 14) hx hb hts kX6_goes_inX6 tyX6 tyX6_ok nmX6 hown hK.1 hY (by decide) obM_main rfl 9 (by decide) (hts _ kX6_goes_2) rfl rfl rfl (Nat.le_of_ble_eq_true rfl) dX6_goes_7 (ob' := obM ad ci σ_5) (by rw [e_σ_5]; exact obM_pI rfl) (fun H locs hY => ?_)
  refine lv_aload_n hx hb dX6_goes_10 rfl (lv_at hl 0 rfl) ?_
  refine w_get (o := 0) (ci := 6) (C := RX6) (T := TX6) (N1 := 14) (v := .ref (ad 5)) hx hb hts kX6_goes_inX6 hown hK.1 hY (by decide) obM_main rfl 5 (by decide) (hts _ kX6_goes_3) rfl rfl dX6_goes_11 ?_
  refine lv_iload_n hx hb dX6_goes_14 rfl (lv_at hl 1 rfl) ?_
  refine lv_aload_n hx hb dX6_goes_15 rfl (lv_at hl 0 rfl) ?_
  refine w_get (o := 0) (ci := 6) (C := RX6) (T := TX6) (N1 := 14) (v := .ref (ad 5)) hx hb hts kX6_goes_inX6 hown hK.1 hY (by decide) obM_main rfl 5 (by decide) (hts _ kX6_goes_3) rfl rfl dX6_goes_16 ?_
  refine lv_aload_n hx hb dX6_goes_19 rfl (lv_at hl 0 rfl) ?_
  refine w_get (o := 0) (ci := 6) (C := RX6) (T := TX6) (N1 := 14) (v := .int (gI σ_5 2)) hx hb hts kX6_goes_inX6 hown hK.1 hY (by decide) obM_main rfl 9 (by decide) (hts _ kX6_goes_2) rfl rfl dX6_goes_20 ?_
  obtain ⟨b_6, h⟩ := h
  refine w_iald (o := 5) hx hb hK.1 hY (by decide) 1 rfl rfl b_6 dX6_goes_23 ?_
  obtain ⟨b_7, h⟩ := h
  obtain ⟨σ_8, e_σ_8⟩ : ∃ z : St, z = pA σ_5 5 (x1).toNatClampNeg (gA σ_5 5 ((gI σ_5 2)).toNatClampNeg) := ⟨_, rfl⟩
  have h := h σ_8 e_σ_8
  have hR_σ_8 : tt σ_8 := trivial
  refine w_iast (o := 5) hx hb hK.1 hY (by decide) 1 rfl rfl b_7 dX6_goes_24 (ob' := obM ad ci σ_8) (by rw [e_σ_8]; exact obM_pA (by rw [← gA_up]; rfl)) (fun H locs hY => ?_)
  refine lv_aload_n hx hb dX6_goes_25 rfl (lv_at hl 0 rfl) ?_
  refine w_get (o := 0) (ci := 6) (C := RX6) (T := TX6) (N1 := 14) (v := .ref (ad 6)) hx hb hts kX6_goes_inX6 hown hK.1 hY (by decide) obM_main rfl 6 (by decide) (hts _ kX6_goes_4) rfl rfl dX6_goes_26 ?_
  refine lv_iload_n hx hb dX6_goes_29 rfl (lv_at hl 1 rfl) ?_
  refine lv_aload_n hx hb dX6_goes_30 rfl (lv_at hl 0 rfl) ?_
  refine w_get (o := 0) (ci := 6) (C := RX6) (T := TX6) (N1 := 14) (v := .ref (ad 6)) hx hb hts kX6_goes_inX6 hown hK.1 hY (by decide) obM_main rfl 6 (by decide) (hts _ kX6_goes_4) rfl rfl dX6_goes_31 ?_
  refine lv_aload_n hx hb dX6_goes_34 rfl (lv_at hl 0 rfl) ?_
  refine w_get (o := 0) (ci := 6) (C := RX6) (T := TX6) (N1 := 14) (v := .int (gI σ_8 2)) hx hb hts kX6_goes_inX6 hown hK.1 hY (by decide) obM_main rfl 9 (by decide) (hts _ kX6_goes_2) rfl rfl dX6_goes_35 ?_
  obtain ⟨b_9, h⟩ := h
  refine w_iald (o := 6) hx hb hK.1 hY (by decide) 1 rfl rfl b_9 dX6_goes_38 ?_
  obtain ⟨b_10, h⟩ := h
  obtain ⟨σ_11, e_σ_11⟩ : ∃ z : St, z = pA σ_8 6 (x1).toNatClampNeg (gA σ_8 6 ((gI σ_8 2)).toNatClampNeg) := ⟨_, rfl⟩
  have h := h σ_11 e_σ_11
  have hR_σ_11 : tt σ_11 := trivial
  refine w_iast (o := 6) hx hb hK.1 hY (by decide) 1 rfl rfl b_10 dX6_goes_39 (ob' := obM ad ci σ_11) (by rw [e_σ_11]; exact obM_pA (by rw [← gA_up]; rfl)) (fun H locs hY => ?_)
  refine lv_iconst (v := (0 : Int32)) hx hb dX6_goes_40 (by decide) ?_
  refine lv_istore_n (lv' := [(2, .int (0 : Int32)), (0, .ref (ad 0)), (1, .int x1)]) hx hb dX6_goes_41 rfl hl (by decide) rfl (fun ls hl => ?_)
  obtain ⟨n_12, h⟩ := h
  exact tX6_goes_L42 C0 hK K x1 hret n_12 σ_11 (0 : Int32) h _ _ hY hR_σ_11  _ (lv_sub hl [1, 2, 0] rfl)
set_option maxHeartbeats 4000000 in
set_option maxRecDepth 100000 in
theorem mX6_goes (l : Launch) (D : va_G) (ad : Nat → Nat) (ci : Nat → ClassId) (A : Nat → Prop) (σ : St) (x1 : Int32) (K : St → Prop) (hR : tt σ) (h : wX6_goes σ x1 K) : Met l yX6_goes wsX6_goes rmX6_goes (va_Pc [.ref (ad 0), .int x1] (PreW D 12 ad A (tyM ci) (obM ad ci σ))) (va_Qv (fun u => K u) (PostW D 12 ad (tyM ci) (obM ad ci) tt) A) 0 0 A := by
  refine Met.ofW (cc := cX6_goes) (maxL := 3) (ret := none) (by decide) rfl ?_
  intro p e s m args below meth c s₁ B hml hv
  obtain ⟨rfl, hP, hK, hD⟩ := hv
  have C0 : CallFix p m c cX6_goes 3 s _ wsX6_goes RX6 := ⟨B.exec, B.bytes, hml, findClass_of_methodNamed B.named, atoms_spec (ws := wsX6_goes) B.pre⟩
  have hlocks := B.notSynchronized
  have hY : Sy D 12 ad A s.heap (obM ad ci σ) s.heap [] := ⟨hP, hD, va_S.rf⟩
  have hl := lv_entry ([.ref (ad 0), .int x1]) (n := 3) (Nat.le_of_ble_eq_true rfl)
  rw [lg_entry_eq]
  generalize (lg_sl ([.ref (ad 0), .int x1]) ++ List.replicate (3 - (lg_sl ([.ref (ad 0), .int x1])).length) Slot.unset).toArray = ls at hl ⊢
  exact eX6_goes C0 hK K σ (fun u H locs pc ls hk hY hR hd => w_vret (I := tt) B.exec B.bytes B.returns hlocks hK hk (fun t ht => ht) hY hR hd) x1 h _ _ hY hR ls hl
set_option maxHeartbeats 4000000 in
set_option maxRecDepth 100000 in
theorem tX6_type_J26 (C0 : CallFix p m c cX6_type 2 s args wsX6_type RX6) (hK : Kx D (tyM ci) s) (K : Int32 → St → Prop) (σ : St) (x1 : Int32) (s1 : Int32) (hret : ∀ (r : Int32) (u : St) (H : Heap) (locs : List Loc) (pc : Nat) (ls : Array Slot), K r u → Sy D 12 ad A H0 (obM ad ci u) H locs → tt u → decode cX6_type pc = .ok (.ireturn, 1) → W p l e rmX6_type s m args below meth c H locs 0 0 Q (F0 m pc ls [.int r])) (h : wX6_type_J26 K σ x1 s1) (H : Heap) (locs : List Loc) (hY : Sy D 12 ad A H0 (obM ad ci σ) H locs) (hR : tt σ) (ls : Array Slot) (hl : lv_has ls 2 [(0, .ref (ad 0)), (1, .int x1)]) : W p l e rmX6_type s m args below meth c H locs 0 0 Q (F0 m 26 ls [.int s1, .ref (ad 0)]) := by
  obtain ⟨hx, hb, hml, hown, hts⟩ := id C0
  refine w_calli (rest := []) (va_runV (As := [.int s1]) (rest := []) C0 (mX6_fails l D ad ci A σ s1 _ hR  h) (cwV 1 hts gX6_type_X6_fails rfl rfl rfl ddX6_fails ⟨Nat.le_of_ble_eq_true rfl, Nat.le_of_ble_eq_true rfl⟩) (w_preV (o := 0) (ci := 6) (ob := obM ad ci) (σ := σ) hK hY (by decide) obM_main rfl rfl) rfl rfl hl.1 rfl (lv_room (Nat.le_of_ble_eq_true rfl)) dX6_type_26 ⟨Nat.zero_le _, Nat.zero_le _⟩) hY (fun r_1 σ_2 H locs h hY hR_σ_2 => ?_)
  obtain ⟨n_r_1, h⟩ := h
  refine lv_if_eq (tgt := 34) hx hb dX6_type_29 (by decide) (fun c_3 => ?_) (fun c_3 => ?_)
  · have h := h.1 c_3
    refine lv_aload_n hx hb dX6_type_34 rfl (lv_at hl 0 rfl) ?_
    refine w_get (o := 0) (ci := 6) (C := RX6) (T := TX6) (N1 := 14) (v := .ref (ad 1)) hx hb hts kX6_type_inX6 hown hK.1 hY (by decide) obM_main rfl 1 (by decide) (hts _ kX6_type_0) rfl rfl dX6_type_35 ?_
    refine lv_aload_n hx hb dX6_type_38 rfl (lv_at hl 0 rfl) ?_
    refine w_get (o := 0) (ci := 6) (C := RX6) (T := TX6) (N1 := 14) (v := .int (gI σ_2 1)) hx hb hts kX6_type_inX6 hown hK.1 hY (by decide) obM_main rfl 8 (by decide) (hts _ kX6_type_2) rfl rfl dX6_type_39 ?_
    refine lv_iload_n hx hb dX6_type_42 rfl (lv_at hl 1 rfl) ?_
    obtain ⟨b_4, h⟩ := h
    obtain ⟨σ_5, e_σ_5⟩ : ∃ z : St, z = pA σ_2 1 ((gI σ_2 1)).toNatClampNeg (vp_nar .char x1) := ⟨_, rfl⟩
    have h := h σ_5 e_σ_5
    have hR_σ_5 : tt σ_5 := trivial
    refine w_cast (o := 1) hx hb hK.1 hY (by decide) 0 rfl rfl b_4 dX6_type_43 (ob' := obM ad ci σ_5) (by rw [e_σ_5]; exact obM_pA (by rw [← gA_up]; rfl)) (fun H locs hY => ?_)
    refine lv_aload_n hx hb dX6_type_44 rfl (lv_at hl 0 rfl) ?_
    refine lv_dup hx hb dX6_type_45 rfl ?_
    refine w_get (o := 0) (ci := 6) (C := RX6) (T := TX6) (N1 := 14) (v := .int (gI σ_5 1)) hx hb hts kX6_type_inX6 hown hK.1 hY (by decide) obM_main rfl 8 (by decide) (hts _ kX6_type_2) rfl rfl dX6_type_46 ?_
    refine lv_iconst (v := (1 : Int32)) hx hb dX6_type_49 (by decide) ?_
    refine lv_iadd hx hb dX6_type_50 ?_
    obtain ⟨σ_6, e_σ_6⟩ : ∃ z : St, z = pI σ_5 1 ((gI σ_5 1) + (1 : Int32)) := ⟨_, rfl⟩
    have h := h σ_6 e_σ_6
    have hR_σ_6 : tt σ_6 := trivial
    refine w_put (o := 0) (ci := 6) (C := RX6) (T := TX6) (N1 := 14) hx hb hts kX6_type_inX6 tyX6 tyX6_ok nmX6 hown hK.1 hY (by decide) obM_main rfl 8 (by decide) (hts _ kX6_type_2) rfl rfl rfl (Nat.le_of_ble_eq_true rfl) dX6_type_51 (ob' := obM ad ci σ_6) (by rw [e_σ_6]; exact obM_pI rfl) (fun H locs hY => ?_)
    refine lv_aload_n hx hb dX6_type_54 rfl (lv_at hl 0 rfl) ?_
    refine w_get (o := 0) (ci := 6) (C := RX6) (T := TX6) (N1 := 14) (v := .int (gI σ_6 1)) hx hb hts kX6_type_inX6 hown hK.1 hY (by decide) obM_main rfl 8 (by decide) (hts _ kX6_type_2) rfl rfl dX6_type_55 ?_
    exact hret (gI σ_6 1) σ_6 _ _ _ _ h hY hR_σ_6 dX6_type_58
  · have h := h.2 c_3
    refine lv_iconst (v := (0 : Int32)) hx hb dX6_type_32 (by decide) ?_
    exact hret (0 : Int32) σ_2 _ _ _ _ h hY hR_σ_2 dX6_type_33
set_option maxHeartbeats 4000000 in
set_option maxRecDepth 100000 in
theorem eX6_type (C0 : CallFix p m c cX6_type 2 s args wsX6_type RX6) (hK : Kx D (tyM ci) s) (K : Int32 → St → Prop) (σ : St) (hret : ∀ (r : Int32) (u : St) (H : Heap) (locs : List Loc) (pc : Nat) (ls : Array Slot), K r u → Sy D 12 ad A H0 (obM ad ci u) H locs → tt u → decode cX6_type pc = .ok (.ireturn, 1) → W p l e rmX6_type s m args below meth c H locs 0 0 Q (F0 m pc ls [.int r])) (x1 : Int32) (h : wX6_type σ x1 K) (H : Heap) (locs : List Loc) (hY : Sy D 12 ad A H0 (obM ad ci σ) H locs) (hR : tt σ) (ls : Array Slot) (hl : lv_has ls 2 [(0, .ref (ad 0)), (1, .int x1)]) : W p l e rmX6_type s m args below meth c H locs 0 0 Q (F0 m 0 ls []) := by
  obtain ⟨hx, hb, hml, hown, hts⟩ := id C0
  refine lv_aload_n hx hb dX6_type_0 rfl (lv_at hl 0 rfl) ?_
  refine lv_iload_n hx hb dX6_type_1 rfl (lv_at hl 1 rfl) ?_
  refine w_callip (rest := [.ref (ad 0)]) (va_runS (As := [.int x1]) (rest := [.ref (ad 0)]) C0 (mX6_isSign l D ad ci A σ x1 _ hR  h) (va_cwS 1 hts gX6_type_X6_isSign rfl rfl rfl ddX6_isSign ⟨Nat.le_of_ble_eq_true rfl, Nat.le_of_ble_eq_true rfl⟩) (w_preS (ob := obM ad ci) (σ := σ) hK hY) rfl rfl hl.1 rfl (lv_room (Nat.le_of_ble_eq_true rfl)) dX6_type_2 ⟨Nat.zero_le _, Nat.zero_le _⟩) hY (fun r_7 H locs h hY => ?_)
  obtain ⟨n_r_7, h⟩ := h
  refine lv_if_ne (tgt := 12) hx hb dX6_type_5 (by decide) (fun c_8 => ?_) (fun c_8 => ?_)
  · have h := h.2 c_8
    refine lv_aload_n hx hb dX6_type_12 rfl (lv_at hl 0 rfl) ?_
    refine w_get (o := 0) (ci := 6) (C := RX6) (T := TX6) (N1 := 14) (v := .int (gI σ 1)) hx hb hts kX6_type_inX6 hown hK.1 hY (by decide) obM_main rfl 8 (by decide) (hts _ kX6_type_2) rfl rfl dX6_type_13 ?_
    refine lv_bipush (v := (24 : Int32)) hx hb dX6_type_16 (by decide) ?_
    refine lv_icmp_ne (tgt := 25) hx hb dX6_type_18 (by decide) (fun c_9 => ?_) (fun c_9 => ?_)
    · have h := h.2 c_9
      refine lv_iconst (v := (0 : Int32)) hx hb dX6_type_25 (by decide) ?_
      exact tX6_type_J26 C0 hK K σ x1 (0 : Int32) hret h _ _ hY hR _ (lv_sub hl [0, 1] rfl)
    · have h := h.1 c_9
      refine lv_iconst (v := (2 : Int32)) hx hb dX6_type_21 (by decide) ?_
      refine lv_goto (tgt := 26) hx hb dX6_type_22 (by decide) ?_
      exact tX6_type_J26 C0 hK K σ x1 (2 : Int32) hret h _ _ hY hR _ (lv_sub hl [0, 1] rfl)
  · have h := h.1 c_8
    refine lv_iconst (v := (1 : Int32)) hx hb dX6_type_8 (by decide) ?_
    refine lv_goto (tgt := 26) hx hb dX6_type_9 (by decide) ?_
    exact tX6_type_J26 C0 hK K σ x1 (1 : Int32) hret h _ _ hY hR _ (lv_sub hl [0, 1] rfl)
set_option maxHeartbeats 4000000 in
set_option maxRecDepth 100000 in
theorem mX6_type (l : Launch) (D : va_G) (ad : Nat → Nat) (ci : Nat → ClassId) (A : Nat → Prop) (σ : St) (x1 : Int32) (K : Int32 → St → Prop) (hR : tt σ) (h : wX6_type σ x1 K) : Met l yX6_type wsX6_type rmX6_type (va_Pc [.ref (ad 0), .int x1] (PreW D 12 ad A (tyM ci) (obM ad ci σ))) (va_Qi (fun r u => K r u) (PostW D 12 ad (tyM ci) (obM ad ci) tt) A) 0 0 A := by
  refine Met.ofW (cc := cX6_type) (maxL := 2) (ret := (some .int)) (by decide) rfl ?_
  intro p e s m args below meth c s₁ B hml hv
  obtain ⟨rfl, hP, hK, hD⟩ := hv
  have C0 : CallFix p m c cX6_type 2 s _ wsX6_type RX6 := ⟨B.exec, B.bytes, hml, findClass_of_methodNamed B.named, atoms_spec (ws := wsX6_type) B.pre⟩
  have hlocks := B.notSynchronized
  have hY : Sy D 12 ad A s.heap (obM ad ci σ) s.heap [] := ⟨hP, hD, va_S.rf⟩
  have hl := lv_entry ([.ref (ad 0), .int x1]) (n := 2) (Nat.le_of_ble_eq_true rfl)
  rw [lg_entry_eq]
  generalize (lg_sl ([.ref (ad 0), .int x1]) ++ List.replicate (2 - (lg_sl ([.ref (ad 0), .int x1])).length) Slot.unset).toArray = ls at hl ⊢
  exact eX6_type C0 hK K σ (fun r u H locs pc ls hk hY hR hd => w_iret (I := tt) B.exec B.bytes B.returns hlocks hK hk (fun t ht => ht) hY hR hd) x1 h _ _ hY hR ls hl
set_option maxHeartbeats 4000000 in
set_option maxRecDepth 100000 in
theorem tX6_typeMore_L54 (C0 : CallFix p m c cX6_typeMore 5 s args wsX6_typeMore RX6) (hK : Kx D (tyM ci) s) (K : Int32 → St → Prop) (x1 : Int32) (hret : ∀ (r : Int32) (u : St) (H : Heap) (locs : List Loc) (pc : Nat) (ls : Array Slot), K r u → Sy D 12 ad A H0 (obM ad ci u) H locs → tt u → decode cX6_typeMore pc = .ok (.ireturn, 1) → W p l e rmX6_typeMore s m args below meth c H locs 0 0 Q (F0 m pc ls [.int r])) : ∀ (n : Nat) (σ : St) (x3 : Int32) (x4 : Int32), wX6_typeMore_L54 K x1 n σ x3 x4 → ∀ (H : Heap) (locs : List Loc), Sy D 12 ad A H0 (obM ad ci σ) H locs → tt σ → ∀ ls : Array Slot, lv_has ls 5 [(0, .ref (ad 0)), (1, .int x1), (3, .int x3), (4, .int x4)] → W p l e rmX6_typeMore s m args below meth c H locs 0 0 Q (F0 m 54 ls []) := by
  obtain ⟨hx, hb, hml, hown, hts⟩ := id C0
  intro n
  induction n with
  | zero =>
    intro σ x3 x4 h
    exact h.elim
  | succ n ih =>
    intro σ x3 x4 h H locs hY hR  ls hl
    refine lv_iload hx hb dX6_typeMore_54 (lv_at hl 3 rfl) ?_
    refine lv_iload_n hx hb dX6_typeMore_56 rfl (lv_at hl 1 rfl) ?_
    refine lv_icmp_ge (tgt := 98) hx hb dX6_typeMore_57 (by decide) (fun c_1 => ?_) (fun c_1 => ?_)
    · have h := h.1 c_1
      refine lv_aload_n hx hb dX6_typeMore_98 rfl (lv_at hl 0 rfl) ?_
      refine w_get (o := 0) (ci := 6) (C := RX6) (T := TX6) (N1 := 14) (v := .int (gI σ 1)) hx hb hts kX6_typeMore_inX6 hown hK.1 hY (by decide) obM_main rfl 8 (by decide) (hts _ kX6_typeMore_0) rfl rfl dX6_typeMore_99 ?_
      exact hret (gI σ 1) σ _ _ _ _ h hY hR dX6_typeMore_102
    · have h := h.2 c_1
      refine lv_aload_n hx hb dX6_typeMore_60 rfl (lv_at hl 0 rfl) ?_
      refine w_get (o := 0) (ci := 6) (C := RX6) (T := TX6) (N1 := 14) (v := .ref (ad 1)) hx hb hts kX6_typeMore_inX6 hown hK.1 hY (by decide) obM_main rfl 1 (by decide) (hts _ kX6_typeMore_2) rfl rfl dX6_typeMore_61 ?_
      refine lv_aload_n hx hb dX6_typeMore_64 rfl (lv_at hl 0 rfl) ?_
      refine w_get (o := 0) (ci := 6) (C := RX6) (T := TX6) (N1 := 14) (v := .int (gI σ 1)) hx hb hts kX6_typeMore_inX6 hown hK.1 hY (by decide) obM_main rfl 8 (by decide) (hts _ kX6_typeMore_0) rfl rfl dX6_typeMore_65 ?_
      refine lv_bipush (v := (97 : Int32)) hx hb dX6_typeMore_68 (by decide) ?_
      refine lv_iload_n hx hb dX6_typeMore_70 rfl (lv_at hl 2 rfl) ?_
      refine lv_bipush (v := (6 : Int32)) hx hb dX6_typeMore_71 (by decide) ?_
      refine lv_irem hx hb dX6_typeMore_73 (by decide) ?_
      refine lv_iadd hx hb dX6_typeMore_74 ?_
      refine lv_i2c hx hb dX6_typeMore_75 rfl ?_
      obtain ⟨b_2, h⟩ := h
      obtain ⟨σ_3, e_σ_3⟩ : ∃ z : St, z = pA σ 1 ((gI σ 1)).toNatClampNeg (vp_nar .char ((((97 : Int32) + (x3 - x3 / (6 : Int32) * (6 : Int32)))).toUInt32 % 65536).toInt32) := ⟨_, rfl⟩
      have h := h σ_3 e_σ_3
      have hR_σ_3 : tt σ_3 := trivial
      refine w_cast (o := 1) hx hb hK.1 hY (by decide) 0 rfl rfl b_2 dX6_typeMore_76 (ob' := obM ad ci σ_3) (by rw [e_σ_3]; exact obM_pA (by rw [← gA_up]; rfl)) (fun H locs hY => ?_)
      refine lv_aload_n hx hb dX6_typeMore_77 rfl (lv_at hl 0 rfl) ?_
      refine lv_dup hx hb dX6_typeMore_78 rfl ?_
      refine w_get (o := 0) (ci := 6) (C := RX6) (T := TX6) (N1 := 14) (v := .int (gI σ_3 1)) hx hb hts kX6_typeMore_inX6 hown hK.1 hY (by decide) obM_main rfl 8 (by decide) (hts _ kX6_typeMore_0) rfl rfl dX6_typeMore_79 ?_
      refine lv_iconst (v := (1 : Int32)) hx hb dX6_typeMore_82 (by decide) ?_
      refine lv_iadd hx hb dX6_typeMore_83 ?_
      obtain ⟨σ_4, e_σ_4⟩ : ∃ z : St, z = pI σ_3 1 ((gI σ_3 1) + (1 : Int32)) := ⟨_, rfl⟩
      have h := h σ_4 e_σ_4
      have hR_σ_4 : tt σ_4 := trivial
      refine w_put (o := 0) (ci := 6) (C := RX6) (T := TX6) (N1 := 14) hx hb hts kX6_typeMore_inX6 tyX6 tyX6_ok nmX6 hown hK.1 hY (by decide) obM_main rfl 8 (by decide) (hts _ kX6_typeMore_0) rfl rfl rfl (Nat.le_of_ble_eq_true rfl) dX6_typeMore_84 (ob' := obM ad ci σ_4) (by rw [e_σ_4]; exact obM_pI rfl) (fun H locs hY => ?_)
      refine lv_iload_n hx hb dX6_typeMore_87 rfl (lv_at hl 2 rfl) ?_
      refine lv_bipush (v := (6 : Int32)) hx hb dX6_typeMore_88 (by decide) ?_
      refine lv_idiv hx hb dX6_typeMore_90 (by decide) ?_
      refine lv_istore_n (lv' := [(3, .int (x3 / (6 : Int32))), (0, .ref (ad 0)), (1, .int x1), (4, .int x4)]) hx hb dX6_typeMore_91 rfl hl (by decide) rfl (fun ls hl => ?_)
      refine lv_iinc (v := (x4 + 1)) (lv' := [(4, .int (x4 + 1)), (3, .int (x3 / (6 : Int32))), (0, .ref (ad 0)), (1, .int x1)]) hx hb dX6_typeMore_92 hl (k := 3) rfl rfl (by decide) rfl (fun ls hl => ?_)
      refine lv_goto (tgt := 54) hx hb dX6_typeMore_95 (by decide) ?_
      exact ih σ_4 (x3 / (6 : Int32)) (x4 + 1) h _ _ hY hR_σ_4  _ (lv_sub hl [2, 3, 1, 0] rfl)
set_option maxHeartbeats 4000000 in
set_option maxRecDepth 100000 in
theorem tX6_typeMore_J41 (C0 : CallFix p m c cX6_typeMore 5 s args wsX6_typeMore RX6) (hK : Kx D (tyM ci) s) (K : Int32 → St → Prop) (σ : St) (x1 : Int32) (x2 : Int32) (s1 : Int32) (hret : ∀ (r : Int32) (u : St) (H : Heap) (locs : List Loc) (pc : Nat) (ls : Array Slot), K r u → Sy D 12 ad A H0 (obM ad ci u) H locs → tt u → decode cX6_typeMore pc = .ok (.ireturn, 1) → W p l e rmX6_typeMore s m args below meth c H locs 0 0 Q (F0 m pc ls [.int r])) (h : wX6_typeMore_J41 K σ x1 x2 s1) (H : Heap) (locs : List Loc) (hY : Sy D 12 ad A H0 (obM ad ci σ) H locs) (hR : tt σ) (ls : Array Slot) (hl : lv_has ls 5 [(0, .ref (ad 0)), (1, .int x1), (2, .int x2)]) : W p l e rmX6_typeMore s m args below meth c H locs 0 0 Q (F0 m 41 ls [.int s1, .ref (ad 0)]) := by
  obtain ⟨hx, hb, hml, hown, hts⟩ := id C0
  refine w_calli (rest := []) (va_runV (As := [.int s1]) (rest := []) C0 (mX6_fails l D ad ci A σ s1 _ hR  h) (cwV 1 hts gX6_typeMore_X6_fails rfl rfl rfl ddX6_fails ⟨Nat.le_of_ble_eq_true rfl, Nat.le_of_ble_eq_true rfl⟩) (w_preV (o := 0) (ci := 6) (ob := obM ad ci) (σ := σ) hK hY (by decide) obM_main rfl rfl) rfl rfl hl.1 rfl (lv_room (Nat.le_of_ble_eq_true rfl)) dX6_typeMore_41 ⟨Nat.zero_le _, Nat.zero_le _⟩) hY (fun r_5 σ_6 H locs h hY hR_σ_6 => ?_)
  obtain ⟨n_r_5, h⟩ := h
  refine lv_if_eq (tgt := 49) hx hb dX6_typeMore_44 (by decide) (fun c_7 => ?_) (fun c_7 => ?_)
  · have h := h.1 c_7
    refine lv_iload_n hx hb dX6_typeMore_49 rfl (lv_at hl 2 rfl) ?_
    refine lv_istore_n (lv' := [(3, .int x2), (0, .ref (ad 0)), (1, .int x1), (2, .int x2)]) hx hb dX6_typeMore_50 rfl hl (by decide) rfl (fun ls hl => ?_)
    refine lv_iconst (v := (0 : Int32)) hx hb dX6_typeMore_51 (by decide) ?_
    refine lv_istore (lv' := [(4, .int (0 : Int32)), (3, .int x2), (0, .ref (ad 0)), (1, .int x1), (2, .int x2)]) hx hb dX6_typeMore_52 hl (by decide) rfl (fun ls hl => ?_)
    obtain ⟨n_8, h⟩ := h
    exact tX6_typeMore_L54 C0 hK K x1 hret n_8 σ_6 x2 (0 : Int32) h _ _ hY hR_σ_6  _ (lv_sub hl [2, 3, 1, 0] rfl)
  · have h := h.2 c_7
    refine lv_iconst (v := (0 : Int32)) hx hb dX6_typeMore_47 (by decide) ?_
    exact hret (0 : Int32) σ_6 _ _ _ _ h hY hR_σ_6 dX6_typeMore_48
set_option maxHeartbeats 4000000 in
set_option maxRecDepth 100000 in
theorem tX6_typeMore_J21 (C0 : CallFix p m c cX6_typeMore 5 s args wsX6_typeMore RX6) (hK : Kx D (tyM ci) s) (K : Int32 → St → Prop) (σ : St) (x1 : Int32) (x2 : Int32) (hret : ∀ (r : Int32) (u : St) (H : Heap) (locs : List Loc) (pc : Nat) (ls : Array Slot), K r u → Sy D 12 ad A H0 (obM ad ci u) H locs → tt u → decode cX6_typeMore pc = .ok (.ireturn, 1) → W p l e rmX6_typeMore s m args below meth c H locs 0 0 Q (F0 m pc ls [.int r])) (h : wX6_typeMore_J21 K σ x1 x2) (H : Heap) (locs : List Loc) (hY : Sy D 12 ad A H0 (obM ad ci σ) H locs) (hR : tt σ) (ls : Array Slot) (hl : lv_has ls 5 [(0, .ref (ad 0)), (1, .int x1), (2, .int x2)]) : W p l e rmX6_typeMore s m args below meth c H locs 0 0 Q (F0 m 21 ls [.ref (ad 0)]) := by
  obtain ⟨hx, hb, hml, hown, hts⟩ := id C0
  refine lv_iconst (v := (1 : Int32)) hx hb dX6_typeMore_21 (by decide) ?_
  refine lv_goto (tgt := 41) hx hb dX6_typeMore_22 (by decide) ?_
  exact tX6_typeMore_J41 C0 hK K σ x1 x2 (1 : Int32) hret h _ _ hY hR _ (lv_sub hl [0, 1, 2] rfl)
set_option maxHeartbeats 4000000 in
set_option maxRecDepth 100000 in
theorem eX6_typeMore (C0 : CallFix p m c cX6_typeMore 5 s args wsX6_typeMore RX6) (hK : Kx D (tyM ci) s) (K : Int32 → St → Prop) (σ : St) (hret : ∀ (r : Int32) (u : St) (H : Heap) (locs : List Loc) (pc : Nat) (ls : Array Slot), K r u → Sy D 12 ad A H0 (obM ad ci u) H locs → tt u → decode cX6_typeMore pc = .ok (.ireturn, 1) → W p l e rmX6_typeMore s m args below meth c H locs 0 0 Q (F0 m pc ls [.int r])) (x1 : Int32) (x2 : Int32) (h : wX6_typeMore σ x1 x2 K) (H : Heap) (locs : List Loc) (hY : Sy D 12 ad A H0 (obM ad ci σ) H locs) (hR : tt σ) (ls : Array Slot) (hl : lv_has ls 5 [(0, .ref (ad 0)), (1, .int x1), (2, .int x2)]) : W p l e rmX6_typeMore s m args below meth c H locs 0 0 Q (F0 m 0 ls []) := by
  obtain ⟨hx, hb, hml, hown, hts⟩ := id C0
  refine lv_aload_n hx hb dX6_typeMore_0 rfl (lv_at hl 0 rfl) ?_
  refine lv_iload_n hx hb dX6_typeMore_1 rfl (lv_at hl 1 rfl) ?_
  refine lv_iconst (v := (1 : Int32)) hx hb dX6_typeMore_2 (by decide) ?_
  refine lv_bipush (v := (8 : Int32)) hx hb dX6_typeMore_3 (by decide) ?_
  refine w_callip (rest := [.ref (ad 0)]) (va_runS (As := [.int x1, .int (1 : Int32), .int (8 : Int32)]) (rest := [.ref (ad 0)]) C0 (mX6_in l D ad ci A σ x1 (1 : Int32) (8 : Int32) _ hR  h) (va_cwS 3 hts gX6_typeMore_X6_in rfl rfl rfl ddX6_in ⟨Nat.le_of_ble_eq_true rfl, Nat.le_of_ble_eq_true rfl⟩) (w_preS (ob := obM ad ci) (σ := σ) hK hY) rfl rfl hl.1 rfl (lv_room (Nat.le_of_ble_eq_true rfl)) dX6_typeMore_5 ⟨Nat.zero_le _, Nat.zero_le _⟩) hY (fun r_9 H locs h hY => ?_)
  obtain ⟨n_r_9, h⟩ := h
  refine lv_if_eq (tgt := 21) hx hb dX6_typeMore_8 (by decide) (fun c_10 => ?_) (fun c_10 => ?_)
  · have h := h.1 c_10
    exact tX6_typeMore_J21 C0 hK K σ x1 x2 hret h _ _ hY hR _ (lv_sub hl [0, 1, 2] rfl)
  · have h := h.2 c_10
    refine lv_iload_n hx hb dX6_typeMore_11 rfl (lv_at hl 2 rfl) ?_
    refine lv_iconst (v := (0 : Int32)) hx hb dX6_typeMore_12 (by decide) ?_
    refine lv_ldc hx hb hown (hts _ kX6_typeMore_3) dX6_typeMore_13 ?_
    refine w_callip (rest := [.ref (ad 0)]) (va_runS (As := [.int x2, .int (0 : Int32), .int (1679615 : Int32)]) (rest := [.ref (ad 0)]) C0 (mX6_in l D ad ci A σ x2 (0 : Int32) (1679615 : Int32) _ hR  h) (va_cwS 3 hts gX6_typeMore_X6_in rfl rfl rfl ddX6_in ⟨Nat.le_of_ble_eq_true rfl, Nat.le_of_ble_eq_true rfl⟩) (w_preS (ob := obM ad ci) (σ := σ) hK hY) rfl rfl hl.1 rfl (lv_room (Nat.le_of_ble_eq_true rfl)) dX6_typeMore_15 ⟨Nat.zero_le _, Nat.zero_le _⟩) hY (fun r_11 H locs h hY => ?_)
    obtain ⟨n_r_11, h⟩ := h
    refine lv_if_ne (tgt := 25) hx hb dX6_typeMore_18 (by decide) (fun c_12 => ?_) (fun c_12 => ?_)
    · have h := h.2 c_12
      refine lv_aload_n hx hb dX6_typeMore_25 rfl (lv_at hl 0 rfl) ?_
      refine w_get (o := 0) (ci := 6) (C := RX6) (T := TX6) (N1 := 14) (v := .int (gI σ 1)) hx hb hts kX6_typeMore_inX6 hown hK.1 hY (by decide) obM_main rfl 8 (by decide) (hts _ kX6_typeMore_0) rfl rfl dX6_typeMore_26 ?_
      refine lv_iload_n hx hb dX6_typeMore_29 rfl (lv_at hl 1 rfl) ?_
      refine lv_iadd hx hb dX6_typeMore_30 ?_
      refine lv_bipush (v := (24 : Int32)) hx hb dX6_typeMore_31 (by decide) ?_
      refine lv_icmp_le (tgt := 40) hx hb dX6_typeMore_33 (by decide) (fun c_13 => ?_) (fun c_13 => ?_)
      · have h := h.1 c_13
        refine lv_iconst (v := (0 : Int32)) hx hb dX6_typeMore_40 (by decide) ?_
        exact tX6_typeMore_J41 C0 hK K σ x1 x2 (0 : Int32) hret h _ _ hY hR _ (lv_sub hl [0, 1, 2] rfl)
      · have h := h.2 c_13
        refine lv_iconst (v := (2 : Int32)) hx hb dX6_typeMore_36 (by decide) ?_
        refine lv_goto (tgt := 41) hx hb dX6_typeMore_37 (by decide) ?_
        exact tX6_typeMore_J41 C0 hK K σ x1 x2 (2 : Int32) hret h _ _ hY hR _ (lv_sub hl [0, 1, 2] rfl)
    · have h := h.1 c_12
      exact tX6_typeMore_J21 C0 hK K σ x1 x2 hret h _ _ hY hR _ (lv_sub hl [0, 1, 2] rfl)
set_option maxHeartbeats 4000000 in
set_option maxRecDepth 100000 in
theorem mX6_typeMore (l : Launch) (D : va_G) (ad : Nat → Nat) (ci : Nat → ClassId) (A : Nat → Prop) (σ : St) (x1 : Int32) (x2 : Int32) (K : Int32 → St → Prop) (hR : tt σ) (h : wX6_typeMore σ x1 x2 K) : Met l yX6_typeMore wsX6_typeMore rmX6_typeMore (va_Pc [.ref (ad 0), .int x1, .int x2] (PreW D 12 ad A (tyM ci) (obM ad ci σ))) (va_Qi (fun r u => K r u) (PostW D 12 ad (tyM ci) (obM ad ci) tt) A) 0 0 A := by
  refine Met.ofW (cc := cX6_typeMore) (maxL := 5) (ret := (some .int)) (by decide) rfl ?_
  intro p e s m args below meth c s₁ B hml hv
  obtain ⟨rfl, hP, hK, hD⟩ := hv
  have C0 : CallFix p m c cX6_typeMore 5 s _ wsX6_typeMore RX6 := ⟨B.exec, B.bytes, hml, findClass_of_methodNamed B.named, atoms_spec (ws := wsX6_typeMore) B.pre⟩
  have hlocks := B.notSynchronized
  have hY : Sy D 12 ad A s.heap (obM ad ci σ) s.heap [] := ⟨hP, hD, va_S.rf⟩
  have hl := lv_entry ([.ref (ad 0), .int x1, .int x2]) (n := 5) (Nat.le_of_ble_eq_true rfl)
  rw [lg_entry_eq]
  generalize (lg_sl ([.ref (ad 0), .int x1, .int x2]) ++ List.replicate (5 - (lg_sl ([.ref (ad 0), .int x1, .int x2])).length) Slot.unset).toArray = ls at hl ⊢
  exact eX6_typeMore C0 hK K σ (fun r u H locs pc ls hk hY hR hd => w_iret (I := tt) B.exec B.bytes B.returns hlocks hK hk (fun t ht => ht) hY hR hd) x1 x2 h _ _ hY hR ls hl
set_option maxHeartbeats 4000000 in
set_option maxRecDepth 100000 in
theorem tX6_typeAt_L55 (C0 : CallFix p m c cX6_typeAt 4 s args wsX6_typeAt RX6) (hK : Kx D (tyM ci) s) (K : Int32 → St → Prop) (x1 : Int32) (x2 : Int32) (hret : ∀ (r : Int32) (u : St) (H : Heap) (locs : List Loc) (pc : Nat) (ls : Array Slot), K r u → Sy D 12 ad A H0 (obM ad ci u) H locs → tt u → decode cX6_typeAt pc = .ok (.ireturn, 1) → W p l e rmX6_typeAt s m args below meth c H locs 0 0 Q (F0 m pc ls [.int r])) : ∀ (n : Nat) (σ : St) (x3 : Int32), wX6_typeAt_L55 K x1 x2 n σ x3 → ∀ (H : Heap) (locs : List Loc), Sy D 12 ad A H0 (obM ad ci σ) H locs → tt σ → ∀ ls : Array Slot, lv_has ls 4 [(0, .ref (ad 0)), (1, .int x1), (2, .int x2), (3, .int x3)] → W p l e rmX6_typeAt s m args below meth c H locs 0 0 Q (F0 m 55 ls []) := by
  obtain ⟨hx, hb, hml, hown, hts⟩ := id C0
  intro n
  induction n with
  | zero =>
    intro σ x3 h
    exact h.elim
  | succ n ih =>
    intro σ x3 h H locs hY hR  ls hl
    refine lv_iload_n hx hb dX6_typeAt_55 rfl (lv_at hl 3 rfl) ?_
    refine lv_iload_n hx hb dX6_typeAt_56 rfl (lv_at hl 1 rfl) ?_
    refine lv_icmp_le (tgt := 80) hx hb dX6_typeAt_57 (by decide) (fun c_1 => ?_) (fun c_1 => ?_)
    · have h := h.1 c_1
      refine lv_aload_n hx hb dX6_typeAt_80 rfl (lv_at hl 0 rfl) ?_
      refine w_get (o := 0) (ci := 6) (C := RX6) (T := TX6) (N1 := 14) (v := .ref (ad 1)) hx hb hts kX6_typeAt_inX6 hown hK.1 hY (by decide) obM_main rfl 1 (by decide) (hts _ kX6_typeAt_0) rfl rfl dX6_typeAt_81 ?_
      refine lv_iload_n hx hb dX6_typeAt_84 rfl (lv_at hl 1 rfl) ?_
      refine lv_iload_n hx hb dX6_typeAt_85 rfl (lv_at hl 2 rfl) ?_
      obtain ⟨b_2, h⟩ := h
      obtain ⟨σ_3, e_σ_3⟩ : ∃ z : St, z = pA σ 1 (x1).toNatClampNeg (vp_nar .char x2) := ⟨_, rfl⟩
      have h := h σ_3 e_σ_3
      have hR_σ_3 : tt σ_3 := trivial
      refine w_cast (o := 1) hx hb hK.1 hY (by decide) 0 rfl rfl b_2 dX6_typeAt_86 (ob' := obM ad ci σ_3) (by rw [e_σ_3]; exact obM_pA (by rw [← gA_up]; rfl)) (fun H locs hY => ?_)
      refine lv_aload_n hx hb dX6_typeAt_87 rfl (lv_at hl 0 rfl) ?_
      refine lv_dup hx hb dX6_typeAt_88 rfl ?_
      refine w_get (o := 0) (ci := 6) (C := RX6) (T := TX6) (N1 := 14) (v := .int (gI σ_3 1)) hx hb hts kX6_typeAt_inX6 hown hK.1 hY (by decide) obM_main rfl 8 (by decide) (hts _ kX6_typeAt_2) rfl rfl dX6_typeAt_89 ?_
      refine lv_iconst (v := (1 : Int32)) hx hb dX6_typeAt_92 (by decide) ?_
      refine lv_iadd hx hb dX6_typeAt_93 ?_
      obtain ⟨σ_4, e_σ_4⟩ : ∃ z : St, z = pI σ_3 1 ((gI σ_3 1) + (1 : Int32)) := ⟨_, rfl⟩
      have h := h σ_4 e_σ_4
      have hR_σ_4 : tt σ_4 := trivial
      refine w_put (o := 0) (ci := 6) (C := RX6) (T := TX6) (N1 := 14) hx hb hts kX6_typeAt_inX6 tyX6 tyX6_ok nmX6 hown hK.1 hY (by decide) obM_main rfl 8 (by decide) (hts _ kX6_typeAt_2) rfl rfl rfl (Nat.le_of_ble_eq_true rfl) dX6_typeAt_94 (ob' := obM ad ci σ_4) (by rw [e_σ_4]; exact obM_pI rfl) (fun H locs hY => ?_)
      refine lv_aload_n hx hb dX6_typeAt_97 rfl (lv_at hl 0 rfl) ?_
      refine w_get (o := 0) (ci := 6) (C := RX6) (T := TX6) (N1 := 14) (v := .int (gI σ_4 1)) hx hb hts kX6_typeAt_inX6 hown hK.1 hY (by decide) obM_main rfl 8 (by decide) (hts _ kX6_typeAt_2) rfl rfl dX6_typeAt_98 ?_
      exact hret (gI σ_4 1) σ_4 _ _ _ _ h hY hR_σ_4 dX6_typeAt_101
    · have h := h.2 c_1
      refine lv_aload_n hx hb dX6_typeAt_60 rfl (lv_at hl 0 rfl) ?_
      refine w_get (o := 0) (ci := 6) (C := RX6) (T := TX6) (N1 := 14) (v := .ref (ad 1)) hx hb hts kX6_typeAt_inX6 hown hK.1 hY (by decide) obM_main rfl 1 (by decide) (hts _ kX6_typeAt_0) rfl rfl dX6_typeAt_61 ?_
      refine lv_iload_n hx hb dX6_typeAt_64 rfl (lv_at hl 3 rfl) ?_
      refine lv_aload_n hx hb dX6_typeAt_65 rfl (lv_at hl 0 rfl) ?_
      refine w_get (o := 0) (ci := 6) (C := RX6) (T := TX6) (N1 := 14) (v := .ref (ad 1)) hx hb hts kX6_typeAt_inX6 hown hK.1 hY (by decide) obM_main rfl 1 (by decide) (hts _ kX6_typeAt_0) rfl rfl dX6_typeAt_66 ?_
      refine lv_iload_n hx hb dX6_typeAt_69 rfl (lv_at hl 3 rfl) ?_
      refine lv_iconst (v := (1 : Int32)) hx hb dX6_typeAt_70 (by decide) ?_
      refine lv_isub hx hb dX6_typeAt_71 ?_
      obtain ⟨b_5, h⟩ := h
      refine w_cald (o := 1) hx hb hK.1 hY (by decide) 0 rfl rfl b_5 dX6_typeAt_72 ?_
      obtain ⟨b_6, h⟩ := h
      obtain ⟨σ_7, e_σ_7⟩ : ∃ z : St, z = pA σ 1 (x3).toNatClampNeg (vp_nar .char (gA σ 1 ((x3 - (1 : Int32))).toNatClampNeg)) := ⟨_, rfl⟩
      have h := h σ_7 e_σ_7
      have hR_σ_7 : tt σ_7 := trivial
      refine w_cast (o := 1) hx hb hK.1 hY (by decide) 0 rfl rfl b_6 dX6_typeAt_73 (ob' := obM ad ci σ_7) (by rw [e_σ_7]; exact obM_pA (by rw [← gA_up]; rfl)) (fun H locs hY => ?_)
      refine lv_iinc (v := (x3 + (-1))) (lv' := [(3, .int (x3 + (-1))), (0, .ref (ad 0)), (1, .int x1), (2, .int x2)]) hx hb dX6_typeAt_74 hl (k := 3) rfl rfl (by decide) rfl (fun ls hl => ?_)
      refine lv_goto (tgt := 55) hx hb dX6_typeAt_77 (by decide) ?_
      exact ih σ_7 (x3 + (-1)) h _ _ hY hR_σ_7  _ (lv_sub hl [1, 2, 3, 0] rfl)
set_option maxHeartbeats 4000000 in
set_option maxRecDepth 100000 in
theorem tX6_typeAt_J42 (C0 : CallFix p m c cX6_typeAt 4 s args wsX6_typeAt RX6) (hK : Kx D (tyM ci) s) (K : Int32 → St → Prop) (σ : St) (x1 : Int32) (x2 : Int32) (s1 : Int32) (hret : ∀ (r : Int32) (u : St) (H : Heap) (locs : List Loc) (pc : Nat) (ls : Array Slot), K r u → Sy D 12 ad A H0 (obM ad ci u) H locs → tt u → decode cX6_typeAt pc = .ok (.ireturn, 1) → W p l e rmX6_typeAt s m args below meth c H locs 0 0 Q (F0 m pc ls [.int r])) (h : wX6_typeAt_J42 K σ x1 x2 s1) (H : Heap) (locs : List Loc) (hY : Sy D 12 ad A H0 (obM ad ci σ) H locs) (hR : tt σ) (ls : Array Slot) (hl : lv_has ls 4 [(0, .ref (ad 0)), (1, .int x1), (2, .int x2)]) : W p l e rmX6_typeAt s m args below meth c H locs 0 0 Q (F0 m 42 ls [.int s1, .ref (ad 0)]) := by
  obtain ⟨hx, hb, hml, hown, hts⟩ := id C0
  refine w_calli (rest := []) (va_runV (As := [.int s1]) (rest := []) C0 (mX6_fails l D ad ci A σ s1 _ hR  h) (cwV 1 hts gX6_typeAt_X6_fails rfl rfl rfl ddX6_fails ⟨Nat.le_of_ble_eq_true rfl, Nat.le_of_ble_eq_true rfl⟩) (w_preV (o := 0) (ci := 6) (ob := obM ad ci) (σ := σ) hK hY (by decide) obM_main rfl rfl) rfl rfl hl.1 rfl (lv_room (Nat.le_of_ble_eq_true rfl)) dX6_typeAt_42 ⟨Nat.zero_le _, Nat.zero_le _⟩) hY (fun r_8 σ_9 H locs h hY hR_σ_9 => ?_)
  obtain ⟨n_r_8, h⟩ := h
  refine lv_if_eq (tgt := 50) hx hb dX6_typeAt_45 (by decide) (fun c_10 => ?_) (fun c_10 => ?_)
  · have h := h.1 c_10
    refine lv_aload_n hx hb dX6_typeAt_50 rfl (lv_at hl 0 rfl) ?_
    refine w_get (o := 0) (ci := 6) (C := RX6) (T := TX6) (N1 := 14) (v := .int (gI σ_9 1)) hx hb hts kX6_typeAt_inX6 hown hK.1 hY (by decide) obM_main rfl 8 (by decide) (hts _ kX6_typeAt_2) rfl rfl dX6_typeAt_51 ?_
    refine lv_topi (fun x3_11 e_x3_11 => ?_)
    have h := h x3_11 e_x3_11
    refine lv_istore_n (lv' := [(3, .int x3_11), (0, .ref (ad 0)), (1, .int x1), (2, .int x2)]) hx hb dX6_typeAt_54 rfl hl (by decide) rfl (fun ls hl => ?_)
    obtain ⟨n_12, h⟩ := h
    exact tX6_typeAt_L55 C0 hK K x1 x2 hret n_12 σ_9 x3_11 h _ _ hY hR_σ_9  _ (lv_sub hl [1, 2, 3, 0] rfl)
  · have h := h.2 c_10
    refine lv_iconst (v := (0 : Int32)) hx hb dX6_typeAt_48 (by decide) ?_
    exact hret (0 : Int32) σ_9 _ _ _ _ h hY hR_σ_9 dX6_typeAt_49
set_option maxHeartbeats 4000000 in
set_option maxRecDepth 100000 in
theorem eX6_typeAt (C0 : CallFix p m c cX6_typeAt 4 s args wsX6_typeAt RX6) (hK : Kx D (tyM ci) s) (K : Int32 → St → Prop) (σ : St) (hret : ∀ (r : Int32) (u : St) (H : Heap) (locs : List Loc) (pc : Nat) (ls : Array Slot), K r u → Sy D 12 ad A H0 (obM ad ci u) H locs → tt u → decode cX6_typeAt pc = .ok (.ireturn, 1) → W p l e rmX6_typeAt s m args below meth c H locs 0 0 Q (F0 m pc ls [.int r])) (x1 : Int32) (x2 : Int32) (h : wX6_typeAt σ x1 x2 K) (H : Heap) (locs : List Loc) (hY : Sy D 12 ad A H0 (obM ad ci σ) H locs) (hR : tt σ) (ls : Array Slot) (hl : lv_has ls 4 [(0, .ref (ad 0)), (1, .int x1), (2, .int x2)]) : W p l e rmX6_typeAt s m args below meth c H locs 0 0 Q (F0 m 0 ls []) := by
  obtain ⟨hx, hb, hml, hown, hts⟩ := id C0
  refine lv_aload_n hx hb dX6_typeAt_0 rfl (lv_at hl 0 rfl) ?_
  refine lv_iload_n hx hb dX6_typeAt_1 rfl (lv_at hl 1 rfl) ?_
  refine lv_iconst (v := (0 : Int32)) hx hb dX6_typeAt_2 (by decide) ?_
  refine lv_aload_n hx hb dX6_typeAt_3 rfl (lv_at hl 0 rfl) ?_
  refine w_get (o := 0) (ci := 6) (C := RX6) (T := TX6) (N1 := 14) (v := .int (gI σ 1)) hx hb hts kX6_typeAt_inX6 hown hK.1 hY (by decide) obM_main rfl 8 (by decide) (hts _ kX6_typeAt_2) rfl rfl dX6_typeAt_4 ?_
  refine w_callip (rest := [.ref (ad 0)]) (va_runS (As := [.int x1, .int (0 : Int32), .int (gI σ 1)]) (rest := [.ref (ad 0)]) C0 (mX6_in l D ad ci A σ x1 (0 : Int32) (gI σ 1) _ hR  h) (va_cwS 3 hts gX6_typeAt_X6_in rfl rfl rfl ddX6_in ⟨Nat.le_of_ble_eq_true rfl, Nat.le_of_ble_eq_true rfl⟩) (w_preS (ob := obM ad ci) (σ := σ) hK hY) rfl rfl hl.1 rfl (lv_room (Nat.le_of_ble_eq_true rfl)) dX6_typeAt_7 ⟨Nat.zero_le _, Nat.zero_le _⟩) hY (fun r_13 H locs h hY => ?_)
  obtain ⟨n_r_13, h⟩ := h
  refine lv_if_ne (tgt := 17) hx hb dX6_typeAt_10 (by decide) (fun c_14 => ?_) (fun c_14 => ?_)
  · have h := h.2 c_14
    refine lv_iload_n hx hb dX6_typeAt_17 rfl (lv_at hl 2 rfl) ?_
    refine w_callip (rest := [.ref (ad 0)]) (va_runS (As := [.int x2]) (rest := [.ref (ad 0)]) C0 (mX6_isSign l D ad ci A σ x2 _ hR  h) (va_cwS 1 hts gX6_typeAt_X6_isSign rfl rfl rfl ddX6_isSign ⟨Nat.le_of_ble_eq_true rfl, Nat.le_of_ble_eq_true rfl⟩) (w_preS (ob := obM ad ci) (σ := σ) hK hY) rfl rfl hl.1 rfl (lv_room (Nat.le_of_ble_eq_true rfl)) dX6_typeAt_18 ⟨Nat.zero_le _, Nat.zero_le _⟩) hY (fun r_15 H locs h hY => ?_)
    obtain ⟨n_r_15, h⟩ := h
    refine lv_if_ne (tgt := 28) hx hb dX6_typeAt_21 (by decide) (fun c_16 => ?_) (fun c_16 => ?_)
    · have h := h.2 c_16
      refine lv_aload_n hx hb dX6_typeAt_28 rfl (lv_at hl 0 rfl) ?_
      refine w_get (o := 0) (ci := 6) (C := RX6) (T := TX6) (N1 := 14) (v := .int (gI σ 1)) hx hb hts kX6_typeAt_inX6 hown hK.1 hY (by decide) obM_main rfl 8 (by decide) (hts _ kX6_typeAt_2) rfl rfl dX6_typeAt_29 ?_
      refine lv_bipush (v := (24 : Int32)) hx hb dX6_typeAt_32 (by decide) ?_
      refine lv_icmp_ne (tgt := 41) hx hb dX6_typeAt_34 (by decide) (fun c_17 => ?_) (fun c_17 => ?_)
      · have h := h.2 c_17
        refine lv_iconst (v := (0 : Int32)) hx hb dX6_typeAt_41 (by decide) ?_
        exact tX6_typeAt_J42 C0 hK K σ x1 x2 (0 : Int32) hret h _ _ hY hR _ (lv_sub hl [0, 1, 2] rfl)
      · have h := h.1 c_17
        refine lv_iconst (v := (3 : Int32)) hx hb dX6_typeAt_37 (by decide) ?_
        refine lv_goto (tgt := 42) hx hb dX6_typeAt_38 (by decide) ?_
        exact tX6_typeAt_J42 C0 hK K σ x1 x2 (3 : Int32) hret h _ _ hY hR _ (lv_sub hl [0, 1, 2] rfl)
    · have h := h.1 c_16
      refine lv_iconst (v := (2 : Int32)) hx hb dX6_typeAt_24 (by decide) ?_
      refine lv_goto (tgt := 42) hx hb dX6_typeAt_25 (by decide) ?_
      exact tX6_typeAt_J42 C0 hK K σ x1 x2 (2 : Int32) hret h _ _ hY hR _ (lv_sub hl [0, 1, 2] rfl)
  · have h := h.1 c_14
    refine lv_iconst (v := (1 : Int32)) hx hb dX6_typeAt_13 (by decide) ?_
    refine lv_goto (tgt := 42) hx hb dX6_typeAt_14 (by decide) ?_
    exact tX6_typeAt_J42 C0 hK K σ x1 x2 (1 : Int32) hret h _ _ hY hR _ (lv_sub hl [0, 1, 2] rfl)
set_option maxHeartbeats 4000000 in
set_option maxRecDepth 100000 in
theorem mX6_typeAt (l : Launch) (D : va_G) (ad : Nat → Nat) (ci : Nat → ClassId) (A : Nat → Prop) (σ : St) (x1 : Int32) (x2 : Int32) (K : Int32 → St → Prop) (hR : tt σ) (h : wX6_typeAt σ x1 x2 K) : Met l yX6_typeAt wsX6_typeAt rmX6_typeAt (va_Pc [.ref (ad 0), .int x1, .int x2] (PreW D 12 ad A (tyM ci) (obM ad ci σ))) (va_Qi (fun r u => K r u) (PostW D 12 ad (tyM ci) (obM ad ci) tt) A) 0 0 A := by
  refine Met.ofW (cc := cX6_typeAt) (maxL := 4) (ret := (some .int)) (by decide) rfl ?_
  intro p e s m args below meth c s₁ B hml hv
  obtain ⟨rfl, hP, hK, hD⟩ := hv
  have C0 : CallFix p m c cX6_typeAt 4 s _ wsX6_typeAt RX6 := ⟨B.exec, B.bytes, hml, findClass_of_methodNamed B.named, atoms_spec (ws := wsX6_typeAt) B.pre⟩
  have hlocks := B.notSynchronized
  have hY : Sy D 12 ad A s.heap (obM ad ci σ) s.heap [] := ⟨hP, hD, va_S.rf⟩
  have hl := lv_entry ([.ref (ad 0), .int x1, .int x2]) (n := 4) (Nat.le_of_ble_eq_true rfl)
  rw [lg_entry_eq]
  generalize (lg_sl ([.ref (ad 0), .int x1, .int x2]) ++ List.replicate (4 - (lg_sl ([.ref (ad 0), .int x1, .int x2])).length) Slot.unset).toArray = ls at hl ⊢
  exact eX6_typeAt C0 hK K σ (fun r u H locs pc ls hk hY hR hd => w_iret (I := tt) B.exec B.bytes B.returns hlocks hK hk (fun t ht => ht) hY hR hd) x1 x2 h _ _ hY hR ls hl
set_option maxHeartbeats 4000000 in
set_option maxRecDepth 100000 in
theorem tX6_drop_J13 (C0 : CallFix p m c cX6_drop 1 s args wsX6_drop RX6) (hK : Kx D (tyM ci) s) (K : Int32 → St → Prop) (σ : St) (s1 : Int32) (hret : ∀ (r : Int32) (u : St) (H : Heap) (locs : List Loc) (pc : Nat) (ls : Array Slot), K r u → Sy D 12 ad A H0 (obM ad ci u) H locs → tt u → decode cX6_drop pc = .ok (.ireturn, 1) → W p l e rmX6_drop s m args below meth c H locs 0 0 Q (F0 m pc ls [.int r])) (h : wX6_drop_J13 K σ s1) (H : Heap) (locs : List Loc) (hY : Sy D 12 ad A H0 (obM ad ci σ) H locs) (hR : tt σ) (ls : Array Slot) (hl : lv_has ls 1 [(0, .ref (ad 0))]) : W p l e rmX6_drop s m args below meth c H locs 0 0 Q (F0 m 13 ls [.int s1, .ref (ad 0)]) := by
  obtain ⟨hx, hb, hml, hown, hts⟩ := id C0
  refine w_calli (rest := []) (va_runV (As := [.int s1]) (rest := []) C0 (mX6_fails l D ad ci A σ s1 _ hR  h) (cwV 1 hts gX6_drop_X6_fails rfl rfl rfl ddX6_fails ⟨Nat.le_of_ble_eq_true rfl, Nat.le_of_ble_eq_true rfl⟩) (w_preV (o := 0) (ci := 6) (ob := obM ad ci) (σ := σ) hK hY (by decide) obM_main rfl rfl) rfl rfl hl.1 rfl (lv_room (Nat.le_of_ble_eq_true rfl)) dX6_drop_13 ⟨Nat.zero_le _, Nat.zero_le _⟩) hY (fun r_1 σ_2 H locs h hY hR_σ_2 => ?_)
  obtain ⟨n_r_1, h⟩ := h
  refine lv_if_eq (tgt := 21) hx hb dX6_drop_16 (by decide) (fun c_3 => ?_) (fun c_3 => ?_)
  · have h := h.1 c_3
    refine lv_aload_n hx hb dX6_drop_21 rfl (lv_at hl 0 rfl) ?_
    refine lv_dup hx hb dX6_drop_22 rfl ?_
    refine w_get (o := 0) (ci := 6) (C := RX6) (T := TX6) (N1 := 14) (v := .int (gI σ_2 1)) hx hb hts kX6_drop_inX6 hown hK.1 hY (by decide) obM_main rfl 8 (by decide) (hts _ kX6_drop_0) rfl rfl dX6_drop_23 ?_
    refine lv_iconst (v := (1 : Int32)) hx hb dX6_drop_26 (by decide) ?_
    refine lv_isub hx hb dX6_drop_27 ?_
    obtain ⟨σ_4, e_σ_4⟩ : ∃ z : St, z = pI σ_2 1 ((gI σ_2 1) - (1 : Int32)) := ⟨_, rfl⟩
    have h := h σ_4 e_σ_4
    have hR_σ_4 : tt σ_4 := trivial
    refine w_put (o := 0) (ci := 6) (C := RX6) (T := TX6) (N1 := 14) hx hb hts kX6_drop_inX6 tyX6 tyX6_ok nmX6 hown hK.1 hY (by decide) obM_main rfl 8 (by decide) (hts _ kX6_drop_0) rfl rfl rfl (Nat.le_of_ble_eq_true rfl) dX6_drop_28 (ob' := obM ad ci σ_4) (by rw [e_σ_4]; exact obM_pI rfl) (fun H locs hY => ?_)
    refine lv_aload_n hx hb dX6_drop_31 rfl (lv_at hl 0 rfl) ?_
    refine w_get (o := 0) (ci := 6) (C := RX6) (T := TX6) (N1 := 14) (v := .int (gI σ_4 1)) hx hb hts kX6_drop_inX6 hown hK.1 hY (by decide) obM_main rfl 8 (by decide) (hts _ kX6_drop_0) rfl rfl dX6_drop_32 ?_
    exact hret (gI σ_4 1) σ_4 _ _ _ _ h hY hR_σ_4 dX6_drop_35
  · have h := h.2 c_3
    refine lv_iconst (v := (0 : Int32)) hx hb dX6_drop_19 (by decide) ?_
    exact hret (0 : Int32) σ_2 _ _ _ _ h hY hR_σ_2 dX6_drop_20
set_option maxHeartbeats 4000000 in
set_option maxRecDepth 100000 in
theorem eX6_drop (C0 : CallFix p m c cX6_drop 1 s args wsX6_drop RX6) (hK : Kx D (tyM ci) s) (K : Int32 → St → Prop) (σ : St) (hret : ∀ (r : Int32) (u : St) (H : Heap) (locs : List Loc) (pc : Nat) (ls : Array Slot), K r u → Sy D 12 ad A H0 (obM ad ci u) H locs → tt u → decode cX6_drop pc = .ok (.ireturn, 1) → W p l e rmX6_drop s m args below meth c H locs 0 0 Q (F0 m pc ls [.int r])) (h : wX6_drop σ K) (H : Heap) (locs : List Loc) (hY : Sy D 12 ad A H0 (obM ad ci σ) H locs) (hR : tt σ) (ls : Array Slot) (hl : lv_has ls 1 [(0, .ref (ad 0))]) : W p l e rmX6_drop s m args below meth c H locs 0 0 Q (F0 m 0 ls []) := by
  obtain ⟨hx, hb, hml, hown, hts⟩ := id C0
  refine lv_aload_n hx hb dX6_drop_0 rfl (lv_at hl 0 rfl) ?_
  refine lv_aload_n hx hb dX6_drop_1 rfl (lv_at hl 0 rfl) ?_
  refine w_get (o := 0) (ci := 6) (C := RX6) (T := TX6) (N1 := 14) (v := .int (gI σ 1)) hx hb hts kX6_drop_inX6 hown hK.1 hY (by decide) obM_main rfl 8 (by decide) (hts _ kX6_drop_0) rfl rfl dX6_drop_2 ?_
  refine lv_if_ne (tgt := 12) hx hb dX6_drop_5 (by decide) (fun c_5 => ?_) (fun c_5 => ?_)
  · have h := h.2 c_5
    refine lv_iconst (v := (0 : Int32)) hx hb dX6_drop_12 (by decide) ?_
    exact tX6_drop_J13 C0 hK K σ (0 : Int32) hret h _ _ hY hR _ (lv_sub hl [0] rfl)
  · have h := h.1 c_5
    refine lv_iconst (v := (1 : Int32)) hx hb dX6_drop_8 (by decide) ?_
    refine lv_goto (tgt := 13) hx hb dX6_drop_9 (by decide) ?_
    exact tX6_drop_J13 C0 hK K σ (1 : Int32) hret h _ _ hY hR _ (lv_sub hl [0] rfl)
set_option maxHeartbeats 4000000 in
set_option maxRecDepth 100000 in
theorem mX6_drop (l : Launch) (D : va_G) (ad : Nat → Nat) (ci : Nat → ClassId) (A : Nat → Prop) (σ : St) (K : Int32 → St → Prop) (hR : tt σ) (h : wX6_drop σ K) : Met l yX6_drop wsX6_drop rmX6_drop (va_Pc [.ref (ad 0)] (PreW D 12 ad A (tyM ci) (obM ad ci σ))) (va_Qi (fun r u => K r u) (PostW D 12 ad (tyM ci) (obM ad ci) tt) A) 0 0 A := by
  refine Met.ofW (cc := cX6_drop) (maxL := 1) (ret := (some .int)) (by decide) rfl ?_
  intro p e s m args below meth c s₁ B hml hv
  obtain ⟨rfl, hP, hK, hD⟩ := hv
  have C0 : CallFix p m c cX6_drop 1 s _ wsX6_drop RX6 := ⟨B.exec, B.bytes, hml, findClass_of_methodNamed B.named, atoms_spec (ws := wsX6_drop) B.pre⟩
  have hlocks := B.notSynchronized
  have hY : Sy D 12 ad A s.heap (obM ad ci σ) s.heap [] := ⟨hP, hD, va_S.rf⟩
  have hl := lv_entry ([.ref (ad 0)]) (n := 1) (Nat.le_of_ble_eq_true rfl)
  rw [lg_entry_eq]
  generalize (lg_sl ([.ref (ad 0)]) ++ List.replicate (1 - (lg_sl ([.ref (ad 0)])).length) Slot.unset).toArray = ls at hl ⊢
  exact eX6_drop C0 hK K σ (fun r u H locs pc ls hk hY hR hd => w_iret (I := tt) B.exec B.bytes B.returns hlocks hK hk (fun t ht => ht) hY hR hd) h _ _ hY hR ls hl
set_option maxHeartbeats 4000000 in
set_option maxRecDepth 100000 in
theorem tX6_clip_L33 (C0 : CallFix p m c cX6_clip 4 s args wsX6_clip RX6) (hK : Kx D (tyM ci) s) (K : Int32 → St → Prop) (x1 : Int32) (x2 : Int32) (hret : ∀ (r : Int32) (u : St) (H : Heap) (locs : List Loc) (pc : Nat) (ls : Array Slot), K r u → Sy D 12 ad A H0 (obM ad ci u) H locs → tt u → decode cX6_clip pc = .ok (.ireturn, 1) → W p l e rmX6_clip s m args below meth c H locs 0 0 Q (F0 m pc ls [.int r])) : ∀ (n : Nat) (σ : St) (x3 : Int32), wX6_clip_L33 K x1 x2 n σ x3 → ∀ (H : Heap) (locs : List Loc), Sy D 12 ad A H0 (obM ad ci σ) H locs → tt σ → ∀ ls : Array Slot, lv_has ls 4 [(0, .ref (ad 0)), (1, .int x1), (2, .int x2), (3, .int x3)] → W p l e rmX6_clip s m args below meth c H locs 0 0 Q (F0 m 33 ls []) := by
  obtain ⟨hx, hb, hml, hown, hts⟩ := id C0
  intro n
  induction n with
  | zero =>
    intro σ x3 h
    exact h.elim
  | succ n ih =>
    intro σ x3 h H locs hY hR  ls hl
    refine lv_iload_n hx hb dX6_clip_33 rfl (lv_at hl 3 rfl) ?_
    refine lv_aload_n hx hb dX6_clip_34 rfl (lv_at hl 0 rfl) ?_
    refine w_get (o := 0) (ci := 6) (C := RX6) (T := TX6) (N1 := 14) (v := .int (gI σ 1)) hx hb hts kX6_clip_inX6 hown hK.1 hY (by decide) obM_main rfl 8 (by decide) (hts _ kX6_clip_0) rfl rfl dX6_clip_35 ?_
    refine lv_icmp_ge (tgt := 63) hx hb dX6_clip_38 (by decide) (fun c_1 => ?_) (fun c_1 => ?_)
    · have h := h.1 c_1
      refine lv_aload_n hx hb dX6_clip_63 rfl (lv_at hl 0 rfl) ?_
      refine lv_dup hx hb dX6_clip_64 rfl ?_
      refine w_get (o := 0) (ci := 6) (C := RX6) (T := TX6) (N1 := 14) (v := .int (gI σ 1)) hx hb hts kX6_clip_inX6 hown hK.1 hY (by decide) obM_main rfl 8 (by decide) (hts _ kX6_clip_0) rfl rfl dX6_clip_65 ?_
      refine lv_iload_n hx hb dX6_clip_68 rfl (lv_at hl 2 rfl) ?_
      refine lv_iload_n hx hb dX6_clip_69 rfl (lv_at hl 1 rfl) ?_
      refine lv_isub hx hb dX6_clip_70 ?_
      refine lv_isub hx hb dX6_clip_71 ?_
      obtain ⟨σ_2, e_σ_2⟩ : ∃ z : St, z = pI σ 1 ((gI σ 1) - (x2 - x1)) := ⟨_, rfl⟩
      have h := h σ_2 e_σ_2
      have hR_σ_2 : tt σ_2 := trivial
      refine w_put (o := 0) (ci := 6) (C := RX6) (T := TX6) (N1 := 14) hx hb hts kX6_clip_inX6 tyX6 tyX6_ok nmX6 hown hK.1 hY (by decide) obM_main rfl 8 (by decide) (hts _ kX6_clip_0) rfl rfl rfl (Nat.le_of_ble_eq_true rfl) dX6_clip_72 (ob' := obM ad ci σ_2) (by rw [e_σ_2]; exact obM_pI rfl) (fun H locs hY => ?_)
      refine lv_aload_n hx hb dX6_clip_75 rfl (lv_at hl 0 rfl) ?_
      refine w_get (o := 0) (ci := 6) (C := RX6) (T := TX6) (N1 := 14) (v := .int (gI σ_2 1)) hx hb hts kX6_clip_inX6 hown hK.1 hY (by decide) obM_main rfl 8 (by decide) (hts _ kX6_clip_0) rfl rfl dX6_clip_76 ?_
      exact hret (gI σ_2 1) σ_2 _ _ _ _ h hY hR_σ_2 dX6_clip_79
    · have h := h.2 c_1
      refine lv_aload_n hx hb dX6_clip_41 rfl (lv_at hl 0 rfl) ?_
      refine w_get (o := 0) (ci := 6) (C := RX6) (T := TX6) (N1 := 14) (v := .ref (ad 1)) hx hb hts kX6_clip_inX6 hown hK.1 hY (by decide) obM_main rfl 1 (by decide) (hts _ kX6_clip_2) rfl rfl dX6_clip_42 ?_
      refine lv_iload_n hx hb dX6_clip_45 rfl (lv_at hl 1 rfl) ?_
      refine lv_iload_n hx hb dX6_clip_46 rfl (lv_at hl 3 rfl) ?_
      refine lv_iadd hx hb dX6_clip_47 ?_
      refine lv_iload_n hx hb dX6_clip_48 rfl (lv_at hl 2 rfl) ?_
      refine lv_isub hx hb dX6_clip_49 ?_
      refine lv_aload_n hx hb dX6_clip_50 rfl (lv_at hl 0 rfl) ?_
      refine w_get (o := 0) (ci := 6) (C := RX6) (T := TX6) (N1 := 14) (v := .ref (ad 1)) hx hb hts kX6_clip_inX6 hown hK.1 hY (by decide) obM_main rfl 1 (by decide) (hts _ kX6_clip_2) rfl rfl dX6_clip_51 ?_
      refine lv_iload_n hx hb dX6_clip_54 rfl (lv_at hl 3 rfl) ?_
      obtain ⟨b_3, h⟩ := h
      refine w_cald (o := 1) hx hb hK.1 hY (by decide) 0 rfl rfl b_3 dX6_clip_55 ?_
      obtain ⟨b_4, h⟩ := h
      obtain ⟨σ_5, e_σ_5⟩ : ∃ z : St, z = pA σ 1 (((x1 + x3) - x2)).toNatClampNeg (vp_nar .char (gA σ 1 (x3).toNatClampNeg)) := ⟨_, rfl⟩
      have h := h σ_5 e_σ_5
      have hR_σ_5 : tt σ_5 := trivial
      refine w_cast (o := 1) hx hb hK.1 hY (by decide) 0 rfl rfl b_4 dX6_clip_56 (ob' := obM ad ci σ_5) (by rw [e_σ_5]; exact obM_pA (by rw [← gA_up]; rfl)) (fun H locs hY => ?_)
      refine lv_iinc (v := (x3 + 1)) (lv' := [(3, .int (x3 + 1)), (0, .ref (ad 0)), (1, .int x1), (2, .int x2)]) hx hb dX6_clip_57 hl (k := 3) rfl rfl (by decide) rfl (fun ls hl => ?_)
      refine lv_goto (tgt := 33) hx hb dX6_clip_60 (by decide) ?_
      exact ih σ_5 (x3 + 1) h _ _ hY hR_σ_5  _ (lv_sub hl [1, 2, 3, 0] rfl)
set_option maxHeartbeats 4000000 in
set_option maxRecDepth 100000 in
theorem tX6_clip_J23 (C0 : CallFix p m c cX6_clip 4 s args wsX6_clip RX6) (hK : Kx D (tyM ci) s) (K : Int32 → St → Prop) (σ : St) (x1 : Int32) (x2 : Int32) (s1 : Int32) (hret : ∀ (r : Int32) (u : St) (H : Heap) (locs : List Loc) (pc : Nat) (ls : Array Slot), K r u → Sy D 12 ad A H0 (obM ad ci u) H locs → tt u → decode cX6_clip pc = .ok (.ireturn, 1) → W p l e rmX6_clip s m args below meth c H locs 0 0 Q (F0 m pc ls [.int r])) (h : wX6_clip_J23 K σ x1 x2 s1) (H : Heap) (locs : List Loc) (hY : Sy D 12 ad A H0 (obM ad ci σ) H locs) (hR : tt σ) (ls : Array Slot) (hl : lv_has ls 4 [(0, .ref (ad 0)), (1, .int x1), (2, .int x2)]) : W p l e rmX6_clip s m args below meth c H locs 0 0 Q (F0 m 23 ls [.int s1, .ref (ad 0)]) := by
  obtain ⟨hx, hb, hml, hown, hts⟩ := id C0
  refine w_calli (rest := []) (va_runV (As := [.int s1]) (rest := []) C0 (mX6_fails l D ad ci A σ s1 _ hR  h) (cwV 1 hts gX6_clip_X6_fails rfl rfl rfl ddX6_fails ⟨Nat.le_of_ble_eq_true rfl, Nat.le_of_ble_eq_true rfl⟩) (w_preV (o := 0) (ci := 6) (ob := obM ad ci) (σ := σ) hK hY (by decide) obM_main rfl rfl) rfl rfl hl.1 rfl (lv_room (Nat.le_of_ble_eq_true rfl)) dX6_clip_23 ⟨Nat.zero_le _, Nat.zero_le _⟩) hY (fun r_6 σ_7 H locs h hY hR_σ_7 => ?_)
  obtain ⟨n_r_6, h⟩ := h
  refine lv_if_eq (tgt := 31) hx hb dX6_clip_26 (by decide) (fun c_8 => ?_) (fun c_8 => ?_)
  · have h := h.1 c_8
    refine lv_iload_n hx hb dX6_clip_31 rfl (lv_at hl 2 rfl) ?_
    refine lv_istore_n (lv' := [(3, .int x2), (0, .ref (ad 0)), (1, .int x1), (2, .int x2)]) hx hb dX6_clip_32 rfl hl (by decide) rfl (fun ls hl => ?_)
    obtain ⟨n_9, h⟩ := h
    exact tX6_clip_L33 C0 hK K x1 x2 hret n_9 σ_7 x2 h _ _ hY hR_σ_7  _ (lv_sub hl [1, 2, 3, 0] rfl)
  · have h := h.2 c_8
    refine lv_iconst (v := (0 : Int32)) hx hb dX6_clip_29 (by decide) ?_
    exact hret (0 : Int32) σ_7 _ _ _ _ h hY hR_σ_7 dX6_clip_30
set_option maxHeartbeats 4000000 in
set_option maxRecDepth 100000 in
theorem tX6_clip_J18 (C0 : CallFix p m c cX6_clip 4 s args wsX6_clip RX6) (hK : Kx D (tyM ci) s) (K : Int32 → St → Prop) (σ : St) (x1 : Int32) (x2 : Int32) (hret : ∀ (r : Int32) (u : St) (H : Heap) (locs : List Loc) (pc : Nat) (ls : Array Slot), K r u → Sy D 12 ad A H0 (obM ad ci u) H locs → tt u → decode cX6_clip pc = .ok (.ireturn, 1) → W p l e rmX6_clip s m args below meth c H locs 0 0 Q (F0 m pc ls [.int r])) (h : wX6_clip_J18 K σ x1 x2) (H : Heap) (locs : List Loc) (hY : Sy D 12 ad A H0 (obM ad ci σ) H locs) (hR : tt σ) (ls : Array Slot) (hl : lv_has ls 4 [(0, .ref (ad 0)), (1, .int x1), (2, .int x2)]) : W p l e rmX6_clip s m args below meth c H locs 0 0 Q (F0 m 18 ls [.ref (ad 0)]) := by
  obtain ⟨hx, hb, hml, hown, hts⟩ := id C0
  refine lv_iconst (v := (1 : Int32)) hx hb dX6_clip_18 (by decide) ?_
  refine lv_goto (tgt := 23) hx hb dX6_clip_19 (by decide) ?_
  exact tX6_clip_J23 C0 hK K σ x1 x2 (1 : Int32) hret h _ _ hY hR _ (lv_sub hl [0, 1, 2] rfl)
set_option maxHeartbeats 4000000 in
set_option maxRecDepth 100000 in
theorem eX6_clip (C0 : CallFix p m c cX6_clip 4 s args wsX6_clip RX6) (hK : Kx D (tyM ci) s) (K : Int32 → St → Prop) (σ : St) (hret : ∀ (r : Int32) (u : St) (H : Heap) (locs : List Loc) (pc : Nat) (ls : Array Slot), K r u → Sy D 12 ad A H0 (obM ad ci u) H locs → tt u → decode cX6_clip pc = .ok (.ireturn, 1) → W p l e rmX6_clip s m args below meth c H locs 0 0 Q (F0 m pc ls [.int r])) (x1 : Int32) (x2 : Int32) (h : wX6_clip σ x1 x2 K) (H : Heap) (locs : List Loc) (hY : Sy D 12 ad A H0 (obM ad ci σ) H locs) (hR : tt σ) (ls : Array Slot) (hl : lv_has ls 4 [(0, .ref (ad 0)), (1, .int x1), (2, .int x2)]) : W p l e rmX6_clip s m args below meth c H locs 0 0 Q (F0 m 0 ls []) := by
  obtain ⟨hx, hb, hml, hown, hts⟩ := id C0
  refine lv_aload_n hx hb dX6_clip_0 rfl (lv_at hl 0 rfl) ?_
  refine lv_iload_n hx hb dX6_clip_1 rfl (lv_at hl 1 rfl) ?_
  refine lv_if_lt (tgt := 18) hx hb dX6_clip_2 (by decide) (fun c_10 => ?_) (fun c_10 => ?_)
  · have h := h.1 c_10
    exact tX6_clip_J18 C0 hK K σ x1 x2 hret h _ _ hY hR _ (lv_sub hl [0, 1, 2] rfl)
  · have h := h.2 c_10
    refine lv_iload_n hx hb dX6_clip_5 rfl (lv_at hl 2 rfl) ?_
    refine lv_iload_n hx hb dX6_clip_6 rfl (lv_at hl 1 rfl) ?_
    refine lv_icmp_lt (tgt := 18) hx hb dX6_clip_7 (by decide) (fun c_11 => ?_) (fun c_11 => ?_)
    · have h := h.1 c_11
      exact tX6_clip_J18 C0 hK K σ x1 x2 hret h _ _ hY hR _ (lv_sub hl [0, 1, 2] rfl)
    · have h := h.2 c_11
      refine lv_iload_n hx hb dX6_clip_10 rfl (lv_at hl 2 rfl) ?_
      refine lv_aload_n hx hb dX6_clip_11 rfl (lv_at hl 0 rfl) ?_
      refine w_get (o := 0) (ci := 6) (C := RX6) (T := TX6) (N1 := 14) (v := .int (gI σ 1)) hx hb hts kX6_clip_inX6 hown hK.1 hY (by decide) obM_main rfl 8 (by decide) (hts _ kX6_clip_0) rfl rfl dX6_clip_12 ?_
      refine lv_icmp_le (tgt := 22) hx hb dX6_clip_15 (by decide) (fun c_12 => ?_) (fun c_12 => ?_)
      · have h := h.1 c_12
        refine lv_iconst (v := (0 : Int32)) hx hb dX6_clip_22 (by decide) ?_
        exact tX6_clip_J23 C0 hK K σ x1 x2 (0 : Int32) hret h _ _ hY hR _ (lv_sub hl [0, 1, 2] rfl)
      · have h := h.2 c_12
        exact tX6_clip_J18 C0 hK K σ x1 x2 hret h _ _ hY hR _ (lv_sub hl [0, 1, 2] rfl)
set_option maxHeartbeats 4000000 in
set_option maxRecDepth 100000 in
theorem mX6_clip (l : Launch) (D : va_G) (ad : Nat → Nat) (ci : Nat → ClassId) (A : Nat → Prop) (σ : St) (x1 : Int32) (x2 : Int32) (K : Int32 → St → Prop) (hR : tt σ) (h : wX6_clip σ x1 x2 K) : Met l yX6_clip wsX6_clip rmX6_clip (va_Pc [.ref (ad 0), .int x1, .int x2] (PreW D 12 ad A (tyM ci) (obM ad ci σ))) (va_Qi (fun r u => K r u) (PostW D 12 ad (tyM ci) (obM ad ci) tt) A) 0 0 A := by
  refine Met.ofW (cc := cX6_clip) (maxL := 4) (ret := (some .int)) (by decide) rfl ?_
  intro p e s m args below meth c s₁ B hml hv
  obtain ⟨rfl, hP, hK, hD⟩ := hv
  have C0 : CallFix p m c cX6_clip 4 s _ wsX6_clip RX6 := ⟨B.exec, B.bytes, hml, findClass_of_methodNamed B.named, atoms_spec (ws := wsX6_clip) B.pre⟩
  have hlocks := B.notSynchronized
  have hY : Sy D 12 ad A s.heap (obM ad ci σ) s.heap [] := ⟨hP, hD, va_S.rf⟩
  have hl := lv_entry ([.ref (ad 0), .int x1, .int x2]) (n := 4) (Nat.le_of_ble_eq_true rfl)
  rw [lg_entry_eq]
  generalize (lg_sl ([.ref (ad 0), .int x1, .int x2]) ++ List.replicate (4 - (lg_sl ([.ref (ad 0), .int x1, .int x2])).length) Slot.unset).toArray = ls at hl ⊢
  exact eX6_clip C0 hK K σ (fun r u H locs pc ls hk hY hR hd => w_iret (I := tt) B.exec B.bytes B.returns hlocks hK hk (fun t ht => ht) hY hR hd) x1 x2 h _ _ hY hR ls hl
set_option maxHeartbeats 4000000 in
set_option maxRecDepth 100000 in
theorem eX6_wipe (C0 : CallFix p m c cX6_wipe 2 s args wsX6_wipe RX6) (hK : Kx D (tyM ci) s) (K : Int32 → St → Prop) (σ : St) (hret : ∀ (r : Int32) (u : St) (H : Heap) (locs : List Loc) (pc : Nat) (ls : Array Slot), K r u → Sy D 12 ad A H0 (obM ad ci u) H locs → tt u → decode cX6_wipe pc = .ok (.ireturn, 1) → W p l e rmX6_wipe s m args below meth c H locs 0 0 Q (F0 m pc ls [.int r])) (h : wX6_wipe σ K) (H : Heap) (locs : List Loc) (hY : Sy D 12 ad A H0 (obM ad ci σ) H locs) (hR : tt σ) (ls : Array Slot) (hl : lv_has ls 2 [(0, .ref (ad 0))]) : W p l e rmX6_wipe s m args below meth c H locs 0 0 Q (F0 m 0 ls []) := by
  obtain ⟨hx, hb, hml, hown, hts⟩ := id C0
  refine lv_aload_n hx hb dX6_wipe_0 rfl (lv_at hl 0 rfl) ?_
  refine lv_iconst (v := (0 : Int32)) hx hb dX6_wipe_1 (by decide) ?_
  obtain ⟨σ_1, e_σ_1⟩ : ∃ z : St, z = pI σ 0 (0 : Int32) := ⟨_, rfl⟩
  have h := h σ_1 e_σ_1
  have hR_σ_1 : tt σ_1 := trivial
  refine w_put (o := 0) (ci := 6) (C := RX6) (T := TX6) (N1 := 14) hx hb hts kX6_wipe_inX6 tyX6 tyX6_ok nmX6 hown hK.1 hY (by decide) obM_main rfl 0 (by decide) (hts _ kX6_wipe_0) rfl rfl rfl (Nat.le_of_ble_eq_true rfl) dX6_wipe_2 (ob' := obM ad ci σ_1) (by rw [e_σ_1]; exact obM_pI rfl) (fun H locs hY => ?_)
  refine lv_aload_n hx hb dX6_wipe_5 rfl (lv_at hl 0 rfl) ?_
  refine w_get (o := 0) (ci := 6) (C := RX6) (T := TX6) (N1 := 14) (v := .int (gI σ_1 1)) hx hb hts kX6_wipe_inX6 hown hK.1 hY (by decide) obM_main rfl 8 (by decide) (hts _ kX6_wipe_2) rfl rfl dX6_wipe_6 ?_
  refine lv_topi (fun x1_2 e_x1_2 => ?_)
  have h := h x1_2 e_x1_2
  refine lv_istore_n (lv' := [(1, .int x1_2), (0, .ref (ad 0))]) hx hb dX6_wipe_9 rfl hl (by decide) rfl (fun ls hl => ?_)
  refine lv_aload_n hx hb dX6_wipe_10 rfl (lv_at hl 1 rfl) ?_
  refine lv_iconst (v := (0 : Int32)) hx hb dX6_wipe_11 (by decide) ?_
  obtain ⟨σ_3, e_σ_3⟩ : ∃ z : St, z = pI σ_1 1 (0 : Int32) := ⟨_, rfl⟩
  have h := h σ_3 e_σ_3
  have hR_σ_3 : tt σ_3 := trivial
  refine w_put (o := 0) (ci := 6) (C := RX6) (T := TX6) (N1 := 14) hx hb hts kX6_wipe_inX6 tyX6 tyX6_ok nmX6 hown hK.1 hY (by decide) obM_main rfl 8 (by decide) (hts _ kX6_wipe_2) rfl rfl rfl (Nat.le_of_ble_eq_true rfl) dX6_wipe_12 (ob' := obM ad ci σ_3) (by rw [e_σ_3]; exact obM_pI rfl) (fun H locs hY => ?_)
  refine lv_iload_n hx hb dX6_wipe_15 rfl (lv_at hl 0 rfl) ?_
  exact hret x1_2 σ_3 _ _ _ _ h hY hR_σ_3 dX6_wipe_16
set_option maxHeartbeats 4000000 in
set_option maxRecDepth 100000 in
theorem mX6_wipe (l : Launch) (D : va_G) (ad : Nat → Nat) (ci : Nat → ClassId) (A : Nat → Prop) (σ : St) (K : Int32 → St → Prop) (hR : tt σ) (h : wX6_wipe σ K) : Met l yX6_wipe wsX6_wipe rmX6_wipe (va_Pc [.ref (ad 0)] (PreW D 12 ad A (tyM ci) (obM ad ci σ))) (va_Qi (fun r u => K r u) (PostW D 12 ad (tyM ci) (obM ad ci) tt) A) 0 0 A := by
  refine Met.ofW (cc := cX6_wipe) (maxL := 2) (ret := (some .int)) (by decide) rfl ?_
  intro p e s m args below meth c s₁ B hml hv
  obtain ⟨rfl, hP, hK, hD⟩ := hv
  have C0 : CallFix p m c cX6_wipe 2 s _ wsX6_wipe RX6 := ⟨B.exec, B.bytes, hml, findClass_of_methodNamed B.named, atoms_spec (ws := wsX6_wipe) B.pre⟩
  have hlocks := B.notSynchronized
  have hY : Sy D 12 ad A s.heap (obM ad ci σ) s.heap [] := ⟨hP, hD, va_S.rf⟩
  have hl := lv_entry ([.ref (ad 0)]) (n := 2) (Nat.le_of_ble_eq_true rfl)
  rw [lg_entry_eq]
  generalize (lg_sl ([.ref (ad 0)]) ++ List.replicate (2 - (lg_sl ([.ref (ad 0)])).length) Slot.unset).toArray = ls at hl ⊢
  exact eX6_wipe C0 hK K σ (fun r u H locs pc ls hk hY hR hd => w_iret (I := tt) B.exec B.bytes B.returns hlocks hK hk (fun t ht => ht) hY hR hd) h _ _ hY hR ls hl
set_option maxHeartbeats 4000000 in
set_option maxRecDepth 100000 in
theorem tX6_turn_J73 (C0 : CallFix p m c cX6_turn 3 s args wsX6_turn RX6) (hK : Kx D (tyM ci) s) (K : Int32 → St → Prop) (B44 : St → Int32 → Int32 → Prop) (σ : St) (x2 : Int32) (s0 : Int32) (s1 : Int32) (hret : ∀ (r : Int32) (u : St) (H : Heap) (locs : List Loc) (pc : Nat) (ls : Array Slot), narrow .boolean (.int r) = .int r → K r u → Sy D 12 ad A H0 (obM ad ci u) H locs → tt u → decode cX6_turn pc = .ok (.ireturn, 1) → W p l e rmX6_turn s m args below meth c H locs 0 0 Q (F0 m pc ls [.int r])) (hB44 : ∀ (σ : St) (x1 : Int32) (x2 : Int32), B44 σ x1 x2 → ∀ (H : Heap) (locs : List Loc), Sy D 12 ad A H0 (obM ad ci σ) H locs → tt σ → ∀ ls : Array Slot, lv_has ls 3 [(0, .ref (ad 0)), (1, .int x1), (2, .int x2)] → W p l e rmX6_turn s m args below meth c H locs 0 0 Q (F0 m 44 ls [])) (h : wX6_turn_J73 K B44 σ x2 s0 s1) (H : Heap) (locs : List Loc) (hY : Sy D 12 ad A H0 (obM ad ci σ) H locs) (hR : tt σ) (ls : Array Slot) (hl : lv_has ls 3 [(0, .ref (ad 0)), (2, .int x2)]) : W p l e rmX6_turn s m args below meth c H locs 0 0 Q (F0 m 73 ls [.int s1, .int s0]) := by
  obtain ⟨hx, hb, hml, hown, hts⟩ := id C0
  refine lv_iand hx hb dX6_turn_73 ?_
  refine lv_istore_n (lv' := [(1, .int (s0 &&& s1)), (0, .ref (ad 0)), (2, .int x2)]) hx hb dX6_turn_74 rfl hl (by decide) rfl (fun ls hl => ?_)
  refine lv_aload_n hx hb dX6_turn_75 rfl (lv_at hl 1 rfl) ?_
  refine w_get (o := 0) (ci := 6) (C := RX6) (T := TX6) (N1 := 14) (v := .ref (ad 1)) hx hb hts kX6_turn_inX6 hown hK.1 hY (by decide) obM_main rfl 1 (by decide) (hts _ kX6_turn_0) rfl rfl dX6_turn_76 ?_
  refine lv_iload_n hx hb dX6_turn_79 rfl (lv_at hl 2 rfl) ?_
  refine lv_aload_n hx hb dX6_turn_80 rfl (lv_at hl 1 rfl) ?_
  refine w_get (o := 0) (ci := 6) (C := RX6) (T := TX6) (N1 := 14) (v := .ref (ad 4)) hx hb hts kX6_turn_inX6 hown hK.1 hY (by decide) obM_main rfl 4 (by decide) (hts _ kX6_turn_2) rfl rfl dX6_turn_81 ?_
  refine lv_iload_n hx hb dX6_turn_84 rfl (lv_at hl 2 rfl) ?_
  obtain ⟨b_1, h⟩ := h
  refine w_cald (o := 4) hx hb hK.1 hY (by decide) 0 rfl rfl b_1 dX6_turn_85 ?_
  obtain ⟨b_2, h⟩ := h
  obtain ⟨σ_3, e_σ_3⟩ : ∃ z : St, z = pA σ 1 (x2).toNatClampNeg (vp_nar .char (gA σ 4 (x2).toNatClampNeg)) := ⟨_, rfl⟩
  have h := h σ_3 e_σ_3
  have hR_σ_3 : tt σ_3 := trivial
  refine w_cast (o := 1) hx hb hK.1 hY (by decide) 0 rfl rfl b_2 dX6_turn_86 (ob' := obM ad ci σ_3) (by rw [e_σ_3]; exact obM_pA (by rw [← gA_up]; rfl)) (fun H locs hY => ?_)
  refine lv_iinc (v := (x2 + 1)) (lv' := [(2, .int (x2 + 1)), (1, .int (s0 &&& s1)), (0, .ref (ad 0))]) hx hb dX6_turn_87 hl (k := 2) rfl rfl (by decide) rfl (fun ls hl => ?_)
  refine lv_goto (tgt := 44) hx hb dX6_turn_90 (by decide) ?_
  exact hB44 σ_3 (s0 &&& s1) (x2 + 1) h _ _ hY hR_σ_3  _ (lv_sub hl [2, 1, 0] rfl)
set_option maxHeartbeats 4000000 in
set_option maxRecDepth 100000 in
theorem tX6_turn_L44 (C0 : CallFix p m c cX6_turn 3 s args wsX6_turn RX6) (hK : Kx D (tyM ci) s) (K : Int32 → St → Prop) (hret : ∀ (r : Int32) (u : St) (H : Heap) (locs : List Loc) (pc : Nat) (ls : Array Slot), narrow .boolean (.int r) = .int r → K r u → Sy D 12 ad A H0 (obM ad ci u) H locs → tt u → decode cX6_turn pc = .ok (.ireturn, 1) → W p l e rmX6_turn s m args below meth c H locs 0 0 Q (F0 m pc ls [.int r])) : ∀ (n : Nat) (σ : St) (x1 : Int32) (x2 : Int32), wX6_turn_L44 K n σ x1 x2 → ∀ (H : Heap) (locs : List Loc), Sy D 12 ad A H0 (obM ad ci σ) H locs → tt σ → ∀ ls : Array Slot, lv_has ls 3 [(0, .ref (ad 0)), (1, .int x1), (2, .int x2)] → W p l e rmX6_turn s m args below meth c H locs 0 0 Q (F0 m 44 ls []) := by
  obtain ⟨hx, hb, hml, hown, hts⟩ := id C0
  intro n
  induction n with
  | zero =>
    intro σ x1 x2 h
    exact h.elim
  | succ n ih =>
    intro σ x1 x2 h H locs hY hR  ls hl
    refine lv_iload_n hx hb dX6_turn_44 rfl (lv_at hl 2 rfl) ?_
    refine lv_aload_n hx hb dX6_turn_45 rfl (lv_at hl 0 rfl) ?_
    refine w_get (o := 0) (ci := 6) (C := RX6) (T := TX6) (N1 := 14) (v := .int (gI σ 1)) hx hb hts kX6_turn_inX6 hown hK.1 hY (by decide) obM_main rfl 8 (by decide) (hts _ kX6_turn_3) rfl rfl dX6_turn_46 ?_
    refine lv_icmp_ge (tgt := 93) hx hb dX6_turn_49 (by decide) (fun c_4 => ?_) (fun c_4 => ?_)
    · have h := h.1 c_4
      refine lv_iload_n hx hb dX6_turn_93 rfl (lv_at hl 1 rfl) ?_
      obtain ⟨nr, h⟩ := h
      exact hret x1 σ _ _ _ _ nr h hY hR dX6_turn_94
    · have h := h.2 c_4
      refine lv_iload_n hx hb dX6_turn_52 rfl (lv_at hl 1 rfl) ?_
      refine lv_aload_n hx hb dX6_turn_53 rfl (lv_at hl 0 rfl) ?_
      refine w_get (o := 0) (ci := 6) (C := RX6) (T := TX6) (N1 := 14) (v := .ref (ad 4)) hx hb hts kX6_turn_inX6 hown hK.1 hY (by decide) obM_main rfl 4 (by decide) (hts _ kX6_turn_2) rfl rfl dX6_turn_54 ?_
      refine lv_iload_n hx hb dX6_turn_57 rfl (lv_at hl 2 rfl) ?_
      obtain ⟨b_5, h⟩ := h
      refine w_cald (o := 4) hx hb hK.1 hY (by decide) 0 rfl rfl b_5 dX6_turn_58 ?_
      refine lv_aload_n hx hb dX6_turn_59 rfl (lv_at hl 0 rfl) ?_
      refine w_get (o := 0) (ci := 6) (C := RX6) (T := TX6) (N1 := 14) (v := .ref (ad 1)) hx hb hts kX6_turn_inX6 hown hK.1 hY (by decide) obM_main rfl 1 (by decide) (hts _ kX6_turn_0) rfl rfl dX6_turn_60 ?_
      refine lv_iload_n hx hb dX6_turn_63 rfl (lv_at hl 2 rfl) ?_
      obtain ⟨b_6, h⟩ := h
      refine w_cald (o := 1) hx hb hK.1 hY (by decide) 0 rfl rfl b_6 dX6_turn_64 ?_
      refine lv_icmp_ne (tgt := 72) hx hb dX6_turn_65 (by decide) (fun c_7 => ?_) (fun c_7 => ?_)
      · have h := h.2 c_7
        refine lv_iconst (v := (0 : Int32)) hx hb dX6_turn_72 (by decide) ?_
        exact tX6_turn_J73 C0 hK K (wX6_turn_L44 K n) σ x2 x1 (0 : Int32) hret ih h _ _ hY hR _ (lv_sub hl [0, 2] rfl)
      · have h := h.1 c_7
        refine lv_iconst (v := (1 : Int32)) hx hb dX6_turn_68 (by decide) ?_
        refine lv_goto (tgt := 73) hx hb dX6_turn_69 (by decide) ?_
        exact tX6_turn_J73 C0 hK K (wX6_turn_L44 K n) σ x2 x1 (1 : Int32) hret ih h _ _ hY hR _ (lv_sub hl [0, 2] rfl)
set_option maxHeartbeats 4000000 in
set_option maxRecDepth 100000 in
theorem tX6_turn_L9 (C0 : CallFix p m c cX6_turn 3 s args wsX6_turn RX6) (hK : Kx D (tyM ci) s) (K : Int32 → St → Prop) (x1 : Int32) (hret : ∀ (r : Int32) (u : St) (H : Heap) (locs : List Loc) (pc : Nat) (ls : Array Slot), narrow .boolean (.int r) = .int r → K r u → Sy D 12 ad A H0 (obM ad ci u) H locs → tt u → decode cX6_turn pc = .ok (.ireturn, 1) → W p l e rmX6_turn s m args below meth c H locs 0 0 Q (F0 m pc ls [.int r])) : ∀ (n : Nat) (σ : St) (x2 : Int32), wX6_turn_L9 K x1 n σ x2 → ∀ (H : Heap) (locs : List Loc), Sy D 12 ad A H0 (obM ad ci σ) H locs → tt σ → ∀ ls : Array Slot, lv_has ls 3 [(0, .ref (ad 0)), (1, .int x1), (2, .int x2)] → W p l e rmX6_turn s m args below meth c H locs 0 0 Q (F0 m 9 ls []) := by
  obtain ⟨hx, hb, hml, hown, hts⟩ := id C0
  intro n
  induction n with
  | zero =>
    intro σ x2 h
    exact h.elim
  | succ n ih =>
    intro σ x2 h H locs hY hR  ls hl
    refine lv_iload_n hx hb dX6_turn_9 rfl (lv_at hl 2 rfl) ?_
    refine lv_aload_n hx hb dX6_turn_10 rfl (lv_at hl 0 rfl) ?_
    refine w_get (o := 0) (ci := 6) (C := RX6) (T := TX6) (N1 := 14) (v := .int (gI σ 1)) hx hb hts kX6_turn_inX6 hown hK.1 hY (by decide) obM_main rfl 8 (by decide) (hts _ kX6_turn_3) rfl rfl dX6_turn_11 ?_
    refine lv_icmp_ge (tgt := 42) hx hb dX6_turn_14 (by decide) (fun c_8 => ?_) (fun c_8 => ?_)
    · have h := h.1 c_8
      refine lv_iconst (v := (0 : Int32)) hx hb dX6_turn_42 (by decide) ?_
      refine lv_istore_n (lv' := [(2, .int (0 : Int32)), (0, .ref (ad 0)), (1, .int x1)]) hx hb dX6_turn_43 rfl hl (by decide) rfl (fun ls hl => ?_)
      obtain ⟨n_9, h⟩ := h
      exact tX6_turn_L44 C0 hK K hret n_9 σ x1 (0 : Int32) h _ _ hY hR  _ (lv_sub hl [1, 2, 0] rfl)
    · have h := h.2 c_8
      refine lv_aload_n hx hb dX6_turn_17 rfl (lv_at hl 0 rfl) ?_
      refine w_get (o := 0) (ci := 6) (C := RX6) (T := TX6) (N1 := 14) (v := .ref (ad 4)) hx hb hts kX6_turn_inX6 hown hK.1 hY (by decide) obM_main rfl 4 (by decide) (hts _ kX6_turn_2) rfl rfl dX6_turn_18 ?_
      refine lv_iload_n hx hb dX6_turn_21 rfl (lv_at hl 2 rfl) ?_
      refine lv_aload_n hx hb dX6_turn_22 rfl (lv_at hl 0 rfl) ?_
      refine w_get (o := 0) (ci := 6) (C := RX6) (T := TX6) (N1 := 14) (v := .ref (ad 1)) hx hb hts kX6_turn_inX6 hown hK.1 hY (by decide) obM_main rfl 1 (by decide) (hts _ kX6_turn_0) rfl rfl dX6_turn_23 ?_
      refine lv_aload_n hx hb dX6_turn_26 rfl (lv_at hl 0 rfl) ?_
      refine w_get (o := 0) (ci := 6) (C := RX6) (T := TX6) (N1 := 14) (v := .int (gI σ 1)) hx hb hts kX6_turn_inX6 hown hK.1 hY (by decide) obM_main rfl 8 (by decide) (hts _ kX6_turn_3) rfl rfl dX6_turn_27 ?_
      refine lv_iconst (v := (1 : Int32)) hx hb dX6_turn_30 (by decide) ?_
      refine lv_isub hx hb dX6_turn_31 ?_
      refine lv_iload_n hx hb dX6_turn_32 rfl (lv_at hl 2 rfl) ?_
      refine lv_isub hx hb dX6_turn_33 ?_
      obtain ⟨b_10, h⟩ := h
      refine w_cald (o := 1) hx hb hK.1 hY (by decide) 0 rfl rfl b_10 dX6_turn_34 ?_
      obtain ⟨b_11, h⟩ := h
      obtain ⟨σ_12, e_σ_12⟩ : ∃ z : St, z = pA σ 4 (x2).toNatClampNeg (vp_nar .char (gA σ 1 ((((gI σ 1) - (1 : Int32)) - x2)).toNatClampNeg)) := ⟨_, rfl⟩
      have h := h σ_12 e_σ_12
      have hR_σ_12 : tt σ_12 := trivial
      refine w_cast (o := 4) hx hb hK.1 hY (by decide) 0 rfl rfl b_11 dX6_turn_35 (ob' := obM ad ci σ_12) (by rw [e_σ_12]; exact obM_pA (by rw [← gA_up]; rfl)) (fun H locs hY => ?_)
      refine lv_iinc (v := (x2 + 1)) (lv' := [(2, .int (x2 + 1)), (0, .ref (ad 0)), (1, .int x1)]) hx hb dX6_turn_36 hl (k := 2) rfl rfl (by decide) rfl (fun ls hl => ?_)
      refine lv_goto (tgt := 9) hx hb dX6_turn_39 (by decide) ?_
      exact ih σ_12 (x2 + 1) h _ _ hY hR_σ_12  _ (lv_sub hl [1, 2, 0] rfl)
set_option maxHeartbeats 4000000 in
set_option maxRecDepth 100000 in
theorem eX6_turn (C0 : CallFix p m c cX6_turn 3 s args wsX6_turn RX6) (hK : Kx D (tyM ci) s) (K : Int32 → St → Prop) (σ : St) (hret : ∀ (r : Int32) (u : St) (H : Heap) (locs : List Loc) (pc : Nat) (ls : Array Slot), narrow .boolean (.int r) = .int r → K r u → Sy D 12 ad A H0 (obM ad ci u) H locs → tt u → decode cX6_turn pc = .ok (.ireturn, 1) → W p l e rmX6_turn s m args below meth c H locs 0 0 Q (F0 m pc ls [.int r])) (h : wX6_turn σ K) (H : Heap) (locs : List Loc) (hY : Sy D 12 ad A H0 (obM ad ci σ) H locs) (hR : tt σ) (ls : Array Slot) (hl : lv_has ls 3 [(0, .ref (ad 0))]) : W p l e rmX6_turn s m args below meth c H locs 0 0 Q (F0 m 0 ls []) := by
  obtain ⟨hx, hb, hml, hown, hts⟩ := id C0
  refine lv_aload_n hx hb dX6_turn_0 rfl (lv_at hl 0 rfl) ?_
  refine lv_iconst (v := (0 : Int32)) hx hb dX6_turn_1 (by decide) ?_
  obtain ⟨σ_13, e_σ_13⟩ : ∃ z : St, z = pI σ 0 (0 : Int32) := ⟨_, rfl⟩
  have h := h σ_13 e_σ_13
  have hR_σ_13 : tt σ_13 := trivial
  refine w_put (o := 0) (ci := 6) (C := RX6) (T := TX6) (N1 := 14) hx hb hts kX6_turn_inX6 tyX6 tyX6_ok nmX6 hown hK.1 hY (by decide) obM_main rfl 0 (by decide) (hts _ kX6_turn_4) rfl rfl rfl (Nat.le_of_ble_eq_true rfl) dX6_turn_2 (ob' := obM ad ci σ_13) (by rw [e_σ_13]; exact obM_pI rfl) (fun H locs hY => ?_)
  refine lv_iconst (v := (1 : Int32)) hx hb dX6_turn_5 (by decide) ?_
  refine lv_istore_n (lv' := [(1, .int (1 : Int32)), (0, .ref (ad 0))]) hx hb dX6_turn_6 rfl hl (by decide) rfl (fun ls hl => ?_)
  refine lv_iconst (v := (0 : Int32)) hx hb dX6_turn_7 (by decide) ?_
  refine lv_istore_n (lv' := [(2, .int (0 : Int32)), (1, .int (1 : Int32)), (0, .ref (ad 0))]) hx hb dX6_turn_8 rfl hl (by decide) rfl (fun ls hl => ?_)
  obtain ⟨n_14, h⟩ := h
  exact tX6_turn_L9 C0 hK K (1 : Int32) hret n_14 σ_13 (0 : Int32) h _ _ hY hR_σ_13  _ (lv_sub hl [2, 1, 0] rfl)
set_option maxHeartbeats 4000000 in
set_option maxRecDepth 100000 in
theorem mX6_turn (l : Launch) (D : va_G) (ad : Nat → Nat) (ci : Nat → ClassId) (A : Nat → Prop) (σ : St) (K : Int32 → St → Prop) (hR : tt σ) (h : wX6_turn σ K) : Met l yX6_turn wsX6_turn rmX6_turn (va_Pc [.ref (ad 0)] (PreW D 12 ad A (tyM ci) (obM ad ci σ))) (va_Qi (fun r u => narrow .boolean (.int r) = .int r ∧ K r u) (PostW D 12 ad (tyM ci) (obM ad ci) tt) A) 0 0 A := by
  refine Met.ofW (cc := cX6_turn) (maxL := 3) (ret := (some .boolean)) (by decide) rfl ?_
  intro p e s m args below meth c s₁ B hml hv
  obtain ⟨rfl, hP, hK, hD⟩ := hv
  have C0 : CallFix p m c cX6_turn 3 s _ wsX6_turn RX6 := ⟨B.exec, B.bytes, hml, findClass_of_methodNamed B.named, atoms_spec (ws := wsX6_turn) B.pre⟩
  have hlocks := B.notSynchronized
  have hY : Sy D 12 ad A s.heap (obM ad ci σ) s.heap [] := ⟨hP, hD, va_S.rf⟩
  have hl := lv_entry ([.ref (ad 0)]) (n := 3) (Nat.le_of_ble_eq_true rfl)
  rw [lg_entry_eq]
  generalize (lg_sl ([.ref (ad 0)]) ++ List.replicate (3 - (lg_sl ([.ref (ad 0)])).length) Slot.unset).toArray = ls at hl ⊢
  exact eX6_turn C0 hK K σ (fun r u H locs pc ls hn hk hY hR hd => w_zret (I := tt) B.exec B.bytes B.returns hn hlocks hK ⟨hn, hk⟩ (fun t ht => ht) hY hR hd) h _ _ hY hR ls hl
set_option maxHeartbeats 4000000 in
set_option maxRecDepth 100000 in
theorem tX6_signAt_J20 (C0 : CallFix p m c cX6_signAt 2 s args wsX6_signAt RX6) (hK : Kx D (tyM ci) s) (K : Int32 → St → Prop) (σ : St) (x1 : Int32) (s1 : Int32) (hret : ∀ (r : Int32) (u : St) (H : Heap) (locs : List Loc) (pc : Nat) (ls : Array Slot), narrow .char (.int r) = .int r → K r u → Sy D 12 ad A H0 (obM ad ci u) H locs → tt u → decode cX6_signAt pc = .ok (.ireturn, 1) → W p l e rmX6_signAt s m args below meth c H locs 0 0 Q (F0 m pc ls [.int r])) (h : wX6_signAt_J20 K σ x1 s1) (H : Heap) (locs : List Loc) (hY : Sy D 12 ad A H0 (obM ad ci σ) H locs) (hR : tt σ) (ls : Array Slot) (hl : lv_has ls 2 [(0, .ref (ad 0)), (1, .int x1)]) : W p l e rmX6_signAt s m args below meth c H locs 0 0 Q (F0 m 20 ls [.int s1, .ref (ad 0)]) := by
  obtain ⟨hx, hb, hml, hown, hts⟩ := id C0
  refine w_calli (rest := []) (va_runV (As := [.int s1]) (rest := []) C0 (mX6_fails l D ad ci A σ s1 _ hR  h) (cwV 1 hts gX6_signAt_X6_fails rfl rfl rfl ddX6_fails ⟨Nat.le_of_ble_eq_true rfl, Nat.le_of_ble_eq_true rfl⟩) (w_preV (o := 0) (ci := 6) (ob := obM ad ci) (σ := σ) hK hY (by decide) obM_main rfl rfl) rfl rfl hl.1 rfl (lv_room (Nat.le_of_ble_eq_true rfl)) dX6_signAt_20 ⟨Nat.zero_le _, Nat.zero_le _⟩) hY (fun r_1 σ_2 H locs h hY hR_σ_2 => ?_)
  obtain ⟨n_r_1, h⟩ := h
  refine lv_if_eq (tgt := 31) hx hb dX6_signAt_23 (by decide) (fun c_3 => ?_) (fun c_3 => ?_)
  · have h := h.1 c_3
    refine lv_aload_n hx hb dX6_signAt_31 rfl (lv_at hl 0 rfl) ?_
    refine w_get (o := 0) (ci := 6) (C := RX6) (T := TX6) (N1 := 14) (v := .ref (ad 1)) hx hb hts kX6_signAt_inX6 hown hK.1 hY (by decide) obM_main rfl 1 (by decide) (hts _ kX6_signAt_0) rfl rfl dX6_signAt_32 ?_
    refine lv_iload_n hx hb dX6_signAt_35 rfl (lv_at hl 1 rfl) ?_
    obtain ⟨b_4, h⟩ := h
    refine w_cald (o := 1) hx hb hK.1 hY (by decide) 0 rfl rfl b_4 dX6_signAt_36 ?_
    obtain ⟨nr, h⟩ := h
    exact hret (gA σ_2 1 (x1).toNatClampNeg) σ_2 _ _ _ _ nr h hY hR_σ_2 dX6_signAt_37
  · have h := h.2 c_3
    refine lv_bipush (v := (32 : Int32)) hx hb dX6_signAt_26 (by decide) ?_
    refine lv_goto (tgt := 37) hx hb dX6_signAt_28 (by decide) ?_
    obtain ⟨nr, h⟩ := h
    exact hret (32 : Int32) σ_2 _ _ _ _ nr h hY hR_σ_2 dX6_signAt_37
set_option maxHeartbeats 4000000 in
set_option maxRecDepth 100000 in
theorem eX6_signAt (C0 : CallFix p m c cX6_signAt 2 s args wsX6_signAt RX6) (hK : Kx D (tyM ci) s) (K : Int32 → St → Prop) (σ : St) (hret : ∀ (r : Int32) (u : St) (H : Heap) (locs : List Loc) (pc : Nat) (ls : Array Slot), narrow .char (.int r) = .int r → K r u → Sy D 12 ad A H0 (obM ad ci u) H locs → tt u → decode cX6_signAt pc = .ok (.ireturn, 1) → W p l e rmX6_signAt s m args below meth c H locs 0 0 Q (F0 m pc ls [.int r])) (x1 : Int32) (h : wX6_signAt σ x1 K) (H : Heap) (locs : List Loc) (hY : Sy D 12 ad A H0 (obM ad ci σ) H locs) (hR : tt σ) (ls : Array Slot) (hl : lv_has ls 2 [(0, .ref (ad 0)), (1, .int x1)]) : W p l e rmX6_signAt s m args below meth c H locs 0 0 Q (F0 m 0 ls []) := by
  obtain ⟨hx, hb, hml, hown, hts⟩ := id C0
  refine lv_aload_n hx hb dX6_signAt_0 rfl (lv_at hl 0 rfl) ?_
  refine lv_iload_n hx hb dX6_signAt_1 rfl (lv_at hl 1 rfl) ?_
  refine lv_iconst (v := (0 : Int32)) hx hb dX6_signAt_2 (by decide) ?_
  refine lv_aload_n hx hb dX6_signAt_3 rfl (lv_at hl 0 rfl) ?_
  refine w_get (o := 0) (ci := 6) (C := RX6) (T := TX6) (N1 := 14) (v := .int (gI σ 1)) hx hb hts kX6_signAt_inX6 hown hK.1 hY (by decide) obM_main rfl 8 (by decide) (hts _ kX6_signAt_2) rfl rfl dX6_signAt_4 ?_
  refine lv_iconst (v := (1 : Int32)) hx hb dX6_signAt_7 (by decide) ?_
  refine lv_isub hx hb dX6_signAt_8 ?_
  refine w_callip (rest := [.ref (ad 0)]) (va_runS (As := [.int x1, .int (0 : Int32), .int ((gI σ 1) - (1 : Int32))]) (rest := [.ref (ad 0)]) C0 (mX6_in l D ad ci A σ x1 (0 : Int32) ((gI σ 1) - (1 : Int32)) _ hR  h) (va_cwS 3 hts gX6_signAt_X6_in rfl rfl rfl ddX6_in ⟨Nat.le_of_ble_eq_true rfl, Nat.le_of_ble_eq_true rfl⟩) (w_preS (ob := obM ad ci) (σ := σ) hK hY) rfl rfl hl.1 rfl (lv_room (Nat.le_of_ble_eq_true rfl)) dX6_signAt_9 ⟨Nat.zero_le _, Nat.zero_le _⟩) hY (fun r_5 H locs h hY => ?_)
  obtain ⟨n_r_5, h⟩ := h
  refine lv_if_eq (tgt := 19) hx hb dX6_signAt_12 (by decide) (fun c_6 => ?_) (fun c_6 => ?_)
  · have h := h.1 c_6
    refine lv_iconst (v := (1 : Int32)) hx hb dX6_signAt_19 (by decide) ?_
    exact tX6_signAt_J20 C0 hK K σ x1 (1 : Int32) hret h _ _ hY hR _ (lv_sub hl [0, 1] rfl)
  · have h := h.2 c_6
    refine lv_iconst (v := (0 : Int32)) hx hb dX6_signAt_15 (by decide) ?_
    refine lv_goto (tgt := 20) hx hb dX6_signAt_16 (by decide) ?_
    exact tX6_signAt_J20 C0 hK K σ x1 (0 : Int32) hret h _ _ hY hR _ (lv_sub hl [0, 1] rfl)
set_option maxHeartbeats 4000000 in
set_option maxRecDepth 100000 in
theorem mX6_signAt (l : Launch) (D : va_G) (ad : Nat → Nat) (ci : Nat → ClassId) (A : Nat → Prop) (σ : St) (x1 : Int32) (K : Int32 → St → Prop) (hR : tt σ) (h : wX6_signAt σ x1 K) : Met l yX6_signAt wsX6_signAt rmX6_signAt (va_Pc [.ref (ad 0), .int x1] (PreW D 12 ad A (tyM ci) (obM ad ci σ))) (va_Qi (fun r u => narrow .char (.int r) = .int r ∧ K r u) (PostW D 12 ad (tyM ci) (obM ad ci) tt) A) 0 0 A := by
  refine Met.ofW (cc := cX6_signAt) (maxL := 2) (ret := (some .char)) (by decide) rfl ?_
  intro p e s m args below meth c s₁ B hml hv
  obtain ⟨rfl, hP, hK, hD⟩ := hv
  have C0 : CallFix p m c cX6_signAt 2 s _ wsX6_signAt RX6 := ⟨B.exec, B.bytes, hml, findClass_of_methodNamed B.named, atoms_spec (ws := wsX6_signAt) B.pre⟩
  have hlocks := B.notSynchronized
  have hY : Sy D 12 ad A s.heap (obM ad ci σ) s.heap [] := ⟨hP, hD, va_S.rf⟩
  have hl := lv_entry ([.ref (ad 0), .int x1]) (n := 2) (Nat.le_of_ble_eq_true rfl)
  rw [lg_entry_eq]
  generalize (lg_sl ([.ref (ad 0), .int x1]) ++ List.replicate (2 - (lg_sl ([.ref (ad 0), .int x1])).length) Slot.unset).toArray = ls at hl ⊢
  exact eX6_signAt C0 hK K σ (fun r u H locs pc ls hn hk hY hR hd => w_zret (I := tt) B.exec B.bytes B.returns hn hlocks hK ⟨hn, hk⟩ (fun t ht => ht) hY hR hd) x1 h _ _ hY hR ls hl
set_option maxHeartbeats 4000000 in
set_option maxRecDepth 100000 in
theorem tX6_put_J145 (C0 : CallFix p m c cX6_put 5 s args wsX6_put RX6) (hK : Kx D (tyM ci) s) (K : Int32 → St → Prop) (σ : St) (x1 : Int32) (x2 : Int32) (x3 : Int32) (hret : ∀ (r : Int32) (u : St) (H : Heap) (locs : List Loc) (pc : Nat) (ls : Array Slot), K r u → Sy D 12 ad A H0 (obM ad ci u) H locs → tt u → decode cX6_put pc = .ok (.ireturn, 1) → W p l e rmX6_put s m args below meth c H locs 0 0 Q (F0 m pc ls [.int r])) (h : wX6_put_J145 K σ x1 x2 x3) (H : Heap) (locs : List Loc) (hY : Sy D 12 ad A H0 (obM ad ci σ) H locs) (hR : tt σ) (ls : Array Slot) (hl : lv_has ls 5 [(0, .ref (ad 0)), (1, .int x1), (2, .int x2), (3, .int x3)]) : W p l e rmX6_put s m args below meth c H locs 0 0 Q (F0 m 145 ls []) := by
  obtain ⟨hx, hb, hml, hown, hts⟩ := id C0
  refine lv_aload_n hx hb dX6_put_145 rfl (lv_at hl 0 rfl) ?_
  refine w_get (o := 0) (ci := 6) (C := RX6) (T := TX6) (N1 := 14) (v := .ref (ad 6)) hx hb hts kX6_put_inX6 hown hK.1 hY (by decide) obM_main rfl 6 (by decide) (hts _ kX6_put_0) rfl rfl dX6_put_146 ?_
  refine lv_iload_n hx hb dX6_put_149 rfl (lv_at hl 2 rfl) ?_
  refine lv_iload_n hx hb dX6_put_150 rfl (lv_at hl 1 rfl) ?_
  obtain ⟨b_1, h⟩ := h
  obtain ⟨σ_2, e_σ_2⟩ : ∃ z : St, z = pA σ 6 (x2).toNatClampNeg x1 := ⟨_, rfl⟩
  have h := h σ_2 e_σ_2
  have hR_σ_2 : tt σ_2 := trivial
  refine w_iast (o := 6) hx hb hK.1 hY (by decide) 1 rfl rfl b_1 dX6_put_151 (ob' := obM ad ci σ_2) (by rw [e_σ_2]; exact obM_pA (by rw [← gA_up]; rfl)) (fun H locs hY => ?_)
  refine lv_iload_n hx hb dX6_put_152 rfl (lv_at hl 3 rfl) ?_
  exact hret x3 σ_2 _ _ _ _ h hY hR_σ_2 dX6_put_153
set_option maxHeartbeats 4000000 in
set_option maxRecDepth 100000 in
theorem tX6_put_L111 (C0 : CallFix p m c cX6_put 5 s args wsX6_put RX6) (hK : Kx D (tyM ci) s) (K : Int32 → St → Prop) (x1 : Int32) (x2 : Int32) (x3 : Int32) (hret : ∀ (r : Int32) (u : St) (H : Heap) (locs : List Loc) (pc : Nat) (ls : Array Slot), K r u → Sy D 12 ad A H0 (obM ad ci u) H locs → tt u → decode cX6_put pc = .ok (.ireturn, 1) → W p l e rmX6_put s m args below meth c H locs 0 0 Q (F0 m pc ls [.int r])) : ∀ (n : Nat) (σ : St) (x4 : Int32), wX6_put_L111 K x1 x2 x3 n σ x4 → ∀ (H : Heap) (locs : List Loc), Sy D 12 ad A H0 (obM ad ci σ) H locs → tt σ → ∀ ls : Array Slot, lv_has ls 5 [(0, .ref (ad 0)), (1, .int x1), (2, .int x2), (3, .int x3), (4, .int x4)] → W p l e rmX6_put s m args below meth c H locs 0 0 Q (F0 m 111 ls []) := by
  obtain ⟨hx, hb, hml, hown, hts⟩ := id C0
  intro n
  induction n with
  | zero =>
    intro σ x4 h
    exact h.elim
  | succ n ih =>
    intro σ x4 h H locs hY hR  ls hl
    refine lv_iload hx hb dX6_put_111 (lv_at hl 4 rfl) ?_
    refine lv_aload_n hx hb dX6_put_113 rfl (lv_at hl 0 rfl) ?_
    refine w_get (o := 0) (ci := 6) (C := RX6) (T := TX6) (N1 := 14) (v := .int (gI σ 1)) hx hb hts kX6_put_inX6 hown hK.1 hY (by decide) obM_main rfl 8 (by decide) (hts _ kX6_put_2) rfl rfl dX6_put_114 ?_
    refine lv_icmp_ge (tgt := 145) hx hb dX6_put_117 (by decide) (fun c_3 => ?_) (fun c_3 => ?_)
    · have h := h.1 c_3
      exact tX6_put_J145 C0 hK K σ x1 x2 x3 hret h _ _ hY hR _ (lv_sub hl [0, 1, 2, 3] rfl)
    · have h := h.2 c_3
      refine lv_aload_n hx hb dX6_put_120 rfl (lv_at hl 0 rfl) ?_
      refine w_get (o := 0) (ci := 6) (C := RX6) (T := TX6) (N1 := 14) (v := .ref (ad 2)) hx hb hts kX6_put_inX6 hown hK.1 hY (by decide) obM_main rfl 2 (by decide) (hts _ kX6_put_3) rfl rfl dX6_put_121 ?_
      refine lv_bipush (v := (10 : Int32)) hx hb dX6_put_124 (by decide) ?_
      refine lv_iload_n hx hb dX6_put_126 rfl (lv_at hl 2 rfl) ?_
      refine lv_imul hx hb dX6_put_127 ?_
      refine lv_iload hx hb dX6_put_128 (lv_at hl 4 rfl) ?_
      refine lv_iadd hx hb dX6_put_130 ?_
      refine lv_aload_n hx hb dX6_put_131 rfl (lv_at hl 0 rfl) ?_
      refine w_get (o := 0) (ci := 6) (C := RX6) (T := TX6) (N1 := 14) (v := .ref (ad 1)) hx hb hts kX6_put_inX6 hown hK.1 hY (by decide) obM_main rfl 1 (by decide) (hts _ kX6_put_4) rfl rfl dX6_put_132 ?_
      refine lv_iload hx hb dX6_put_135 (lv_at hl 4 rfl) ?_
      obtain ⟨b_4, h⟩ := h
      refine w_cald (o := 1) hx hb hK.1 hY (by decide) 0 rfl rfl b_4 dX6_put_137 ?_
      obtain ⟨b_5, h⟩ := h
      obtain ⟨σ_6, e_σ_6⟩ : ∃ z : St, z = pA σ 2 ((((10 : Int32) * x2) + x4)).toNatClampNeg (vp_nar .char (gA σ 1 (x4).toNatClampNeg)) := ⟨_, rfl⟩
      have h := h σ_6 e_σ_6
      have hR_σ_6 : tt σ_6 := trivial
      refine w_cast (o := 2) hx hb hK.1 hY (by decide) 0 rfl rfl b_5 dX6_put_138 (ob' := obM ad ci σ_6) (by rw [e_σ_6]; exact obM_pA (by rw [← gA_up]; rfl)) (fun H locs hY => ?_)
      refine lv_iinc (v := (x4 + 1)) (lv' := [(4, .int (x4 + 1)), (0, .ref (ad 0)), (1, .int x1), (2, .int x2), (3, .int x3)]) hx hb dX6_put_139 hl (k := 4) rfl rfl (by decide) rfl (fun ls hl => ?_)
      refine lv_goto (tgt := 111) hx hb dX6_put_142 (by decide) ?_
      exact ih σ_6 (x4 + 1) h _ _ hY hR_σ_6  _ (lv_sub hl [1, 2, 3, 4, 0] rfl)
set_option maxHeartbeats 4000000 in
set_option maxRecDepth 100000 in
theorem tX6_put_J78 (C0 : CallFix p m c cX6_put 5 s args wsX6_put RX6) (hK : Kx D (tyM ci) s) (K : Int32 → St → Prop) (σ : St) (x1 : Int32) (x2 : Int32) (s0 : Int32) (hret : ∀ (r : Int32) (u : St) (H : Heap) (locs : List Loc) (pc : Nat) (ls : Array Slot), K r u → Sy D 12 ad A H0 (obM ad ci u) H locs → tt u → decode cX6_put pc = .ok (.ireturn, 1) → W p l e rmX6_put s m args below meth c H locs 0 0 Q (F0 m pc ls [.int r])) (h : wX6_put_J78 K σ x1 x2 s0) (H : Heap) (locs : List Loc) (hY : Sy D 12 ad A H0 (obM ad ci σ) H locs) (hR : tt σ) (ls : Array Slot) (hl : lv_has ls 5 [(0, .ref (ad 0)), (1, .int x1), (2, .int x2)]) : W p l e rmX6_put s m args below meth c H locs 0 0 Q (F0 m 78 ls [.int s0]) := by
  obtain ⟨hx, hb, hml, hown, hts⟩ := id C0
  refine lv_istore_n (lv' := [(3, .int s0), (0, .ref (ad 0)), (1, .int x1), (2, .int x2)]) hx hb dX6_put_78 rfl hl (by decide) rfl (fun ls hl => ?_)
  refine lv_iload_n hx hb dX6_put_79 rfl (lv_at hl 3 rfl) ?_
  refine lv_if_ge (tgt := 145) hx hb dX6_put_80 (by decide) (fun c_7 => ?_) (fun c_7 => ?_)
  · have h := h.1 c_7
    exact tX6_put_J145 C0 hK K σ x1 x2 s0 hret h _ _ hY hR _ (lv_sub hl [1, 2, 3, 0] rfl)
  · have h := h.2 c_7
    refine lv_aload_n hx hb dX6_put_83 rfl (lv_at hl 1 rfl) ?_
    refine w_get (o := 0) (ci := 6) (C := RX6) (T := TX6) (N1 := 14) (v := .int (gI σ 2)) hx hb hts kX6_put_inX6 hown hK.1 hY (by decide) obM_main rfl 9 (by decide) (hts _ kX6_put_5) rfl rfl dX6_put_84 ?_
    refine lv_topi (fun x2_8 e_x2_8 => ?_)
    have h := h x2_8 e_x2_8
    refine lv_istore_n (lv' := [(2, .int x2_8), (3, .int s0), (0, .ref (ad 0)), (1, .int x1)]) hx hb dX6_put_87 rfl hl (by decide) rfl (fun ls hl => ?_)
    refine lv_aload_n hx hb dX6_put_88 rfl (lv_at hl 2 rfl) ?_
    refine lv_dup hx hb dX6_put_89 rfl ?_
    refine w_get (o := 0) (ci := 6) (C := RX6) (T := TX6) (N1 := 14) (v := .int (gI σ 2)) hx hb hts kX6_put_inX6 hown hK.1 hY (by decide) obM_main rfl 9 (by decide) (hts _ kX6_put_5) rfl rfl dX6_put_90 ?_
    refine lv_iconst (v := (1 : Int32)) hx hb dX6_put_93 (by decide) ?_
    refine lv_iadd hx hb dX6_put_94 ?_
    obtain ⟨σ_9, e_σ_9⟩ : ∃ z : St, z = pI σ 2 ((gI σ 2) + (1 : Int32)) := ⟨_, rfl⟩
    have h := h σ_9 e_σ_9
    have hR_σ_9 : tt σ_9 := trivial
    refine w_put (o := 0) (ci := 6) (C := RX6) (T := TX6) (N1 := 14) hx hb hts kX6_put_inX6 tyX6 tyX6_ok nmX6 hown hK.1 hY (by decide) obM_main rfl 9 (by decide) (hts _ kX6_put_5) rfl rfl rfl (Nat.le_of_ble_eq_true rfl) dX6_put_95 (ob' := obM ad ci σ_9) (by rw [e_σ_9]; exact obM_pI rfl) (fun H locs hY => ?_)
    refine lv_aload_n hx hb dX6_put_98 rfl (lv_at hl 2 rfl) ?_
    refine w_get (o := 0) (ci := 6) (C := RX6) (T := TX6) (N1 := 14) (v := .ref (ad 5)) hx hb hts kX6_put_inX6 hown hK.1 hY (by decide) obM_main rfl 5 (by decide) (hts _ kX6_put_6) rfl rfl dX6_put_99 ?_
    refine lv_iload_n hx hb dX6_put_102 rfl (lv_at hl 0 rfl) ?_
    refine lv_aload_n hx hb dX6_put_103 rfl (lv_at hl 2 rfl) ?_
    refine w_get (o := 0) (ci := 6) (C := RX6) (T := TX6) (N1 := 14) (v := .int (gI σ_9 1)) hx hb hts kX6_put_inX6 hown hK.1 hY (by decide) obM_main rfl 8 (by decide) (hts _ kX6_put_2) rfl rfl dX6_put_104 ?_
    obtain ⟨b_10, h⟩ := h
    obtain ⟨σ_11, e_σ_11⟩ : ∃ z : St, z = pA σ_9 5 (x2_8).toNatClampNeg (gI σ_9 1) := ⟨_, rfl⟩
    have h := h σ_11 e_σ_11
    have hR_σ_11 : tt σ_11 := trivial
    refine w_iast (o := 5) hx hb hK.1 hY (by decide) 1 rfl rfl b_10 dX6_put_107 (ob' := obM ad ci σ_11) (by rw [e_σ_11]; exact obM_pA (by rw [← gA_up]; rfl)) (fun H locs hY => ?_)
    refine lv_iconst (v := (0 : Int32)) hx hb dX6_put_108 (by decide) ?_
    refine lv_istore (lv' := [(4, .int (0 : Int32)), (2, .int x2_8), (3, .int s0), (0, .ref (ad 0)), (1, .int x1)]) hx hb dX6_put_109 hl (by decide) rfl (fun ls hl => ?_)
    obtain ⟨n_12, h⟩ := h
    exact tX6_put_L111 C0 hK K x1 x2_8 s0 hret n_12 σ_11 (0 : Int32) h _ _ hY hR_σ_11  _ (lv_sub hl [3, 4, 1, 2, 0] rfl)
set_option maxHeartbeats 4000000 in
set_option maxRecDepth 100000 in
theorem tX6_put_J56 (C0 : CallFix p m c cX6_put 5 s args wsX6_put RX6) (hK : Kx D (tyM ci) s) (K : Int32 → St → Prop) (σ : St) (x1 : Int32) (x2 : Int32) (s1 : Int32) (hret : ∀ (r : Int32) (u : St) (H : Heap) (locs : List Loc) (pc : Nat) (ls : Array Slot), K r u → Sy D 12 ad A H0 (obM ad ci u) H locs → tt u → decode cX6_put pc = .ok (.ireturn, 1) → W p l e rmX6_put s m args below meth c H locs 0 0 Q (F0 m pc ls [.int r])) (h : wX6_put_J56 K σ x1 x2 s1) (H : Heap) (locs : List Loc) (hY : Sy D 12 ad A H0 (obM ad ci σ) H locs) (hR : tt σ) (ls : Array Slot) (hl : lv_has ls 5 [(0, .ref (ad 0)), (1, .int x1), (2, .int x2)]) : W p l e rmX6_put s m args below meth c H locs 0 0 Q (F0 m 56 ls [.int s1, .ref (ad 0)]) := by
  obtain ⟨hx, hb, hml, hown, hts⟩ := id C0
  refine w_calli (rest := []) (va_runV (As := [.int s1]) (rest := []) C0 (mX6_fails l D ad ci A σ s1 _ hR  h) (cwV 1 hts gX6_put_X6_fails rfl rfl rfl ddX6_fails ⟨Nat.le_of_ble_eq_true rfl, Nat.le_of_ble_eq_true rfl⟩) (w_preV (o := 0) (ci := 6) (ob := obM ad ci) (σ := σ) hK hY (by decide) obM_main rfl rfl) rfl rfl hl.1 rfl (lv_room (Nat.le_of_ble_eq_true rfl)) dX6_put_56 ⟨Nat.zero_le _, Nat.zero_le _⟩) hY (fun r_13 σ_14 H locs h hY hR_σ_14 => ?_)
  obtain ⟨n_r_13, h⟩ := h
  refine lv_if_eq (tgt := 64) hx hb dX6_put_59 (by decide) (fun c_15 => ?_) (fun c_15 => ?_)
  · have h := h.1 c_15
    refine lv_iload_n hx hb dX6_put_64 rfl (lv_at hl 2 rfl) ?_
    refine lv_if_ge (tgt := 72) hx hb dX6_put_65 (by decide) (fun c_16 => ?_) (fun c_16 => ?_)
    · have h := h.1 c_16
      refine lv_aload_n hx hb dX6_put_72 rfl (lv_at hl 0 rfl) ?_
      refine w_get (o := 0) (ci := 6) (C := RX6) (T := TX6) (N1 := 14) (v := .ref (ad 6)) hx hb hts kX6_put_inX6 hown hK.1 hY (by decide) obM_main rfl 6 (by decide) (hts _ kX6_put_0) rfl rfl dX6_put_73 ?_
      refine lv_iload_n hx hb dX6_put_76 rfl (lv_at hl 2 rfl) ?_
      obtain ⟨b_17, h⟩ := h
      refine w_iald (o := 6) hx hb hK.1 hY (by decide) 1 rfl rfl b_17 dX6_put_77 ?_
      exact tX6_put_J78 C0 hK K σ_14 x1 x2 (gA σ_14 6 (x2).toNatClampNeg) hret h _ _ hY hR_σ_14 _ (lv_sub hl [0, 1, 2] rfl)
    · have h := h.2 c_16
      refine lv_iconst (v := (-1 : Int32)) hx hb dX6_put_68 (by decide) ?_
      refine lv_goto (tgt := 78) hx hb dX6_put_69 (by decide) ?_
      exact tX6_put_J78 C0 hK K σ_14 x1 x2 (-1 : Int32) hret h _ _ hY hR_σ_14 _ (lv_sub hl [0, 1, 2] rfl)
  · have h := h.2 c_15
    refine lv_iconst (v := (0 : Int32)) hx hb dX6_put_62 (by decide) ?_
    exact hret (0 : Int32) σ_14 _ _ _ _ h hY hR_σ_14 dX6_put_63
set_option maxHeartbeats 4000000 in
set_option maxRecDepth 100000 in
theorem tX6_put_J55 (C0 : CallFix p m c cX6_put 5 s args wsX6_put RX6) (hK : Kx D (tyM ci) s) (K : Int32 → St → Prop) (σ : St) (x1 : Int32) (x2 : Int32) (hret : ∀ (r : Int32) (u : St) (H : Heap) (locs : List Loc) (pc : Nat) (ls : Array Slot), K r u → Sy D 12 ad A H0 (obM ad ci u) H locs → tt u → decode cX6_put pc = .ok (.ireturn, 1) → W p l e rmX6_put s m args below meth c H locs 0 0 Q (F0 m pc ls [.int r])) (h : wX6_put_J55 K σ x1 x2) (H : Heap) (locs : List Loc) (hY : Sy D 12 ad A H0 (obM ad ci σ) H locs) (hR : tt σ) (ls : Array Slot) (hl : lv_has ls 5 [(0, .ref (ad 0)), (1, .int x1), (2, .int x2)]) : W p l e rmX6_put s m args below meth c H locs 0 0 Q (F0 m 55 ls [.ref (ad 0)]) := by
  obtain ⟨hx, hb, hml, hown, hts⟩ := id C0
  refine lv_iconst (v := (0 : Int32)) hx hb dX6_put_55 (by decide) ?_
  exact tX6_put_J56 C0 hK K σ x1 x2 (0 : Int32) hret h _ _ hY hR _ (lv_sub hl [0, 1, 2] rfl)
set_option maxHeartbeats 4000000 in
set_option maxRecDepth 100000 in
theorem eX6_put (C0 : CallFix p m c cX6_put 5 s args wsX6_put RX6) (hK : Kx D (tyM ci) s) (K : Int32 → St → Prop) (σ : St) (hret : ∀ (r : Int32) (u : St) (H : Heap) (locs : List Loc) (pc : Nat) (ls : Array Slot), K r u → Sy D 12 ad A H0 (obM ad ci u) H locs → tt u → decode cX6_put pc = .ok (.ireturn, 1) → W p l e rmX6_put s m args below meth c H locs 0 0 Q (F0 m pc ls [.int r])) (x1 : Int32) (h : wX6_put σ x1 K) (H : Heap) (locs : List Loc) (hY : Sy D 12 ad A H0 (obM ad ci σ) H locs) (hR : tt σ) (ls : Array Slot) (hl : lv_has ls 5 [(0, .ref (ad 0)), (1, .int x1)]) : W p l e rmX6_put s m args below meth c H locs 0 0 Q (F0 m 0 ls []) := by
  obtain ⟨hx, hb, hml, hown, hts⟩ := id C0
  refine lv_aload_n hx hb dX6_put_0 rfl (lv_at hl 0 rfl) ?_
  refine w_callip (rest := []) (va_runV (As := []) (rest := []) C0 (mX6_own l D ad ci A σ _ hR  h) (cwV 0 hts gX6_put_X6_own rfl rfl rfl ddX6_own ⟨Nat.le_of_ble_eq_true rfl, Nat.le_of_ble_eq_true rfl⟩) (w_preV (o := 0) (ci := 6) (ob := obM ad ci) (σ := σ) hK hY (by decide) obM_main rfl rfl) rfl rfl hl.1 rfl (lv_room (Nat.le_of_ble_eq_true rfl)) dX6_put_1 ⟨Nat.zero_le _, Nat.zero_le _⟩) hY (fun r_18 H locs h hY => ?_)
  refine lv_istore_n (lv' := [(2, .int r_18), (0, .ref (ad 0)), (1, .int x1)]) hx hb dX6_put_4 rfl hl (by decide) rfl (fun ls hl => ?_)
  refine lv_aload_n hx hb dX6_put_5 rfl (lv_at hl 1 rfl) ?_
  refine lv_iload_n hx hb dX6_put_6 rfl (lv_at hl 2 rfl) ?_
  refine lv_iconst (v := (0 : Int32)) hx hb dX6_put_7 (by decide) ?_
  refine lv_sipush (v := (999 : Int32)) hx hb dX6_put_8 (by decide) ?_
  refine w_callip (rest := [.ref (ad 0)]) (va_runS (As := [.int x1, .int (0 : Int32), .int (999 : Int32)]) (rest := [.ref (ad 0)]) C0 (mX6_in l D ad ci A σ x1 (0 : Int32) (999 : Int32) _ hR  h) (va_cwS 3 hts gX6_put_X6_in rfl rfl rfl ddX6_in ⟨Nat.le_of_ble_eq_true rfl, Nat.le_of_ble_eq_true rfl⟩) (w_preS (ob := obM ad ci) (σ := σ) hK hY) rfl rfl hl.1 rfl (lv_room (Nat.le_of_ble_eq_true rfl)) dX6_put_11 ⟨Nat.zero_le _, Nat.zero_le _⟩) hY (fun r_19 H locs h hY => ?_)
  obtain ⟨n_r_19, h⟩ := h
  refine lv_if_ne (tgt := 21) hx hb dX6_put_14 (by decide) (fun c_20 => ?_) (fun c_20 => ?_)
  · have h := h.2 c_20
    refine lv_aload_n hx hb dX6_put_21 rfl (lv_at hl 1 rfl) ?_
    refine w_get (o := 0) (ci := 6) (C := RX6) (T := TX6) (N1 := 14) (v := .int (gI σ 1)) hx hb hts kX6_put_inX6 hown hK.1 hY (by decide) obM_main rfl 8 (by decide) (hts _ kX6_put_2) rfl rfl dX6_put_22 ?_
    refine lv_iconst (v := (1 : Int32)) hx hb dX6_put_25 (by decide) ?_
    refine lv_bipush (v := (10 : Int32)) hx hb dX6_put_26 (by decide) ?_
    refine w_callip (rest := [.ref (ad 0)]) (va_runS (As := [.int (gI σ 1), .int (1 : Int32), .int (10 : Int32)]) (rest := [.ref (ad 0)]) C0 (mX6_in l D ad ci A σ (gI σ 1) (1 : Int32) (10 : Int32) _ hR  h) (va_cwS 3 hts gX6_put_X6_in rfl rfl rfl ddX6_in ⟨Nat.le_of_ble_eq_true rfl, Nat.le_of_ble_eq_true rfl⟩) (w_preS (ob := obM ad ci) (σ := σ) hK hY) rfl rfl hl.1 rfl (lv_room (Nat.le_of_ble_eq_true rfl)) dX6_put_28 ⟨Nat.zero_le _, Nat.zero_le _⟩) hY (fun r_21 H locs h hY => ?_)
    obtain ⟨n_r_21, h⟩ := h
    refine lv_if_ne (tgt := 38) hx hb dX6_put_31 (by decide) (fun c_22 => ?_) (fun c_22 => ?_)
    · have h := h.2 c_22
      refine lv_iload_n hx hb dX6_put_38 rfl (lv_at hl 0 rfl) ?_
      refine lv_if_ge (tgt := 55) hx hb dX6_put_39 (by decide) (fun c_23 => ?_) (fun c_23 => ?_)
      · have h := h.1 c_23
        exact tX6_put_J55 C0 hK K σ x1 r_18 hret h _ _ hY hR _ (lv_sub hl [1, 2, 0] rfl)
      · have h := h.2 c_23
        refine lv_aload_n hx hb dX6_put_42 rfl (lv_at hl 1 rfl) ?_
        refine w_get (o := 0) (ci := 6) (C := RX6) (T := TX6) (N1 := 14) (v := .int (gI σ 2)) hx hb hts kX6_put_inX6 hown hK.1 hY (by decide) obM_main rfl 9 (by decide) (hts _ kX6_put_5) rfl rfl dX6_put_43 ?_
        refine lv_bipush (v := (24 : Int32)) hx hb dX6_put_46 (by decide) ?_
        refine lv_icmp_ne (tgt := 55) hx hb dX6_put_48 (by decide) (fun c_24 => ?_) (fun c_24 => ?_)
        · have h := h.2 c_24
          exact tX6_put_J55 C0 hK K σ x1 r_18 hret h _ _ hY hR _ (lv_sub hl [1, 2, 0] rfl)
        · have h := h.1 c_24
          refine lv_iconst (v := (3 : Int32)) hx hb dX6_put_51 (by decide) ?_
          refine lv_goto (tgt := 56) hx hb dX6_put_52 (by decide) ?_
          exact tX6_put_J56 C0 hK K σ x1 r_18 (3 : Int32) hret h _ _ hY hR _ (lv_sub hl [1, 2, 0] rfl)
    · have h := h.1 c_22
      refine lv_iconst (v := (2 : Int32)) hx hb dX6_put_34 (by decide) ?_
      refine lv_goto (tgt := 56) hx hb dX6_put_35 (by decide) ?_
      exact tX6_put_J56 C0 hK K σ x1 r_18 (2 : Int32) hret h _ _ hY hR _ (lv_sub hl [1, 2, 0] rfl)
  · have h := h.1 c_20
    refine lv_iconst (v := (1 : Int32)) hx hb dX6_put_17 (by decide) ?_
    refine lv_goto (tgt := 56) hx hb dX6_put_18 (by decide) ?_
    exact tX6_put_J56 C0 hK K σ x1 r_18 (1 : Int32) hret h _ _ hY hR _ (lv_sub hl [1, 2, 0] rfl)
set_option maxHeartbeats 4000000 in
set_option maxRecDepth 100000 in
theorem mX6_put (l : Launch) (D : va_G) (ad : Nat → Nat) (ci : Nat → ClassId) (A : Nat → Prop) (σ : St) (x1 : Int32) (K : Int32 → St → Prop) (hR : tt σ) (h : wX6_put σ x1 K) : Met l yX6_put wsX6_put rmX6_put (va_Pc [.ref (ad 0), .int x1] (PreW D 12 ad A (tyM ci) (obM ad ci σ))) (va_Qi (fun r u => K r u) (PostW D 12 ad (tyM ci) (obM ad ci) tt) A) 0 0 A := by
  refine Met.ofW (cc := cX6_put) (maxL := 5) (ret := (some .int)) (by decide) rfl ?_
  intro p e s m args below meth c s₁ B hml hv
  obtain ⟨rfl, hP, hK, hD⟩ := hv
  have C0 : CallFix p m c cX6_put 5 s _ wsX6_put RX6 := ⟨B.exec, B.bytes, hml, findClass_of_methodNamed B.named, atoms_spec (ws := wsX6_put) B.pre⟩
  have hlocks := B.notSynchronized
  have hY : Sy D 12 ad A s.heap (obM ad ci σ) s.heap [] := ⟨hP, hD, va_S.rf⟩
  have hl := lv_entry ([.ref (ad 0), .int x1]) (n := 5) (Nat.le_of_ble_eq_true rfl)
  rw [lg_entry_eq]
  generalize (lg_sl ([.ref (ad 0), .int x1]) ++ List.replicate (5 - (lg_sl ([.ref (ad 0), .int x1])).length) Slot.unset).toArray = ls at hl ⊢
  exact eX6_put C0 hK K σ (fun r u H locs pc ls hk hY hR hd => w_iret (I := tt) B.exec B.bytes B.returns hlocks hK hk (fun t ht => ht) hY hR hd) x1 h _ _ hY hR ls hl
set_option maxHeartbeats 4000000 in
set_option maxRecDepth 100000 in
theorem tX6_take_J15 (C0 : CallFix p m c cX6_take 3 s args wsX6_take RX6) (hK : Kx D (tyM ci) s) (K : Int32 → St → Prop) (σ : St) (x1 : Int32) (s1 : Int32) (hret : ∀ (r : Int32) (u : St) (H : Heap) (locs : List Loc) (pc : Nat) (ls : Array Slot), K r u → Sy D 12 ad A H0 (obM ad ci u) H locs → tt u → decode cX6_take pc = .ok (.ireturn, 1) → W p l e rmX6_take s m args below meth c H locs 0 0 Q (F0 m pc ls [.int r])) (h : wX6_take_J15 K σ x1 s1) (H : Heap) (locs : List Loc) (hY : Sy D 12 ad A H0 (obM ad ci σ) H locs) (hR : tt σ) (ls : Array Slot) (hl : lv_has ls 3 [(0, .ref (ad 0)), (1, .int x1)]) : W p l e rmX6_take s m args below meth c H locs 0 0 Q (F0 m 15 ls [.int s1, .ref (ad 0)]) := by
  obtain ⟨hx, hb, hml, hown, hts⟩ := id C0
  refine w_calli (rest := []) (va_runV (As := [.int s1]) (rest := []) C0 (mX6_fails l D ad ci A σ s1 _ hR  h) (cwV 1 hts gX6_take_X6_fails rfl rfl rfl ddX6_fails ⟨Nat.le_of_ble_eq_true rfl, Nat.le_of_ble_eq_true rfl⟩) (w_preV (o := 0) (ci := 6) (ob := obM ad ci) (σ := σ) hK hY (by decide) obM_main rfl rfl) rfl rfl hl.1 rfl (lv_room (Nat.le_of_ble_eq_true rfl)) dX6_take_15 ⟨Nat.zero_le _, Nat.zero_le _⟩) hY (fun r_1 σ_2 H locs h hY hR_σ_2 => ?_)
  obtain ⟨n_r_1, h⟩ := h
  refine lv_if_eq (tgt := 23) hx hb dX6_take_18 (by decide) (fun c_3 => ?_) (fun c_3 => ?_)
  · have h := h.1 c_3
    refine lv_aload_n hx hb dX6_take_23 rfl (lv_at hl 0 rfl) ?_
    refine w_get (o := 0) (ci := 6) (C := RX6) (T := TX6) (N1 := 14) (v := .ref (ad 6)) hx hb hts kX6_take_inX6 hown hK.1 hY (by decide) obM_main rfl 6 (by decide) (hts _ kX6_take_0) rfl rfl dX6_take_24 ?_
    refine lv_iload_n hx hb dX6_take_27 rfl (lv_at hl 1 rfl) ?_
    obtain ⟨b_4, h⟩ := h
    refine w_iald (o := 6) hx hb hK.1 hY (by decide) 1 rfl rfl b_4 dX6_take_28 ?_
    refine lv_topi (fun x2_5 e_x2_5 => ?_)
    have h := h x2_5 e_x2_5
    refine lv_istore_n (lv' := [(2, .int x2_5), (0, .ref (ad 0)), (1, .int x1)]) hx hb dX6_take_29 rfl hl (by decide) rfl (fun ls hl => ?_)
    refine lv_aload_n hx hb dX6_take_30 rfl (lv_at hl 1 rfl) ?_
    refine lv_iload_n hx hb dX6_take_31 rfl (lv_at hl 2 rfl) ?_
    refine w_callv (rest := []) (va_runV (As := [.int x1]) (rest := []) C0 (mX6_goes l D ad ci A σ_2 x1 _ hR_σ_2  h) (cwV 1 hts gX6_take_X6_goes rfl rfl rfl ddX6_goes ⟨Nat.le_of_ble_eq_true rfl, Nat.le_of_ble_eq_true rfl⟩) (w_preV (o := 0) (ci := 6) (ob := obM ad ci) (σ := σ_2) hK hY (by decide) obM_main rfl rfl) rfl rfl hl.1 rfl (lv_room (Nat.le_of_ble_eq_true rfl)) dX6_take_32 ⟨Nat.zero_le _, Nat.zero_le _⟩) hY (fun σ_7 H locs h hY hR_σ_7 => ?_)
    refine lv_iload_n hx hb dX6_take_35 rfl (lv_at hl 0 rfl) ?_
    exact hret x2_5 σ_7 _ _ _ _ h hY hR_σ_7 dX6_take_36
  · have h := h.2 c_3
    refine lv_iconst (v := (0 : Int32)) hx hb dX6_take_21 (by decide) ?_
    exact hret (0 : Int32) σ_2 _ _ _ _ h hY hR_σ_2 dX6_take_22
set_option maxHeartbeats 4000000 in
set_option maxRecDepth 100000 in
theorem eX6_take (C0 : CallFix p m c cX6_take 3 s args wsX6_take RX6) (hK : Kx D (tyM ci) s) (K : Int32 → St → Prop) (σ : St) (hret : ∀ (r : Int32) (u : St) (H : Heap) (locs : List Loc) (pc : Nat) (ls : Array Slot), K r u → Sy D 12 ad A H0 (obM ad ci u) H locs → tt u → decode cX6_take pc = .ok (.ireturn, 1) → W p l e rmX6_take s m args below meth c H locs 0 0 Q (F0 m pc ls [.int r])) (h : wX6_take σ K) (H : Heap) (locs : List Loc) (hY : Sy D 12 ad A H0 (obM ad ci σ) H locs) (hR : tt σ) (ls : Array Slot) (hl : lv_has ls 3 [(0, .ref (ad 0))]) : W p l e rmX6_take s m args below meth c H locs 0 0 Q (F0 m 0 ls []) := by
  obtain ⟨hx, hb, hml, hown, hts⟩ := id C0
  refine lv_aload_n hx hb dX6_take_0 rfl (lv_at hl 0 rfl) ?_
  refine w_callip (rest := []) (va_runV (As := []) (rest := []) C0 (mX6_own l D ad ci A σ _ hR  h) (cwV 0 hts gX6_take_X6_own rfl rfl rfl ddX6_own ⟨Nat.le_of_ble_eq_true rfl, Nat.le_of_ble_eq_true rfl⟩) (w_preV (o := 0) (ci := 6) (ob := obM ad ci) (σ := σ) hK hY (by decide) obM_main rfl rfl) rfl rfl hl.1 rfl (lv_room (Nat.le_of_ble_eq_true rfl)) dX6_take_1 ⟨Nat.zero_le _, Nat.zero_le _⟩) hY (fun r_8 H locs h hY => ?_)
  refine lv_istore_n (lv' := [(1, .int r_8), (0, .ref (ad 0))]) hx hb dX6_take_4 rfl hl (by decide) rfl (fun ls hl => ?_)
  refine lv_aload_n hx hb dX6_take_5 rfl (lv_at hl 1 rfl) ?_
  refine lv_iload_n hx hb dX6_take_6 rfl (lv_at hl 0 rfl) ?_
  refine lv_if_ge (tgt := 14) hx hb dX6_take_7 (by decide) (fun c_9 => ?_) (fun c_9 => ?_)
  · have h := h.1 c_9
    refine lv_iconst (v := (0 : Int32)) hx hb dX6_take_14 (by decide) ?_
    exact tX6_take_J15 C0 hK K σ r_8 (0 : Int32) hret h _ _ hY hR _ (lv_sub hl [1, 0] rfl)
  · have h := h.2 c_9
    refine lv_iconst (v := (1 : Int32)) hx hb dX6_take_10 (by decide) ?_
    refine lv_goto (tgt := 15) hx hb dX6_take_11 (by decide) ?_
    exact tX6_take_J15 C0 hK K σ r_8 (1 : Int32) hret h _ _ hY hR _ (lv_sub hl [1, 0] rfl)
set_option maxHeartbeats 4000000 in
set_option maxRecDepth 100000 in
theorem mX6_take (l : Launch) (D : va_G) (ad : Nat → Nat) (ci : Nat → ClassId) (A : Nat → Prop) (σ : St) (K : Int32 → St → Prop) (hR : tt σ) (h : wX6_take σ K) : Met l yX6_take wsX6_take rmX6_take (va_Pc [.ref (ad 0)] (PreW D 12 ad A (tyM ci) (obM ad ci σ))) (va_Qi (fun r u => K r u) (PostW D 12 ad (tyM ci) (obM ad ci) tt) A) 0 0 A := by
  refine Met.ofW (cc := cX6_take) (maxL := 3) (ret := (some .int)) (by decide) rfl ?_
  intro p e s m args below meth c s₁ B hml hv
  obtain ⟨rfl, hP, hK, hD⟩ := hv
  have C0 : CallFix p m c cX6_take 3 s _ wsX6_take RX6 := ⟨B.exec, B.bytes, hml, findClass_of_methodNamed B.named, atoms_spec (ws := wsX6_take) B.pre⟩
  have hlocks := B.notSynchronized
  have hY : Sy D 12 ad A s.heap (obM ad ci σ) s.heap [] := ⟨hP, hD, va_S.rf⟩
  have hl := lv_entry ([.ref (ad 0)]) (n := 3) (Nat.le_of_ble_eq_true rfl)
  rw [lg_entry_eq]
  generalize (lg_sl ([.ref (ad 0)]) ++ List.replicate (3 - (lg_sl ([.ref (ad 0)])).length) Slot.unset).toArray = ls at hl ⊢
  exact eX6_take C0 hK K σ (fun r u H locs pc ls hk hY hR hd => w_iret (I := tt) B.exec B.bytes B.returns hlocks hK hk (fun t ht => ht) hY hR hd) h _ _ hY hR ls hl
set_option maxHeartbeats 4000000 in
set_option maxRecDepth 100000 in
theorem tX6_number_J15 (C0 : CallFix p m c cX6_number 2 s args wsX6_number RX6) (hK : Kx D (tyM ci) s) (K : Int32 → St → Prop) (σ : St) (x1 : Int32) (s1 : Int32) (hret : ∀ (r : Int32) (u : St) (H : Heap) (locs : List Loc) (pc : Nat) (ls : Array Slot), K r u → Sy D 12 ad A H0 (obM ad ci u) H locs → tt u → decode cX6_number pc = .ok (.ireturn, 1) → W p l e rmX6_number s m args below meth c H locs 0 0 Q (F0 m pc ls [.int r])) (h : wX6_number_J15 K σ x1 s1) (H : Heap) (locs : List Loc) (hY : Sy D 12 ad A H0 (obM ad ci σ) H locs) (hR : tt σ) (ls : Array Slot) (hl : lv_has ls 2 [(0, .ref (ad 0)), (1, .int x1)]) : W p l e rmX6_number s m args below meth c H locs 0 0 Q (F0 m 15 ls [.int s1, .ref (ad 0)]) := by
  obtain ⟨hx, hb, hml, hown, hts⟩ := id C0
  refine w_calli (rest := []) (va_runV (As := [.int s1]) (rest := []) C0 (mX6_fails l D ad ci A σ s1 _ hR  h) (cwV 1 hts gX6_number_X6_fails rfl rfl rfl ddX6_fails ⟨Nat.le_of_ble_eq_true rfl, Nat.le_of_ble_eq_true rfl⟩) (w_preV (o := 0) (ci := 6) (ob := obM ad ci) (σ := σ) hK hY (by decide) obM_main rfl rfl) rfl rfl hl.1 rfl (lv_room (Nat.le_of_ble_eq_true rfl)) dX6_number_15 ⟨Nat.zero_le _, Nat.zero_le _⟩) hY (fun r_1 σ_2 H locs h hY hR_σ_2 => ?_)
  obtain ⟨n_r_1, h⟩ := h
  refine lv_if_eq (tgt := 25) hx hb dX6_number_18 (by decide) (fun c_3 => ?_) (fun c_3 => ?_)
  · have h := h.1 c_3
    refine lv_aload_n hx hb dX6_number_25 rfl (lv_at hl 0 rfl) ?_
    refine w_get (o := 0) (ci := 6) (C := RX6) (T := TX6) (N1 := 14) (v := .ref (ad 6)) hx hb hts kX6_number_inX6 hown hK.1 hY (by decide) obM_main rfl 6 (by decide) (hts _ kX6_number_0) rfl rfl dX6_number_26 ?_
    refine lv_iload_n hx hb dX6_number_29 rfl (lv_at hl 1 rfl) ?_
    obtain ⟨b_4, h⟩ := h
    refine w_iald (o := 6) hx hb hK.1 hY (by decide) 1 rfl rfl b_4 dX6_number_30 ?_
    exact hret (gA σ_2 6 (x1).toNatClampNeg) σ_2 _ _ _ _ h hY hR_σ_2 dX6_number_31
  · have h := h.2 c_3
    refine lv_iconst (v := (0 : Int32)) hx hb dX6_number_21 (by decide) ?_
    refine lv_goto (tgt := 31) hx hb dX6_number_22 (by decide) ?_
    exact hret (0 : Int32) σ_2 _ _ _ _ h hY hR_σ_2 dX6_number_31
set_option maxHeartbeats 4000000 in
set_option maxRecDepth 100000 in
theorem eX6_number (C0 : CallFix p m c cX6_number 2 s args wsX6_number RX6) (hK : Kx D (tyM ci) s) (K : Int32 → St → Prop) (σ : St) (hret : ∀ (r : Int32) (u : St) (H : Heap) (locs : List Loc) (pc : Nat) (ls : Array Slot), K r u → Sy D 12 ad A H0 (obM ad ci u) H locs → tt u → decode cX6_number pc = .ok (.ireturn, 1) → W p l e rmX6_number s m args below meth c H locs 0 0 Q (F0 m pc ls [.int r])) (h : wX6_number σ K) (H : Heap) (locs : List Loc) (hY : Sy D 12 ad A H0 (obM ad ci σ) H locs) (hR : tt σ) (ls : Array Slot) (hl : lv_has ls 2 [(0, .ref (ad 0))]) : W p l e rmX6_number s m args below meth c H locs 0 0 Q (F0 m 0 ls []) := by
  obtain ⟨hx, hb, hml, hown, hts⟩ := id C0
  refine lv_aload_n hx hb dX6_number_0 rfl (lv_at hl 0 rfl) ?_
  refine w_callip (rest := []) (va_runV (As := []) (rest := []) C0 (mX6_own l D ad ci A σ _ hR  h) (cwV 0 hts gX6_number_X6_own rfl rfl rfl ddX6_own ⟨Nat.le_of_ble_eq_true rfl, Nat.le_of_ble_eq_true rfl⟩) (w_preV (o := 0) (ci := 6) (ob := obM ad ci) (σ := σ) hK hY (by decide) obM_main rfl rfl) rfl rfl hl.1 rfl (lv_room (Nat.le_of_ble_eq_true rfl)) dX6_number_1 ⟨Nat.zero_le _, Nat.zero_le _⟩) hY (fun r_5 H locs h hY => ?_)
  refine lv_istore_n (lv' := [(1, .int r_5), (0, .ref (ad 0))]) hx hb dX6_number_4 rfl hl (by decide) rfl (fun ls hl => ?_)
  refine lv_aload_n hx hb dX6_number_5 rfl (lv_at hl 1 rfl) ?_
  refine lv_iload_n hx hb dX6_number_6 rfl (lv_at hl 0 rfl) ?_
  refine lv_if_ge (tgt := 14) hx hb dX6_number_7 (by decide) (fun c_6 => ?_) (fun c_6 => ?_)
  · have h := h.1 c_6
    refine lv_iconst (v := (0 : Int32)) hx hb dX6_number_14 (by decide) ?_
    exact tX6_number_J15 C0 hK K σ r_5 (0 : Int32) hret h _ _ hY hR _ (lv_sub hl [1, 0] rfl)
  · have h := h.2 c_6
    refine lv_iconst (v := (1 : Int32)) hx hb dX6_number_10 (by decide) ?_
    refine lv_goto (tgt := 15) hx hb dX6_number_11 (by decide) ?_
    exact tX6_number_J15 C0 hK K σ r_5 (1 : Int32) hret h _ _ hY hR _ (lv_sub hl [1, 0] rfl)
set_option maxHeartbeats 4000000 in
set_option maxRecDepth 100000 in
theorem mX6_number (l : Launch) (D : va_G) (ad : Nat → Nat) (ci : Nat → ClassId) (A : Nat → Prop) (σ : St) (K : Int32 → St → Prop) (hR : tt σ) (h : wX6_number σ K) : Met l yX6_number wsX6_number rmX6_number (va_Pc [.ref (ad 0)] (PreW D 12 ad A (tyM ci) (obM ad ci σ))) (va_Qi (fun r u => K r u) (PostW D 12 ad (tyM ci) (obM ad ci) tt) A) 0 0 A := by
  refine Met.ofW (cc := cX6_number) (maxL := 2) (ret := (some .int)) (by decide) rfl ?_
  intro p e s m args below meth c s₁ B hml hv
  obtain ⟨rfl, hP, hK, hD⟩ := hv
  have C0 : CallFix p m c cX6_number 2 s _ wsX6_number RX6 := ⟨B.exec, B.bytes, hml, findClass_of_methodNamed B.named, atoms_spec (ws := wsX6_number) B.pre⟩
  have hlocks := B.notSynchronized
  have hY : Sy D 12 ad A s.heap (obM ad ci σ) s.heap [] := ⟨hP, hD, va_S.rf⟩
  have hl := lv_entry ([.ref (ad 0)]) (n := 2) (Nat.le_of_ble_eq_true rfl)
  rw [lg_entry_eq]
  generalize (lg_sl ([.ref (ad 0)]) ++ List.replicate (2 - (lg_sl ([.ref (ad 0)])).length) Slot.unset).toArray = ls at hl ⊢
  exact eX6_number C0 hK K σ (fun r u H locs pc ls hk hY hR hd => w_iret (I := tt) B.exec B.bytes B.returns hlocks hK hk (fun t ht => ht) hY hR hd) h _ _ hY hR ls hl
set_option maxHeartbeats 4000000 in
set_option maxRecDepth 100000 in
theorem eX6_words (C0 : CallFix p m c cX6_words 1 s args wsX6_words RX6) (hK : Kx D (tyM ci) s) (K : Int32 → St → Prop) (σ : St) (hret : ∀ (r : Int32) (u : St) (H : Heap) (locs : List Loc) (pc : Nat) (ls : Array Slot), K r u → Sy D 12 ad A H0 (obM ad ci u) H locs → tt u → decode cX6_words pc = .ok (.ireturn, 1) → W p l e rmX6_words s m args below meth c H locs 0 0 Q (F0 m pc ls [.int r])) (h : wX6_words σ K) (H : Heap) (locs : List Loc) (hY : Sy D 12 ad A H0 (obM ad ci σ) H locs) (hR : tt σ) (ls : Array Slot) (hl : lv_has ls 1 [(0, .ref (ad 0))]) : W p l e rmX6_words s m args below meth c H locs 0 0 Q (F0 m 0 ls []) := by
  obtain ⟨hx, hb, hml, hown, hts⟩ := id C0
  refine lv_aload_n hx hb dX6_words_0 rfl (lv_at hl 0 rfl) ?_
  refine lv_iconst (v := (0 : Int32)) hx hb dX6_words_1 (by decide) ?_
  obtain ⟨σ_1, e_σ_1⟩ : ∃ z : St, z = pI σ 0 (0 : Int32) := ⟨_, rfl⟩
  have h := h σ_1 e_σ_1
  have hR_σ_1 : tt σ_1 := trivial
  refine w_put (o := 0) (ci := 6) (C := RX6) (T := TX6) (N1 := 14) hx hb hts kX6_words_inX6 tyX6 tyX6_ok nmX6 hown hK.1 hY (by decide) obM_main rfl 0 (by decide) (hts _ kX6_words_0) rfl rfl rfl (Nat.le_of_ble_eq_true rfl) dX6_words_2 (ob' := obM ad ci σ_1) (by rw [e_σ_1]; exact obM_pI rfl) (fun H locs hY => ?_)
  refine lv_aload_n hx hb dX6_words_5 rfl (lv_at hl 0 rfl) ?_
  refine w_get (o := 0) (ci := 6) (C := RX6) (T := TX6) (N1 := 14) (v := .int (gI σ_1 2)) hx hb hts kX6_words_inX6 hown hK.1 hY (by decide) obM_main rfl 9 (by decide) (hts _ kX6_words_2) rfl rfl dX6_words_6 ?_
  exact hret (gI σ_1 2) σ_1 _ _ _ _ h hY hR_σ_1 dX6_words_9
set_option maxHeartbeats 4000000 in
set_option maxRecDepth 100000 in
theorem mX6_words (l : Launch) (D : va_G) (ad : Nat → Nat) (ci : Nat → ClassId) (A : Nat → Prop) (σ : St) (K : Int32 → St → Prop) (hR : tt σ) (h : wX6_words σ K) : Met l yX6_words wsX6_words rmX6_words (va_Pc [.ref (ad 0)] (PreW D 12 ad A (tyM ci) (obM ad ci σ))) (va_Qi (fun r u => K r u) (PostW D 12 ad (tyM ci) (obM ad ci) tt) A) 0 0 A := by
  refine Met.ofW (cc := cX6_words) (maxL := 1) (ret := (some .int)) (by decide) rfl ?_
  intro p e s m args below meth c s₁ B hml hv
  obtain ⟨rfl, hP, hK, hD⟩ := hv
  have C0 : CallFix p m c cX6_words 1 s _ wsX6_words RX6 := ⟨B.exec, B.bytes, hml, findClass_of_methodNamed B.named, atoms_spec (ws := wsX6_words) B.pre⟩
  have hlocks := B.notSynchronized
  have hY : Sy D 12 ad A s.heap (obM ad ci σ) s.heap [] := ⟨hP, hD, va_S.rf⟩
  have hl := lv_entry ([.ref (ad 0)]) (n := 1) (Nat.le_of_ble_eq_true rfl)
  rw [lg_entry_eq]
  generalize (lg_sl ([.ref (ad 0)]) ++ List.replicate (1 - (lg_sl ([.ref (ad 0)])).length) Slot.unset).toArray = ls at hl ⊢
  exact eX6_words C0 hK K σ (fun r u H locs pc ls hk hY hR hd => w_iret (I := tt) B.exec B.bytes B.returns hlocks hK hk (fun t ht => ht) hY hR hd) h _ _ hY hR ls hl
set_option maxHeartbeats 4000000 in
set_option maxRecDepth 100000 in
theorem tX6_rank_L9 (C0 : CallFix p m c cX6_rank 3 s args wsX6_rank RX6) (hK : Kx D (tyM ci) s) (K : Int32 → St → Prop) (σ : St) (hret : ∀ (r : Int32) (u : St) (H : Heap) (locs : List Loc) (pc : Nat) (ls : Array Slot), K r u → Sy D 12 ad A H0 (obM ad ci u) H locs → tt u → decode cX6_rank pc = .ok (.ireturn, 1) → W p l e rmX6_rank s m args below meth c H locs 0 0 Q (F0 m pc ls [.int r])) : ∀ (n : Nat) (x1 : Int32) (x2 : Int32), wX6_rank_L9 K σ n x1 x2 → ∀ (H : Heap) (locs : List Loc), Sy D 12 ad A H0 (obM ad ci σ) H locs → tt σ → ∀ ls : Array Slot, lv_has ls 3 [(0, .ref (ad 0)), (1, .int x1), (2, .int x2)] → W p l e rmX6_rank s m args below meth c H locs 0 0 Q (F0 m 9 ls []) := by
  obtain ⟨hx, hb, hml, hown, hts⟩ := id C0
  intro n
  induction n with
  | zero =>
    intro x1 x2 h
    exact h.elim
  | succ n ih =>
    intro x1 x2 h H locs hY hR  ls hl
    refine lv_iload_n hx hb dX6_rank_9 rfl (lv_at hl 2 rfl) ?_
    refine lv_aload_n hx hb dX6_rank_10 rfl (lv_at hl 0 rfl) ?_
    refine w_get (o := 0) (ci := 6) (C := RX6) (T := TX6) (N1 := 14) (v := .int (gI σ 2)) hx hb hts kX6_rank_inX6 hown hK.1 hY (by decide) obM_main rfl 9 (by decide) (hts _ kX6_rank_0) rfl rfl dX6_rank_11 ?_
    refine lv_icmp_ge (tgt := 34) hx hb dX6_rank_14 (by decide) (fun c_1 => ?_) (fun c_1 => ?_)
    · have h := h.1 c_1
      refine lv_iload_n hx hb dX6_rank_34 rfl (lv_at hl 1 rfl) ?_
      exact hret x1 σ _ _ _ _ h hY hR dX6_rank_35
    · have h := h.2 c_1
      refine lv_aload_n hx hb dX6_rank_17 rfl (lv_at hl 0 rfl) ?_
      refine lv_iload_n hx hb dX6_rank_18 rfl (lv_at hl 2 rfl) ?_
      refine w_callip (rest := []) (va_runV (As := [.int x2]) (rest := []) C0 (mX6_beside l D ad ci A σ x2 _ hR  h) (cwV 1 hts gX6_rank_X6_beside rfl rfl rfl ddX6_beside ⟨Nat.le_of_ble_eq_true rfl, Nat.le_of_ble_eq_true rfl⟩) (w_preV (o := 0) (ci := 6) (ob := obM ad ci) (σ := σ) hK hY (by decide) obM_main rfl rfl) rfl rfl hl.1 rfl (lv_room (Nat.le_of_ble_eq_true rfl)) dX6_rank_19 ⟨Nat.zero_le _, Nat.zero_le _⟩) hY (fun r_2 H locs h hY => ?_)
      refine lv_if_ge (tgt := 28) hx hb dX6_rank_22 (by decide) (fun c_3 => ?_) (fun c_3 => ?_)
      · have h := h.1 c_3
        refine lv_iinc (v := (x2 + 1)) (lv' := [(2, .int (x2 + 1)), (0, .ref (ad 0)), (1, .int x1)]) hx hb dX6_rank_28 hl (k := 2) rfl rfl (by decide) rfl (fun ls hl => ?_)
        refine lv_goto (tgt := 9) hx hb dX6_rank_31 (by decide) ?_
        exact ih x1 (x2 + 1) h _ _ hY hR  _ (lv_sub hl [1, 2, 0] rfl)
      · have h := h.2 c_3
        refine lv_iinc (v := (x1 + 1)) (lv' := [(1, .int (x1 + 1)), (0, .ref (ad 0)), (2, .int x2)]) hx hb dX6_rank_25 hl (k := 1) rfl rfl (by decide) rfl (fun ls hl => ?_)
        refine lv_iinc (v := (x2 + 1)) (lv' := [(2, .int (x2 + 1)), (1, .int (x1 + 1)), (0, .ref (ad 0))]) hx hb dX6_rank_28 hl (k := 2) rfl rfl (by decide) rfl (fun ls hl => ?_)
        refine lv_goto (tgt := 9) hx hb dX6_rank_31 (by decide) ?_
        exact ih (x1 + 1) (x2 + 1) h _ _ hY hR  _ (lv_sub hl [2, 1, 0] rfl)
set_option maxHeartbeats 4000000 in
set_option maxRecDepth 100000 in
theorem eX6_rank (C0 : CallFix p m c cX6_rank 3 s args wsX6_rank RX6) (hK : Kx D (tyM ci) s) (K : Int32 → St → Prop) (σ : St) (hret : ∀ (r : Int32) (u : St) (H : Heap) (locs : List Loc) (pc : Nat) (ls : Array Slot), K r u → Sy D 12 ad A H0 (obM ad ci u) H locs → tt u → decode cX6_rank pc = .ok (.ireturn, 1) → W p l e rmX6_rank s m args below meth c H locs 0 0 Q (F0 m pc ls [.int r])) (h : wX6_rank σ K) (H : Heap) (locs : List Loc) (hY : Sy D 12 ad A H0 (obM ad ci σ) H locs) (hR : tt σ) (ls : Array Slot) (hl : lv_has ls 3 [(0, .ref (ad 0))]) : W p l e rmX6_rank s m args below meth c H locs 0 0 Q (F0 m 0 ls []) := by
  obtain ⟨hx, hb, hml, hown, hts⟩ := id C0
  refine lv_aload_n hx hb dX6_rank_0 rfl (lv_at hl 0 rfl) ?_
  refine lv_iconst (v := (0 : Int32)) hx hb dX6_rank_1 (by decide) ?_
  obtain ⟨σ_4, e_σ_4⟩ : ∃ z : St, z = pI σ 0 (0 : Int32) := ⟨_, rfl⟩
  have h := h σ_4 e_σ_4
  have hR_σ_4 : tt σ_4 := trivial
  refine w_put (o := 0) (ci := 6) (C := RX6) (T := TX6) (N1 := 14) hx hb hts kX6_rank_inX6 tyX6 tyX6_ok nmX6 hown hK.1 hY (by decide) obM_main rfl 0 (by decide) (hts _ kX6_rank_2) rfl rfl rfl (Nat.le_of_ble_eq_true rfl) dX6_rank_2 (ob' := obM ad ci σ_4) (by rw [e_σ_4]; exact obM_pI rfl) (fun H locs hY => ?_)
  refine lv_iconst (v := (0 : Int32)) hx hb dX6_rank_5 (by decide) ?_
  refine lv_istore_n (lv' := [(1, .int (0 : Int32)), (0, .ref (ad 0))]) hx hb dX6_rank_6 rfl hl (by decide) rfl (fun ls hl => ?_)
  refine lv_iconst (v := (0 : Int32)) hx hb dX6_rank_7 (by decide) ?_
  refine lv_istore_n (lv' := [(2, .int (0 : Int32)), (1, .int (0 : Int32)), (0, .ref (ad 0))]) hx hb dX6_rank_8 rfl hl (by decide) rfl (fun ls hl => ?_)
  obtain ⟨n_5, h⟩ := h
  exact tX6_rank_L9 C0 hK K σ_4 hret n_5 (0 : Int32) (0 : Int32) h _ _ hY hR_σ_4  _ (lv_sub hl [2, 1, 0] rfl)
set_option maxHeartbeats 4000000 in
set_option maxRecDepth 100000 in
theorem mX6_rank (l : Launch) (D : va_G) (ad : Nat → Nat) (ci : Nat → ClassId) (A : Nat → Prop) (σ : St) (K : Int32 → St → Prop) (hR : tt σ) (h : wX6_rank σ K) : Met l yX6_rank wsX6_rank rmX6_rank (va_Pc [.ref (ad 0)] (PreW D 12 ad A (tyM ci) (obM ad ci σ))) (va_Qi (fun r u => K r u) (PostW D 12 ad (tyM ci) (obM ad ci) tt) A) 0 0 A := by
  refine Met.ofW (cc := cX6_rank) (maxL := 3) (ret := (some .int)) (by decide) rfl ?_
  intro p e s m args below meth c s₁ B hml hv
  obtain ⟨rfl, hP, hK, hD⟩ := hv
  have C0 : CallFix p m c cX6_rank 3 s _ wsX6_rank RX6 := ⟨B.exec, B.bytes, hml, findClass_of_methodNamed B.named, atoms_spec (ws := wsX6_rank) B.pre⟩
  have hlocks := B.notSynchronized
  have hY : Sy D 12 ad A s.heap (obM ad ci σ) s.heap [] := ⟨hP, hD, va_S.rf⟩
  have hl := lv_entry ([.ref (ad 0)]) (n := 3) (Nat.le_of_ble_eq_true rfl)
  rw [lg_entry_eq]
  generalize (lg_sl ([.ref (ad 0)]) ++ List.replicate (3 - (lg_sl ([.ref (ad 0)])).length) Slot.unset).toArray = ls at hl ⊢
  exact eX6_rank C0 hK K σ (fun r u H locs pc ls hk hY hR hd => w_iret (I := tt) B.exec B.bytes B.returns hlocks hK hk (fun t ht => ht) hY hR hd) h _ _ hY hR ls hl
set_option maxHeartbeats 4000000 in
set_option maxRecDepth 100000 in
theorem tX6_word_J20 (C0 : CallFix p m c cX6_word 2 s args wsX6_word RX6) (hK : Kx D (tyM ci) s) (K : Int32 → St → Prop) (σ : St) (x1 : Int32) (s1 : Int32) (hret : ∀ (r : Int32) (u : St) (H : Heap) (locs : List Loc) (pc : Nat) (ls : Array Slot), K r u → Sy D 12 ad A H0 (obM ad ci u) H locs → tt u → decode cX6_word pc = .ok (.ireturn, 1) → W p l e rmX6_word s m args below meth c H locs 0 0 Q (F0 m pc ls [.int r])) (h : wX6_word_J20 K σ x1 s1) (H : Heap) (locs : List Loc) (hY : Sy D 12 ad A H0 (obM ad ci σ) H locs) (hR : tt σ) (ls : Array Slot) (hl : lv_has ls 2 [(0, .ref (ad 0)), (1, .int x1)]) : W p l e rmX6_word s m args below meth c H locs 0 0 Q (F0 m 20 ls [.int s1, .ref (ad 0)]) := by
  obtain ⟨hx, hb, hml, hown, hts⟩ := id C0
  refine w_calli (rest := []) (va_runV (As := [.int s1]) (rest := []) C0 (mX6_fails l D ad ci A σ s1 _ hR  h) (cwV 1 hts gX6_word_X6_fails rfl rfl rfl ddX6_fails ⟨Nat.le_of_ble_eq_true rfl, Nat.le_of_ble_eq_true rfl⟩) (w_preV (o := 0) (ci := 6) (ob := obM ad ci) (σ := σ) hK hY (by decide) obM_main rfl rfl) rfl rfl hl.1 rfl (lv_room (Nat.le_of_ble_eq_true rfl)) dX6_word_20 ⟨Nat.zero_le _, Nat.zero_le _⟩) hY (fun r_1 σ_2 H locs h hY hR_σ_2 => ?_)
  obtain ⟨n_r_1, h⟩ := h
  refine lv_if_eq (tgt := 28) hx hb dX6_word_23 (by decide) (fun c_3 => ?_) (fun c_3 => ?_)
  · have h := h.1 c_3
    refine lv_aload_n hx hb dX6_word_28 rfl (lv_at hl 0 rfl) ?_
    refine w_callv (rest := []) (va_runV (As := []) (rest := []) C0 (mX6_orders l D ad ci A σ_2 _ hR_σ_2  h) (cwV 0 hts gX6_word_X6_orders rfl rfl rfl ddX6_orders ⟨Nat.le_of_ble_eq_true rfl, Nat.le_of_ble_eq_true rfl⟩) (w_preV (o := 0) (ci := 6) (ob := obM ad ci) (σ := σ_2) hK hY (by decide) obM_main rfl rfl) rfl rfl hl.1 rfl (lv_room (Nat.le_of_ble_eq_true rfl)) dX6_word_29 ⟨Nat.zero_le _, Nat.zero_le _⟩) hY (fun σ_5 H locs h hY hR_σ_5 => ?_)
    refine lv_aload_n hx hb dX6_word_32 rfl (lv_at hl 0 rfl) ?_
    refine lv_aload_n hx hb dX6_word_33 rfl (lv_at hl 0 rfl) ?_
    refine w_get (o := 0) (ci := 6) (C := RX6) (T := TX6) (N1 := 14) (v := .ref (ad 8)) hx hb hts kX6_word_inX6 hown hK.1 hY (by decide) obM_main rfl 10 (by decide) (hts _ kX6_word_0) rfl rfl dX6_word_34 ?_
    refine lv_iload_n hx hb dX6_word_37 rfl (lv_at hl 1 rfl) ?_
    obtain ⟨b_6, h⟩ := h
    refine w_iald (o := 8) hx hb hK.1 hY (by decide) 1 rfl rfl b_6 dX6_word_38 ?_
    refine w_callv (rest := []) (va_runV (As := [.int (gA σ_5 8 (x1).toNatClampNeg)]) (rest := []) C0 (mX6_becomes l D ad ci A σ_5 (gA σ_5 8 (x1).toNatClampNeg) _ hR_σ_5  h) (cwV 1 hts gX6_word_X6_becomes rfl rfl rfl ddX6_becomes ⟨Nat.le_of_ble_eq_true rfl, Nat.le_of_ble_eq_true rfl⟩) (w_preV (o := 0) (ci := 6) (ob := obM ad ci) (σ := σ_5) hK hY (by decide) obM_main rfl rfl) rfl rfl hl.1 rfl (lv_room (Nat.le_of_ble_eq_true rfl)) dX6_word_39 ⟨Nat.zero_le _, Nat.zero_le _⟩) hY (fun σ_8 H locs h hY hR_σ_8 => ?_)
    refine lv_aload_n hx hb dX6_word_42 rfl (lv_at hl 0 rfl) ?_
    refine w_get (o := 0) (ci := 6) (C := RX6) (T := TX6) (N1 := 14) (v := .int (gI σ_8 1)) hx hb hts kX6_word_inX6 hown hK.1 hY (by decide) obM_main rfl 8 (by decide) (hts _ kX6_word_2) rfl rfl dX6_word_43 ?_
    exact hret (gI σ_8 1) σ_8 _ _ _ _ h hY hR_σ_8 dX6_word_46
  · have h := h.2 c_3
    refine lv_iconst (v := (0 : Int32)) hx hb dX6_word_26 (by decide) ?_
    exact hret (0 : Int32) σ_2 _ _ _ _ h hY hR_σ_2 dX6_word_27
set_option maxHeartbeats 4000000 in
set_option maxRecDepth 100000 in
theorem eX6_word (C0 : CallFix p m c cX6_word 2 s args wsX6_word RX6) (hK : Kx D (tyM ci) s) (K : Int32 → St → Prop) (σ : St) (hret : ∀ (r : Int32) (u : St) (H : Heap) (locs : List Loc) (pc : Nat) (ls : Array Slot), K r u → Sy D 12 ad A H0 (obM ad ci u) H locs → tt u → decode cX6_word pc = .ok (.ireturn, 1) → W p l e rmX6_word s m args below meth c H locs 0 0 Q (F0 m pc ls [.int r])) (x1 : Int32) (h : wX6_word σ x1 K) (H : Heap) (locs : List Loc) (hY : Sy D 12 ad A H0 (obM ad ci σ) H locs) (hR : tt σ) (ls : Array Slot) (hl : lv_has ls 2 [(0, .ref (ad 0)), (1, .int x1)]) : W p l e rmX6_word s m args below meth c H locs 0 0 Q (F0 m 0 ls []) := by
  obtain ⟨hx, hb, hml, hown, hts⟩ := id C0
  refine lv_aload_n hx hb dX6_word_0 rfl (lv_at hl 0 rfl) ?_
  refine lv_iload_n hx hb dX6_word_1 rfl (lv_at hl 1 rfl) ?_
  refine lv_iconst (v := (0 : Int32)) hx hb dX6_word_2 (by decide) ?_
  refine lv_aload_n hx hb dX6_word_3 rfl (lv_at hl 0 rfl) ?_
  refine w_get (o := 0) (ci := 6) (C := RX6) (T := TX6) (N1 := 14) (v := .int (gI σ 2)) hx hb hts kX6_word_inX6 hown hK.1 hY (by decide) obM_main rfl 9 (by decide) (hts _ kX6_word_3) rfl rfl dX6_word_4 ?_
  refine lv_iconst (v := (1 : Int32)) hx hb dX6_word_7 (by decide) ?_
  refine lv_isub hx hb dX6_word_8 ?_
  refine w_callip (rest := [.ref (ad 0)]) (va_runS (As := [.int x1, .int (0 : Int32), .int ((gI σ 2) - (1 : Int32))]) (rest := [.ref (ad 0)]) C0 (mX6_in l D ad ci A σ x1 (0 : Int32) ((gI σ 2) - (1 : Int32)) _ hR  h) (va_cwS 3 hts gX6_word_X6_in rfl rfl rfl ddX6_in ⟨Nat.le_of_ble_eq_true rfl, Nat.le_of_ble_eq_true rfl⟩) (w_preS (ob := obM ad ci) (σ := σ) hK hY) rfl rfl hl.1 rfl (lv_room (Nat.le_of_ble_eq_true rfl)) dX6_word_9 ⟨Nat.zero_le _, Nat.zero_le _⟩) hY (fun r_9 H locs h hY => ?_)
  obtain ⟨n_r_9, h⟩ := h
  refine lv_if_eq (tgt := 19) hx hb dX6_word_12 (by decide) (fun c_10 => ?_) (fun c_10 => ?_)
  · have h := h.1 c_10
    refine lv_iconst (v := (1 : Int32)) hx hb dX6_word_19 (by decide) ?_
    exact tX6_word_J20 C0 hK K σ x1 (1 : Int32) hret h _ _ hY hR _ (lv_sub hl [0, 1] rfl)
  · have h := h.2 c_10
    refine lv_iconst (v := (0 : Int32)) hx hb dX6_word_15 (by decide) ?_
    refine lv_goto (tgt := 20) hx hb dX6_word_16 (by decide) ?_
    exact tX6_word_J20 C0 hK K σ x1 (0 : Int32) hret h _ _ hY hR _ (lv_sub hl [0, 1] rfl)
set_option maxHeartbeats 4000000 in
set_option maxRecDepth 100000 in
theorem mX6_word (l : Launch) (D : va_G) (ad : Nat → Nat) (ci : Nat → ClassId) (A : Nat → Prop) (σ : St) (x1 : Int32) (K : Int32 → St → Prop) (hR : tt σ) (h : wX6_word σ x1 K) : Met l yX6_word wsX6_word rmX6_word (va_Pc [.ref (ad 0), .int x1] (PreW D 12 ad A (tyM ci) (obM ad ci σ))) (va_Qi (fun r u => K r u) (PostW D 12 ad (tyM ci) (obM ad ci) tt) A) 0 0 A := by
  refine Met.ofW (cc := cX6_word) (maxL := 2) (ret := (some .int)) (by decide) rfl ?_
  intro p e s m args below meth c s₁ B hml hv
  obtain ⟨rfl, hP, hK, hD⟩ := hv
  have C0 : CallFix p m c cX6_word 2 s _ wsX6_word RX6 := ⟨B.exec, B.bytes, hml, findClass_of_methodNamed B.named, atoms_spec (ws := wsX6_word) B.pre⟩
  have hlocks := B.notSynchronized
  have hY : Sy D 12 ad A s.heap (obM ad ci σ) s.heap [] := ⟨hP, hD, va_S.rf⟩
  have hl := lv_entry ([.ref (ad 0), .int x1]) (n := 2) (Nat.le_of_ble_eq_true rfl)
  rw [lg_entry_eq]
  generalize (lg_sl ([.ref (ad 0), .int x1]) ++ List.replicate (2 - (lg_sl ([.ref (ad 0), .int x1])).length) Slot.unset).toArray = ls at hl ⊢
  exact eX6_word C0 hK K σ (fun r u H locs pc ls hk hY hR hd => w_iret (I := tt) B.exec B.bytes B.returns hlocks hK hk (fun t ht => ht) hY hR hd) x1 h _ _ hY hR ls hl
set_option maxHeartbeats 4000000 in
set_option maxRecDepth 100000 in
theorem tX6_near_J188 (C0 : CallFix p m c cX6_near 7 s args wsX6_near RX6) (hK : Kx D (tyM ci) s) (K : Int32 → St → Prop) (σ : St) (x2 : Int32) (s1 : Int32) (hret : ∀ (r : Int32) (u : St) (H : Heap) (locs : List Loc) (pc : Nat) (ls : Array Slot), K r u → Sy D 12 ad A H0 (obM ad ci u) H locs → tt u → decode cX6_near pc = .ok (.ireturn, 1) → W p l e rmX6_near s m args below meth c H locs 0 0 Q (F0 m pc ls [.int r])) (h : wX6_near_J188 K σ x2 s1) (H : Heap) (locs : List Loc) (hY : Sy D 12 ad A H0 (obM ad ci σ) H locs) (hR : tt σ) (ls : Array Slot) (hl : lv_has ls 7 [(0, .ref (ad 0)), (2, .int x2)]) : W p l e rmX6_near s m args below meth c H locs 0 0 Q (F0 m 188 ls [.int s1, .ref (ad 0)]) := by
  obtain ⟨hx, hb, hml, hown, hts⟩ := id C0
  refine w_calli (rest := []) (va_runV (As := [.int s1]) (rest := []) C0 (mX6_fails l D ad ci A σ s1 _ hR  h) (cwV 1 hts gX6_near_X6_fails rfl rfl rfl ddX6_fails ⟨Nat.le_of_ble_eq_true rfl, Nat.le_of_ble_eq_true rfl⟩) (w_preV (o := 0) (ci := 6) (ob := obM ad ci) (σ := σ) hK hY (by decide) obM_main rfl rfl) rfl rfl hl.1 rfl (lv_room (Nat.le_of_ble_eq_true rfl)) dX6_near_188 ⟨Nat.zero_le _, Nat.zero_le _⟩) hY (fun r_1 σ_2 H locs h hY hR_σ_2 => ?_)
  obtain ⟨n_r_1, h⟩ := h
  refine lv_if_eq (tgt := 196) hx hb dX6_near_191 (by decide) (fun c_3 => ?_) (fun c_3 => ?_)
  · have h := h.1 c_3
    refine lv_aload_n hx hb dX6_near_196 rfl (lv_at hl 0 rfl) ?_
    refine lv_iload_n hx hb dX6_near_197 rfl (lv_at hl 1 rfl) ?_
    refine w_callv (rest := []) (va_runV (As := [.int x2]) (rest := []) C0 (mX6_becomes l D ad ci A σ_2 x2 _ hR_σ_2  h) (cwV 1 hts gX6_near_X6_becomes rfl rfl rfl ddX6_becomes ⟨Nat.le_of_ble_eq_true rfl, Nat.le_of_ble_eq_true rfl⟩) (w_preV (o := 0) (ci := 6) (ob := obM ad ci) (σ := σ_2) hK hY (by decide) obM_main rfl rfl) rfl rfl hl.1 rfl (lv_room (Nat.le_of_ble_eq_true rfl)) dX6_near_198 ⟨Nat.zero_le _, Nat.zero_le _⟩) hY (fun σ_5 H locs h hY hR_σ_5 => ?_)
    refine lv_aload_n hx hb dX6_near_201 rfl (lv_at hl 0 rfl) ?_
    refine w_get (o := 0) (ci := 6) (C := RX6) (T := TX6) (N1 := 14) (v := .ref (ad 6)) hx hb hts kX6_near_inX6 hown hK.1 hY (by decide) obM_main rfl 6 (by decide) (hts _ kX6_near_0) rfl rfl dX6_near_202 ?_
    refine lv_iload_n hx hb dX6_near_205 rfl (lv_at hl 1 rfl) ?_
    obtain ⟨b_6, h⟩ := h
    refine w_iald (o := 6) hx hb hK.1 hY (by decide) 1 rfl rfl b_6 dX6_near_206 ?_
    exact hret (gA σ_5 6 (x2).toNatClampNeg) σ_5 _ _ _ _ h hY hR_σ_5 dX6_near_207
  · have h := h.2 c_3
    refine lv_iconst (v := (0 : Int32)) hx hb dX6_near_194 (by decide) ?_
    exact hret (0 : Int32) σ_2 _ _ _ _ h hY hR_σ_2 dX6_near_195
set_option maxHeartbeats 4000000 in
set_option maxRecDepth 100000 in
theorem tX6_near_J179 (C0 : CallFix p m c cX6_near 7 s args wsX6_near RX6) (hK : Kx D (tyM ci) s) (K : Int32 → St → Prop) (σ : St) (x2 : Int32) (hret : ∀ (r : Int32) (u : St) (H : Heap) (locs : List Loc) (pc : Nat) (ls : Array Slot), K r u → Sy D 12 ad A H0 (obM ad ci u) H locs → tt u → decode cX6_near pc = .ok (.ireturn, 1) → W p l e rmX6_near s m args below meth c H locs 0 0 Q (F0 m pc ls [.int r])) (h : wX6_near_J179 K σ x2) (H : Heap) (locs : List Loc) (hY : Sy D 12 ad A H0 (obM ad ci σ) H locs) (hR : tt σ) (ls : Array Slot) (hl : lv_has ls 7 [(0, .ref (ad 0)), (2, .int x2)]) : W p l e rmX6_near s m args below meth c H locs 0 0 Q (F0 m 179 ls [.ref (ad 0)]) := by
  obtain ⟨hx, hb, hml, hown, hts⟩ := id C0
  refine lv_iload_n hx hb dX6_near_179 rfl (lv_at hl 1 rfl) ?_
  refine lv_if_ge (tgt := 187) hx hb dX6_near_180 (by decide) (fun c_7 => ?_) (fun c_7 => ?_)
  · have h := h.1 c_7
    refine lv_iconst (v := (0 : Int32)) hx hb dX6_near_187 (by decide) ?_
    exact tX6_near_J188 C0 hK K σ x2 (0 : Int32) hret h _ _ hY hR _ (lv_sub hl [0, 1] rfl)
  · have h := h.2 c_7
    refine lv_iconst (v := (2 : Int32)) hx hb dX6_near_183 (by decide) ?_
    refine lv_goto (tgt := 188) hx hb dX6_near_184 (by decide) ?_
    exact tX6_near_J188 C0 hK K σ x2 (2 : Int32) hret h _ _ hY hR _ (lv_sub hl [0, 1] rfl)
set_option maxHeartbeats 4000000 in
set_option maxRecDepth 100000 in
theorem tX6_near_J105 (C0 : CallFix p m c cX6_near 7 s args wsX6_near RX6) (hK : Kx D (tyM ci) s) (K : Int32 → St → Prop) (B4 : Int32 → Int32 → Prop) (σ : St) (x1 : Int32) (x2 : Int32) (x3 : Int32) (x5 : Int32) (s0 : Int32) (hret : ∀ (r : Int32) (u : St) (H : Heap) (locs : List Loc) (pc : Nat) (ls : Array Slot), K r u → Sy D 12 ad A H0 (obM ad ci u) H locs → tt u → decode cX6_near pc = .ok (.ireturn, 1) → W p l e rmX6_near s m args below meth c H locs 0 0 Q (F0 m pc ls [.int r])) (hB4 : ∀ (x2 : Int32) (x3 : Int32), B4 x2 x3 → ∀ (H : Heap) (locs : List Loc), Sy D 12 ad A H0 (obM ad ci σ) H locs → tt σ → ∀ ls : Array Slot, lv_has ls 7 [(0, .ref (ad 0)), (1, .int x1), (2, .int x2), (3, .int x3)] → W p l e rmX6_near s m args below meth c H locs 0 0 Q (F0 m 4 ls [])) (h : wX6_near_J105 K B4 σ x1 x2 x3 x5 s0) (H : Heap) (locs : List Loc) (hY : Sy D 12 ad A H0 (obM ad ci σ) H locs) (hR : tt σ) (ls : Array Slot) (hl : lv_has ls 7 [(0, .ref (ad 0)), (1, .int x1), (2, .int x2), (3, .int x3), (5, .int x5)]) : W p l e rmX6_near s m args below meth c H locs 0 0 Q (F0 m 105 ls [.int s0]) := by
  obtain ⟨hx, hb, hml, hown, hts⟩ := id C0
  refine lv_istore (lv' := [(6, .int s0), (0, .ref (ad 0)), (1, .int x1), (2, .int x2), (3, .int x3), (5, .int x5)]) hx hb dX6_near_105 hl (by decide) rfl (fun ls hl => ?_)
  refine lv_iload hx hb dX6_near_107 (lv_at hl 5 rfl) ?_
  refine lv_if_eq (tgt := 144) hx hb dX6_near_109 (by decide) (fun c_8 => ?_) (fun c_8 => ?_)
  · have h := h.1 c_8
    refine lv_iinc (v := (x3 + 1)) (lv' := [(3, .int (x3 + 1)), (6, .int s0), (0, .ref (ad 0)), (1, .int x1), (2, .int x2), (5, .int x5)]) hx hb dX6_near_144 hl (k := 4) rfl rfl (by decide) rfl (fun ls hl => ?_)
    refine lv_goto (tgt := 4) hx hb dX6_near_147 (by decide) ?_
    exact hB4 x2 (x3 + 1) h _ _ hY hR  _ (lv_sub hl [2, 3, 4, 0] rfl)
  · have h := h.2 c_8
    refine lv_iload_n hx hb dX6_near_112 rfl (lv_at hl 3 rfl) ?_
    refine lv_if_lt (tgt := 142) hx hb dX6_near_113 (by decide) (fun c_9 => ?_) (fun c_9 => ?_)
    · have h := h.1 c_9
      refine lv_iload_n hx hb dX6_near_142 rfl (lv_at hl 4 rfl) ?_
      refine lv_istore_n (lv' := [(2, .int x3), (6, .int s0), (0, .ref (ad 0)), (1, .int x1), (3, .int x3), (5, .int x5)]) hx hb dX6_near_143 rfl hl (by decide) rfl (fun ls hl => ?_)
      refine lv_iinc (v := (x3 + 1)) (lv' := [(3, .int (x3 + 1)), (2, .int x3), (6, .int s0), (0, .ref (ad 0)), (1, .int x1), (5, .int x5)]) hx hb dX6_near_144 hl (k := 4) rfl rfl (by decide) rfl (fun ls hl => ?_)
      refine lv_goto (tgt := 4) hx hb dX6_near_147 (by decide) ?_
      exact hB4 x3 (x3 + 1) h _ _ hY hR  _ (lv_sub hl [3, 4, 1, 0] rfl)
    · have h := h.2 c_9
      refine lv_iload hx hb dX6_near_116 (lv_at hl 0 rfl) ?_
      refine lv_if_eq (tgt := 133) hx hb dX6_near_118 (by decide) (fun c_10 => ?_) (fun c_10 => ?_)
      · have h := h.1 c_10
        refine lv_aload_n hx hb dX6_near_133 rfl (lv_at hl 1 rfl) ?_
        refine lv_iload_n hx hb dX6_near_134 rfl (lv_at hl 4 rfl) ?_
        refine lv_iload_n hx hb dX6_near_135 rfl (lv_at hl 3 rfl) ?_
        refine w_callip (rest := []) (va_runV (As := [.int x3, .int x2]) (rest := []) C0 (mX6_isLess l D ad ci A σ x3 x2 _ hR  h) (cwV 2 hts gX6_near_X6_isLess rfl rfl rfl ddX6_isLess ⟨Nat.le_of_ble_eq_true rfl, Nat.le_of_ble_eq_true rfl⟩) (w_preV (o := 0) (ci := 6) (ob := obM ad ci) (σ := σ) hK hY (by decide) obM_main rfl rfl) rfl rfl hl.1 rfl (lv_room (Nat.le_of_ble_eq_true rfl)) dX6_near_136 ⟨Nat.zero_le _, Nat.zero_le _⟩) hY (fun r_11 H locs h hY => ?_)
        obtain ⟨n_r_11, h⟩ := h
        refine lv_if_eq (tgt := 144) hx hb dX6_near_139 (by decide) (fun c_12 => ?_) (fun c_12 => ?_)
        · have h := h.1 c_12
          refine lv_iinc (v := (x3 + 1)) (lv' := [(3, .int (x3 + 1)), (6, .int s0), (0, .ref (ad 0)), (1, .int x1), (2, .int x2), (5, .int x5)]) hx hb dX6_near_144 hl (k := 4) rfl rfl (by decide) rfl (fun ls hl => ?_)
          refine lv_goto (tgt := 4) hx hb dX6_near_147 (by decide) ?_
          exact hB4 x2 (x3 + 1) h _ _ hY hR  _ (lv_sub hl [2, 3, 4, 0] rfl)
        · have h := h.2 c_12
          refine lv_iload_n hx hb dX6_near_142 rfl (lv_at hl 4 rfl) ?_
          refine lv_istore_n (lv' := [(2, .int x3), (6, .int s0), (0, .ref (ad 0)), (1, .int x1), (3, .int x3), (5, .int x5)]) hx hb dX6_near_143 rfl hl (by decide) rfl (fun ls hl => ?_)
          refine lv_iinc (v := (x3 + 1)) (lv' := [(3, .int (x3 + 1)), (2, .int x3), (6, .int s0), (0, .ref (ad 0)), (1, .int x1), (5, .int x5)]) hx hb dX6_near_144 hl (k := 4) rfl rfl (by decide) rfl (fun ls hl => ?_)
          refine lv_goto (tgt := 4) hx hb dX6_near_147 (by decide) ?_
          exact hB4 x3 (x3 + 1) h _ _ hY hR  _ (lv_sub hl [3, 4, 1, 0] rfl)
      · have h := h.2 c_10
        refine lv_aload_n hx hb dX6_near_121 rfl (lv_at hl 1 rfl) ?_
        refine lv_iload_n hx hb dX6_near_122 rfl (lv_at hl 3 rfl) ?_
        refine lv_iload_n hx hb dX6_near_123 rfl (lv_at hl 4 rfl) ?_
        refine w_callip (rest := []) (va_runV (As := [.int x2, .int x3]) (rest := []) C0 (mX6_isLess l D ad ci A σ x2 x3 _ hR  h) (cwV 2 hts gX6_near_X6_isLess rfl rfl rfl ddX6_isLess ⟨Nat.le_of_ble_eq_true rfl, Nat.le_of_ble_eq_true rfl⟩) (w_preV (o := 0) (ci := 6) (ob := obM ad ci) (σ := σ) hK hY (by decide) obM_main rfl rfl) rfl rfl hl.1 rfl (lv_room (Nat.le_of_ble_eq_true rfl)) dX6_near_124 ⟨Nat.zero_le _, Nat.zero_le _⟩) hY (fun r_13 H locs h hY => ?_)
        obtain ⟨n_r_13, h⟩ := h
        refine lv_if_eq (tgt := 144) hx hb dX6_near_127 (by decide) (fun c_14 => ?_) (fun c_14 => ?_)
        · have h := h.1 c_14
          refine lv_iinc (v := (x3 + 1)) (lv' := [(3, .int (x3 + 1)), (6, .int s0), (0, .ref (ad 0)), (1, .int x1), (2, .int x2), (5, .int x5)]) hx hb dX6_near_144 hl (k := 4) rfl rfl (by decide) rfl (fun ls hl => ?_)
          refine lv_goto (tgt := 4) hx hb dX6_near_147 (by decide) ?_
          exact hB4 x2 (x3 + 1) h _ _ hY hR  _ (lv_sub hl [2, 3, 4, 0] rfl)
        · have h := h.2 c_14
          refine lv_goto (tgt := 142) hx hb dX6_near_130 (by decide) ?_
          refine lv_iload_n hx hb dX6_near_142 rfl (lv_at hl 4 rfl) ?_
          refine lv_istore_n (lv' := [(2, .int x3), (6, .int s0), (0, .ref (ad 0)), (1, .int x1), (3, .int x3), (5, .int x5)]) hx hb dX6_near_143 rfl hl (by decide) rfl (fun ls hl => ?_)
          refine lv_iinc (v := (x3 + 1)) (lv' := [(3, .int (x3 + 1)), (2, .int x3), (6, .int s0), (0, .ref (ad 0)), (1, .int x1), (5, .int x5)]) hx hb dX6_near_144 hl (k := 4) rfl rfl (by decide) rfl (fun ls hl => ?_)
          refine lv_goto (tgt := 4) hx hb dX6_near_147 (by decide) ?_
          exact hB4 x3 (x3 + 1) h _ _ hY hR  _ (lv_sub hl [3, 4, 1, 0] rfl)
set_option maxHeartbeats 4000000 in
set_option maxRecDepth 100000 in
theorem tX6_near_J100 (C0 : CallFix p m c cX6_near 7 s args wsX6_near RX6) (hK : Kx D (tyM ci) s) (K : Int32 → St → Prop) (B4 : Int32 → Int32 → Prop) (σ : St) (x1 : Int32) (x2 : Int32) (x3 : Int32) (x5 : Int32) (hret : ∀ (r : Int32) (u : St) (H : Heap) (locs : List Loc) (pc : Nat) (ls : Array Slot), K r u → Sy D 12 ad A H0 (obM ad ci u) H locs → tt u → decode cX6_near pc = .ok (.ireturn, 1) → W p l e rmX6_near s m args below meth c H locs 0 0 Q (F0 m pc ls [.int r])) (hB4 : ∀ (x2 : Int32) (x3 : Int32), B4 x2 x3 → ∀ (H : Heap) (locs : List Loc), Sy D 12 ad A H0 (obM ad ci σ) H locs → tt σ → ∀ ls : Array Slot, lv_has ls 7 [(0, .ref (ad 0)), (1, .int x1), (2, .int x2), (3, .int x3)] → W p l e rmX6_near s m args below meth c H locs 0 0 Q (F0 m 4 ls [])) (h : wX6_near_J100 K B4 σ x1 x2 x3 x5) (H : Heap) (locs : List Loc) (hY : Sy D 12 ad A H0 (obM ad ci σ) H locs) (hR : tt σ) (ls : Array Slot) (hl : lv_has ls 7 [(0, .ref (ad 0)), (1, .int x1), (2, .int x2), (3, .int x3), (5, .int x5)]) : W p l e rmX6_near s m args below meth c H locs 0 0 Q (F0 m 100 ls []) := by
  obtain ⟨hx, hb, hml, hown, hts⟩ := id C0
  refine lv_iconst (v := (1 : Int32)) hx hb dX6_near_100 (by decide) ?_
  refine lv_goto (tgt := 105) hx hb dX6_near_101 (by decide) ?_
  exact tX6_near_J105 C0 hK K B4 σ x1 x2 x3 x5 (1 : Int32) hret hB4 h _ _ hY hR _ (lv_sub hl [0, 1, 2, 3, 4] rfl)
set_option maxHeartbeats 4000000 in
set_option maxRecDepth 100000 in
theorem tX6_near_J86 (C0 : CallFix p m c cX6_near 7 s args wsX6_near RX6) (hK : Kx D (tyM ci) s) (K : Int32 → St → Prop) (B4 : Int32 → Int32 → Prop) (σ : St) (x1 : Int32) (x2 : Int32) (x3 : Int32) (s0 : Int32) (hret : ∀ (r : Int32) (u : St) (H : Heap) (locs : List Loc) (pc : Nat) (ls : Array Slot), K r u → Sy D 12 ad A H0 (obM ad ci u) H locs → tt u → decode cX6_near pc = .ok (.ireturn, 1) → W p l e rmX6_near s m args below meth c H locs 0 0 Q (F0 m pc ls [.int r])) (hB4 : ∀ (x2 : Int32) (x3 : Int32), B4 x2 x3 → ∀ (H : Heap) (locs : List Loc), Sy D 12 ad A H0 (obM ad ci σ) H locs → tt σ → ∀ ls : Array Slot, lv_has ls 7 [(0, .ref (ad 0)), (1, .int x1), (2, .int x2), (3, .int x3)] → W p l e rmX6_near s m args below meth c H locs 0 0 Q (F0 m 4 ls [])) (h : wX6_near_J86 K B4 σ x1 x2 x3 s0) (H : Heap) (locs : List Loc) (hY : Sy D 12 ad A H0 (obM ad ci σ) H locs) (hR : tt σ) (ls : Array Slot) (hl : lv_has ls 7 [(0, .ref (ad 0)), (1, .int x1), (2, .int x2), (3, .int x3)]) : W p l e rmX6_near s m args below meth c H locs 0 0 Q (F0 m 86 ls [.int s0]) := by
  obtain ⟨hx, hb, hml, hown, hts⟩ := id C0
  refine lv_istore (lv' := [(5, .int s0), (0, .ref (ad 0)), (1, .int x1), (2, .int x2), (3, .int x3)]) hx hb dX6_near_86 hl (by decide) rfl (fun ls hl => ?_)
  refine lv_iload_n hx hb dX6_near_88 rfl (lv_at hl 2 rfl) ?_
  refine lv_bipush (v := (102 : Int32)) hx hb dX6_near_89 (by decide) ?_
  refine lv_icmp_eq (tgt := 100) hx hb dX6_near_91 (by decide) (fun c_15 => ?_) (fun c_15 => ?_)
  · have h := h.1 c_15
    exact tX6_near_J100 C0 hK K B4 σ x1 x2 x3 s0 hret hB4 h _ _ hY hR _ (lv_sub hl [1, 2, 3, 4, 0] rfl)
  · have h := h.2 c_15
    refine lv_iload_n hx hb dX6_near_94 rfl (lv_at hl 2 rfl) ?_
    refine lv_bipush (v := (108 : Int32)) hx hb dX6_near_95 (by decide) ?_
    refine lv_icmp_ne (tgt := 104) hx hb dX6_near_97 (by decide) (fun c_16 => ?_) (fun c_16 => ?_)
    · have h := h.2 c_16
      refine lv_iconst (v := (0 : Int32)) hx hb dX6_near_104 (by decide) ?_
      exact tX6_near_J105 C0 hK K B4 σ x1 x2 x3 s0 (0 : Int32) hret hB4 h _ _ hY hR _ (lv_sub hl [1, 2, 3, 4, 0] rfl)
    · have h := h.1 c_16
      exact tX6_near_J100 C0 hK K B4 σ x1 x2 x3 s0 hret hB4 h _ _ hY hR _ (lv_sub hl [1, 2, 3, 4, 0] rfl)
set_option maxHeartbeats 4000000 in
set_option maxRecDepth 100000 in
theorem tX6_near_L4 (C0 : CallFix p m c cX6_near 7 s args wsX6_near RX6) (hK : Kx D (tyM ci) s) (K : Int32 → St → Prop) (σ : St) (x1 : Int32) (hret : ∀ (r : Int32) (u : St) (H : Heap) (locs : List Loc) (pc : Nat) (ls : Array Slot), K r u → Sy D 12 ad A H0 (obM ad ci u) H locs → tt u → decode cX6_near pc = .ok (.ireturn, 1) → W p l e rmX6_near s m args below meth c H locs 0 0 Q (F0 m pc ls [.int r])) : ∀ (n : Nat) (x2 : Int32) (x3 : Int32), wX6_near_L4 K σ x1 n x2 x3 → ∀ (H : Heap) (locs : List Loc), Sy D 12 ad A H0 (obM ad ci σ) H locs → tt σ → ∀ ls : Array Slot, lv_has ls 7 [(0, .ref (ad 0)), (1, .int x1), (2, .int x2), (3, .int x3)] → W p l e rmX6_near s m args below meth c H locs 0 0 Q (F0 m 4 ls []) := by
  obtain ⟨hx, hb, hml, hown, hts⟩ := id C0
  intro n
  induction n with
  | zero =>
    intro x2 x3 h
    exact h.elim
  | succ n ih =>
    intro x2 x3 h H locs hY hR  ls hl
    refine lv_iload_n hx hb dX6_near_4 rfl (lv_at hl 3 rfl) ?_
    refine lv_aload_n hx hb dX6_near_5 rfl (lv_at hl 0 rfl) ?_
    refine w_get (o := 0) (ci := 6) (C := RX6) (T := TX6) (N1 := 14) (v := .int (gI σ 2)) hx hb hts kX6_near_inX6 hown hK.1 hY (by decide) obM_main rfl 9 (by decide) (hts _ kX6_near_2) rfl rfl dX6_near_6 ?_
    refine lv_icmp_ge (tgt := 150) hx hb dX6_near_9 (by decide) (fun c_17 => ?_) (fun c_17 => ?_)
    · have h := h.1 c_17
      refine lv_aload_n hx hb dX6_near_150 rfl (lv_at hl 0 rfl) ?_
      refine lv_iload_n hx hb dX6_near_151 rfl (lv_at hl 1 rfl) ?_
      refine lv_bipush (v := (102 : Int32)) hx hb dX6_near_152 (by decide) ?_
      refine lv_icmp_eq (tgt := 179) hx hb dX6_near_154 (by decide) (fun c_18 => ?_) (fun c_18 => ?_)
      · have h := h.1 c_18
        exact tX6_near_J179 C0 hK K σ x2 hret h _ _ hY hR _ (lv_sub hl [0, 2] rfl)
      · have h := h.2 c_18
        refine lv_iload_n hx hb dX6_near_157 rfl (lv_at hl 1 rfl) ?_
        refine lv_bipush (v := (99 : Int32)) hx hb dX6_near_158 (by decide) ?_
        refine lv_icmp_eq (tgt := 179) hx hb dX6_near_160 (by decide) (fun c_19 => ?_) (fun c_19 => ?_)
        · have h := h.1 c_19
          exact tX6_near_J179 C0 hK K σ x2 hret h _ _ hY hR _ (lv_sub hl [0, 2] rfl)
        · have h := h.2 c_19
          refine lv_iload_n hx hb dX6_near_163 rfl (lv_at hl 1 rfl) ?_
          refine lv_bipush (v := (108 : Int32)) hx hb dX6_near_164 (by decide) ?_
          refine lv_icmp_eq (tgt := 179) hx hb dX6_near_166 (by decide) (fun c_20 => ?_) (fun c_20 => ?_)
          · have h := h.1 c_20
            exact tX6_near_J179 C0 hK K σ x2 hret h _ _ hY hR _ (lv_sub hl [0, 2] rfl)
          · have h := h.2 c_20
            refine lv_iload_n hx hb dX6_near_169 rfl (lv_at hl 1 rfl) ?_
            refine lv_bipush (v := (104 : Int32)) hx hb dX6_near_170 (by decide) ?_
            refine lv_icmp_eq (tgt := 179) hx hb dX6_near_172 (by decide) (fun c_21 => ?_) (fun c_21 => ?_)
            · have h := h.1 c_21
              exact tX6_near_J179 C0 hK K σ x2 hret h _ _ hY hR _ (lv_sub hl [0, 2] rfl)
            · have h := h.2 c_21
              refine lv_iconst (v := (1 : Int32)) hx hb dX6_near_175 (by decide) ?_
              refine lv_goto (tgt := 188) hx hb dX6_near_176 (by decide) ?_
              exact tX6_near_J188 C0 hK K σ x2 (1 : Int32) hret h _ _ hY hR _ (lv_sub hl [0, 2] rfl)
    · have h := h.2 c_17
      refine lv_aload_n hx hb dX6_near_12 rfl (lv_at hl 0 rfl) ?_
      refine lv_iload_n hx hb dX6_near_13 rfl (lv_at hl 3 rfl) ?_
      refine w_callip (rest := []) (va_runV (As := [.int x3]) (rest := []) C0 (mX6_beside l D ad ci A σ x3 _ hR  h) (cwV 1 hts gX6_near_X6_beside rfl rfl rfl ddX6_beside ⟨Nat.le_of_ble_eq_true rfl, Nat.le_of_ble_eq_true rfl⟩) (w_preV (o := 0) (ci := 6) (ob := obM ad ci) (σ := σ) hK hY (by decide) obM_main rfl rfl) rfl rfl hl.1 rfl (lv_room (Nat.le_of_ble_eq_true rfl)) dX6_near_14 ⟨Nat.zero_le _, Nat.zero_le _⟩) hY (fun r_22 H locs h hY => ?_)
      refine lv_istore (lv' := [(4, .int r_22), (0, .ref (ad 0)), (1, .int x1), (2, .int x2), (3, .int x3)]) hx hb dX6_near_17 hl (by decide) rfl (fun ls hl => ?_)
      refine lv_iload_n hx hb dX6_near_19 rfl (lv_at hl 2 rfl) ?_
      refine lv_bipush (v := (102 : Int32)) hx hb dX6_near_20 (by decide) ?_
      refine lv_icmp_ne (tgt := 38) hx hb dX6_near_22 (by decide) (fun c_23 => ?_) (fun c_23 => ?_)
      · have h := h.2 c_23
        refine lv_iload_n hx hb dX6_near_38 rfl (lv_at hl 2 rfl) ?_
        refine lv_bipush (v := (99 : Int32)) hx hb dX6_near_39 (by decide) ?_
        refine lv_icmp_ne (tgt := 57) hx hb dX6_near_41 (by decide) (fun c_24 => ?_) (fun c_24 => ?_)
        · have h := h.2 c_24
          refine lv_iload_n hx hb dX6_near_57 rfl (lv_at hl 2 rfl) ?_
          refine lv_bipush (v := (108 : Int32)) hx hb dX6_near_58 (by decide) ?_
          refine lv_icmp_ne (tgt := 76) hx hb dX6_near_60 (by decide) (fun c_25 => ?_) (fun c_25 => ?_)
          · have h := h.2 c_25
            refine lv_iload hx hb dX6_near_76 (lv_at hl 0 rfl) ?_
            refine lv_if_le (tgt := 85) hx hb dX6_near_78 (by decide) (fun c_26 => ?_) (fun c_26 => ?_)
            · have h := h.1 c_26
              refine lv_iconst (v := (0 : Int32)) hx hb dX6_near_85 (by decide) ?_
              exact tX6_near_J86 C0 hK K (wX6_near_L4 K σ x1 n) σ x1 x2 x3 (0 : Int32) hret ih h _ _ hY hR _ (lv_sub hl [1, 2, 3, 4] rfl)
            · have h := h.2 c_26
              refine lv_iconst (v := (1 : Int32)) hx hb dX6_near_81 (by decide) ?_
              refine lv_goto (tgt := 86) hx hb dX6_near_82 (by decide) ?_
              exact tX6_near_J86 C0 hK K (wX6_near_L4 K σ x1 n) σ x1 x2 x3 (1 : Int32) hret ih h _ _ hY hR _ (lv_sub hl [1, 2, 3, 4] rfl)
          · have h := h.1 c_25
            refine lv_iload hx hb dX6_near_63 (lv_at hl 0 rfl) ?_
            refine lv_if_ge (tgt := 72) hx hb dX6_near_65 (by decide) (fun c_27 => ?_) (fun c_27 => ?_)
            · have h := h.1 c_27
              refine lv_iconst (v := (0 : Int32)) hx hb dX6_near_72 (by decide) ?_
              refine lv_goto (tgt := 86) hx hb dX6_near_73 (by decide) ?_
              exact tX6_near_J86 C0 hK K (wX6_near_L4 K σ x1 n) σ x1 x2 x3 (0 : Int32) hret ih h _ _ hY hR _ (lv_sub hl [1, 2, 3, 4] rfl)
            · have h := h.2 c_27
              refine lv_iconst (v := (1 : Int32)) hx hb dX6_near_68 (by decide) ?_
              refine lv_goto (tgt := 86) hx hb dX6_near_69 (by decide) ?_
              exact tX6_near_J86 C0 hK K (wX6_near_L4 K σ x1 n) σ x1 x2 x3 (1 : Int32) hret ih h _ _ hY hR _ (lv_sub hl [1, 2, 3, 4] rfl)
        · have h := h.1 c_24
          refine lv_iload hx hb dX6_near_44 (lv_at hl 0 rfl) ?_
          refine lv_if_lt (tgt := 53) hx hb dX6_near_46 (by decide) (fun c_28 => ?_) (fun c_28 => ?_)
          · have h := h.1 c_28
            refine lv_iconst (v := (0 : Int32)) hx hb dX6_near_53 (by decide) ?_
            refine lv_goto (tgt := 86) hx hb dX6_near_54 (by decide) ?_
            exact tX6_near_J86 C0 hK K (wX6_near_L4 K σ x1 n) σ x1 x2 x3 (0 : Int32) hret ih h _ _ hY hR _ (lv_sub hl [1, 2, 3, 4] rfl)
          · have h := h.2 c_28
            refine lv_iconst (v := (1 : Int32)) hx hb dX6_near_49 (by decide) ?_
            refine lv_goto (tgt := 86) hx hb dX6_near_50 (by decide) ?_
            exact tX6_near_J86 C0 hK K (wX6_near_L4 K σ x1 n) σ x1 x2 x3 (1 : Int32) hret ih h _ _ hY hR _ (lv_sub hl [1, 2, 3, 4] rfl)
      · have h := h.1 c_23
        refine lv_iload hx hb dX6_near_25 (lv_at hl 0 rfl) ?_
        refine lv_if_gt (tgt := 34) hx hb dX6_near_27 (by decide) (fun c_29 => ?_) (fun c_29 => ?_)
        · have h := h.1 c_29
          refine lv_iconst (v := (0 : Int32)) hx hb dX6_near_34 (by decide) ?_
          refine lv_goto (tgt := 86) hx hb dX6_near_35 (by decide) ?_
          exact tX6_near_J86 C0 hK K (wX6_near_L4 K σ x1 n) σ x1 x2 x3 (0 : Int32) hret ih h _ _ hY hR _ (lv_sub hl [1, 2, 3, 4] rfl)
        · have h := h.2 c_29
          refine lv_iconst (v := (1 : Int32)) hx hb dX6_near_30 (by decide) ?_
          refine lv_goto (tgt := 86) hx hb dX6_near_31 (by decide) ?_
          exact tX6_near_J86 C0 hK K (wX6_near_L4 K σ x1 n) σ x1 x2 x3 (1 : Int32) hret ih h _ _ hY hR _ (lv_sub hl [1, 2, 3, 4] rfl)
set_option maxHeartbeats 4000000 in
set_option maxRecDepth 100000 in
theorem eX6_near (C0 : CallFix p m c cX6_near 7 s args wsX6_near RX6) (hK : Kx D (tyM ci) s) (K : Int32 → St → Prop) (σ : St) (hret : ∀ (r : Int32) (u : St) (H : Heap) (locs : List Loc) (pc : Nat) (ls : Array Slot), K r u → Sy D 12 ad A H0 (obM ad ci u) H locs → tt u → decode cX6_near pc = .ok (.ireturn, 1) → W p l e rmX6_near s m args below meth c H locs 0 0 Q (F0 m pc ls [.int r])) (x1 : Int32) (h : wX6_near σ x1 K) (H : Heap) (locs : List Loc) (hY : Sy D 12 ad A H0 (obM ad ci σ) H locs) (hR : tt σ) (ls : Array Slot) (hl : lv_has ls 7 [(0, .ref (ad 0)), (1, .int x1)]) : W p l e rmX6_near s m args below meth c H locs 0 0 Q (F0 m 0 ls []) := by
  obtain ⟨hx, hb, hml, hown, hts⟩ := id C0
  refine lv_iconst (v := (-1 : Int32)) hx hb dX6_near_0 (by decide) ?_
  refine lv_istore_n (lv' := [(2, .int (-1 : Int32)), (0, .ref (ad 0)), (1, .int x1)]) hx hb dX6_near_1 rfl hl (by decide) rfl (fun ls hl => ?_)
  refine lv_iconst (v := (0 : Int32)) hx hb dX6_near_2 (by decide) ?_
  refine lv_istore_n (lv' := [(3, .int (0 : Int32)), (2, .int (-1 : Int32)), (0, .ref (ad 0)), (1, .int x1)]) hx hb dX6_near_3 rfl hl (by decide) rfl (fun ls hl => ?_)
  obtain ⟨n_30, h⟩ := h
  exact tX6_near_L4 C0 hK K σ x1 hret n_30 (-1 : Int32) (0 : Int32) h _ _ hY hR  _ (lv_sub hl [2, 3, 1, 0] rfl)
set_option maxHeartbeats 4000000 in
set_option maxRecDepth 100000 in
theorem mX6_near (l : Launch) (D : va_G) (ad : Nat → Nat) (ci : Nat → ClassId) (A : Nat → Prop) (σ : St) (x1 : Int32) (K : Int32 → St → Prop) (hR : tt σ) (h : wX6_near σ x1 K) : Met l yX6_near wsX6_near rmX6_near (va_Pc [.ref (ad 0), .int x1] (PreW D 12 ad A (tyM ci) (obM ad ci σ))) (va_Qi (fun r u => K r u) (PostW D 12 ad (tyM ci) (obM ad ci) tt) A) 0 0 A := by
  refine Met.ofW (cc := cX6_near) (maxL := 7) (ret := (some .int)) (by decide) rfl ?_
  intro p e s m args below meth c s₁ B hml hv
  obtain ⟨rfl, hP, hK, hD⟩ := hv
  have C0 : CallFix p m c cX6_near 7 s _ wsX6_near RX6 := ⟨B.exec, B.bytes, hml, findClass_of_methodNamed B.named, atoms_spec (ws := wsX6_near) B.pre⟩
  have hlocks := B.notSynchronized
  have hY : Sy D 12 ad A s.heap (obM ad ci σ) s.heap [] := ⟨hP, hD, va_S.rf⟩
  have hl := lv_entry ([.ref (ad 0), .int x1]) (n := 7) (Nat.le_of_ble_eq_true rfl)
  rw [lg_entry_eq]
  generalize (lg_sl ([.ref (ad 0), .int x1]) ++ List.replicate (7 - (lg_sl ([.ref (ad 0), .int x1])).length) Slot.unset).toArray = ls at hl ⊢
  exact eX6_near C0 hK K σ (fun r u H locs pc ls hk hY hR hd => w_iret (I := tt) B.exec B.bytes B.returns hlocks hK hk (fun t ht => ht) hY hR hd) x1 h _ _ hY hR ls hl
set_option maxHeartbeats 4000000 in
set_option maxRecDepth 100000 in
theorem tX6_begun_L9 (C0 : CallFix p m c cX6_begun 3 s args wsX6_begun RX6) (hK : Kx D (tyM ci) s) (K : Int32 → St → Prop) (σ : St) (hret : ∀ (r : Int32) (u : St) (H : Heap) (locs : List Loc) (pc : Nat) (ls : Array Slot), K r u → Sy D 12 ad A H0 (obM ad ci u) H locs → tt u → decode cX6_begun pc = .ok (.ireturn, 1) → W p l e rmX6_begun s m args below meth c H locs 0 0 Q (F0 m pc ls [.int r])) : ∀ (n : Nat) (x1 : Int32) (x2 : Int32), wX6_begun_L9 K σ n x1 x2 → ∀ (H : Heap) (locs : List Loc), Sy D 12 ad A H0 (obM ad ci σ) H locs → tt σ → ∀ ls : Array Slot, lv_has ls 3 [(0, .ref (ad 0)), (1, .int x1), (2, .int x2)] → W p l e rmX6_begun s m args below meth c H locs 0 0 Q (F0 m 9 ls []) := by
  obtain ⟨hx, hb, hml, hown, hts⟩ := id C0
  intro n
  induction n with
  | zero =>
    intro x1 x2 h
    exact h.elim
  | succ n ih =>
    intro x1 x2 h H locs hY hR  ls hl
    refine lv_iload_n hx hb dX6_begun_9 rfl (lv_at hl 2 rfl) ?_
    refine lv_aload_n hx hb dX6_begun_10 rfl (lv_at hl 0 rfl) ?_
    refine w_get (o := 0) (ci := 6) (C := RX6) (T := TX6) (N1 := 14) (v := .int (gI σ 2)) hx hb hts kX6_begun_inX6 hown hK.1 hY (by decide) obM_main rfl 9 (by decide) (hts _ kX6_begun_0) rfl rfl dX6_begun_11 ?_
    refine lv_icmp_ge (tgt := 34) hx hb dX6_begun_14 (by decide) (fun c_1 => ?_) (fun c_1 => ?_)
    · have h := h.1 c_1
      refine lv_iload_n hx hb dX6_begun_34 rfl (lv_at hl 1 rfl) ?_
      exact hret x1 σ _ _ _ _ h hY hR dX6_begun_35
    · have h := h.2 c_1
      refine lv_aload_n hx hb dX6_begun_17 rfl (lv_at hl 0 rfl) ?_
      refine lv_iload_n hx hb dX6_begun_18 rfl (lv_at hl 2 rfl) ?_
      refine w_callip (rest := []) (va_runV (As := [.int x2]) (rest := []) C0 (mX6_isBegun l D ad ci A σ x2 _ hR  h) (cwV 1 hts gX6_begun_X6_isBegun rfl rfl rfl ddX6_isBegun ⟨Nat.le_of_ble_eq_true rfl, Nat.le_of_ble_eq_true rfl⟩) (w_preV (o := 0) (ci := 6) (ob := obM ad ci) (σ := σ) hK hY (by decide) obM_main rfl rfl) rfl rfl hl.1 rfl (lv_room (Nat.le_of_ble_eq_true rfl)) dX6_begun_19 ⟨Nat.zero_le _, Nat.zero_le _⟩) hY (fun r_2 H locs h hY => ?_)
      obtain ⟨n_r_2, h⟩ := h
      refine lv_if_eq (tgt := 28) hx hb dX6_begun_22 (by decide) (fun c_3 => ?_) (fun c_3 => ?_)
      · have h := h.1 c_3
        refine lv_iinc (v := (x2 + 1)) (lv' := [(2, .int (x2 + 1)), (0, .ref (ad 0)), (1, .int x1)]) hx hb dX6_begun_28 hl (k := 2) rfl rfl (by decide) rfl (fun ls hl => ?_)
        refine lv_goto (tgt := 9) hx hb dX6_begun_31 (by decide) ?_
        exact ih x1 (x2 + 1) h _ _ hY hR  _ (lv_sub hl [1, 2, 0] rfl)
      · have h := h.2 c_3
        refine lv_iinc (v := (x1 + 1)) (lv' := [(1, .int (x1 + 1)), (0, .ref (ad 0)), (2, .int x2)]) hx hb dX6_begun_25 hl (k := 1) rfl rfl (by decide) rfl (fun ls hl => ?_)
        refine lv_iinc (v := (x2 + 1)) (lv' := [(2, .int (x2 + 1)), (1, .int (x1 + 1)), (0, .ref (ad 0))]) hx hb dX6_begun_28 hl (k := 2) rfl rfl (by decide) rfl (fun ls hl => ?_)
        refine lv_goto (tgt := 9) hx hb dX6_begun_31 (by decide) ?_
        exact ih (x1 + 1) (x2 + 1) h _ _ hY hR  _ (lv_sub hl [2, 1, 0] rfl)
set_option maxHeartbeats 4000000 in
set_option maxRecDepth 100000 in
theorem eX6_begun (C0 : CallFix p m c cX6_begun 3 s args wsX6_begun RX6) (hK : Kx D (tyM ci) s) (K : Int32 → St → Prop) (σ : St) (hret : ∀ (r : Int32) (u : St) (H : Heap) (locs : List Loc) (pc : Nat) (ls : Array Slot), K r u → Sy D 12 ad A H0 (obM ad ci u) H locs → tt u → decode cX6_begun pc = .ok (.ireturn, 1) → W p l e rmX6_begun s m args below meth c H locs 0 0 Q (F0 m pc ls [.int r])) (h : wX6_begun σ K) (H : Heap) (locs : List Loc) (hY : Sy D 12 ad A H0 (obM ad ci σ) H locs) (hR : tt σ) (ls : Array Slot) (hl : lv_has ls 3 [(0, .ref (ad 0))]) : W p l e rmX6_begun s m args below meth c H locs 0 0 Q (F0 m 0 ls []) := by
  obtain ⟨hx, hb, hml, hown, hts⟩ := id C0
  refine lv_aload_n hx hb dX6_begun_0 rfl (lv_at hl 0 rfl) ?_
  refine lv_iconst (v := (0 : Int32)) hx hb dX6_begun_1 (by decide) ?_
  obtain ⟨σ_4, e_σ_4⟩ : ∃ z : St, z = pI σ 0 (0 : Int32) := ⟨_, rfl⟩
  have h := h σ_4 e_σ_4
  have hR_σ_4 : tt σ_4 := trivial
  refine w_put (o := 0) (ci := 6) (C := RX6) (T := TX6) (N1 := 14) hx hb hts kX6_begun_inX6 tyX6 tyX6_ok nmX6 hown hK.1 hY (by decide) obM_main rfl 0 (by decide) (hts _ kX6_begun_2) rfl rfl rfl (Nat.le_of_ble_eq_true rfl) dX6_begun_2 (ob' := obM ad ci σ_4) (by rw [e_σ_4]; exact obM_pI rfl) (fun H locs hY => ?_)
  refine lv_iconst (v := (0 : Int32)) hx hb dX6_begun_5 (by decide) ?_
  refine lv_istore_n (lv' := [(1, .int (0 : Int32)), (0, .ref (ad 0))]) hx hb dX6_begun_6 rfl hl (by decide) rfl (fun ls hl => ?_)
  refine lv_iconst (v := (0 : Int32)) hx hb dX6_begun_7 (by decide) ?_
  refine lv_istore_n (lv' := [(2, .int (0 : Int32)), (1, .int (0 : Int32)), (0, .ref (ad 0))]) hx hb dX6_begun_8 rfl hl (by decide) rfl (fun ls hl => ?_)
  obtain ⟨n_5, h⟩ := h
  exact tX6_begun_L9 C0 hK K σ_4 hret n_5 (0 : Int32) (0 : Int32) h _ _ hY hR_σ_4  _ (lv_sub hl [2, 1, 0] rfl)
set_option maxHeartbeats 4000000 in
set_option maxRecDepth 100000 in
theorem mX6_begun (l : Launch) (D : va_G) (ad : Nat → Nat) (ci : Nat → ClassId) (A : Nat → Prop) (σ : St) (K : Int32 → St → Prop) (hR : tt σ) (h : wX6_begun σ K) : Met l yX6_begun wsX6_begun rmX6_begun (va_Pc [.ref (ad 0)] (PreW D 12 ad A (tyM ci) (obM ad ci σ))) (va_Qi (fun r u => K r u) (PostW D 12 ad (tyM ci) (obM ad ci) tt) A) 0 0 A := by
  refine Met.ofW (cc := cX6_begun) (maxL := 3) (ret := (some .int)) (by decide) rfl ?_
  intro p e s m args below meth c s₁ B hml hv
  obtain ⟨rfl, hP, hK, hD⟩ := hv
  have C0 : CallFix p m c cX6_begun 3 s _ wsX6_begun RX6 := ⟨B.exec, B.bytes, hml, findClass_of_methodNamed B.named, atoms_spec (ws := wsX6_begun) B.pre⟩
  have hlocks := B.notSynchronized
  have hY : Sy D 12 ad A s.heap (obM ad ci σ) s.heap [] := ⟨hP, hD, va_S.rf⟩
  have hl := lv_entry ([.ref (ad 0)]) (n := 3) (Nat.le_of_ble_eq_true rfl)
  rw [lg_entry_eq]
  generalize (lg_sl ([.ref (ad 0)]) ++ List.replicate (3 - (lg_sl ([.ref (ad 0)])).length) Slot.unset).toArray = ls at hl ⊢
  exact eX6_begun C0 hK K σ (fun r u H locs pc ls hk hY hR hd => w_iret (I := tt) B.exec B.bytes B.returns hlocks hK hk (fun t ht => ht) hY hR hd) h _ _ hY hR ls hl
set_option maxHeartbeats 4000000 in
set_option maxRecDepth 100000 in
theorem tX6_begunAt_J87 (C0 : CallFix p m c cX6_begunAt 6 s args wsX6_begunAt RX6) (hK : Kx D (tyM ci) s) (K : Int32 → St → Prop) (σ : St) (x2 : Int32) (s1 : Int32) (hret : ∀ (r : Int32) (u : St) (H : Heap) (locs : List Loc) (pc : Nat) (ls : Array Slot), K r u → Sy D 12 ad A H0 (obM ad ci u) H locs → tt u → decode cX6_begunAt pc = .ok (.ireturn, 1) → W p l e rmX6_begunAt s m args below meth c H locs 0 0 Q (F0 m pc ls [.int r])) (h : wX6_begunAt_J87 K σ x2 s1) (H : Heap) (locs : List Loc) (hY : Sy D 12 ad A H0 (obM ad ci σ) H locs) (hR : tt σ) (ls : Array Slot) (hl : lv_has ls 6 [(0, .ref (ad 0)), (2, .int x2)]) : W p l e rmX6_begunAt s m args below meth c H locs 0 0 Q (F0 m 87 ls [.int s1, .ref (ad 0)]) := by
  obtain ⟨hx, hb, hml, hown, hts⟩ := id C0
  refine w_calli (rest := []) (va_runV (As := [.int s1]) (rest := []) C0 (mX6_fails l D ad ci A σ s1 _ hR  h) (cwV 1 hts gX6_begunAt_X6_fails rfl rfl rfl ddX6_fails ⟨Nat.le_of_ble_eq_true rfl, Nat.le_of_ble_eq_true rfl⟩) (w_preV (o := 0) (ci := 6) (ob := obM ad ci) (σ := σ) hK hY (by decide) obM_main rfl rfl) rfl rfl hl.1 rfl (lv_room (Nat.le_of_ble_eq_true rfl)) dX6_begunAt_87 ⟨Nat.zero_le _, Nat.zero_le _⟩) hY (fun r_1 σ_2 H locs h hY hR_σ_2 => ?_)
  obtain ⟨n_r_1, h⟩ := h
  refine lv_if_eq (tgt := 95) hx hb dX6_begunAt_90 (by decide) (fun c_3 => ?_) (fun c_3 => ?_)
  · have h := h.1 c_3
    refine lv_aload_n hx hb dX6_begunAt_95 rfl (lv_at hl 0 rfl) ?_
    refine lv_iload_n hx hb dX6_begunAt_96 rfl (lv_at hl 1 rfl) ?_
    refine w_callv (rest := []) (va_runV (As := [.int x2]) (rest := []) C0 (mX6_becomes l D ad ci A σ_2 x2 _ hR_σ_2  h) (cwV 1 hts gX6_begunAt_X6_becomes rfl rfl rfl ddX6_becomes ⟨Nat.le_of_ble_eq_true rfl, Nat.le_of_ble_eq_true rfl⟩) (w_preV (o := 0) (ci := 6) (ob := obM ad ci) (σ := σ_2) hK hY (by decide) obM_main rfl rfl) rfl rfl hl.1 rfl (lv_room (Nat.le_of_ble_eq_true rfl)) dX6_begunAt_97 ⟨Nat.zero_le _, Nat.zero_le _⟩) hY (fun σ_5 H locs h hY hR_σ_5 => ?_)
    refine lv_aload_n hx hb dX6_begunAt_100 rfl (lv_at hl 0 rfl) ?_
    refine w_get (o := 0) (ci := 6) (C := RX6) (T := TX6) (N1 := 14) (v := .ref (ad 6)) hx hb hts kX6_begunAt_inX6 hown hK.1 hY (by decide) obM_main rfl 6 (by decide) (hts _ kX6_begunAt_0) rfl rfl dX6_begunAt_101 ?_
    refine lv_iload_n hx hb dX6_begunAt_104 rfl (lv_at hl 1 rfl) ?_
    obtain ⟨b_6, h⟩ := h
    refine w_iald (o := 6) hx hb hK.1 hY (by decide) 1 rfl rfl b_6 dX6_begunAt_105 ?_
    exact hret (gA σ_5 6 (x2).toNatClampNeg) σ_5 _ _ _ _ h hY hR_σ_5 dX6_begunAt_106
  · have h := h.2 c_3
    refine lv_iconst (v := (0 : Int32)) hx hb dX6_begunAt_93 (by decide) ?_
    exact hret (0 : Int32) σ_2 _ _ _ _ h hY hR_σ_2 dX6_begunAt_94
set_option maxHeartbeats 4000000 in
set_option maxRecDepth 100000 in
theorem tX6_begunAt_L18 (C0 : CallFix p m c cX6_begunAt 6 s args wsX6_begunAt RX6) (hK : Kx D (tyM ci) s) (K : Int32 → St → Prop) (B4 : Int32 → Int32 → Prop) (σ : St) (x1 : Int32) (x2 : Int32) (x3 : Int32) (hret : ∀ (r : Int32) (u : St) (H : Heap) (locs : List Loc) (pc : Nat) (ls : Array Slot), K r u → Sy D 12 ad A H0 (obM ad ci u) H locs → tt u → decode cX6_begunAt pc = .ok (.ireturn, 1) → W p l e rmX6_begunAt s m args below meth c H locs 0 0 Q (F0 m pc ls [.int r])) (hB4 : ∀ (x2 : Int32) (x3 : Int32), B4 x2 x3 → ∀ (H : Heap) (locs : List Loc), Sy D 12 ad A H0 (obM ad ci σ) H locs → tt σ → ∀ ls : Array Slot, lv_has ls 6 [(0, .ref (ad 0)), (1, .int x1), (2, .int x2), (3, .int x3)] → W p l e rmX6_begunAt s m args below meth c H locs 0 0 Q (F0 m 4 ls [])) : ∀ (n : Nat) (x4 : Int32) (x5 : Int32), wX6_begunAt_L18 K B4 σ x1 x2 x3 n x4 x5 → ∀ (H : Heap) (locs : List Loc), Sy D 12 ad A H0 (obM ad ci σ) H locs → tt σ → ∀ ls : Array Slot, lv_has ls 6 [(0, .ref (ad 0)), (1, .int x1), (2, .int x2), (3, .int x3), (4, .int x4), (5, .int x5)] → W p l e rmX6_begunAt s m args below meth c H locs 0 0 Q (F0 m 18 ls []) := by
  obtain ⟨hx, hb, hml, hown, hts⟩ := id C0
  intro n
  induction n with
  | zero =>
    intro x4 x5 h
    exact h.elim
  | succ n ih =>
    intro x4 x5 h H locs hY hR  ls hl
    refine lv_iload hx hb dX6_begunAt_18 (lv_at hl 5 rfl) ?_
    refine lv_aload_n hx hb dX6_begunAt_20 rfl (lv_at hl 0 rfl) ?_
    refine w_get (o := 0) (ci := 6) (C := RX6) (T := TX6) (N1 := 14) (v := .int (gI σ 2)) hx hb hts kX6_begunAt_inX6 hown hK.1 hY (by decide) obM_main rfl 9 (by decide) (hts _ kX6_begunAt_2) rfl rfl dX6_begunAt_21 ?_
    refine lv_icmp_ge (tgt := 55) hx hb dX6_begunAt_24 (by decide) (fun c_7 => ?_) (fun c_7 => ?_)
    · have h := h.1 c_7
      refine lv_aload_n hx hb dX6_begunAt_55 rfl (lv_at hl 0 rfl) ?_
      refine lv_iload_n hx hb dX6_begunAt_56 rfl (lv_at hl 3 rfl) ?_
      refine w_callip (rest := []) (va_runV (As := [.int x3]) (rest := []) C0 (mX6_isBegun l D ad ci A σ x3 _ hR  h) (cwV 1 hts gX6_begunAt_X6_isBegun rfl rfl rfl ddX6_isBegun ⟨Nat.le_of_ble_eq_true rfl, Nat.le_of_ble_eq_true rfl⟩) (w_preV (o := 0) (ci := 6) (ob := obM ad ci) (σ := σ) hK hY (by decide) obM_main rfl rfl) rfl rfl hl.1 rfl (lv_room (Nat.le_of_ble_eq_true rfl)) dX6_begunAt_57 ⟨Nat.zero_le _, Nat.zero_le _⟩) hY (fun r_8 H locs h hY => ?_)
      obtain ⟨n_r_8, h⟩ := h
      refine lv_if_eq (tgt := 71) hx hb dX6_begunAt_60 (by decide) (fun c_9 => ?_) (fun c_9 => ?_)
      · have h := h.1 c_9
        refine lv_iinc (v := (x3 + 1)) (lv' := [(3, .int (x3 + 1)), (0, .ref (ad 0)), (1, .int x1), (2, .int x2), (4, .int x4), (5, .int x5)]) hx hb dX6_begunAt_71 hl (k := 3) rfl rfl (by decide) rfl (fun ls hl => ?_)
        refine lv_goto (tgt := 4) hx hb dX6_begunAt_74 (by decide) ?_
        exact hB4 x2 (x3 + 1) h _ _ hY hR  _ (lv_sub hl [1, 2, 3, 0] rfl)
      · have h := h.2 c_9
        refine lv_iload hx hb dX6_begunAt_63 (lv_at hl 4 rfl) ?_
        refine lv_iload_n hx hb dX6_begunAt_65 rfl (lv_at hl 1 rfl) ?_
        refine lv_icmp_ne (tgt := 71) hx hb dX6_begunAt_66 (by decide) (fun c_10 => ?_) (fun c_10 => ?_)
        · have h := h.2 c_10
          refine lv_iinc (v := (x3 + 1)) (lv' := [(3, .int (x3 + 1)), (0, .ref (ad 0)), (1, .int x1), (2, .int x2), (4, .int x4), (5, .int x5)]) hx hb dX6_begunAt_71 hl (k := 3) rfl rfl (by decide) rfl (fun ls hl => ?_)
          refine lv_goto (tgt := 4) hx hb dX6_begunAt_74 (by decide) ?_
          exact hB4 x2 (x3 + 1) h _ _ hY hR  _ (lv_sub hl [1, 2, 3, 0] rfl)
        · have h := h.1 c_10
          refine lv_iload_n hx hb dX6_begunAt_69 rfl (lv_at hl 3 rfl) ?_
          refine lv_istore_n (lv' := [(2, .int x3), (0, .ref (ad 0)), (1, .int x1), (3, .int x3), (4, .int x4), (5, .int x5)]) hx hb dX6_begunAt_70 rfl hl (by decide) rfl (fun ls hl => ?_)
          refine lv_iinc (v := (x3 + 1)) (lv' := [(3, .int (x3 + 1)), (2, .int x3), (0, .ref (ad 0)), (1, .int x1), (4, .int x4), (5, .int x5)]) hx hb dX6_begunAt_71 hl (k := 3) rfl rfl (by decide) rfl (fun ls hl => ?_)
          refine lv_goto (tgt := 4) hx hb dX6_begunAt_74 (by decide) ?_
          exact hB4 x3 (x3 + 1) h _ _ hY hR  _ (lv_sub hl [2, 3, 1, 0] rfl)
    · have h := h.2 c_7
      refine lv_aload_n hx hb dX6_begunAt_27 rfl (lv_at hl 0 rfl) ?_
      refine lv_iload hx hb dX6_begunAt_28 (lv_at hl 5 rfl) ?_
      refine w_callip (rest := []) (va_runV (As := [.int x5]) (rest := []) C0 (mX6_isBegun l D ad ci A σ x5 _ hR  h) (cwV 1 hts gX6_begunAt_X6_isBegun rfl rfl rfl ddX6_isBegun ⟨Nat.le_of_ble_eq_true rfl, Nat.le_of_ble_eq_true rfl⟩) (w_preV (o := 0) (ci := 6) (ob := obM ad ci) (σ := σ) hK hY (by decide) obM_main rfl rfl) rfl rfl hl.1 rfl (lv_room (Nat.le_of_ble_eq_true rfl)) dX6_begunAt_30 ⟨Nat.zero_le _, Nat.zero_le _⟩) hY (fun r_11 H locs h hY => ?_)
      obtain ⟨n_r_11, h⟩ := h
      refine lv_if_eq (tgt := 49) hx hb dX6_begunAt_33 (by decide) (fun c_12 => ?_) (fun c_12 => ?_)
      · have h := h.1 c_12
        refine lv_iinc (v := (x5 + 1)) (lv' := [(5, .int (x5 + 1)), (0, .ref (ad 0)), (1, .int x1), (2, .int x2), (3, .int x3), (4, .int x4)]) hx hb dX6_begunAt_49 hl (k := 5) rfl rfl (by decide) rfl (fun ls hl => ?_)
        refine lv_goto (tgt := 18) hx hb dX6_begunAt_52 (by decide) ?_
        exact ih x4 (x5 + 1) h _ _ hY hR  _ (lv_sub hl [1, 2, 3, 4, 5, 0] rfl)
      · have h := h.2 c_12
        refine lv_aload_n hx hb dX6_begunAt_36 rfl (lv_at hl 0 rfl) ?_
        refine lv_iload hx hb dX6_begunAt_37 (lv_at hl 5 rfl) ?_
        refine lv_iload_n hx hb dX6_begunAt_39 rfl (lv_at hl 3 rfl) ?_
        refine w_callip (rest := []) (va_runV (As := [.int x5, .int x3]) (rest := []) C0 (mX6_isLess l D ad ci A σ x5 x3 _ hR  h) (cwV 2 hts gX6_begunAt_X6_isLess rfl rfl rfl ddX6_isLess ⟨Nat.le_of_ble_eq_true rfl, Nat.le_of_ble_eq_true rfl⟩) (w_preV (o := 0) (ci := 6) (ob := obM ad ci) (σ := σ) hK hY (by decide) obM_main rfl rfl) rfl rfl hl.1 rfl (lv_room (Nat.le_of_ble_eq_true rfl)) dX6_begunAt_40 ⟨Nat.zero_le _, Nat.zero_le _⟩) hY (fun r_13 H locs h hY => ?_)
        obtain ⟨n_r_13, h⟩ := h
        refine lv_if_eq (tgt := 49) hx hb dX6_begunAt_43 (by decide) (fun c_14 => ?_) (fun c_14 => ?_)
        · have h := h.1 c_14
          refine lv_iinc (v := (x5 + 1)) (lv' := [(5, .int (x5 + 1)), (0, .ref (ad 0)), (1, .int x1), (2, .int x2), (3, .int x3), (4, .int x4)]) hx hb dX6_begunAt_49 hl (k := 5) rfl rfl (by decide) rfl (fun ls hl => ?_)
          refine lv_goto (tgt := 18) hx hb dX6_begunAt_52 (by decide) ?_
          exact ih x4 (x5 + 1) h _ _ hY hR  _ (lv_sub hl [1, 2, 3, 4, 5, 0] rfl)
        · have h := h.2 c_14
          refine lv_iinc (v := (x4 + 1)) (lv' := [(4, .int (x4 + 1)), (0, .ref (ad 0)), (1, .int x1), (2, .int x2), (3, .int x3), (5, .int x5)]) hx hb dX6_begunAt_46 hl (k := 4) rfl rfl (by decide) rfl (fun ls hl => ?_)
          refine lv_iinc (v := (x5 + 1)) (lv' := [(5, .int (x5 + 1)), (4, .int (x4 + 1)), (0, .ref (ad 0)), (1, .int x1), (2, .int x2), (3, .int x3)]) hx hb dX6_begunAt_49 hl (k := 5) rfl rfl (by decide) rfl (fun ls hl => ?_)
          refine lv_goto (tgt := 18) hx hb dX6_begunAt_52 (by decide) ?_
          exact ih (x4 + 1) (x5 + 1) h _ _ hY hR  _ (lv_sub hl [2, 3, 4, 5, 1, 0] rfl)
set_option maxHeartbeats 4000000 in
set_option maxRecDepth 100000 in
theorem tX6_begunAt_L4 (C0 : CallFix p m c cX6_begunAt 6 s args wsX6_begunAt RX6) (hK : Kx D (tyM ci) s) (K : Int32 → St → Prop) (σ : St) (x1 : Int32) (hret : ∀ (r : Int32) (u : St) (H : Heap) (locs : List Loc) (pc : Nat) (ls : Array Slot), K r u → Sy D 12 ad A H0 (obM ad ci u) H locs → tt u → decode cX6_begunAt pc = .ok (.ireturn, 1) → W p l e rmX6_begunAt s m args below meth c H locs 0 0 Q (F0 m pc ls [.int r])) : ∀ (n : Nat) (x2 : Int32) (x3 : Int32), wX6_begunAt_L4 K σ x1 n x2 x3 → ∀ (H : Heap) (locs : List Loc), Sy D 12 ad A H0 (obM ad ci σ) H locs → tt σ → ∀ ls : Array Slot, lv_has ls 6 [(0, .ref (ad 0)), (1, .int x1), (2, .int x2), (3, .int x3)] → W p l e rmX6_begunAt s m args below meth c H locs 0 0 Q (F0 m 4 ls []) := by
  obtain ⟨hx, hb, hml, hown, hts⟩ := id C0
  intro n
  induction n with
  | zero =>
    intro x2 x3 h
    exact h.elim
  | succ n ih =>
    intro x2 x3 h H locs hY hR  ls hl
    refine lv_iload_n hx hb dX6_begunAt_4 rfl (lv_at hl 3 rfl) ?_
    refine lv_aload_n hx hb dX6_begunAt_5 rfl (lv_at hl 0 rfl) ?_
    refine w_get (o := 0) (ci := 6) (C := RX6) (T := TX6) (N1 := 14) (v := .int (gI σ 2)) hx hb hts kX6_begunAt_inX6 hown hK.1 hY (by decide) obM_main rfl 9 (by decide) (hts _ kX6_begunAt_2) rfl rfl dX6_begunAt_6 ?_
    refine lv_icmp_ge (tgt := 77) hx hb dX6_begunAt_9 (by decide) (fun c_15 => ?_) (fun c_15 => ?_)
    · have h := h.1 c_15
      refine lv_aload_n hx hb dX6_begunAt_77 rfl (lv_at hl 0 rfl) ?_
      refine lv_iload_n hx hb dX6_begunAt_78 rfl (lv_at hl 2 rfl) ?_
      refine lv_if_ge (tgt := 86) hx hb dX6_begunAt_79 (by decide) (fun c_16 => ?_) (fun c_16 => ?_)
      · have h := h.1 c_16
        refine lv_iconst (v := (0 : Int32)) hx hb dX6_begunAt_86 (by decide) ?_
        exact tX6_begunAt_J87 C0 hK K σ x2 (0 : Int32) hret h _ _ hY hR _ (lv_sub hl [0, 2] rfl)
      · have h := h.2 c_16
        refine lv_iconst (v := (1 : Int32)) hx hb dX6_begunAt_82 (by decide) ?_
        refine lv_goto (tgt := 87) hx hb dX6_begunAt_83 (by decide) ?_
        exact tX6_begunAt_J87 C0 hK K σ x2 (1 : Int32) hret h _ _ hY hR _ (lv_sub hl [0, 2] rfl)
    · have h := h.2 c_15
      refine lv_iconst (v := (0 : Int32)) hx hb dX6_begunAt_12 (by decide) ?_
      refine lv_istore (lv' := [(4, .int (0 : Int32)), (0, .ref (ad 0)), (1, .int x1), (2, .int x2), (3, .int x3)]) hx hb dX6_begunAt_13 hl (by decide) rfl (fun ls hl => ?_)
      refine lv_iconst (v := (0 : Int32)) hx hb dX6_begunAt_15 (by decide) ?_
      refine lv_istore (lv' := [(5, .int (0 : Int32)), (4, .int (0 : Int32)), (0, .ref (ad 0)), (1, .int x1), (2, .int x2), (3, .int x3)]) hx hb dX6_begunAt_16 hl (by decide) rfl (fun ls hl => ?_)
      obtain ⟨n_17, h⟩ := h
      exact tX6_begunAt_L18 C0 hK K (wX6_begunAt_L4 K σ x1 n) σ x1 x2 x3 hret ih n_17 (0 : Int32) (0 : Int32) h _ _ hY hR  _ (lv_sub hl [2, 3, 4, 5, 1, 0] rfl)
set_option maxHeartbeats 4000000 in
set_option maxRecDepth 100000 in
theorem eX6_begunAt (C0 : CallFix p m c cX6_begunAt 6 s args wsX6_begunAt RX6) (hK : Kx D (tyM ci) s) (K : Int32 → St → Prop) (σ : St) (hret : ∀ (r : Int32) (u : St) (H : Heap) (locs : List Loc) (pc : Nat) (ls : Array Slot), K r u → Sy D 12 ad A H0 (obM ad ci u) H locs → tt u → decode cX6_begunAt pc = .ok (.ireturn, 1) → W p l e rmX6_begunAt s m args below meth c H locs 0 0 Q (F0 m pc ls [.int r])) (x1 : Int32) (h : wX6_begunAt σ x1 K) (H : Heap) (locs : List Loc) (hY : Sy D 12 ad A H0 (obM ad ci σ) H locs) (hR : tt σ) (ls : Array Slot) (hl : lv_has ls 6 [(0, .ref (ad 0)), (1, .int x1)]) : W p l e rmX6_begunAt s m args below meth c H locs 0 0 Q (F0 m 0 ls []) := by
  obtain ⟨hx, hb, hml, hown, hts⟩ := id C0
  refine lv_iconst (v := (-1 : Int32)) hx hb dX6_begunAt_0 (by decide) ?_
  refine lv_istore_n (lv' := [(2, .int (-1 : Int32)), (0, .ref (ad 0)), (1, .int x1)]) hx hb dX6_begunAt_1 rfl hl (by decide) rfl (fun ls hl => ?_)
  refine lv_iconst (v := (0 : Int32)) hx hb dX6_begunAt_2 (by decide) ?_
  refine lv_istore_n (lv' := [(3, .int (0 : Int32)), (2, .int (-1 : Int32)), (0, .ref (ad 0)), (1, .int x1)]) hx hb dX6_begunAt_3 rfl hl (by decide) rfl (fun ls hl => ?_)
  obtain ⟨n_18, h⟩ := h
  exact tX6_begunAt_L4 C0 hK K σ x1 hret n_18 (-1 : Int32) (0 : Int32) h _ _ hY hR  _ (lv_sub hl [2, 3, 1, 0] rfl)
set_option maxHeartbeats 4000000 in
set_option maxRecDepth 100000 in
theorem mX6_begunAt (l : Launch) (D : va_G) (ad : Nat → Nat) (ci : Nat → ClassId) (A : Nat → Prop) (σ : St) (x1 : Int32) (K : Int32 → St → Prop) (hR : tt σ) (h : wX6_begunAt σ x1 K) : Met l yX6_begunAt wsX6_begunAt rmX6_begunAt (va_Pc [.ref (ad 0), .int x1] (PreW D 12 ad A (tyM ci) (obM ad ci σ))) (va_Qi (fun r u => K r u) (PostW D 12 ad (tyM ci) (obM ad ci) tt) A) 0 0 A := by
  refine Met.ofW (cc := cX6_begunAt) (maxL := 6) (ret := (some .int)) (by decide) rfl ?_
  intro p e s m args below meth c s₁ B hml hv
  obtain ⟨rfl, hP, hK, hD⟩ := hv
  have C0 : CallFix p m c cX6_begunAt 6 s _ wsX6_begunAt RX6 := ⟨B.exec, B.bytes, hml, findClass_of_methodNamed B.named, atoms_spec (ws := wsX6_begunAt) B.pre⟩
  have hlocks := B.notSynchronized
  have hY : Sy D 12 ad A s.heap (obM ad ci σ) s.heap [] := ⟨hP, hD, va_S.rf⟩
  have hl := lv_entry ([.ref (ad 0), .int x1]) (n := 6) (Nat.le_of_ble_eq_true rfl)
  rw [lg_entry_eq]
  generalize (lg_sl ([.ref (ad 0), .int x1]) ++ List.replicate (6 - (lg_sl ([.ref (ad 0), .int x1])).length) Slot.unset).toArray = ls at hl ⊢
  exact eX6_begunAt C0 hK K σ (fun r u H locs pc ls hk hY hR hd => w_iret (I := tt) B.exec B.bytes B.returns hlocks hK hk (fun t ht => ht) hY hR hd) x1 h _ _ hY hR ls hl
set_option maxHeartbeats 4000000 in
set_option maxRecDepth 100000 in
theorem tX6_sum_L9 (C0 : CallFix p m c cX6_sum 3 s args wsX6_sum RX6) (hK : Kx D (tyM ci) s) (K : Int32 → St → Prop) (σ : St) (hret : ∀ (r : Int32) (u : St) (H : Heap) (locs : List Loc) (pc : Nat) (ls : Array Slot), K r u → Sy D 12 ad A H0 (obM ad ci u) H locs → tt u → decode cX6_sum pc = .ok (.ireturn, 1) → W p l e rmX6_sum s m args below meth c H locs 0 0 Q (F0 m pc ls [.int r])) : ∀ (n : Nat) (x1 : Int32) (x2 : Int32), wX6_sum_L9 K σ n x1 x2 → ∀ (H : Heap) (locs : List Loc), Sy D 12 ad A H0 (obM ad ci σ) H locs → tt σ → ∀ ls : Array Slot, lv_has ls 3 [(0, .ref (ad 0)), (1, .int x1), (2, .int x2)] → W p l e rmX6_sum s m args below meth c H locs 0 0 Q (F0 m 9 ls []) := by
  obtain ⟨hx, hb, hml, hown, hts⟩ := id C0
  intro n
  induction n with
  | zero =>
    intro x1 x2 h
    exact h.elim
  | succ n ih =>
    intro x1 x2 h H locs hY hR  ls hl
    refine lv_iload_n hx hb dX6_sum_9 rfl (lv_at hl 2 rfl) ?_
    refine lv_aload_n hx hb dX6_sum_10 rfl (lv_at hl 0 rfl) ?_
    refine w_get (o := 0) (ci := 6) (C := RX6) (T := TX6) (N1 := 14) (v := .int (gI σ 2)) hx hb hts kX6_sum_inX6 hown hK.1 hY (by decide) obM_main rfl 9 (by decide) (hts _ kX6_sum_0) rfl rfl dX6_sum_11 ?_
    refine lv_icmp_ge (tgt := 40) hx hb dX6_sum_14 (by decide) (fun c_1 => ?_) (fun c_1 => ?_)
    · have h := h.1 c_1
      refine lv_iload_n hx hb dX6_sum_40 rfl (lv_at hl 1 rfl) ?_
      exact hret x1 σ _ _ _ _ h hY hR dX6_sum_41
    · have h := h.2 c_1
      refine lv_aload_n hx hb dX6_sum_17 rfl (lv_at hl 0 rfl) ?_
      refine lv_iload_n hx hb dX6_sum_18 rfl (lv_at hl 2 rfl) ?_
      refine w_callip (rest := []) (va_runV (As := [.int x2]) (rest := []) C0 (mX6_isBegun l D ad ci A σ x2 _ hR  h) (cwV 1 hts gX6_sum_X6_isBegun rfl rfl rfl ddX6_isBegun ⟨Nat.le_of_ble_eq_true rfl, Nat.le_of_ble_eq_true rfl⟩) (w_preV (o := 0) (ci := 6) (ob := obM ad ci) (σ := σ) hK hY (by decide) obM_main rfl rfl) rfl rfl hl.1 rfl (lv_room (Nat.le_of_ble_eq_true rfl)) dX6_sum_19 ⟨Nat.zero_le _, Nat.zero_le _⟩) hY (fun r_2 H locs h hY => ?_)
      obtain ⟨n_r_2, h⟩ := h
      refine lv_if_eq (tgt := 34) hx hb dX6_sum_22 (by decide) (fun c_3 => ?_) (fun c_3 => ?_)
      · have h := h.1 c_3
        refine lv_iinc (v := (x2 + 1)) (lv' := [(2, .int (x2 + 1)), (0, .ref (ad 0)), (1, .int x1)]) hx hb dX6_sum_34 hl (k := 2) rfl rfl (by decide) rfl (fun ls hl => ?_)
        refine lv_goto (tgt := 9) hx hb dX6_sum_37 (by decide) ?_
        exact ih x1 (x2 + 1) h _ _ hY hR  _ (lv_sub hl [1, 2, 0] rfl)
      · have h := h.2 c_3
        refine lv_iload_n hx hb dX6_sum_25 rfl (lv_at hl 1 rfl) ?_
        refine lv_aload_n hx hb dX6_sum_26 rfl (lv_at hl 0 rfl) ?_
        refine w_get (o := 0) (ci := 6) (C := RX6) (T := TX6) (N1 := 14) (v := .ref (ad 6)) hx hb hts kX6_sum_inX6 hown hK.1 hY (by decide) obM_main rfl 6 (by decide) (hts _ kX6_sum_2) rfl rfl dX6_sum_27 ?_
        refine lv_iload_n hx hb dX6_sum_30 rfl (lv_at hl 2 rfl) ?_
        obtain ⟨b_4, h⟩ := h
        refine w_iald (o := 6) hx hb hK.1 hY (by decide) 1 rfl rfl b_4 dX6_sum_31 ?_
        refine lv_iadd hx hb dX6_sum_32 ?_
        refine lv_topi (fun x1_5 e_x1_5 => ?_)
        have h := h x1_5 e_x1_5
        refine lv_istore_n (lv' := [(1, .int x1_5), (0, .ref (ad 0)), (2, .int x2)]) hx hb dX6_sum_33 rfl hl (by decide) rfl (fun ls hl => ?_)
        refine lv_iinc (v := (x2 + 1)) (lv' := [(2, .int (x2 + 1)), (1, .int x1_5), (0, .ref (ad 0))]) hx hb dX6_sum_34 hl (k := 2) rfl rfl (by decide) rfl (fun ls hl => ?_)
        refine lv_goto (tgt := 9) hx hb dX6_sum_37 (by decide) ?_
        exact ih x1_5 (x2 + 1) h _ _ hY hR  _ (lv_sub hl [2, 1, 0] rfl)
set_option maxHeartbeats 4000000 in
set_option maxRecDepth 100000 in
theorem eX6_sum (C0 : CallFix p m c cX6_sum 3 s args wsX6_sum RX6) (hK : Kx D (tyM ci) s) (K : Int32 → St → Prop) (σ : St) (hret : ∀ (r : Int32) (u : St) (H : Heap) (locs : List Loc) (pc : Nat) (ls : Array Slot), K r u → Sy D 12 ad A H0 (obM ad ci u) H locs → tt u → decode cX6_sum pc = .ok (.ireturn, 1) → W p l e rmX6_sum s m args below meth c H locs 0 0 Q (F0 m pc ls [.int r])) (h : wX6_sum σ K) (H : Heap) (locs : List Loc) (hY : Sy D 12 ad A H0 (obM ad ci σ) H locs) (hR : tt σ) (ls : Array Slot) (hl : lv_has ls 3 [(0, .ref (ad 0))]) : W p l e rmX6_sum s m args below meth c H locs 0 0 Q (F0 m 0 ls []) := by
  obtain ⟨hx, hb, hml, hown, hts⟩ := id C0
  refine lv_aload_n hx hb dX6_sum_0 rfl (lv_at hl 0 rfl) ?_
  refine lv_iconst (v := (0 : Int32)) hx hb dX6_sum_1 (by decide) ?_
  obtain ⟨σ_6, e_σ_6⟩ : ∃ z : St, z = pI σ 0 (0 : Int32) := ⟨_, rfl⟩
  have h := h σ_6 e_σ_6
  have hR_σ_6 : tt σ_6 := trivial
  refine w_put (o := 0) (ci := 6) (C := RX6) (T := TX6) (N1 := 14) hx hb hts kX6_sum_inX6 tyX6 tyX6_ok nmX6 hown hK.1 hY (by decide) obM_main rfl 0 (by decide) (hts _ kX6_sum_3) rfl rfl rfl (Nat.le_of_ble_eq_true rfl) dX6_sum_2 (ob' := obM ad ci σ_6) (by rw [e_σ_6]; exact obM_pI rfl) (fun H locs hY => ?_)
  refine lv_iconst (v := (0 : Int32)) hx hb dX6_sum_5 (by decide) ?_
  refine lv_istore_n (lv' := [(1, .int (0 : Int32)), (0, .ref (ad 0))]) hx hb dX6_sum_6 rfl hl (by decide) rfl (fun ls hl => ?_)
  refine lv_iconst (v := (0 : Int32)) hx hb dX6_sum_7 (by decide) ?_
  refine lv_istore_n (lv' := [(2, .int (0 : Int32)), (1, .int (0 : Int32)), (0, .ref (ad 0))]) hx hb dX6_sum_8 rfl hl (by decide) rfl (fun ls hl => ?_)
  obtain ⟨n_7, h⟩ := h
  exact tX6_sum_L9 C0 hK K σ_6 hret n_7 (0 : Int32) (0 : Int32) h _ _ hY hR_σ_6  _ (lv_sub hl [2, 1, 0] rfl)
set_option maxHeartbeats 4000000 in
set_option maxRecDepth 100000 in
theorem mX6_sum (l : Launch) (D : va_G) (ad : Nat → Nat) (ci : Nat → ClassId) (A : Nat → Prop) (σ : St) (K : Int32 → St → Prop) (hR : tt σ) (h : wX6_sum σ K) : Met l yX6_sum wsX6_sum rmX6_sum (va_Pc [.ref (ad 0)] (PreW D 12 ad A (tyM ci) (obM ad ci σ))) (va_Qi (fun r u => K r u) (PostW D 12 ad (tyM ci) (obM ad ci) tt) A) 0 0 A := by
  refine Met.ofW (cc := cX6_sum) (maxL := 3) (ret := (some .int)) (by decide) rfl ?_
  intro p e s m args below meth c s₁ B hml hv
  obtain ⟨rfl, hP, hK, hD⟩ := hv
  have C0 : CallFix p m c cX6_sum 3 s _ wsX6_sum RX6 := ⟨B.exec, B.bytes, hml, findClass_of_methodNamed B.named, atoms_spec (ws := wsX6_sum) B.pre⟩
  have hlocks := B.notSynchronized
  have hY : Sy D 12 ad A s.heap (obM ad ci σ) s.heap [] := ⟨hP, hD, va_S.rf⟩
  have hl := lv_entry ([.ref (ad 0)]) (n := 3) (Nat.le_of_ble_eq_true rfl)
  rw [lg_entry_eq]
  generalize (lg_sl ([.ref (ad 0)]) ++ List.replicate (3 - (lg_sl ([.ref (ad 0)])).length) Slot.unset).toArray = ls at hl ⊢
  exact eX6_sum C0 hK K σ (fun r u H locs pc ls hk hY hR hd => w_iret (I := tt) B.exec B.bytes B.returns hlocks hK hk (fun t ht => ht) hY hR hd) h _ _ hY hR ls hl
set_option maxHeartbeats 4000000 in
set_option maxRecDepth 100000 in
theorem tX6_gone_L14 (C0 : CallFix p m c cX6_gone 3 s args wsX6_gone RX6) (hK : Kx D (tyM ci) s) (K : Int32 → St → Prop) (hret : ∀ (r : Int32) (u : St) (H : Heap) (locs : List Loc) (pc : Nat) (ls : Array Slot), K r u → Sy D 12 ad A H0 (obM ad ci u) H locs → tt u → decode cX6_gone pc = .ok (.ireturn, 1) → W p l e rmX6_gone s m args below meth c H locs 0 0 Q (F0 m pc ls [.int r])) : ∀ (n : Nat) (σ : St) (x1 : Int32) (x2 : Int32), wX6_gone_L14 K n σ x1 x2 → ∀ (H : Heap) (locs : List Loc), Sy D 12 ad A H0 (obM ad ci σ) H locs → tt σ → ∀ ls : Array Slot, lv_has ls 3 [(0, .ref (ad 0)), (1, .int x1), (2, .int x2)] → W p l e rmX6_gone s m args below meth c H locs 0 0 Q (F0 m 14 ls []) := by
  obtain ⟨hx, hb, hml, hown, hts⟩ := id C0
  intro n
  induction n with
  | zero =>
    intro σ x1 x2 h
    exact h.elim
  | succ n ih =>
    intro σ x1 x2 h H locs hY hR  ls hl
    refine lv_iload_n hx hb dX6_gone_14 rfl (lv_at hl 2 rfl) ?_
    refine lv_if_lt (tgt := 43) hx hb dX6_gone_15 (by decide) (fun c_1 => ?_) (fun c_1 => ?_)
    · have h := h.1 c_1
      refine lv_iload_n hx hb dX6_gone_43 rfl (lv_at hl 1 rfl) ?_
      exact hret x1 σ _ _ _ _ h hY hR dX6_gone_44
    · have h := h.2 c_1
      refine lv_aload_n hx hb dX6_gone_18 rfl (lv_at hl 0 rfl) ?_
      refine lv_iload_n hx hb dX6_gone_19 rfl (lv_at hl 2 rfl) ?_
      refine w_callip (rest := []) (va_runV (As := [.int x2]) (rest := []) C0 (mX6_isBegun l D ad ci A σ x2 _ hR  h) (cwV 1 hts gX6_gone_X6_isBegun rfl rfl rfl ddX6_isBegun ⟨Nat.le_of_ble_eq_true rfl, Nat.le_of_ble_eq_true rfl⟩) (w_preV (o := 0) (ci := 6) (ob := obM ad ci) (σ := σ) hK hY (by decide) obM_main rfl rfl) rfl rfl hl.1 rfl (lv_room (Nat.le_of_ble_eq_true rfl)) dX6_gone_20 ⟨Nat.zero_le _, Nat.zero_le _⟩) hY (fun r_2 H locs h hY => ?_)
      obtain ⟨n_r_2, h⟩ := h
      refine lv_if_ne (tgt := 29) hx hb dX6_gone_23 (by decide) (fun c_3 => ?_) (fun c_3 => ?_)
      · have h := h.2 c_3
        refine lv_aload_n hx hb dX6_gone_29 rfl (lv_at hl 0 rfl) ?_
        refine lv_iload_n hx hb dX6_gone_30 rfl (lv_at hl 2 rfl) ?_
        refine w_callv (rest := []) (va_runV (As := [.int x2]) (rest := []) C0 (mX6_goes l D ad ci A σ x2 _ hR  h) (cwV 1 hts gX6_gone_X6_goes rfl rfl rfl ddX6_goes ⟨Nat.le_of_ble_eq_true rfl, Nat.le_of_ble_eq_true rfl⟩) (w_preV (o := 0) (ci := 6) (ob := obM ad ci) (σ := σ) hK hY (by decide) obM_main rfl rfl) rfl rfl hl.1 rfl (lv_room (Nat.le_of_ble_eq_true rfl)) dX6_gone_31 ⟨Nat.zero_le _, Nat.zero_le _⟩) hY (fun σ_5 H locs h hY hR_σ_5 => ?_)
        refine lv_iinc (v := (x1 + 1)) (lv' := [(1, .int (x1 + 1)), (0, .ref (ad 0)), (2, .int x2)]) hx hb dX6_gone_34 hl (k := 1) rfl rfl (by decide) rfl (fun ls hl => ?_)
        refine lv_iinc (v := (x2 + (-1))) (lv' := [(2, .int (x2 + (-1))), (1, .int (x1 + 1)), (0, .ref (ad 0))]) hx hb dX6_gone_37 hl (k := 2) rfl rfl (by decide) rfl (fun ls hl => ?_)
        refine lv_goto (tgt := 14) hx hb dX6_gone_40 (by decide) ?_
        exact ih σ_5 (x1 + 1) (x2 + (-1)) h _ _ hY hR_σ_5  _ (lv_sub hl [2, 1, 0] rfl)
      · have h := h.1 c_3
        refine lv_goto (tgt := 37) hx hb dX6_gone_26 (by decide) ?_
        refine lv_iinc (v := (x2 + (-1))) (lv' := [(2, .int (x2 + (-1))), (0, .ref (ad 0)), (1, .int x1)]) hx hb dX6_gone_37 hl (k := 2) rfl rfl (by decide) rfl (fun ls hl => ?_)
        refine lv_goto (tgt := 14) hx hb dX6_gone_40 (by decide) ?_
        exact ih σ x1 (x2 + (-1)) h _ _ hY hR  _ (lv_sub hl [1, 2, 0] rfl)
set_option maxHeartbeats 4000000 in
set_option maxRecDepth 100000 in
theorem eX6_gone (C0 : CallFix p m c cX6_gone 3 s args wsX6_gone RX6) (hK : Kx D (tyM ci) s) (K : Int32 → St → Prop) (σ : St) (hret : ∀ (r : Int32) (u : St) (H : Heap) (locs : List Loc) (pc : Nat) (ls : Array Slot), K r u → Sy D 12 ad A H0 (obM ad ci u) H locs → tt u → decode cX6_gone pc = .ok (.ireturn, 1) → W p l e rmX6_gone s m args below meth c H locs 0 0 Q (F0 m pc ls [.int r])) (h : wX6_gone σ K) (H : Heap) (locs : List Loc) (hY : Sy D 12 ad A H0 (obM ad ci σ) H locs) (hR : tt σ) (ls : Array Slot) (hl : lv_has ls 3 [(0, .ref (ad 0))]) : W p l e rmX6_gone s m args below meth c H locs 0 0 Q (F0 m 0 ls []) := by
  obtain ⟨hx, hb, hml, hown, hts⟩ := id C0
  refine lv_aload_n hx hb dX6_gone_0 rfl (lv_at hl 0 rfl) ?_
  refine lv_iconst (v := (0 : Int32)) hx hb dX6_gone_1 (by decide) ?_
  obtain ⟨σ_6, e_σ_6⟩ : ∃ z : St, z = pI σ 0 (0 : Int32) := ⟨_, rfl⟩
  have h := h σ_6 e_σ_6
  have hR_σ_6 : tt σ_6 := trivial
  refine w_put (o := 0) (ci := 6) (C := RX6) (T := TX6) (N1 := 14) hx hb hts kX6_gone_inX6 tyX6 tyX6_ok nmX6 hown hK.1 hY (by decide) obM_main rfl 0 (by decide) (hts _ kX6_gone_0) rfl rfl rfl (Nat.le_of_ble_eq_true rfl) dX6_gone_2 (ob' := obM ad ci σ_6) (by rw [e_σ_6]; exact obM_pI rfl) (fun H locs hY => ?_)
  refine lv_iconst (v := (0 : Int32)) hx hb dX6_gone_5 (by decide) ?_
  refine lv_istore_n (lv' := [(1, .int (0 : Int32)), (0, .ref (ad 0))]) hx hb dX6_gone_6 rfl hl (by decide) rfl (fun ls hl => ?_)
  refine lv_aload_n hx hb dX6_gone_7 rfl (lv_at hl 1 rfl) ?_
  refine w_get (o := 0) (ci := 6) (C := RX6) (T := TX6) (N1 := 14) (v := .int (gI σ_6 2)) hx hb hts kX6_gone_inX6 hown hK.1 hY (by decide) obM_main rfl 9 (by decide) (hts _ kX6_gone_2) rfl rfl dX6_gone_8 ?_
  refine lv_iconst (v := (1 : Int32)) hx hb dX6_gone_11 (by decide) ?_
  refine lv_isub hx hb dX6_gone_12 ?_
  refine lv_topi (fun x2_7 e_x2_7 => ?_)
  have h := h x2_7 e_x2_7
  refine lv_istore_n (lv' := [(2, .int x2_7), (1, .int (0 : Int32)), (0, .ref (ad 0))]) hx hb dX6_gone_13 rfl hl (by decide) rfl (fun ls hl => ?_)
  obtain ⟨n_8, h⟩ := h
  exact tX6_gone_L14 C0 hK K hret n_8 σ_6 (0 : Int32) x2_7 h _ _ hY hR_σ_6  _ (lv_sub hl [2, 1, 0] rfl)
set_option maxHeartbeats 4000000 in
set_option maxRecDepth 100000 in
theorem mX6_gone (l : Launch) (D : va_G) (ad : Nat → Nat) (ci : Nat → ClassId) (A : Nat → Prop) (σ : St) (K : Int32 → St → Prop) (hR : tt σ) (h : wX6_gone σ K) : Met l yX6_gone wsX6_gone rmX6_gone (va_Pc [.ref (ad 0)] (PreW D 12 ad A (tyM ci) (obM ad ci σ))) (va_Qi (fun r u => K r u) (PostW D 12 ad (tyM ci) (obM ad ci) tt) A) 0 0 A := by
  refine Met.ofW (cc := cX6_gone) (maxL := 3) (ret := (some .int)) (by decide) rfl ?_
  intro p e s m args below meth c s₁ B hml hv
  obtain ⟨rfl, hP, hK, hD⟩ := hv
  have C0 : CallFix p m c cX6_gone 3 s _ wsX6_gone RX6 := ⟨B.exec, B.bytes, hml, findClass_of_methodNamed B.named, atoms_spec (ws := wsX6_gone) B.pre⟩
  have hlocks := B.notSynchronized
  have hY : Sy D 12 ad A s.heap (obM ad ci σ) s.heap [] := ⟨hP, hD, va_S.rf⟩
  have hl := lv_entry ([.ref (ad 0)]) (n := 3) (Nat.le_of_ble_eq_true rfl)
  rw [lg_entry_eq]
  generalize (lg_sl ([.ref (ad 0)]) ++ List.replicate (3 - (lg_sl ([.ref (ad 0)])).length) Slot.unset).toArray = ls at hl ⊢
  exact eX6_gone C0 hK K σ (fun r u H locs pc ls hk hY hR hd => w_iret (I := tt) B.exec B.bytes B.returns hlocks hK hk (fun t ht => ht) hY hR hd) h _ _ hY hR ls hl
set_option maxHeartbeats 4000000 in
set_option maxRecDepth 100000 in
theorem tX6_longestAt_L4 (C0 : CallFix p m c cX6_longestAt 4 s args wsX6_longestAt RX6) (hK : Kx D (tyM ci) s) (K : Int32 → Prop) (σ : St) (x1 : Int32) (hret : ∀ (r : Int32) (H : Heap) (locs : List Loc) (pc : Nat) (ls : Array Slot), K r → Sy D 12 ad A H0 (obM ad ci σ) H locs → decode cX6_longestAt pc = .ok (.ireturn, 1) → W p l e rmX6_longestAt s m args below meth c H locs 0 0 Q (F0 m pc ls [.int r])) : ∀ (n : Nat) (x2 : Int32) (x3 : Int32), wX6_longestAt_L4 K σ x1 n x2 x3 → ∀ (H : Heap) (locs : List Loc), Sy D 12 ad A H0 (obM ad ci σ) H locs → tt σ → ∀ ls : Array Slot, lv_has ls 4 [(0, .ref (ad 0)), (1, .int x1), (2, .int x2), (3, .int x3)] → W p l e rmX6_longestAt s m args below meth c H locs 0 0 Q (F0 m 4 ls []) := by
  obtain ⟨hx, hb, hml, hown, hts⟩ := id C0
  intro n
  induction n with
  | zero =>
    intro x2 x3 h
    exact h.elim
  | succ n ih =>
    intro x2 x3 h H locs hY hR  ls hl
    refine lv_iload_n hx hb dX6_longestAt_4 rfl (lv_at hl 3 rfl) ?_
    refine lv_aload_n hx hb dX6_longestAt_5 rfl (lv_at hl 0 rfl) ?_
    refine w_get (o := 0) (ci := 6) (C := RX6) (T := TX6) (N1 := 14) (v := .int (gI σ 2)) hx hb hts kX6_longestAt_inX6 hown hK.1 hY (by decide) obM_main rfl 9 (by decide) (hts _ kX6_longestAt_0) rfl rfl dX6_longestAt_6 ?_
    refine lv_icmp_ge (tgt := 50) hx hb dX6_longestAt_9 (by decide) (fun c_1 => ?_) (fun c_1 => ?_)
    · have h := h.1 c_1
      refine lv_iload_n hx hb dX6_longestAt_50 rfl (lv_at hl 2 rfl) ?_
      exact hret x2 _ _ _ _ h hY dX6_longestAt_51
    · have h := h.2 c_1
      refine lv_aload_n hx hb dX6_longestAt_12 rfl (lv_at hl 0 rfl) ?_
      refine lv_iload_n hx hb dX6_longestAt_13 rfl (lv_at hl 3 rfl) ?_
      refine lv_iload_n hx hb dX6_longestAt_14 rfl (lv_at hl 1 rfl) ?_
      refine w_callip (rest := []) (va_runV (As := [.int x3, .int x1]) (rest := []) C0 (mX6_like l D ad ci A σ x3 x1 _ hR  h) (cwV 2 hts gX6_longestAt_X6_like rfl rfl rfl ddX6_like ⟨Nat.le_of_ble_eq_true rfl, Nat.le_of_ble_eq_true rfl⟩) (w_preV (o := 0) (ci := 6) (ob := obM ad ci) (σ := σ) hK hY (by decide) obM_main rfl rfl) rfl rfl hl.1 rfl (lv_room (Nat.le_of_ble_eq_true rfl)) dX6_longestAt_15 ⟨Nat.zero_le _, Nat.zero_le _⟩) hY (fun r_2 H locs h hY => ?_)
      refine lv_aload_n hx hb dX6_longestAt_18 rfl (lv_at hl 0 rfl) ?_
      refine w_get (o := 0) (ci := 6) (C := RX6) (T := TX6) (N1 := 14) (v := .ref (ad 5)) hx hb hts kX6_longestAt_inX6 hown hK.1 hY (by decide) obM_main rfl 5 (by decide) (hts _ kX6_longestAt_2) rfl rfl dX6_longestAt_19 ?_
      refine lv_iload_n hx hb dX6_longestAt_22 rfl (lv_at hl 3 rfl) ?_
      obtain ⟨b_3, h⟩ := h
      refine w_iald (o := 5) hx hb hK.1 hY (by decide) 1 rfl rfl b_3 dX6_longestAt_23 ?_
      refine lv_icmp_ne (tgt := 44) hx hb dX6_longestAt_24 (by decide) (fun c_4 => ?_) (fun c_4 => ?_)
      · have h := h.2 c_4
        refine lv_iinc (v := (x3 + 1)) (lv' := [(3, .int (x3 + 1)), (0, .ref (ad 0)), (1, .int x1), (2, .int x2)]) hx hb dX6_longestAt_44 hl (k := 3) rfl rfl (by decide) rfl (fun ls hl => ?_)
        refine lv_goto (tgt := 4) hx hb dX6_longestAt_47 (by decide) ?_
        exact ih x2 (x3 + 1) h _ _ hY hR  _ (lv_sub hl [1, 2, 3, 0] rfl)
      · have h := h.1 c_4
        refine lv_aload_n hx hb dX6_longestAt_27 rfl (lv_at hl 0 rfl) ?_
        refine w_get (o := 0) (ci := 6) (C := RX6) (T := TX6) (N1 := 14) (v := .ref (ad 5)) hx hb hts kX6_longestAt_inX6 hown hK.1 hY (by decide) obM_main rfl 5 (by decide) (hts _ kX6_longestAt_2) rfl rfl dX6_longestAt_28 ?_
        refine lv_iload_n hx hb dX6_longestAt_31 rfl (lv_at hl 3 rfl) ?_
        obtain ⟨b_5, h⟩ := h
        refine w_iald (o := 5) hx hb hK.1 hY (by decide) 1 rfl rfl b_5 dX6_longestAt_32 ?_
        refine lv_iload_n hx hb dX6_longestAt_33 rfl (lv_at hl 2 rfl) ?_
        refine lv_icmp_le (tgt := 44) hx hb dX6_longestAt_34 (by decide) (fun c_6 => ?_) (fun c_6 => ?_)
        · have h := h.1 c_6
          refine lv_iinc (v := (x3 + 1)) (lv' := [(3, .int (x3 + 1)), (0, .ref (ad 0)), (1, .int x1), (2, .int x2)]) hx hb dX6_longestAt_44 hl (k := 3) rfl rfl (by decide) rfl (fun ls hl => ?_)
          refine lv_goto (tgt := 4) hx hb dX6_longestAt_47 (by decide) ?_
          exact ih x2 (x3 + 1) h _ _ hY hR  _ (lv_sub hl [1, 2, 3, 0] rfl)
        · have h := h.2 c_6
          refine lv_aload_n hx hb dX6_longestAt_37 rfl (lv_at hl 0 rfl) ?_
          refine w_get (o := 0) (ci := 6) (C := RX6) (T := TX6) (N1 := 14) (v := .ref (ad 5)) hx hb hts kX6_longestAt_inX6 hown hK.1 hY (by decide) obM_main rfl 5 (by decide) (hts _ kX6_longestAt_2) rfl rfl dX6_longestAt_38 ?_
          refine lv_iload_n hx hb dX6_longestAt_41 rfl (lv_at hl 3 rfl) ?_
          obtain ⟨b_7, h⟩ := h
          refine w_iald (o := 5) hx hb hK.1 hY (by decide) 1 rfl rfl b_7 dX6_longestAt_42 ?_
          refine lv_topi (fun x2_8 e_x2_8 => ?_)
          have h := h x2_8 e_x2_8
          refine lv_istore_n (lv' := [(2, .int x2_8), (0, .ref (ad 0)), (1, .int x1), (3, .int x3)]) hx hb dX6_longestAt_43 rfl hl (by decide) rfl (fun ls hl => ?_)
          refine lv_iinc (v := (x3 + 1)) (lv' := [(3, .int (x3 + 1)), (2, .int x2_8), (0, .ref (ad 0)), (1, .int x1)]) hx hb dX6_longestAt_44 hl (k := 3) rfl rfl (by decide) rfl (fun ls hl => ?_)
          refine lv_goto (tgt := 4) hx hb dX6_longestAt_47 (by decide) ?_
          exact ih x2_8 (x3 + 1) h _ _ hY hR  _ (lv_sub hl [2, 3, 1, 0] rfl)
set_option maxHeartbeats 4000000 in
set_option maxRecDepth 100000 in
theorem eX6_longestAt (C0 : CallFix p m c cX6_longestAt 4 s args wsX6_longestAt RX6) (hK : Kx D (tyM ci) s) (K : Int32 → Prop) (σ : St) (hret : ∀ (r : Int32) (H : Heap) (locs : List Loc) (pc : Nat) (ls : Array Slot), K r → Sy D 12 ad A H0 (obM ad ci σ) H locs → decode cX6_longestAt pc = .ok (.ireturn, 1) → W p l e rmX6_longestAt s m args below meth c H locs 0 0 Q (F0 m pc ls [.int r])) (x1 : Int32) (h : wX6_longestAt σ x1 K) (H : Heap) (locs : List Loc) (hY : Sy D 12 ad A H0 (obM ad ci σ) H locs) (hR : tt σ) (ls : Array Slot) (hl : lv_has ls 4 [(0, .ref (ad 0)), (1, .int x1)]) : W p l e rmX6_longestAt s m args below meth c H locs 0 0 Q (F0 m 0 ls []) := by
  obtain ⟨hx, hb, hml, hown, hts⟩ := id C0
  refine lv_iconst (v := (0 : Int32)) hx hb dX6_longestAt_0 (by decide) ?_
  refine lv_istore_n (lv' := [(2, .int (0 : Int32)), (0, .ref (ad 0)), (1, .int x1)]) hx hb dX6_longestAt_1 rfl hl (by decide) rfl (fun ls hl => ?_)
  refine lv_iconst (v := (0 : Int32)) hx hb dX6_longestAt_2 (by decide) ?_
  refine lv_istore_n (lv' := [(3, .int (0 : Int32)), (2, .int (0 : Int32)), (0, .ref (ad 0)), (1, .int x1)]) hx hb dX6_longestAt_3 rfl hl (by decide) rfl (fun ls hl => ?_)
  obtain ⟨n_9, h⟩ := h
  exact tX6_longestAt_L4 C0 hK K σ x1 hret n_9 (0 : Int32) (0 : Int32) h _ _ hY hR  _ (lv_sub hl [2, 3, 1, 0] rfl)
set_option maxHeartbeats 4000000 in
set_option maxRecDepth 100000 in
theorem mX6_longestAt (l : Launch) (D : va_G) (ad : Nat → Nat) (ci : Nat → ClassId) (A : Nat → Prop) (σ : St) (x1 : Int32) (K : Int32 → Prop) (hR : tt σ) (h : wX6_longestAt σ x1 K) : Met l yX6_longestAt wsX6_longestAt rmX6_longestAt (va_Pc [.ref (ad 0), .int x1] (PreW D 12 ad A (tyM ci) (obM ad ci σ))) (va_Qi (fun r (_ : Unit) => K r) (fun _ => (PostW D 12 ad (tyM ci) (obM ad ci) tt σ)) A) 0 0 A := by
  refine Met.ofW (cc := cX6_longestAt) (maxL := 4) (ret := (some .int)) (by decide) rfl ?_
  intro p e s m args below meth c s₁ B hml hv
  obtain ⟨rfl, hP, hK, hD⟩ := hv
  have C0 : CallFix p m c cX6_longestAt 4 s _ wsX6_longestAt RX6 := ⟨B.exec, B.bytes, hml, findClass_of_methodNamed B.named, atoms_spec (ws := wsX6_longestAt) B.pre⟩
  have hlocks := B.notSynchronized
  have hY : Sy D 12 ad A s.heap (obM ad ci σ) s.heap [] := ⟨hP, hD, va_S.rf⟩
  have hl := lv_entry ([.ref (ad 0), .int x1]) (n := 4) (Nat.le_of_ble_eq_true rfl)
  rw [lg_entry_eq]
  generalize (lg_sl ([.ref (ad 0), .int x1]) ++ List.replicate (4 - (lg_sl ([.ref (ad 0), .int x1])).length) Slot.unset).toArray = ls at hl ⊢
  exact eX6_longestAt C0 hK K σ (fun r H locs pc ls hk hY hd => w_iret (I := tt) B.exec B.bytes B.returns hlocks (u := ()) hK hk (fun t ht => ht) hY hR hd) x1 h _ _ hY hR ls hl
set_option maxHeartbeats 4000000 in
set_option maxRecDepth 100000 in
theorem tX6_longest_J18 (C0 : CallFix p m c cX6_longest 2 s args wsX6_longest RX6) (hK : Kx D (tyM ci) s) (K : Int32 → St → Prop) (σ : St) (x1 : Int32) (s1 : Int32) (hret : ∀ (r : Int32) (u : St) (H : Heap) (locs : List Loc) (pc : Nat) (ls : Array Slot), K r u → Sy D 12 ad A H0 (obM ad ci u) H locs → tt u → decode cX6_longest pc = .ok (.ireturn, 1) → W p l e rmX6_longest s m args below meth c H locs 0 0 Q (F0 m pc ls [.int r])) (h : wX6_longest_J18 K σ x1 s1) (H : Heap) (locs : List Loc) (hY : Sy D 12 ad A H0 (obM ad ci σ) H locs) (hR : tt σ) (ls : Array Slot) (hl : lv_has ls 2 [(0, .ref (ad 0)), (1, .int x1)]) : W p l e rmX6_longest s m args below meth c H locs 0 0 Q (F0 m 18 ls [.int s1, .ref (ad 0)]) := by
  obtain ⟨hx, hb, hml, hown, hts⟩ := id C0
  refine w_calli (rest := []) (va_runV (As := [.int s1]) (rest := []) C0 (mX6_fails l D ad ci A σ s1 _ hR  h) (cwV 1 hts gX6_longest_X6_fails rfl rfl rfl ddX6_fails ⟨Nat.le_of_ble_eq_true rfl, Nat.le_of_ble_eq_true rfl⟩) (w_preV (o := 0) (ci := 6) (ob := obM ad ci) (σ := σ) hK hY (by decide) obM_main rfl rfl) rfl rfl hl.1 rfl (lv_room (Nat.le_of_ble_eq_true rfl)) dX6_longest_18 ⟨Nat.zero_le _, Nat.zero_le _⟩) hY (fun r_1 σ_2 H locs h hY hR_σ_2 => ?_)
  obtain ⟨n_r_1, h⟩ := h
  refine lv_if_eq (tgt := 28) hx hb dX6_longest_21 (by decide) (fun c_3 => ?_) (fun c_3 => ?_)
  · have h := h.1 c_3
    refine lv_aload_n hx hb dX6_longest_28 rfl (lv_at hl 0 rfl) ?_
    refine lv_iload_n hx hb dX6_longest_29 rfl (lv_at hl 1 rfl) ?_
    refine w_callip (rest := []) (va_runV (As := [.int x1]) (rest := []) C0 (mX6_longestAt l D ad ci A σ_2 x1 _ hR_σ_2  h) (cwV 1 hts gX6_longest_X6_longestAt rfl rfl rfl ddX6_longestAt ⟨Nat.le_of_ble_eq_true rfl, Nat.le_of_ble_eq_true rfl⟩) (w_preV (o := 0) (ci := 6) (ob := obM ad ci) (σ := σ_2) hK hY (by decide) obM_main rfl rfl) rfl rfl hl.1 rfl (lv_room (Nat.le_of_ble_eq_true rfl)) dX6_longest_30 ⟨Nat.zero_le _, Nat.zero_le _⟩) hY (fun r_4 H locs h hY => ?_)
    exact hret r_4 σ_2 _ _ _ _ h hY hR_σ_2 dX6_longest_33
  · have h := h.2 c_3
    refine lv_iconst (v := (0 : Int32)) hx hb dX6_longest_24 (by decide) ?_
    refine lv_goto (tgt := 33) hx hb dX6_longest_25 (by decide) ?_
    exact hret (0 : Int32) σ_2 _ _ _ _ h hY hR_σ_2 dX6_longest_33
set_option maxHeartbeats 4000000 in
set_option maxRecDepth 100000 in
theorem eX6_longest (C0 : CallFix p m c cX6_longest 2 s args wsX6_longest RX6) (hK : Kx D (tyM ci) s) (K : Int32 → St → Prop) (σ : St) (hret : ∀ (r : Int32) (u : St) (H : Heap) (locs : List Loc) (pc : Nat) (ls : Array Slot), K r u → Sy D 12 ad A H0 (obM ad ci u) H locs → tt u → decode cX6_longest pc = .ok (.ireturn, 1) → W p l e rmX6_longest s m args below meth c H locs 0 0 Q (F0 m pc ls [.int r])) (x1 : Int32) (h : wX6_longest σ x1 K) (H : Heap) (locs : List Loc) (hY : Sy D 12 ad A H0 (obM ad ci σ) H locs) (hR : tt σ) (ls : Array Slot) (hl : lv_has ls 2 [(0, .ref (ad 0)), (1, .int x1)]) : W p l e rmX6_longest s m args below meth c H locs 0 0 Q (F0 m 0 ls []) := by
  obtain ⟨hx, hb, hml, hown, hts⟩ := id C0
  refine lv_aload_n hx hb dX6_longest_0 rfl (lv_at hl 0 rfl) ?_
  refine lv_iload_n hx hb dX6_longest_1 rfl (lv_at hl 1 rfl) ?_
  refine lv_iconst (v := (0 : Int32)) hx hb dX6_longest_2 (by decide) ?_
  refine lv_aload_n hx hb dX6_longest_3 rfl (lv_at hl 0 rfl) ?_
  refine w_get (o := 0) (ci := 6) (C := RX6) (T := TX6) (N1 := 14) (v := .int (gI σ 1)) hx hb hts kX6_longest_inX6 hown hK.1 hY (by decide) obM_main rfl 8 (by decide) (hts _ kX6_longest_0) rfl rfl dX6_longest_4 ?_
  refine w_callip (rest := [.ref (ad 0)]) (va_runS (As := [.int x1, .int (0 : Int32), .int (gI σ 1)]) (rest := [.ref (ad 0)]) C0 (mX6_in l D ad ci A σ x1 (0 : Int32) (gI σ 1) _ hR  h) (va_cwS 3 hts gX6_longest_X6_in rfl rfl rfl ddX6_in ⟨Nat.le_of_ble_eq_true rfl, Nat.le_of_ble_eq_true rfl⟩) (w_preS (ob := obM ad ci) (σ := σ) hK hY) rfl rfl hl.1 rfl (lv_room (Nat.le_of_ble_eq_true rfl)) dX6_longest_7 ⟨Nat.zero_le _, Nat.zero_le _⟩) hY (fun r_5 H locs h hY => ?_)
  obtain ⟨n_r_5, h⟩ := h
  refine lv_if_eq (tgt := 17) hx hb dX6_longest_10 (by decide) (fun c_6 => ?_) (fun c_6 => ?_)
  · have h := h.1 c_6
    refine lv_iconst (v := (1 : Int32)) hx hb dX6_longest_17 (by decide) ?_
    exact tX6_longest_J18 C0 hK K σ x1 (1 : Int32) hret h _ _ hY hR _ (lv_sub hl [0, 1] rfl)
  · have h := h.2 c_6
    refine lv_iconst (v := (0 : Int32)) hx hb dX6_longest_13 (by decide) ?_
    refine lv_goto (tgt := 18) hx hb dX6_longest_14 (by decide) ?_
    exact tX6_longest_J18 C0 hK K σ x1 (0 : Int32) hret h _ _ hY hR _ (lv_sub hl [0, 1] rfl)
set_option maxHeartbeats 4000000 in
set_option maxRecDepth 100000 in
theorem mX6_longest (l : Launch) (D : va_G) (ad : Nat → Nat) (ci : Nat → ClassId) (A : Nat → Prop) (σ : St) (x1 : Int32) (K : Int32 → St → Prop) (hR : tt σ) (h : wX6_longest σ x1 K) : Met l yX6_longest wsX6_longest rmX6_longest (va_Pc [.ref (ad 0), .int x1] (PreW D 12 ad A (tyM ci) (obM ad ci σ))) (va_Qi (fun r u => K r u) (PostW D 12 ad (tyM ci) (obM ad ci) tt) A) 0 0 A := by
  refine Met.ofW (cc := cX6_longest) (maxL := 2) (ret := (some .int)) (by decide) rfl ?_
  intro p e s m args below meth c s₁ B hml hv
  obtain ⟨rfl, hP, hK, hD⟩ := hv
  have C0 : CallFix p m c cX6_longest 2 s _ wsX6_longest RX6 := ⟨B.exec, B.bytes, hml, findClass_of_methodNamed B.named, atoms_spec (ws := wsX6_longest) B.pre⟩
  have hlocks := B.notSynchronized
  have hY : Sy D 12 ad A s.heap (obM ad ci σ) s.heap [] := ⟨hP, hD, va_S.rf⟩
  have hl := lv_entry ([.ref (ad 0), .int x1]) (n := 2) (Nat.le_of_ble_eq_true rfl)
  rw [lg_entry_eq]
  generalize (lg_sl ([.ref (ad 0), .int x1]) ++ List.replicate (2 - (lg_sl ([.ref (ad 0), .int x1])).length) Slot.unset).toArray = ls at hl ⊢
  exact eX6_longest C0 hK K σ (fun r u H locs pc ls hk hY hR hd => w_iret (I := tt) B.exec B.bytes B.returns hlocks hK hk (fun t ht => ht) hY hR hd) x1 h _ _ hY hR ls hl
set_option maxHeartbeats 4000000 in
set_option maxRecDepth 100000 in
theorem tX6_shared_L9 (C0 : CallFix p m c cX6_shared 3 s args wsX6_shared RX6) (hK : Kx D (tyM ci) s) (K : Int32 → St → Prop) (σ : St) (hret : ∀ (r : Int32) (u : St) (H : Heap) (locs : List Loc) (pc : Nat) (ls : Array Slot), K r u → Sy D 12 ad A H0 (obM ad ci u) H locs → tt u → decode cX6_shared pc = .ok (.ireturn, 1) → W p l e rmX6_shared s m args below meth c H locs 0 0 Q (F0 m pc ls [.int r])) : ∀ (n : Nat) (x1 : Int32) (x2 : Int32), wX6_shared_L9 K σ n x1 x2 → ∀ (H : Heap) (locs : List Loc), Sy D 12 ad A H0 (obM ad ci σ) H locs → tt σ → ∀ ls : Array Slot, lv_has ls 3 [(0, .ref (ad 0)), (1, .int x1), (2, .int x2)] → W p l e rmX6_shared s m args below meth c H locs 0 0 Q (F0 m 9 ls []) := by
  obtain ⟨hx, hb, hml, hown, hts⟩ := id C0
  intro n
  induction n with
  | zero =>
    intro x1 x2 h
    exact h.elim
  | succ n ih =>
    intro x1 x2 h H locs hY hR  ls hl
    refine lv_iload_n hx hb dX6_shared_9 rfl (lv_at hl 2 rfl) ?_
    refine lv_aload_n hx hb dX6_shared_10 rfl (lv_at hl 0 rfl) ?_
    refine w_get (o := 0) (ci := 6) (C := RX6) (T := TX6) (N1 := 14) (v := .int (gI σ 2)) hx hb hts kX6_shared_inX6 hown hK.1 hY (by decide) obM_main rfl 9 (by decide) (hts _ kX6_shared_0) rfl rfl dX6_shared_11 ?_
    refine lv_icmp_ge (tgt := 40) hx hb dX6_shared_14 (by decide) (fun c_1 => ?_) (fun c_1 => ?_)
    · have h := h.1 c_1
      refine lv_iload_n hx hb dX6_shared_40 rfl (lv_at hl 1 rfl) ?_
      exact hret x1 σ _ _ _ _ h hY hR dX6_shared_41
    · have h := h.2 c_1
      refine lv_aload_n hx hb dX6_shared_17 rfl (lv_at hl 0 rfl) ?_
      refine lv_iload_n hx hb dX6_shared_18 rfl (lv_at hl 2 rfl) ?_
      refine lv_iconst (v := (0 : Int32)) hx hb dX6_shared_19 (by decide) ?_
      refine w_callip (rest := []) (va_runV (As := [.int x2, .int (0 : Int32)]) (rest := []) C0 (mX6_like l D ad ci A σ x2 (0 : Int32) _ hR  h) (cwV 2 hts gX6_shared_X6_like rfl rfl rfl ddX6_like ⟨Nat.le_of_ble_eq_true rfl, Nat.le_of_ble_eq_true rfl⟩) (w_preV (o := 0) (ci := 6) (ob := obM ad ci) (σ := σ) hK hY (by decide) obM_main rfl rfl) rfl rfl hl.1 rfl (lv_room (Nat.le_of_ble_eq_true rfl)) dX6_shared_20 ⟨Nat.zero_le _, Nat.zero_le _⟩) hY (fun r_2 H locs h hY => ?_)
      refine lv_iload_n hx hb dX6_shared_23 rfl (lv_at hl 1 rfl) ?_
      refine lv_icmp_le (tgt := 34) hx hb dX6_shared_24 (by decide) (fun c_3 => ?_) (fun c_3 => ?_)
      · have h := h.1 c_3
        refine lv_iinc (v := (x2 + 1)) (lv' := [(2, .int (x2 + 1)), (0, .ref (ad 0)), (1, .int x1)]) hx hb dX6_shared_34 hl (k := 2) rfl rfl (by decide) rfl (fun ls hl => ?_)
        refine lv_goto (tgt := 9) hx hb dX6_shared_37 (by decide) ?_
        exact ih x1 (x2 + 1) h _ _ hY hR  _ (lv_sub hl [1, 2, 0] rfl)
      · have h := h.2 c_3
        refine lv_aload_n hx hb dX6_shared_27 rfl (lv_at hl 0 rfl) ?_
        refine lv_iload_n hx hb dX6_shared_28 rfl (lv_at hl 2 rfl) ?_
        refine lv_iconst (v := (0 : Int32)) hx hb dX6_shared_29 (by decide) ?_
        refine w_callip (rest := []) (va_runV (As := [.int x2, .int (0 : Int32)]) (rest := []) C0 (mX6_like l D ad ci A σ x2 (0 : Int32) _ hR  h) (cwV 2 hts gX6_shared_X6_like rfl rfl rfl ddX6_like ⟨Nat.le_of_ble_eq_true rfl, Nat.le_of_ble_eq_true rfl⟩) (w_preV (o := 0) (ci := 6) (ob := obM ad ci) (σ := σ) hK hY (by decide) obM_main rfl rfl) rfl rfl hl.1 rfl (lv_room (Nat.le_of_ble_eq_true rfl)) dX6_shared_30 ⟨Nat.zero_le _, Nat.zero_le _⟩) hY (fun r_4 H locs h hY => ?_)
        refine lv_istore_n (lv' := [(1, .int r_4), (0, .ref (ad 0)), (2, .int x2)]) hx hb dX6_shared_33 rfl hl (by decide) rfl (fun ls hl => ?_)
        refine lv_iinc (v := (x2 + 1)) (lv' := [(2, .int (x2 + 1)), (1, .int r_4), (0, .ref (ad 0))]) hx hb dX6_shared_34 hl (k := 2) rfl rfl (by decide) rfl (fun ls hl => ?_)
        refine lv_goto (tgt := 9) hx hb dX6_shared_37 (by decide) ?_
        exact ih r_4 (x2 + 1) h _ _ hY hR  _ (lv_sub hl [2, 1, 0] rfl)
set_option maxHeartbeats 4000000 in
set_option maxRecDepth 100000 in
theorem eX6_shared (C0 : CallFix p m c cX6_shared 3 s args wsX6_shared RX6) (hK : Kx D (tyM ci) s) (K : Int32 → St → Prop) (σ : St) (hret : ∀ (r : Int32) (u : St) (H : Heap) (locs : List Loc) (pc : Nat) (ls : Array Slot), K r u → Sy D 12 ad A H0 (obM ad ci u) H locs → tt u → decode cX6_shared pc = .ok (.ireturn, 1) → W p l e rmX6_shared s m args below meth c H locs 0 0 Q (F0 m pc ls [.int r])) (h : wX6_shared σ K) (H : Heap) (locs : List Loc) (hY : Sy D 12 ad A H0 (obM ad ci σ) H locs) (hR : tt σ) (ls : Array Slot) (hl : lv_has ls 3 [(0, .ref (ad 0))]) : W p l e rmX6_shared s m args below meth c H locs 0 0 Q (F0 m 0 ls []) := by
  obtain ⟨hx, hb, hml, hown, hts⟩ := id C0
  refine lv_aload_n hx hb dX6_shared_0 rfl (lv_at hl 0 rfl) ?_
  refine lv_iconst (v := (0 : Int32)) hx hb dX6_shared_1 (by decide) ?_
  obtain ⟨σ_5, e_σ_5⟩ : ∃ z : St, z = pI σ 0 (0 : Int32) := ⟨_, rfl⟩
  have h := h σ_5 e_σ_5
  have hR_σ_5 : tt σ_5 := trivial
  refine w_put (o := 0) (ci := 6) (C := RX6) (T := TX6) (N1 := 14) hx hb hts kX6_shared_inX6 tyX6 tyX6_ok nmX6 hown hK.1 hY (by decide) obM_main rfl 0 (by decide) (hts _ kX6_shared_2) rfl rfl rfl (Nat.le_of_ble_eq_true rfl) dX6_shared_2 (ob' := obM ad ci σ_5) (by rw [e_σ_5]; exact obM_pI rfl) (fun H locs hY => ?_)
  refine lv_iconst (v := (0 : Int32)) hx hb dX6_shared_5 (by decide) ?_
  refine lv_istore_n (lv' := [(1, .int (0 : Int32)), (0, .ref (ad 0))]) hx hb dX6_shared_6 rfl hl (by decide) rfl (fun ls hl => ?_)
  refine lv_iconst (v := (0 : Int32)) hx hb dX6_shared_7 (by decide) ?_
  refine lv_istore_n (lv' := [(2, .int (0 : Int32)), (1, .int (0 : Int32)), (0, .ref (ad 0))]) hx hb dX6_shared_8 rfl hl (by decide) rfl (fun ls hl => ?_)
  obtain ⟨n_6, h⟩ := h
  exact tX6_shared_L9 C0 hK K σ_5 hret n_6 (0 : Int32) (0 : Int32) h _ _ hY hR_σ_5  _ (lv_sub hl [2, 1, 0] rfl)
set_option maxHeartbeats 4000000 in
set_option maxRecDepth 100000 in
theorem mX6_shared (l : Launch) (D : va_G) (ad : Nat → Nat) (ci : Nat → ClassId) (A : Nat → Prop) (σ : St) (K : Int32 → St → Prop) (hR : tt σ) (h : wX6_shared σ K) : Met l yX6_shared wsX6_shared rmX6_shared (va_Pc [.ref (ad 0)] (PreW D 12 ad A (tyM ci) (obM ad ci σ))) (va_Qi (fun r u => K r u) (PostW D 12 ad (tyM ci) (obM ad ci) tt) A) 0 0 A := by
  refine Met.ofW (cc := cX6_shared) (maxL := 3) (ret := (some .int)) (by decide) rfl ?_
  intro p e s m args below meth c s₁ B hml hv
  obtain ⟨rfl, hP, hK, hD⟩ := hv
  have C0 : CallFix p m c cX6_shared 3 s _ wsX6_shared RX6 := ⟨B.exec, B.bytes, hml, findClass_of_methodNamed B.named, atoms_spec (ws := wsX6_shared) B.pre⟩
  have hlocks := B.notSynchronized
  have hY : Sy D 12 ad A s.heap (obM ad ci σ) s.heap [] := ⟨hP, hD, va_S.rf⟩
  have hl := lv_entry ([.ref (ad 0)]) (n := 3) (Nat.le_of_ble_eq_true rfl)
  rw [lg_entry_eq]
  generalize (lg_sl ([.ref (ad 0)]) ++ List.replicate (3 - (lg_sl ([.ref (ad 0)])).length) Slot.unset).toArray = ls at hl ⊢
  exact eX6_shared C0 hK K σ (fun r u H locs pc ls hk hY hR hd => w_iret (I := tt) B.exec B.bytes B.returns hlocks hK hk (fun t ht => ht) hY hR hd) h _ _ hY hR ls hl
set_option maxHeartbeats 4000000 in
set_option maxRecDepth 100000 in
theorem tX6_twin_L36 (C0 : CallFix p m c cX6_twin 4 s args wsX6_twin RX6) (hK : Kx D (tyM ci) s) (K : Int32 → St → Prop) (B26 : Int32 → Int32 → Prop) (σ : St) (x2 : Int32) (hret : ∀ (r : Int32) (u : St) (H : Heap) (locs : List Loc) (pc : Nat) (ls : Array Slot), K r u → Sy D 12 ad A H0 (obM ad ci u) H locs → tt u → decode cX6_twin pc = .ok (.ireturn, 1) → W p l e rmX6_twin s m args below meth c H locs 0 0 Q (F0 m pc ls [.int r])) (hB26 : ∀ (x1 : Int32) (x2 : Int32), B26 x1 x2 → ∀ (H : Heap) (locs : List Loc), Sy D 12 ad A H0 (obM ad ci σ) H locs → tt σ → ∀ ls : Array Slot, lv_has ls 4 [(0, .ref (ad 0)), (1, .int x1), (2, .int x2)] → W p l e rmX6_twin s m args below meth c H locs 0 0 Q (F0 m 26 ls [])) : ∀ (n : Nat) (x1 : Int32) (x3 : Int32), wX6_twin_L36 K B26 σ x2 n x1 x3 → ∀ (H : Heap) (locs : List Loc), Sy D 12 ad A H0 (obM ad ci σ) H locs → tt σ → ∀ ls : Array Slot, lv_has ls 4 [(0, .ref (ad 0)), (1, .int x1), (2, .int x2), (3, .int x3)] → W p l e rmX6_twin s m args below meth c H locs 0 0 Q (F0 m 36 ls []) := by
  obtain ⟨hx, hb, hml, hown, hts⟩ := id C0
  intro n
  induction n with
  | zero =>
    intro x1 x3 h
    exact h.elim
  | succ n ih =>
    intro x1 x3 h H locs hY hR  ls hl
    refine lv_iload_n hx hb dX6_twin_36 rfl (lv_at hl 3 rfl) ?_
    refine lv_iload_n hx hb dX6_twin_37 rfl (lv_at hl 2 rfl) ?_
    refine lv_icmp_ge (tgt := 64) hx hb dX6_twin_38 (by decide) (fun c_1 => ?_) (fun c_1 => ?_)
    · have h := h.1 c_1
      refine lv_iinc (v := (x2 + 1)) (lv' := [(2, .int (x2 + 1)), (0, .ref (ad 0)), (1, .int x1), (3, .int x3)]) hx hb dX6_twin_64 hl (k := 2) rfl rfl (by decide) rfl (fun ls hl => ?_)
      refine lv_goto (tgt := 26) hx hb dX6_twin_67 (by decide) ?_
      exact hB26 x1 (x2 + 1) h _ _ hY hR  _ (lv_sub hl [1, 2, 0] rfl)
    · have h := h.2 c_1
      refine lv_aload_n hx hb dX6_twin_41 rfl (lv_at hl 0 rfl) ?_
      refine lv_iload_n hx hb dX6_twin_42 rfl (lv_at hl 3 rfl) ?_
      refine lv_iload_n hx hb dX6_twin_43 rfl (lv_at hl 2 rfl) ?_
      refine w_callip (rest := []) (va_runV (As := [.int x3, .int x2]) (rest := []) C0 (mX6_likeWords l D ad ci A σ x3 x2 _ hR  h) (cwV 2 hts gX6_twin_X6_likeWords rfl rfl rfl ddX6_likeWords ⟨Nat.le_of_ble_eq_true rfl, Nat.le_of_ble_eq_true rfl⟩) (w_preV (o := 0) (ci := 6) (ob := obM ad ci) (σ := σ) hK hY (by decide) obM_main rfl rfl) rfl rfl hl.1 rfl (lv_room (Nat.le_of_ble_eq_true rfl)) dX6_twin_44 ⟨Nat.zero_le _, Nat.zero_le _⟩) hY (fun r_2 H locs h hY => ?_)
      refine lv_iload_n hx hb dX6_twin_47 rfl (lv_at hl 1 rfl) ?_
      refine lv_icmp_le (tgt := 58) hx hb dX6_twin_48 (by decide) (fun c_3 => ?_) (fun c_3 => ?_)
      · have h := h.1 c_3
        refine lv_iinc (v := (x3 + 1)) (lv' := [(3, .int (x3 + 1)), (0, .ref (ad 0)), (1, .int x1), (2, .int x2)]) hx hb dX6_twin_58 hl (k := 3) rfl rfl (by decide) rfl (fun ls hl => ?_)
        refine lv_goto (tgt := 36) hx hb dX6_twin_61 (by decide) ?_
        exact ih x1 (x3 + 1) h _ _ hY hR  _ (lv_sub hl [1, 2, 3, 0] rfl)
      · have h := h.2 c_3
        refine lv_aload_n hx hb dX6_twin_51 rfl (lv_at hl 0 rfl) ?_
        refine lv_iload_n hx hb dX6_twin_52 rfl (lv_at hl 3 rfl) ?_
        refine lv_iload_n hx hb dX6_twin_53 rfl (lv_at hl 2 rfl) ?_
        refine w_callip (rest := []) (va_runV (As := [.int x3, .int x2]) (rest := []) C0 (mX6_likeWords l D ad ci A σ x3 x2 _ hR  h) (cwV 2 hts gX6_twin_X6_likeWords rfl rfl rfl ddX6_likeWords ⟨Nat.le_of_ble_eq_true rfl, Nat.le_of_ble_eq_true rfl⟩) (w_preV (o := 0) (ci := 6) (ob := obM ad ci) (σ := σ) hK hY (by decide) obM_main rfl rfl) rfl rfl hl.1 rfl (lv_room (Nat.le_of_ble_eq_true rfl)) dX6_twin_54 ⟨Nat.zero_le _, Nat.zero_le _⟩) hY (fun r_4 H locs h hY => ?_)
        refine lv_istore_n (lv' := [(1, .int r_4), (0, .ref (ad 0)), (2, .int x2), (3, .int x3)]) hx hb dX6_twin_57 rfl hl (by decide) rfl (fun ls hl => ?_)
        refine lv_iinc (v := (x3 + 1)) (lv' := [(3, .int (x3 + 1)), (1, .int r_4), (0, .ref (ad 0)), (2, .int x2)]) hx hb dX6_twin_58 hl (k := 3) rfl rfl (by decide) rfl (fun ls hl => ?_)
        refine lv_goto (tgt := 36) hx hb dX6_twin_61 (by decide) ?_
        exact ih r_4 (x3 + 1) h _ _ hY hR  _ (lv_sub hl [2, 1, 3, 0] rfl)
set_option maxHeartbeats 4000000 in
set_option maxRecDepth 100000 in
theorem tX6_twin_L26 (C0 : CallFix p m c cX6_twin 4 s args wsX6_twin RX6) (hK : Kx D (tyM ci) s) (K : Int32 → St → Prop) (σ : St) (hret : ∀ (r : Int32) (u : St) (H : Heap) (locs : List Loc) (pc : Nat) (ls : Array Slot), K r u → Sy D 12 ad A H0 (obM ad ci u) H locs → tt u → decode cX6_twin pc = .ok (.ireturn, 1) → W p l e rmX6_twin s m args below meth c H locs 0 0 Q (F0 m pc ls [.int r])) : ∀ (n : Nat) (x1 : Int32) (x2 : Int32), wX6_twin_L26 K σ n x1 x2 → ∀ (H : Heap) (locs : List Loc), Sy D 12 ad A H0 (obM ad ci σ) H locs → tt σ → ∀ ls : Array Slot, lv_has ls 4 [(0, .ref (ad 0)), (1, .int x1), (2, .int x2)] → W p l e rmX6_twin s m args below meth c H locs 0 0 Q (F0 m 26 ls []) := by
  obtain ⟨hx, hb, hml, hown, hts⟩ := id C0
  intro n
  induction n with
  | zero =>
    intro x1 x2 h
    exact h.elim
  | succ n ih =>
    intro x1 x2 h H locs hY hR  ls hl
    refine lv_iload_n hx hb dX6_twin_26 rfl (lv_at hl 2 rfl) ?_
    refine lv_aload_n hx hb dX6_twin_27 rfl (lv_at hl 0 rfl) ?_
    refine w_get (o := 0) (ci := 6) (C := RX6) (T := TX6) (N1 := 14) (v := .int (gI σ 2)) hx hb hts kX6_twin_inX6 hown hK.1 hY (by decide) obM_main rfl 9 (by decide) (hts _ kX6_twin_0) rfl rfl dX6_twin_28 ?_
    refine lv_icmp_ge (tgt := 70) hx hb dX6_twin_31 (by decide) (fun c_5 => ?_) (fun c_5 => ?_)
    · have h := h.1 c_5
      refine lv_iload_n hx hb dX6_twin_70 rfl (lv_at hl 1 rfl) ?_
      exact hret x1 σ _ _ _ _ h hY hR dX6_twin_71
    · have h := h.2 c_5
      refine lv_iconst (v := (0 : Int32)) hx hb dX6_twin_34 (by decide) ?_
      refine lv_istore_n (lv' := [(3, .int (0 : Int32)), (0, .ref (ad 0)), (1, .int x1), (2, .int x2)]) hx hb dX6_twin_35 rfl hl (by decide) rfl (fun ls hl => ?_)
      obtain ⟨n_6, h⟩ := h
      exact tX6_twin_L36 C0 hK K (wX6_twin_L26 K σ n) σ x2 hret ih n_6 x1 (0 : Int32) h _ _ hY hR  _ (lv_sub hl [1, 2, 3, 0] rfl)
set_option maxHeartbeats 4000000 in
set_option maxRecDepth 100000 in
theorem tX6_twin_J14 (C0 : CallFix p m c cX6_twin 4 s args wsX6_twin RX6) (hK : Kx D (tyM ci) s) (K : Int32 → St → Prop) (σ : St) (s1 : Int32) (hret : ∀ (r : Int32) (u : St) (H : Heap) (locs : List Loc) (pc : Nat) (ls : Array Slot), K r u → Sy D 12 ad A H0 (obM ad ci u) H locs → tt u → decode cX6_twin pc = .ok (.ireturn, 1) → W p l e rmX6_twin s m args below meth c H locs 0 0 Q (F0 m pc ls [.int r])) (h : wX6_twin_J14 K σ s1) (H : Heap) (locs : List Loc) (hY : Sy D 12 ad A H0 (obM ad ci σ) H locs) (hR : tt σ) (ls : Array Slot) (hl : lv_has ls 4 [(0, .ref (ad 0))]) : W p l e rmX6_twin s m args below meth c H locs 0 0 Q (F0 m 14 ls [.int s1, .ref (ad 0)]) := by
  obtain ⟨hx, hb, hml, hown, hts⟩ := id C0
  refine w_calli (rest := []) (va_runV (As := [.int s1]) (rest := []) C0 (mX6_fails l D ad ci A σ s1 _ hR  h) (cwV 1 hts gX6_twin_X6_fails rfl rfl rfl ddX6_fails ⟨Nat.le_of_ble_eq_true rfl, Nat.le_of_ble_eq_true rfl⟩) (w_preV (o := 0) (ci := 6) (ob := obM ad ci) (σ := σ) hK hY (by decide) obM_main rfl rfl) rfl rfl hl.1 rfl (lv_room (Nat.le_of_ble_eq_true rfl)) dX6_twin_14 ⟨Nat.zero_le _, Nat.zero_le _⟩) hY (fun r_7 σ_8 H locs h hY hR_σ_8 => ?_)
  obtain ⟨n_r_7, h⟩ := h
  refine lv_if_eq (tgt := 22) hx hb dX6_twin_17 (by decide) (fun c_9 => ?_) (fun c_9 => ?_)
  · have h := h.1 c_9
    refine lv_iconst (v := (0 : Int32)) hx hb dX6_twin_22 (by decide) ?_
    refine lv_istore_n (lv' := [(1, .int (0 : Int32)), (0, .ref (ad 0))]) hx hb dX6_twin_23 rfl hl (by decide) rfl (fun ls hl => ?_)
    refine lv_iconst (v := (0 : Int32)) hx hb dX6_twin_24 (by decide) ?_
    refine lv_istore_n (lv' := [(2, .int (0 : Int32)), (1, .int (0 : Int32)), (0, .ref (ad 0))]) hx hb dX6_twin_25 rfl hl (by decide) rfl (fun ls hl => ?_)
    obtain ⟨n_10, h⟩ := h
    exact tX6_twin_L26 C0 hK K σ_8 hret n_10 (0 : Int32) (0 : Int32) h _ _ hY hR_σ_8  _ (lv_sub hl [2, 1, 0] rfl)
  · have h := h.2 c_9
    refine lv_iconst (v := (0 : Int32)) hx hb dX6_twin_20 (by decide) ?_
    exact hret (0 : Int32) σ_8 _ _ _ _ h hY hR_σ_8 dX6_twin_21
set_option maxHeartbeats 4000000 in
set_option maxRecDepth 100000 in
theorem eX6_twin (C0 : CallFix p m c cX6_twin 4 s args wsX6_twin RX6) (hK : Kx D (tyM ci) s) (K : Int32 → St → Prop) (σ : St) (hret : ∀ (r : Int32) (u : St) (H : Heap) (locs : List Loc) (pc : Nat) (ls : Array Slot), K r u → Sy D 12 ad A H0 (obM ad ci u) H locs → tt u → decode cX6_twin pc = .ok (.ireturn, 1) → W p l e rmX6_twin s m args below meth c H locs 0 0 Q (F0 m pc ls [.int r])) (h : wX6_twin σ K) (H : Heap) (locs : List Loc) (hY : Sy D 12 ad A H0 (obM ad ci σ) H locs) (hR : tt σ) (ls : Array Slot) (hl : lv_has ls 4 [(0, .ref (ad 0))]) : W p l e rmX6_twin s m args below meth c H locs 0 0 Q (F0 m 0 ls []) := by
  obtain ⟨hx, hb, hml, hown, hts⟩ := id C0
  refine lv_aload_n hx hb dX6_twin_0 rfl (lv_at hl 0 rfl) ?_
  refine lv_aload_n hx hb dX6_twin_1 rfl (lv_at hl 0 rfl) ?_
  refine w_get (o := 0) (ci := 6) (C := RX6) (T := TX6) (N1 := 14) (v := .int (gI σ 2)) hx hb hts kX6_twin_inX6 hown hK.1 hY (by decide) obM_main rfl 9 (by decide) (hts _ kX6_twin_0) rfl rfl dX6_twin_2 ?_
  refine lv_iconst (v := (2 : Int32)) hx hb dX6_twin_5 (by decide) ?_
  refine lv_icmp_ge (tgt := 13) hx hb dX6_twin_6 (by decide) (fun c_11 => ?_) (fun c_11 => ?_)
  · have h := h.1 c_11
    refine lv_iconst (v := (0 : Int32)) hx hb dX6_twin_13 (by decide) ?_
    exact tX6_twin_J14 C0 hK K σ (0 : Int32) hret h _ _ hY hR _ (lv_sub hl [0] rfl)
  · have h := h.2 c_11
    refine lv_iconst (v := (1 : Int32)) hx hb dX6_twin_9 (by decide) ?_
    refine lv_goto (tgt := 14) hx hb dX6_twin_10 (by decide) ?_
    exact tX6_twin_J14 C0 hK K σ (1 : Int32) hret h _ _ hY hR _ (lv_sub hl [0] rfl)
set_option maxHeartbeats 4000000 in
set_option maxRecDepth 100000 in
theorem mX6_twin (l : Launch) (D : va_G) (ad : Nat → Nat) (ci : Nat → ClassId) (A : Nat → Prop) (σ : St) (K : Int32 → St → Prop) (hR : tt σ) (h : wX6_twin σ K) : Met l yX6_twin wsX6_twin rmX6_twin (va_Pc [.ref (ad 0)] (PreW D 12 ad A (tyM ci) (obM ad ci σ))) (va_Qi (fun r u => K r u) (PostW D 12 ad (tyM ci) (obM ad ci) tt) A) 0 0 A := by
  refine Met.ofW (cc := cX6_twin) (maxL := 4) (ret := (some .int)) (by decide) rfl ?_
  intro p e s m args below meth c s₁ B hml hv
  obtain ⟨rfl, hP, hK, hD⟩ := hv
  have C0 : CallFix p m c cX6_twin 4 s _ wsX6_twin RX6 := ⟨B.exec, B.bytes, hml, findClass_of_methodNamed B.named, atoms_spec (ws := wsX6_twin) B.pre⟩
  have hlocks := B.notSynchronized
  have hY : Sy D 12 ad A s.heap (obM ad ci σ) s.heap [] := ⟨hP, hD, va_S.rf⟩
  have hl := lv_entry ([.ref (ad 0)]) (n := 4) (Nat.le_of_ble_eq_true rfl)
  rw [lg_entry_eq]
  generalize (lg_sl ([.ref (ad 0)]) ++ List.replicate (4 - (lg_sl ([.ref (ad 0)])).length) Slot.unset).toArray = ls at hl ⊢
  exact eX6_twin C0 hK K σ (fun r u H locs pc ls hk hY hR hd => w_iret (I := tt) B.exec B.bytes B.returns hlocks hK hk (fun t ht => ht) hY hR hd) h _ _ hY hR ls hl
set_option maxHeartbeats 4000000 in
set_option maxRecDepth 100000 in
theorem tX6_pieces_L9 (C0 : CallFix p m c cX6_pieces 3 s args wsX6_pieces RX6) (hK : Kx D (tyM ci) s) (K : Int32 → St → Prop) (σ : St) (hret : ∀ (r : Int32) (u : St) (H : Heap) (locs : List Loc) (pc : Nat) (ls : Array Slot), K r u → Sy D 12 ad A H0 (obM ad ci u) H locs → tt u → decode cX6_pieces pc = .ok (.ireturn, 1) → W p l e rmX6_pieces s m args below meth c H locs 0 0 Q (F0 m pc ls [.int r])) : ∀ (n : Nat) (x1 : Int32) (x2 : Int32), wX6_pieces_L9 K σ n x1 x2 → ∀ (H : Heap) (locs : List Loc), Sy D 12 ad A H0 (obM ad ci σ) H locs → tt σ → ∀ ls : Array Slot, lv_has ls 3 [(0, .ref (ad 0)), (1, .int x1), (2, .int x2)] → W p l e rmX6_pieces s m args below meth c H locs 0 0 Q (F0 m 9 ls []) := by
  obtain ⟨hx, hb, hml, hown, hts⟩ := id C0
  intro n
  induction n with
  | zero =>
    intro x1 x2 h
    exact h.elim
  | succ n ih =>
    intro x1 x2 h H locs hY hR  ls hl
    refine lv_aload_n hx hb dX6_pieces_9 rfl (lv_at hl 0 rfl) ?_
    refine lv_iload_n hx hb dX6_pieces_10 rfl (lv_at hl 1 rfl) ?_
    refine w_callip (rest := []) (va_runV (As := [.int x1]) (rest := []) C0 (mX6_longestAt l D ad ci A σ x1 _ hR  h) (cwV 1 hts gX6_pieces_X6_longestAt rfl rfl rfl ddX6_longestAt ⟨Nat.le_of_ble_eq_true rfl, Nat.le_of_ble_eq_true rfl⟩) (w_preV (o := 0) (ci := 6) (ob := obM ad ci) (σ := σ) hK hY (by decide) obM_main rfl rfl) rfl rfl hl.1 rfl (lv_room (Nat.le_of_ble_eq_true rfl)) dX6_pieces_11 ⟨Nat.zero_le _, Nat.zero_le _⟩) hY (fun r_1 H locs h hY => ?_)
    refine lv_if_le (tgt := 31) hx hb dX6_pieces_14 (by decide) (fun c_2 => ?_) (fun c_2 => ?_)
    · have h := h.1 c_2
      refine lv_iload_n hx hb dX6_pieces_31 rfl (lv_at hl 1 rfl) ?_
      refine lv_aload_n hx hb dX6_pieces_32 rfl (lv_at hl 0 rfl) ?_
      refine w_get (o := 0) (ci := 6) (C := RX6) (T := TX6) (N1 := 14) (v := .int (gI σ 1)) hx hb hts kX6_pieces_inX6 hown hK.1 hY (by decide) obM_main rfl 8 (by decide) (hts _ kX6_pieces_0) rfl rfl dX6_pieces_33 ?_
      refine lv_icmp_ne (tgt := 43) hx hb dX6_pieces_36 (by decide) (fun c_3 => ?_) (fun c_3 => ?_)
      · have h := h.2 c_3
        refine lv_iconst (v := (-1 : Int32)) hx hb dX6_pieces_43 (by decide) ?_
        refine lv_iload_n hx hb dX6_pieces_44 rfl (lv_at hl 1 rfl) ?_
        refine lv_isub hx hb dX6_pieces_45 ?_
        exact hret ((-1 : Int32) - x1) σ _ _ _ _ h hY hR dX6_pieces_46
      · have h := h.1 c_3
        refine lv_iload_n hx hb dX6_pieces_39 rfl (lv_at hl 2 rfl) ?_
        refine lv_goto (tgt := 46) hx hb dX6_pieces_40 (by decide) ?_
        exact hret x2 σ _ _ _ _ h hY hR dX6_pieces_46
    · have h := h.2 c_2
      refine lv_iload_n hx hb dX6_pieces_17 rfl (lv_at hl 1 rfl) ?_
      refine lv_aload_n hx hb dX6_pieces_18 rfl (lv_at hl 0 rfl) ?_
      refine lv_iload_n hx hb dX6_pieces_19 rfl (lv_at hl 1 rfl) ?_
      refine w_callip (rest := [.int x1]) (va_runV (As := [.int x1]) (rest := [.int x1]) C0 (mX6_longestAt l D ad ci A σ x1 _ hR  h) (cwV 1 hts gX6_pieces_X6_longestAt rfl rfl rfl ddX6_longestAt ⟨Nat.le_of_ble_eq_true rfl, Nat.le_of_ble_eq_true rfl⟩) (w_preV (o := 0) (ci := 6) (ob := obM ad ci) (σ := σ) hK hY (by decide) obM_main rfl rfl) rfl rfl hl.1 rfl (lv_room (Nat.le_of_ble_eq_true rfl)) dX6_pieces_20 ⟨Nat.zero_le _, Nat.zero_le _⟩) hY (fun r_4 H locs h hY => ?_)
      refine lv_iadd hx hb dX6_pieces_23 ?_
      refine lv_istore_n (lv' := [(1, .int (x1 + r_4)), (0, .ref (ad 0)), (2, .int x2)]) hx hb dX6_pieces_24 rfl hl (by decide) rfl (fun ls hl => ?_)
      refine lv_iinc (v := (x2 + 1)) (lv' := [(2, .int (x2 + 1)), (1, .int (x1 + r_4)), (0, .ref (ad 0))]) hx hb dX6_pieces_25 hl (k := 2) rfl rfl (by decide) rfl (fun ls hl => ?_)
      refine lv_goto (tgt := 9) hx hb dX6_pieces_28 (by decide) ?_
      exact ih (x1 + r_4) (x2 + 1) h _ _ hY hR  _ (lv_sub hl [2, 1, 0] rfl)
set_option maxHeartbeats 4000000 in
set_option maxRecDepth 100000 in
theorem eX6_pieces (C0 : CallFix p m c cX6_pieces 3 s args wsX6_pieces RX6) (hK : Kx D (tyM ci) s) (K : Int32 → St → Prop) (σ : St) (hret : ∀ (r : Int32) (u : St) (H : Heap) (locs : List Loc) (pc : Nat) (ls : Array Slot), K r u → Sy D 12 ad A H0 (obM ad ci u) H locs → tt u → decode cX6_pieces pc = .ok (.ireturn, 1) → W p l e rmX6_pieces s m args below meth c H locs 0 0 Q (F0 m pc ls [.int r])) (h : wX6_pieces σ K) (H : Heap) (locs : List Loc) (hY : Sy D 12 ad A H0 (obM ad ci σ) H locs) (hR : tt σ) (ls : Array Slot) (hl : lv_has ls 3 [(0, .ref (ad 0))]) : W p l e rmX6_pieces s m args below meth c H locs 0 0 Q (F0 m 0 ls []) := by
  obtain ⟨hx, hb, hml, hown, hts⟩ := id C0
  refine lv_aload_n hx hb dX6_pieces_0 rfl (lv_at hl 0 rfl) ?_
  refine lv_iconst (v := (0 : Int32)) hx hb dX6_pieces_1 (by decide) ?_
  obtain ⟨σ_5, e_σ_5⟩ : ∃ z : St, z = pI σ 0 (0 : Int32) := ⟨_, rfl⟩
  have h := h σ_5 e_σ_5
  have hR_σ_5 : tt σ_5 := trivial
  refine w_put (o := 0) (ci := 6) (C := RX6) (T := TX6) (N1 := 14) hx hb hts kX6_pieces_inX6 tyX6 tyX6_ok nmX6 hown hK.1 hY (by decide) obM_main rfl 0 (by decide) (hts _ kX6_pieces_2) rfl rfl rfl (Nat.le_of_ble_eq_true rfl) dX6_pieces_2 (ob' := obM ad ci σ_5) (by rw [e_σ_5]; exact obM_pI rfl) (fun H locs hY => ?_)
  refine lv_iconst (v := (0 : Int32)) hx hb dX6_pieces_5 (by decide) ?_
  refine lv_istore_n (lv' := [(1, .int (0 : Int32)), (0, .ref (ad 0))]) hx hb dX6_pieces_6 rfl hl (by decide) rfl (fun ls hl => ?_)
  refine lv_iconst (v := (0 : Int32)) hx hb dX6_pieces_7 (by decide) ?_
  refine lv_istore_n (lv' := [(2, .int (0 : Int32)), (1, .int (0 : Int32)), (0, .ref (ad 0))]) hx hb dX6_pieces_8 rfl hl (by decide) rfl (fun ls hl => ?_)
  obtain ⟨n_6, h⟩ := h
  exact tX6_pieces_L9 C0 hK K σ_5 hret n_6 (0 : Int32) (0 : Int32) h _ _ hY hR_σ_5  _ (lv_sub hl [2, 1, 0] rfl)
set_option maxHeartbeats 4000000 in
set_option maxRecDepth 100000 in
theorem mX6_pieces (l : Launch) (D : va_G) (ad : Nat → Nat) (ci : Nat → ClassId) (A : Nat → Prop) (σ : St) (K : Int32 → St → Prop) (hR : tt σ) (h : wX6_pieces σ K) : Met l yX6_pieces wsX6_pieces rmX6_pieces (va_Pc [.ref (ad 0)] (PreW D 12 ad A (tyM ci) (obM ad ci σ))) (va_Qi (fun r u => K r u) (PostW D 12 ad (tyM ci) (obM ad ci) tt) A) 0 0 A := by
  refine Met.ofW (cc := cX6_pieces) (maxL := 3) (ret := (some .int)) (by decide) rfl ?_
  intro p e s m args below meth c s₁ B hml hv
  obtain ⟨rfl, hP, hK, hD⟩ := hv
  have C0 : CallFix p m c cX6_pieces 3 s _ wsX6_pieces RX6 := ⟨B.exec, B.bytes, hml, findClass_of_methodNamed B.named, atoms_spec (ws := wsX6_pieces) B.pre⟩
  have hlocks := B.notSynchronized
  have hY : Sy D 12 ad A s.heap (obM ad ci σ) s.heap [] := ⟨hP, hD, va_S.rf⟩
  have hl := lv_entry ([.ref (ad 0)]) (n := 3) (Nat.le_of_ble_eq_true rfl)
  rw [lg_entry_eq]
  generalize (lg_sl ([.ref (ad 0)]) ++ List.replicate (3 - (lg_sl ([.ref (ad 0)])).length) Slot.unset).toArray = ls at hl ⊢
  exact eX6_pieces C0 hK K σ (fun r u H locs pc ls hk hY hR hd => w_iret (I := tt) B.exec B.bytes B.returns hlocks hK hk (fun t ht => ht) hY hR hd) h _ _ hY hR ls hl
set_option maxHeartbeats 4000000 in
set_option maxRecDepth 100000 in
theorem tX6_piece_J48 (C0 : CallFix p m c cX6_piece 4 s args wsX6_piece RX6) (hK : Kx D (tyM ci) s) (K : Int32 → St → Prop) (σ : St) (x2 : Int32) (s1 : Int32) (hret : ∀ (r : Int32) (u : St) (H : Heap) (locs : List Loc) (pc : Nat) (ls : Array Slot), K r u → Sy D 12 ad A H0 (obM ad ci u) H locs → tt u → decode cX6_piece pc = .ok (.ireturn, 1) → W p l e rmX6_piece s m args below meth c H locs 0 0 Q (F0 m pc ls [.int r])) (h : wX6_piece_J48 K σ x2 s1) (H : Heap) (locs : List Loc) (hY : Sy D 12 ad A H0 (obM ad ci σ) H locs) (hR : tt σ) (ls : Array Slot) (hl : lv_has ls 4 [(0, .ref (ad 0)), (2, .int x2)]) : W p l e rmX6_piece s m args below meth c H locs 0 0 Q (F0 m 48 ls [.int s1, .ref (ad 0)]) := by
  obtain ⟨hx, hb, hml, hown, hts⟩ := id C0
  refine w_calli (rest := []) (va_runV (As := [.int s1]) (rest := []) C0 (mX6_fails l D ad ci A σ s1 _ hR  h) (cwV 1 hts gX6_piece_X6_fails rfl rfl rfl ddX6_fails ⟨Nat.le_of_ble_eq_true rfl, Nat.le_of_ble_eq_true rfl⟩) (w_preV (o := 0) (ci := 6) (ob := obM ad ci) (σ := σ) hK hY (by decide) obM_main rfl rfl) rfl rfl hl.1 rfl (lv_room (Nat.le_of_ble_eq_true rfl)) dX6_piece_48 ⟨Nat.zero_le _, Nat.zero_le _⟩) hY (fun r_1 σ_2 H locs h hY hR_σ_2 => ?_)
  obtain ⟨n_r_1, h⟩ := h
  refine lv_if_eq (tgt := 58) hx hb dX6_piece_51 (by decide) (fun c_3 => ?_) (fun c_3 => ?_)
  · have h := h.1 c_3
    refine lv_aload_n hx hb dX6_piece_58 rfl (lv_at hl 0 rfl) ?_
    refine lv_iload_n hx hb dX6_piece_59 rfl (lv_at hl 1 rfl) ?_
    refine w_callip (rest := []) (va_runV (As := [.int x2]) (rest := []) C0 (mX6_longestAt l D ad ci A σ_2 x2 _ hR_σ_2  h) (cwV 1 hts gX6_piece_X6_longestAt rfl rfl rfl ddX6_longestAt ⟨Nat.le_of_ble_eq_true rfl, Nat.le_of_ble_eq_true rfl⟩) (w_preV (o := 0) (ci := 6) (ob := obM ad ci) (σ := σ_2) hK hY (by decide) obM_main rfl rfl) rfl rfl hl.1 rfl (lv_room (Nat.le_of_ble_eq_true rfl)) dX6_piece_60 ⟨Nat.zero_le _, Nat.zero_le _⟩) hY (fun r_4 H locs h hY => ?_)
    exact hret r_4 σ_2 _ _ _ _ h hY hR_σ_2 dX6_piece_63
  · have h := h.2 c_3
    refine lv_iconst (v := (0 : Int32)) hx hb dX6_piece_54 (by decide) ?_
    refine lv_goto (tgt := 63) hx hb dX6_piece_55 (by decide) ?_
    exact hret (0 : Int32) σ_2 _ _ _ _ h hY hR_σ_2 dX6_piece_63
set_option maxHeartbeats 4000000 in
set_option maxRecDepth 100000 in
theorem tX6_piece_J43 (C0 : CallFix p m c cX6_piece 4 s args wsX6_piece RX6) (hK : Kx D (tyM ci) s) (K : Int32 → St → Prop) (σ : St) (x2 : Int32) (hret : ∀ (r : Int32) (u : St) (H : Heap) (locs : List Loc) (pc : Nat) (ls : Array Slot), K r u → Sy D 12 ad A H0 (obM ad ci u) H locs → tt u → decode cX6_piece pc = .ok (.ireturn, 1) → W p l e rmX6_piece s m args below meth c H locs 0 0 Q (F0 m pc ls [.int r])) (h : wX6_piece_J43 K σ x2) (H : Heap) (locs : List Loc) (hY : Sy D 12 ad A H0 (obM ad ci σ) H locs) (hR : tt σ) (ls : Array Slot) (hl : lv_has ls 4 [(0, .ref (ad 0)), (2, .int x2)]) : W p l e rmX6_piece s m args below meth c H locs 0 0 Q (F0 m 43 ls [.ref (ad 0)]) := by
  obtain ⟨hx, hb, hml, hown, hts⟩ := id C0
  refine lv_iconst (v := (1 : Int32)) hx hb dX6_piece_43 (by decide) ?_
  refine lv_goto (tgt := 48) hx hb dX6_piece_44 (by decide) ?_
  exact tX6_piece_J48 C0 hK K σ x2 (1 : Int32) hret h _ _ hY hR _ (lv_sub hl [0, 1] rfl)
set_option maxHeartbeats 4000000 in
set_option maxRecDepth 100000 in
theorem tX6_piece_J30 (C0 : CallFix p m c cX6_piece 4 s args wsX6_piece RX6) (hK : Kx D (tyM ci) s) (K : Int32 → St → Prop) (σ : St) (x2 : Int32) (x3 : Int32) (hret : ∀ (r : Int32) (u : St) (H : Heap) (locs : List Loc) (pc : Nat) (ls : Array Slot), K r u → Sy D 12 ad A H0 (obM ad ci u) H locs → tt u → decode cX6_piece pc = .ok (.ireturn, 1) → W p l e rmX6_piece s m args below meth c H locs 0 0 Q (F0 m pc ls [.int r])) (h : wX6_piece_J30 K σ x2 x3) (H : Heap) (locs : List Loc) (hY : Sy D 12 ad A H0 (obM ad ci σ) H locs) (hR : tt σ) (ls : Array Slot) (hl : lv_has ls 4 [(0, .ref (ad 0)), (2, .int x2), (3, .int x3)]) : W p l e rmX6_piece s m args below meth c H locs 0 0 Q (F0 m 30 ls []) := by
  obtain ⟨hx, hb, hml, hown, hts⟩ := id C0
  refine lv_aload_n hx hb dX6_piece_30 rfl (lv_at hl 0 rfl) ?_
  refine lv_iload_n hx hb dX6_piece_31 rfl (lv_at hl 2 rfl) ?_
  refine lv_if_ne (tgt := 43) hx hb dX6_piece_32 (by decide) (fun c_5 => ?_) (fun c_5 => ?_)
  · have h := h.2 c_5
    exact tX6_piece_J43 C0 hK K σ x2 hret h _ _ hY hR _ (lv_sub hl [0, 1] rfl)
  · have h := h.1 c_5
    refine lv_aload_n hx hb dX6_piece_35 rfl (lv_at hl 0 rfl) ?_
    refine lv_iload_n hx hb dX6_piece_36 rfl (lv_at hl 1 rfl) ?_
    refine w_callip (rest := [.ref (ad 0)]) (va_runV (As := [.int x2]) (rest := [.ref (ad 0)]) C0 (mX6_longestAt l D ad ci A σ x2 _ hR  h) (cwV 1 hts gX6_piece_X6_longestAt rfl rfl rfl ddX6_longestAt ⟨Nat.le_of_ble_eq_true rfl, Nat.le_of_ble_eq_true rfl⟩) (w_preV (o := 0) (ci := 6) (ob := obM ad ci) (σ := σ) hK hY (by decide) obM_main rfl rfl) rfl rfl hl.1 rfl (lv_room (Nat.le_of_ble_eq_true rfl)) dX6_piece_37 ⟨Nat.zero_le _, Nat.zero_le _⟩) hY (fun r_6 H locs h hY => ?_)
    refine lv_if_ne (tgt := 47) hx hb dX6_piece_40 (by decide) (fun c_7 => ?_) (fun c_7 => ?_)
    · have h := h.2 c_7
      refine lv_iconst (v := (0 : Int32)) hx hb dX6_piece_47 (by decide) ?_
      exact tX6_piece_J48 C0 hK K σ x2 (0 : Int32) hret h _ _ hY hR _ (lv_sub hl [0, 1] rfl)
    · have h := h.1 c_7
      exact tX6_piece_J43 C0 hK K σ x2 hret h _ _ hY hR _ (lv_sub hl [0, 1] rfl)
set_option maxHeartbeats 4000000 in
set_option maxRecDepth 100000 in
theorem tX6_piece_L4 (C0 : CallFix p m c cX6_piece 4 s args wsX6_piece RX6) (hK : Kx D (tyM ci) s) (K : Int32 → St → Prop) (σ : St) (hret : ∀ (r : Int32) (u : St) (H : Heap) (locs : List Loc) (pc : Nat) (ls : Array Slot), K r u → Sy D 12 ad A H0 (obM ad ci u) H locs → tt u → decode cX6_piece pc = .ok (.ireturn, 1) → W p l e rmX6_piece s m args below meth c H locs 0 0 Q (F0 m pc ls [.int r])) : ∀ (n : Nat) (x2 : Int32) (x3 : Int32), wX6_piece_L4 K σ n x2 x3 → ∀ (H : Heap) (locs : List Loc), Sy D 12 ad A H0 (obM ad ci σ) H locs → tt σ → ∀ ls : Array Slot, lv_has ls 4 [(0, .ref (ad 0)), (2, .int x2), (3, .int x3)] → W p l e rmX6_piece s m args below meth c H locs 0 0 Q (F0 m 4 ls []) := by
  obtain ⟨hx, hb, hml, hown, hts⟩ := id C0
  intro n
  induction n with
  | zero =>
    intro x2 x3 h
    exact h.elim
  | succ n ih =>
    intro x2 x3 h H locs hY hR  ls hl
    refine lv_iload_n hx hb dX6_piece_4 rfl (lv_at hl 2 rfl) ?_
    refine lv_if_le (tgt := 30) hx hb dX6_piece_5 (by decide) (fun c_8 => ?_) (fun c_8 => ?_)
    · have h := h.1 c_8
      exact tX6_piece_J30 C0 hK K σ x2 x3 hret h _ _ hY hR _ (lv_sub hl [0, 1, 2] rfl)
    · have h := h.2 c_8
      refine lv_aload_n hx hb dX6_piece_8 rfl (lv_at hl 0 rfl) ?_
      refine lv_iload_n hx hb dX6_piece_9 rfl (lv_at hl 1 rfl) ?_
      refine w_callip (rest := []) (va_runV (As := [.int x2]) (rest := []) C0 (mX6_longestAt l D ad ci A σ x2 _ hR  h) (cwV 1 hts gX6_piece_X6_longestAt rfl rfl rfl ddX6_longestAt ⟨Nat.le_of_ble_eq_true rfl, Nat.le_of_ble_eq_true rfl⟩) (w_preV (o := 0) (ci := 6) (ob := obM ad ci) (σ := σ) hK hY (by decide) obM_main rfl rfl) rfl rfl hl.1 rfl (lv_room (Nat.le_of_ble_eq_true rfl)) dX6_piece_10 ⟨Nat.zero_le _, Nat.zero_le _⟩) hY (fun r_9 H locs h hY => ?_)
      refine lv_if_le (tgt := 30) hx hb dX6_piece_13 (by decide) (fun c_10 => ?_) (fun c_10 => ?_)
      · have h := h.1 c_10
        exact tX6_piece_J30 C0 hK K σ x2 x3 hret h _ _ hY hR _ (lv_sub hl [0, 1, 2] rfl)
      · have h := h.2 c_10
        refine lv_iload_n hx hb dX6_piece_16 rfl (lv_at hl 1 rfl) ?_
        refine lv_aload_n hx hb dX6_piece_17 rfl (lv_at hl 0 rfl) ?_
        refine lv_iload_n hx hb dX6_piece_18 rfl (lv_at hl 1 rfl) ?_
        refine w_callip (rest := [.int x2]) (va_runV (As := [.int x2]) (rest := [.int x2]) C0 (mX6_longestAt l D ad ci A σ x2 _ hR  h) (cwV 1 hts gX6_piece_X6_longestAt rfl rfl rfl ddX6_longestAt ⟨Nat.le_of_ble_eq_true rfl, Nat.le_of_ble_eq_true rfl⟩) (w_preV (o := 0) (ci := 6) (ob := obM ad ci) (σ := σ) hK hY (by decide) obM_main rfl rfl) rfl rfl hl.1 rfl (lv_room (Nat.le_of_ble_eq_true rfl)) dX6_piece_19 ⟨Nat.zero_le _, Nat.zero_le _⟩) hY (fun r_11 H locs h hY => ?_)
        refine lv_iadd hx hb dX6_piece_22 ?_
        refine lv_istore_n (lv' := [(2, .int (x2 + r_11)), (0, .ref (ad 0)), (3, .int x3)]) hx hb dX6_piece_23 rfl hl (by decide) rfl (fun ls hl => ?_)
        refine lv_iinc (v := (x3 + (-1))) (lv' := [(3, .int (x3 + (-1))), (2, .int (x2 + r_11)), (0, .ref (ad 0))]) hx hb dX6_piece_24 hl (k := 2) rfl rfl (by decide) rfl (fun ls hl => ?_)
        refine lv_goto (tgt := 4) hx hb dX6_piece_27 (by decide) ?_
        exact ih (x2 + r_11) (x3 + (-1)) h _ _ hY hR  _ (lv_sub hl [2, 1, 0] rfl)
set_option maxHeartbeats 4000000 in
set_option maxRecDepth 100000 in
theorem eX6_piece (C0 : CallFix p m c cX6_piece 4 s args wsX6_piece RX6) (hK : Kx D (tyM ci) s) (K : Int32 → St → Prop) (σ : St) (hret : ∀ (r : Int32) (u : St) (H : Heap) (locs : List Loc) (pc : Nat) (ls : Array Slot), K r u → Sy D 12 ad A H0 (obM ad ci u) H locs → tt u → decode cX6_piece pc = .ok (.ireturn, 1) → W p l e rmX6_piece s m args below meth c H locs 0 0 Q (F0 m pc ls [.int r])) (x1 : Int32) (h : wX6_piece σ x1 K) (H : Heap) (locs : List Loc) (hY : Sy D 12 ad A H0 (obM ad ci σ) H locs) (hR : tt σ) (ls : Array Slot) (hl : lv_has ls 4 [(0, .ref (ad 0)), (1, .int x1)]) : W p l e rmX6_piece s m args below meth c H locs 0 0 Q (F0 m 0 ls []) := by
  obtain ⟨hx, hb, hml, hown, hts⟩ := id C0
  refine lv_iconst (v := (0 : Int32)) hx hb dX6_piece_0 (by decide) ?_
  refine lv_istore_n (lv' := [(2, .int (0 : Int32)), (0, .ref (ad 0)), (1, .int x1)]) hx hb dX6_piece_1 rfl hl (by decide) rfl (fun ls hl => ?_)
  refine lv_iload_n hx hb dX6_piece_2 rfl (lv_at hl 2 rfl) ?_
  refine lv_istore_n (lv' := [(3, .int x1), (2, .int (0 : Int32)), (0, .ref (ad 0)), (1, .int x1)]) hx hb dX6_piece_3 rfl hl (by decide) rfl (fun ls hl => ?_)
  obtain ⟨n_12, h⟩ := h
  exact tX6_piece_L4 C0 hK K σ hret n_12 (0 : Int32) x1 h _ _ hY hR  _ (lv_sub hl [2, 1, 0] rfl)
set_option maxHeartbeats 4000000 in
set_option maxRecDepth 100000 in
theorem mX6_piece (l : Launch) (D : va_G) (ad : Nat → Nat) (ci : Nat → ClassId) (A : Nat → Prop) (σ : St) (x1 : Int32) (K : Int32 → St → Prop) (hR : tt σ) (h : wX6_piece σ x1 K) : Met l yX6_piece wsX6_piece rmX6_piece (va_Pc [.ref (ad 0), .int x1] (PreW D 12 ad A (tyM ci) (obM ad ci σ))) (va_Qi (fun r u => K r u) (PostW D 12 ad (tyM ci) (obM ad ci) tt) A) 0 0 A := by
  refine Met.ofW (cc := cX6_piece) (maxL := 4) (ret := (some .int)) (by decide) rfl ?_
  intro p e s m args below meth c s₁ B hml hv
  obtain ⟨rfl, hP, hK, hD⟩ := hv
  have C0 : CallFix p m c cX6_piece 4 s _ wsX6_piece RX6 := ⟨B.exec, B.bytes, hml, findClass_of_methodNamed B.named, atoms_spec (ws := wsX6_piece) B.pre⟩
  have hlocks := B.notSynchronized
  have hY : Sy D 12 ad A s.heap (obM ad ci σ) s.heap [] := ⟨hP, hD, va_S.rf⟩
  have hl := lv_entry ([.ref (ad 0), .int x1]) (n := 4) (Nat.le_of_ble_eq_true rfl)
  rw [lg_entry_eq]
  generalize (lg_sl ([.ref (ad 0), .int x1]) ++ List.replicate (4 - (lg_sl ([.ref (ad 0), .int x1])).length) Slot.unset).toArray = ls at hl ⊢
  exact eX6_piece C0 hK K σ (fun r u H locs pc ls hk hY hR hd => w_iret (I := tt) B.exec B.bytes B.returns hlocks hK hk (fun t ht => ht) hY hR hd) x1 h _ _ hY hR ls hl
set_option maxHeartbeats 4000000 in
set_option maxRecDepth 100000 in
theorem tX6_cutsAll_J134 (C0 : CallFix p m c cX6_cutsAll 5 s args wsX6_cutsAll RX6) (hK : Kx D (tyM ci) s) (K : St → Prop) (B5 : St → Int32 → Prop) (B49 : St → Int32 → Prop) (σ : St) (x1 : Int32) (x2 : Int32) (x4 : Int32) (hret : ∀ (u : St) (H : Heap) (locs : List Loc) (pc : Nat) (ls : Array Slot), K u → Sy D 12 ad A H0 (obM ad ci u) H locs → tt u → decode cX6_cutsAll pc = .ok (.return_, 1) → W p l e rmX6_cutsAll s m args below meth c H locs 0 0 Q (F0 m pc ls [])) (hB5 : ∀ (σ : St) (x1 : Int32), B5 σ x1 → ∀ (H : Heap) (locs : List Loc), Sy D 12 ad A H0 (obM ad ci σ) H locs → tt σ → ∀ ls : Array Slot, lv_has ls 5 [(0, .ref (ad 0)), (1, .int x1)] → W p l e rmX6_cutsAll s m args below meth c H locs 0 0 Q (F0 m 5 ls [])) (hB49 : ∀ (σ : St) (x2 : Int32), B49 σ x2 → ∀ (H : Heap) (locs : List Loc), Sy D 12 ad A H0 (obM ad ci σ) H locs → tt σ → ∀ ls : Array Slot, lv_has ls 5 [(0, .ref (ad 0)), (1, .int x1), (2, .int x2)] → W p l e rmX6_cutsAll s m args below meth c H locs 0 0 Q (F0 m 49 ls [])) (h : wX6_cutsAll_J134 K B5 B49 σ x1 x2 x4) (H : Heap) (locs : List Loc) (hY : Sy D 12 ad A H0 (obM ad ci σ) H locs) (hR : tt σ) (ls : Array Slot) (hl : lv_has ls 5 [(0, .ref (ad 0)), (1, .int x1), (2, .int x2), (4, .int x4)]) : W p l e rmX6_cutsAll s m args below meth c H locs 0 0 Q (F0 m 134 ls []) := by
  obtain ⟨hx, hb, hml, hown, hts⟩ := id C0
  refine lv_aload_n hx hb dX6_cutsAll_134 rfl (lv_at hl 0 rfl) ?_
  refine w_get (o := 0) (ci := 6) (C := RX6) (T := TX6) (N1 := 14) (v := .ref (ad 11)) hx hb hts kX6_cutsAll_inX6 hown hK.1 hY (by decide) obM_main rfl 13 (by decide) (hts _ kX6_cutsAll_0) rfl rfl dX6_cutsAll_135 ?_
  refine lv_iload_n hx hb dX6_cutsAll_138 rfl (lv_at hl 1 rfl) ?_
  refine lv_iload hx hb dX6_cutsAll_139 (lv_at hl 3 rfl) ?_
  obtain ⟨b_1, h⟩ := h
  obtain ⟨σ_2, e_σ_2⟩ : ∃ z : St, z = pA σ 11 (x1).toNatClampNeg x4 := ⟨_, rfl⟩
  have h := h σ_2 e_σ_2
  have hR_σ_2 : tt σ_2 := trivial
  refine w_iast (o := 11) hx hb hK.1 hY (by decide) 1 rfl rfl b_1 dX6_cutsAll_141 (ob' := obM ad ci σ_2) (by rw [e_σ_2]; exact obM_pA (by rw [← gA_up]; rfl)) (fun H locs hY => ?_)
  refine lv_iinc (v := (x2 + 1)) (lv' := [(2, .int (x2 + 1)), (0, .ref (ad 0)), (1, .int x1), (4, .int x4)]) hx hb dX6_cutsAll_142 hl (k := 2) rfl rfl (by decide) rfl (fun ls hl => ?_)
  refine lv_goto (tgt := 49) hx hb dX6_cutsAll_145 (by decide) ?_
  exact hB49 σ_2 (x2 + 1) h _ _ hY hR_σ_2  _ (lv_sub hl [1, 2, 0] rfl)
set_option maxHeartbeats 4000000 in
set_option maxRecDepth 100000 in
theorem tX6_cutsAll_L49 (C0 : CallFix p m c cX6_cutsAll 5 s args wsX6_cutsAll RX6) (hK : Kx D (tyM ci) s) (K : St → Prop) (B5 : St → Int32 → Prop) (x1 : Int32) (hret : ∀ (u : St) (H : Heap) (locs : List Loc) (pc : Nat) (ls : Array Slot), K u → Sy D 12 ad A H0 (obM ad ci u) H locs → tt u → decode cX6_cutsAll pc = .ok (.return_, 1) → W p l e rmX6_cutsAll s m args below meth c H locs 0 0 Q (F0 m pc ls [])) (hB5 : ∀ (σ : St) (x1 : Int32), B5 σ x1 → ∀ (H : Heap) (locs : List Loc), Sy D 12 ad A H0 (obM ad ci σ) H locs → tt σ → ∀ ls : Array Slot, lv_has ls 5 [(0, .ref (ad 0)), (1, .int x1)] → W p l e rmX6_cutsAll s m args below meth c H locs 0 0 Q (F0 m 5 ls [])) : ∀ (n : Nat) (σ : St) (x2 : Int32), wX6_cutsAll_L49 K B5 x1 n σ x2 → ∀ (H : Heap) (locs : List Loc), Sy D 12 ad A H0 (obM ad ci σ) H locs → tt σ → ∀ ls : Array Slot, lv_has ls 5 [(0, .ref (ad 0)), (1, .int x1), (2, .int x2)] → W p l e rmX6_cutsAll s m args below meth c H locs 0 0 Q (F0 m 49 ls []) := by
  obtain ⟨hx, hb, hml, hown, hts⟩ := id C0
  intro n
  induction n with
  | zero =>
    intro σ x2 h
    exact h.elim
  | succ n ih =>
    intro σ x2 h H locs hY hR  ls hl
    refine lv_iload_n hx hb dX6_cutsAll_49 rfl (lv_at hl 2 rfl) ?_
    refine lv_aload_n hx hb dX6_cutsAll_50 rfl (lv_at hl 0 rfl) ?_
    refine w_get (o := 0) (ci := 6) (C := RX6) (T := TX6) (N1 := 14) (v := .int (gI σ 2)) hx hb hts kX6_cutsAll_inX6 hown hK.1 hY (by decide) obM_main rfl 9 (by decide) (hts _ kX6_cutsAll_2) rfl rfl dX6_cutsAll_51 ?_
    refine lv_icmp_ge (tgt := 148) hx hb dX6_cutsAll_54 (by decide) (fun c_3 => ?_) (fun c_3 => ?_)
    · have h := h.1 c_3
      refine lv_iinc (v := (x1 + (-1))) (lv' := [(1, .int (x1 + (-1))), (0, .ref (ad 0)), (2, .int x2)]) hx hb dX6_cutsAll_148 hl (k := 1) rfl rfl (by decide) rfl (fun ls hl => ?_)
      refine lv_goto (tgt := 5) hx hb dX6_cutsAll_151 (by decide) ?_
      exact hB5 σ (x1 + (-1)) h _ _ hY hR  _ (lv_sub hl [1, 0] rfl)
    · have h := h.2 c_3
      refine lv_aload_n hx hb dX6_cutsAll_57 rfl (lv_at hl 0 rfl) ?_
      refine lv_iload_n hx hb dX6_cutsAll_58 rfl (lv_at hl 2 rfl) ?_
      refine lv_iload_n hx hb dX6_cutsAll_59 rfl (lv_at hl 1 rfl) ?_
      refine w_callip (rest := []) (va_runV (As := [.int x2, .int x1]) (rest := []) C0 (mX6_like l D ad ci A σ x2 x1 _ hR  h) (cwV 2 hts gX6_cutsAll_X6_like rfl rfl rfl ddX6_like ⟨Nat.le_of_ble_eq_true rfl, Nat.le_of_ble_eq_true rfl⟩) (w_preV (o := 0) (ci := 6) (ob := obM ad ci) (σ := σ) hK hY (by decide) obM_main rfl rfl) rfl rfl hl.1 rfl (lv_room (Nat.le_of_ble_eq_true rfl)) dX6_cutsAll_60 ⟨Nat.zero_le _, Nat.zero_le _⟩) hY (fun r_4 H locs h hY => ?_)
      refine lv_aload_n hx hb dX6_cutsAll_63 rfl (lv_at hl 0 rfl) ?_
      refine w_get (o := 0) (ci := 6) (C := RX6) (T := TX6) (N1 := 14) (v := .ref (ad 5)) hx hb hts kX6_cutsAll_inX6 hown hK.1 hY (by decide) obM_main rfl 5 (by decide) (hts _ kX6_cutsAll_3) rfl rfl dX6_cutsAll_64 ?_
      refine lv_iload_n hx hb dX6_cutsAll_67 rfl (lv_at hl 2 rfl) ?_
      obtain ⟨b_5, h⟩ := h
      refine w_iald (o := 5) hx hb hK.1 hY (by decide) 1 rfl rfl b_5 dX6_cutsAll_68 ?_
      refine lv_icmp_ge (tgt := 75) hx hb dX6_cutsAll_69 (by decide) (fun c_6 => ?_) (fun c_6 => ?_)
      · have h := h.1 c_6
        refine lv_iload_n hx hb dX6_cutsAll_75 rfl (lv_at hl 1 rfl) ?_
        refine lv_aload_n hx hb dX6_cutsAll_76 rfl (lv_at hl 0 rfl) ?_
        refine w_get (o := 0) (ci := 6) (C := RX6) (T := TX6) (N1 := 14) (v := .ref (ad 5)) hx hb hts kX6_cutsAll_inX6 hown hK.1 hY (by decide) obM_main rfl 5 (by decide) (hts _ kX6_cutsAll_3) rfl rfl dX6_cutsAll_77 ?_
        refine lv_iload_n hx hb dX6_cutsAll_80 rfl (lv_at hl 2 rfl) ?_
        obtain ⟨b_7, h⟩ := h
        refine w_iald (o := 5) hx hb hK.1 hY (by decide) 1 rfl rfl b_7 dX6_cutsAll_81 ?_
        refine lv_iadd hx hb dX6_cutsAll_82 ?_
        refine lv_topi (fun x3_8 e_x3_8 => ?_)
        have h := h x3_8 e_x3_8
        refine lv_istore_n (lv' := [(3, .int x3_8), (0, .ref (ad 0)), (1, .int x1), (2, .int x2)]) hx hb dX6_cutsAll_83 rfl hl (by decide) rfl (fun ls hl => ?_)
        refine lv_aload_n hx hb dX6_cutsAll_84 rfl (lv_at hl 1 rfl) ?_
        refine w_get (o := 0) (ci := 6) (C := RX6) (T := TX6) (N1 := 14) (v := .ref (ad 10)) hx hb hts kX6_cutsAll_inX6 hown hK.1 hY (by decide) obM_main rfl 12 (by decide) (hts _ kX6_cutsAll_4) rfl rfl dX6_cutsAll_85 ?_
        refine lv_iload_n hx hb dX6_cutsAll_88 rfl (lv_at hl 2 rfl) ?_
        refine lv_dup2_11 hx hb dX6_cutsAll_89 rfl rfl ?_
        obtain ⟨b_9, h⟩ := h
        refine w_lald (o := 10) hx hb hK.1 hY (by decide) 2 rfl rfl b_9 dX6_cutsAll_90 ?_
        refine lv_aload_n hx hb dX6_cutsAll_91 rfl (lv_at hl 1 rfl) ?_
        refine w_get (o := 0) (ci := 6) (C := RX6) (T := TX6) (N1 := 14) (v := .ref (ad 10)) hx hb hts kX6_cutsAll_inX6 hown hK.1 hY (by decide) obM_main rfl 12 (by decide) (hts _ kX6_cutsAll_4) rfl rfl dX6_cutsAll_92 ?_
        refine lv_iload_n hx hb dX6_cutsAll_95 rfl (lv_at hl 0 rfl) ?_
        obtain ⟨b_10, h⟩ := h
        refine w_lald (o := 10) hx hb hK.1 hY (by decide) 2 rfl rfl b_10 dX6_cutsAll_96 ?_
        refine lv_ladd hx hb dX6_cutsAll_97 ?_
        obtain ⟨b_11, h⟩ := h
        obtain ⟨σ_12, e_σ_12⟩ : ∃ z : St, z = pL σ (x1).toNatClampNeg ((gL σ (x1).toNatClampNeg) + (gL σ (x3_8).toNatClampNeg)) := ⟨_, rfl⟩
        have h := h σ_12 e_σ_12
        have hR_σ_12 : tt σ_12 := trivial
        refine w_last (o := 10) hx hb hK.1 hY (by decide) 2 rfl rfl b_11 dX6_cutsAll_98 (ob' := obM ad ci σ_12) (by rw [e_σ_12]; exact obM_pL) (fun H locs hY => ?_)
        refine lv_aload_n hx hb dX6_cutsAll_99 rfl (lv_at hl 1 rfl) ?_
        refine w_get (o := 0) (ci := 6) (C := RX6) (T := TX6) (N1 := 14) (v := .ref (ad 11)) hx hb hts kX6_cutsAll_inX6 hown hK.1 hY (by decide) obM_main rfl 13 (by decide) (hts _ kX6_cutsAll_0) rfl rfl dX6_cutsAll_100 ?_
        refine lv_iload_n hx hb dX6_cutsAll_103 rfl (lv_at hl 0 rfl) ?_
        obtain ⟨b_13, h⟩ := h
        refine w_iald (o := 11) hx hb hK.1 hY (by decide) 1 rfl rfl b_13 dX6_cutsAll_104 ?_
        refine lv_iconst (v := (1 : Int32)) hx hb dX6_cutsAll_105 (by decide) ?_
        refine lv_iadd hx hb dX6_cutsAll_106 ?_
        refine lv_topi (fun x4_14 e_x4_14 => ?_)
        have h := h x4_14 e_x4_14
        refine lv_istore (lv' := [(4, .int x4_14), (3, .int x3_8), (0, .ref (ad 0)), (1, .int x1), (2, .int x2)]) hx hb dX6_cutsAll_107 hl (by decide) rfl (fun ls hl => ?_)
        refine lv_iload hx hb dX6_cutsAll_109 (lv_at hl 0 rfl) ?_
        refine lv_if_le (tgt := 142) hx hb dX6_cutsAll_111 (by decide) (fun c_15 => ?_) (fun c_15 => ?_)
        · have h := h.1 c_15
          refine lv_iinc (v := (x2 + 1)) (lv' := [(2, .int (x2 + 1)), (4, .int x4_14), (3, .int x3_8), (0, .ref (ad 0)), (1, .int x1)]) hx hb dX6_cutsAll_142 hl (k := 4) rfl rfl (by decide) rfl (fun ls hl => ?_)
          refine lv_goto (tgt := 49) hx hb dX6_cutsAll_145 (by decide) ?_
          exact ih σ_12 (x2 + 1) h _ _ hY hR_σ_12  _ (lv_sub hl [3, 4, 0] rfl)
        · have h := h.2 c_15
          refine lv_aload_n hx hb dX6_cutsAll_114 rfl (lv_at hl 2 rfl) ?_
          refine w_get (o := 0) (ci := 6) (C := RX6) (T := TX6) (N1 := 14) (v := .ref (ad 11)) hx hb hts kX6_cutsAll_inX6 hown hK.1 hY (by decide) obM_main rfl 13 (by decide) (hts _ kX6_cutsAll_0) rfl rfl dX6_cutsAll_115 ?_
          refine lv_iload_n hx hb dX6_cutsAll_118 rfl (lv_at hl 3 rfl) ?_
          obtain ⟨b_16, h⟩ := h
          refine w_iald (o := 11) hx hb hK.1 hY (by decide) 1 rfl rfl b_16 dX6_cutsAll_119 ?_
          refine lv_if_lt (tgt := 134) hx hb dX6_cutsAll_120 (by decide) (fun c_17 => ?_) (fun c_17 => ?_)
          · have h := h.1 c_17
            exact tX6_cutsAll_J134 C0 hK K B5 (wX6_cutsAll_L49 K B5 x1 n) σ_12 x1 x2 x4_14 hret hB5 ih h _ _ hY hR_σ_12 _ (lv_sub hl [2, 3, 4, 0] rfl)
          · have h := h.2 c_17
            refine lv_iload hx hb dX6_cutsAll_123 (lv_at hl 0 rfl) ?_
            refine lv_aload_n hx hb dX6_cutsAll_125 rfl (lv_at hl 2 rfl) ?_
            refine w_get (o := 0) (ci := 6) (C := RX6) (T := TX6) (N1 := 14) (v := .ref (ad 11)) hx hb hts kX6_cutsAll_inX6 hown hK.1 hY (by decide) obM_main rfl 13 (by decide) (hts _ kX6_cutsAll_0) rfl rfl dX6_cutsAll_126 ?_
            refine lv_iload_n hx hb dX6_cutsAll_129 rfl (lv_at hl 3 rfl) ?_
            obtain ⟨b_18, h⟩ := h
            refine w_iald (o := 11) hx hb hK.1 hY (by decide) 1 rfl rfl b_18 dX6_cutsAll_130 ?_
            refine lv_icmp_ge (tgt := 142) hx hb dX6_cutsAll_131 (by decide) (fun c_19 => ?_) (fun c_19 => ?_)
            · have h := h.1 c_19
              refine lv_iinc (v := (x2 + 1)) (lv' := [(2, .int (x2 + 1)), (4, .int x4_14), (3, .int x3_8), (0, .ref (ad 0)), (1, .int x1)]) hx hb dX6_cutsAll_142 hl (k := 4) rfl rfl (by decide) rfl (fun ls hl => ?_)
              refine lv_goto (tgt := 49) hx hb dX6_cutsAll_145 (by decide) ?_
              exact ih σ_12 (x2 + 1) h _ _ hY hR_σ_12  _ (lv_sub hl [3, 4, 0] rfl)
            · have h := h.2 c_19
              exact tX6_cutsAll_J134 C0 hK K B5 (wX6_cutsAll_L49 K B5 x1 n) σ_12 x1 x2 x4_14 hret hB5 ih h _ _ hY hR_σ_12 _ (lv_sub hl [2, 3, 4, 0] rfl)
      · have h := h.2 c_6
        refine lv_goto (tgt := 142) hx hb dX6_cutsAll_72 (by decide) ?_
        refine lv_iinc (v := (x2 + 1)) (lv' := [(2, .int (x2 + 1)), (0, .ref (ad 0)), (1, .int x1)]) hx hb dX6_cutsAll_142 hl (k := 2) rfl rfl (by decide) rfl (fun ls hl => ?_)
        refine lv_goto (tgt := 49) hx hb dX6_cutsAll_145 (by decide) ?_
        exact ih σ (x2 + 1) h _ _ hY hR  _ (lv_sub hl [1, 2, 0] rfl)
set_option maxHeartbeats 4000000 in
set_option maxRecDepth 100000 in
theorem tX6_cutsAll_J46 (C0 : CallFix p m c cX6_cutsAll 5 s args wsX6_cutsAll RX6) (hK : Kx D (tyM ci) s) (K : St → Prop) (B5 : St → Int32 → Prop) (σ : St) (x1 : Int32) (s1 : Int32) (s2 : Int32) (hret : ∀ (u : St) (H : Heap) (locs : List Loc) (pc : Nat) (ls : Array Slot), K u → Sy D 12 ad A H0 (obM ad ci u) H locs → tt u → decode cX6_cutsAll pc = .ok (.return_, 1) → W p l e rmX6_cutsAll s m args below meth c H locs 0 0 Q (F0 m pc ls [])) (hB5 : ∀ (σ : St) (x1 : Int32), B5 σ x1 → ∀ (H : Heap) (locs : List Loc), Sy D 12 ad A H0 (obM ad ci σ) H locs → tt σ → ∀ ls : Array Slot, lv_has ls 5 [(0, .ref (ad 0)), (1, .int x1)] → W p l e rmX6_cutsAll s m args below meth c H locs 0 0 Q (F0 m 5 ls [])) (h : wX6_cutsAll_J46 K B5 σ x1 s1 s2) (H : Heap) (locs : List Loc) (hY : Sy D 12 ad A H0 (obM ad ci σ) H locs) (hR : tt σ) (ls : Array Slot) (hl : lv_has ls 5 [(0, .ref (ad 0)), (1, .int x1)]) : W p l e rmX6_cutsAll s m args below meth c H locs 0 0 Q (F0 m 46 ls [.int s2, .int s1, .ref (ad 11)]) := by
  obtain ⟨hx, hb, hml, hown, hts⟩ := id C0
  obtain ⟨b_20, h⟩ := h
  obtain ⟨σ_21, e_σ_21⟩ : ∃ z : St, z = pA σ 11 (s1).toNatClampNeg s2 := ⟨_, rfl⟩
  have h := h σ_21 e_σ_21
  have hR_σ_21 : tt σ_21 := trivial
  refine w_iast (o := 11) hx hb hK.1 hY (by decide) 1 rfl rfl b_20 dX6_cutsAll_46 (ob' := obM ad ci σ_21) (by rw [e_σ_21]; exact obM_pA (by rw [← gA_up]; rfl)) (fun H locs hY => ?_)
  refine lv_iconst (v := (0 : Int32)) hx hb dX6_cutsAll_47 (by decide) ?_
  refine lv_istore_n (lv' := [(2, .int (0 : Int32)), (0, .ref (ad 0)), (1, .int x1)]) hx hb dX6_cutsAll_48 rfl hl (by decide) rfl (fun ls hl => ?_)
  obtain ⟨n_22, h⟩ := h
  exact tX6_cutsAll_L49 C0 hK K B5 x1 hret hB5 n_22 σ_21 (0 : Int32) h _ _ hY hR_σ_21  _ (lv_sub hl [1, 2, 0] rfl)
set_option maxHeartbeats 4000000 in
set_option maxRecDepth 100000 in
theorem tX6_cutsAll_J27 (C0 : CallFix p m c cX6_cutsAll 5 s args wsX6_cutsAll RX6) (hK : Kx D (tyM ci) s) (K : St → Prop) (B5 : St → Int32 → Prop) (σ : St) (x1 : Int32) (s1 : Int32) (s2 : Int64) (hret : ∀ (u : St) (H : Heap) (locs : List Loc) (pc : Nat) (ls : Array Slot), K u → Sy D 12 ad A H0 (obM ad ci u) H locs → tt u → decode cX6_cutsAll pc = .ok (.return_, 1) → W p l e rmX6_cutsAll s m args below meth c H locs 0 0 Q (F0 m pc ls [])) (hB5 : ∀ (σ : St) (x1 : Int32), B5 σ x1 → ∀ (H : Heap) (locs : List Loc), Sy D 12 ad A H0 (obM ad ci σ) H locs → tt σ → ∀ ls : Array Slot, lv_has ls 5 [(0, .ref (ad 0)), (1, .int x1)] → W p l e rmX6_cutsAll s m args below meth c H locs 0 0 Q (F0 m 5 ls [])) (h : wX6_cutsAll_J27 K B5 σ x1 s1 s2) (H : Heap) (locs : List Loc) (hY : Sy D 12 ad A H0 (obM ad ci σ) H locs) (hR : tt σ) (ls : Array Slot) (hl : lv_has ls 5 [(0, .ref (ad 0)), (1, .int x1)]) : W p l e rmX6_cutsAll s m args below meth c H locs 0 0 Q (F0 m 27 ls [.long s2, .int s1, .ref (ad 10)]) := by
  obtain ⟨hx, hb, hml, hown, hts⟩ := id C0
  obtain ⟨b_23, h⟩ := h
  obtain ⟨σ_24, e_σ_24⟩ : ∃ z : St, z = pL σ (s1).toNatClampNeg s2 := ⟨_, rfl⟩
  have h := h σ_24 e_σ_24
  have hR_σ_24 : tt σ_24 := trivial
  refine w_last (o := 10) hx hb hK.1 hY (by decide) 2 rfl rfl b_23 dX6_cutsAll_27 (ob' := obM ad ci σ_24) (by rw [e_σ_24]; exact obM_pL) (fun H locs hY => ?_)
  refine lv_aload_n hx hb dX6_cutsAll_28 rfl (lv_at hl 0 rfl) ?_
  refine w_get (o := 0) (ci := 6) (C := RX6) (T := TX6) (N1 := 14) (v := .ref (ad 11)) hx hb hts kX6_cutsAll_inX6 hown hK.1 hY (by decide) obM_main rfl 13 (by decide) (hts _ kX6_cutsAll_0) rfl rfl dX6_cutsAll_29 ?_
  refine lv_iload_n hx hb dX6_cutsAll_32 rfl (lv_at hl 1 rfl) ?_
  refine lv_iload_n hx hb dX6_cutsAll_33 rfl (lv_at hl 1 rfl) ?_
  refine lv_aload_n hx hb dX6_cutsAll_34 rfl (lv_at hl 0 rfl) ?_
  refine w_get (o := 0) (ci := 6) (C := RX6) (T := TX6) (N1 := 14) (v := .int (gI σ_24 1)) hx hb hts kX6_cutsAll_inX6 hown hK.1 hY (by decide) obM_main rfl 8 (by decide) (hts _ kX6_cutsAll_5) rfl rfl dX6_cutsAll_35 ?_
  refine lv_icmp_ne (tgt := 45) hx hb dX6_cutsAll_38 (by decide) (fun c_25 => ?_) (fun c_25 => ?_)
  · have h := h.2 c_25
    refine lv_iconst (v := (-1 : Int32)) hx hb dX6_cutsAll_45 (by decide) ?_
    exact tX6_cutsAll_J46 C0 hK K B5 σ_24 x1 x1 (-1 : Int32) hret hB5 h _ _ hY hR_σ_24 _ (lv_sub hl [0, 1] rfl)
  · have h := h.1 c_25
    refine lv_iconst (v := (0 : Int32)) hx hb dX6_cutsAll_41 (by decide) ?_
    refine lv_goto (tgt := 46) hx hb dX6_cutsAll_42 (by decide) ?_
    exact tX6_cutsAll_J46 C0 hK K B5 σ_24 x1 x1 (0 : Int32) hret hB5 h _ _ hY hR_σ_24 _ (lv_sub hl [0, 1] rfl)
set_option maxHeartbeats 4000000 in
set_option maxRecDepth 100000 in
theorem tX6_cutsAll_L5 (C0 : CallFix p m c cX6_cutsAll 5 s args wsX6_cutsAll RX6) (hK : Kx D (tyM ci) s) (K : St → Prop) (hret : ∀ (u : St) (H : Heap) (locs : List Loc) (pc : Nat) (ls : Array Slot), K u → Sy D 12 ad A H0 (obM ad ci u) H locs → tt u → decode cX6_cutsAll pc = .ok (.return_, 1) → W p l e rmX6_cutsAll s m args below meth c H locs 0 0 Q (F0 m pc ls [])) : ∀ (n : Nat) (σ : St) (x1 : Int32), wX6_cutsAll_L5 K n σ x1 → ∀ (H : Heap) (locs : List Loc), Sy D 12 ad A H0 (obM ad ci σ) H locs → tt σ → ∀ ls : Array Slot, lv_has ls 5 [(0, .ref (ad 0)), (1, .int x1)] → W p l e rmX6_cutsAll s m args below meth c H locs 0 0 Q (F0 m 5 ls []) := by
  obtain ⟨hx, hb, hml, hown, hts⟩ := id C0
  intro n
  induction n with
  | zero =>
    intro σ x1 h
    exact h.elim
  | succ n ih =>
    intro σ x1 h H locs hY hR  ls hl
    refine lv_iload_n hx hb dX6_cutsAll_5 rfl (lv_at hl 1 rfl) ?_
    refine lv_if_lt (tgt := 154) hx hb dX6_cutsAll_6 (by decide) (fun c_26 => ?_) (fun c_26 => ?_)
    · have h := h.1 c_26
      exact hret σ _ _ _ _ h hY hR dX6_cutsAll_154
    · have h := h.2 c_26
      refine lv_aload_n hx hb dX6_cutsAll_9 rfl (lv_at hl 0 rfl) ?_
      refine w_get (o := 0) (ci := 6) (C := RX6) (T := TX6) (N1 := 14) (v := .ref (ad 10)) hx hb hts kX6_cutsAll_inX6 hown hK.1 hY (by decide) obM_main rfl 12 (by decide) (hts _ kX6_cutsAll_4) rfl rfl dX6_cutsAll_10 ?_
      refine lv_iload_n hx hb dX6_cutsAll_13 rfl (lv_at hl 1 rfl) ?_
      refine lv_iload_n hx hb dX6_cutsAll_14 rfl (lv_at hl 1 rfl) ?_
      refine lv_aload_n hx hb dX6_cutsAll_15 rfl (lv_at hl 0 rfl) ?_
      refine w_get (o := 0) (ci := 6) (C := RX6) (T := TX6) (N1 := 14) (v := .int (gI σ 1)) hx hb hts kX6_cutsAll_inX6 hown hK.1 hY (by decide) obM_main rfl 8 (by decide) (hts _ kX6_cutsAll_5) rfl rfl dX6_cutsAll_16 ?_
      refine lv_icmp_ne (tgt := 26) hx hb dX6_cutsAll_19 (by decide) (fun c_27 => ?_) (fun c_27 => ?_)
      · have h := h.2 c_27
        refine lv_lconst (v := (0 : Int64)) hx hb dX6_cutsAll_26 (by decide) ?_
        exact tX6_cutsAll_J27 C0 hK K (wX6_cutsAll_L5 K n) σ x1 x1 (0 : Int64) hret ih h _ _ hY hR _ (lv_sub hl [0, 1] rfl)
      · have h := h.1 c_27
        refine lv_lconst (v := (1 : Int64)) hx hb dX6_cutsAll_22 (by decide) ?_
        refine lv_goto (tgt := 27) hx hb dX6_cutsAll_23 (by decide) ?_
        exact tX6_cutsAll_J27 C0 hK K (wX6_cutsAll_L5 K n) σ x1 x1 (1 : Int64) hret ih h _ _ hY hR _ (lv_sub hl [0, 1] rfl)
set_option maxHeartbeats 4000000 in
set_option maxRecDepth 100000 in
theorem eX6_cutsAll (C0 : CallFix p m c cX6_cutsAll 5 s args wsX6_cutsAll RX6) (hK : Kx D (tyM ci) s) (K : St → Prop) (σ : St) (hret : ∀ (u : St) (H : Heap) (locs : List Loc) (pc : Nat) (ls : Array Slot), K u → Sy D 12 ad A H0 (obM ad ci u) H locs → tt u → decode cX6_cutsAll pc = .ok (.return_, 1) → W p l e rmX6_cutsAll s m args below meth c H locs 0 0 Q (F0 m pc ls [])) (h : wX6_cutsAll σ K) (H : Heap) (locs : List Loc) (hY : Sy D 12 ad A H0 (obM ad ci σ) H locs) (hR : tt σ) (ls : Array Slot) (hl : lv_has ls 5 [(0, .ref (ad 0))]) : W p l e rmX6_cutsAll s m args below meth c H locs 0 0 Q (F0 m 0 ls []) := by
  obtain ⟨hx, hb, hml, hown, hts⟩ := id C0
  refine lv_aload_n hx hb dX6_cutsAll_0 rfl (lv_at hl 0 rfl) ?_
  refine w_get (o := 0) (ci := 6) (C := RX6) (T := TX6) (N1 := 14) (v := .int (gI σ 1)) hx hb hts kX6_cutsAll_inX6 hown hK.1 hY (by decide) obM_main rfl 8 (by decide) (hts _ kX6_cutsAll_5) rfl rfl dX6_cutsAll_1 ?_
  refine lv_topi (fun x1_28 e_x1_28 => ?_)
  have h := h x1_28 e_x1_28
  refine lv_istore_n (lv' := [(1, .int x1_28), (0, .ref (ad 0))]) hx hb dX6_cutsAll_4 rfl hl (by decide) rfl (fun ls hl => ?_)
  obtain ⟨n_29, h⟩ := h
  exact tX6_cutsAll_L5 C0 hK K hret n_29 σ x1_28 h _ _ hY hR  _ (lv_sub hl [1, 0] rfl)
set_option maxHeartbeats 4000000 in
set_option maxRecDepth 100000 in
theorem mX6_cutsAll (l : Launch) (D : va_G) (ad : Nat → Nat) (ci : Nat → ClassId) (A : Nat → Prop) (σ : St) (K : St → Prop) (hR : tt σ) (h : wX6_cutsAll σ K) : Met l yX6_cutsAll wsX6_cutsAll rmX6_cutsAll (va_Pc [.ref (ad 0)] (PreW D 12 ad A (tyM ci) (obM ad ci σ))) (va_Qv (fun u => K u) (PostW D 12 ad (tyM ci) (obM ad ci) tt) A) 0 0 A := by
  refine Met.ofW (cc := cX6_cutsAll) (maxL := 5) (ret := none) (by decide) rfl ?_
  intro p e s m args below meth c s₁ B hml hv
  obtain ⟨rfl, hP, hK, hD⟩ := hv
  have C0 : CallFix p m c cX6_cutsAll 5 s _ wsX6_cutsAll RX6 := ⟨B.exec, B.bytes, hml, findClass_of_methodNamed B.named, atoms_spec (ws := wsX6_cutsAll) B.pre⟩
  have hlocks := B.notSynchronized
  have hY : Sy D 12 ad A s.heap (obM ad ci σ) s.heap [] := ⟨hP, hD, va_S.rf⟩
  have hl := lv_entry ([.ref (ad 0)]) (n := 5) (Nat.le_of_ble_eq_true rfl)
  rw [lg_entry_eq]
  generalize (lg_sl ([.ref (ad 0)]) ++ List.replicate (5 - (lg_sl ([.ref (ad 0)])).length) Slot.unset).toArray = ls at hl ⊢
  exact eX6_cutsAll C0 hK K σ (fun u H locs pc ls hk hY hR hd => w_vret (I := tt) B.exec B.bytes B.returns hlocks hK hk (fun t ht => ht) hY hR hd) h _ _ hY hR ls hl
set_option maxHeartbeats 4000000 in
set_option maxRecDepth 100000 in
theorem eX6_cuts (C0 : CallFix p m c cX6_cuts 1 s args wsX6_cuts RX6) (hK : Kx D (tyM ci) s) (K : Int64 → St → Prop) (σ : St) (hret : ∀ (r : Int64) (u : St) (H : Heap) (locs : List Loc) (pc : Nat) (ls : Array Slot), K r u → Sy D 12 ad A H0 (obM ad ci u) H locs → tt u → decode cX6_cuts pc = .ok (.lreturn, 1) → W p l e rmX6_cuts s m args below meth c H locs 0 0 Q (F0 m pc ls [.long r])) (h : wX6_cuts σ K) (H : Heap) (locs : List Loc) (hY : Sy D 12 ad A H0 (obM ad ci σ) H locs) (hR : tt σ) (ls : Array Slot) (hl : lv_has ls 1 [(0, .ref (ad 0))]) : W p l e rmX6_cuts s m args below meth c H locs 0 0 Q (F0 m 0 ls []) := by
  obtain ⟨hx, hb, hml, hown, hts⟩ := id C0
  refine lv_aload_n hx hb dX6_cuts_0 rfl (lv_at hl 0 rfl) ?_
  refine lv_iconst (v := (0 : Int32)) hx hb dX6_cuts_1 (by decide) ?_
  obtain ⟨σ_1, e_σ_1⟩ : ∃ z : St, z = pI σ 0 (0 : Int32) := ⟨_, rfl⟩
  have h := h σ_1 e_σ_1
  have hR_σ_1 : tt σ_1 := trivial
  refine w_put (o := 0) (ci := 6) (C := RX6) (T := TX6) (N1 := 14) hx hb hts kX6_cuts_inX6 tyX6 tyX6_ok nmX6 hown hK.1 hY (by decide) obM_main rfl 0 (by decide) (hts _ kX6_cuts_0) rfl rfl rfl (Nat.le_of_ble_eq_true rfl) dX6_cuts_2 (ob' := obM ad ci σ_1) (by rw [e_σ_1]; exact obM_pI rfl) (fun H locs hY => ?_)
  refine lv_aload_n hx hb dX6_cuts_5 rfl (lv_at hl 0 rfl) ?_
  refine w_callv (rest := []) (va_runV (As := []) (rest := []) C0 (mX6_cutsAll l D ad ci A σ_1 _ hR_σ_1  h) (cwV 0 hts gX6_cuts_X6_cutsAll rfl rfl rfl ddX6_cutsAll ⟨Nat.le_of_ble_eq_true rfl, Nat.le_of_ble_eq_true rfl⟩) (w_preV (o := 0) (ci := 6) (ob := obM ad ci) (σ := σ_1) hK hY (by decide) obM_main rfl rfl) rfl rfl hl.1 rfl (lv_room (Nat.le_of_ble_eq_true rfl)) dX6_cuts_6 ⟨Nat.zero_le _, Nat.zero_le _⟩) hY (fun σ_3 H locs h hY hR_σ_3 => ?_)
  refine lv_aload_n hx hb dX6_cuts_9 rfl (lv_at hl 0 rfl) ?_
  refine w_get (o := 0) (ci := 6) (C := RX6) (T := TX6) (N1 := 14) (v := .ref (ad 10)) hx hb hts kX6_cuts_inX6 hown hK.1 hY (by decide) obM_main rfl 12 (by decide) (hts _ kX6_cuts_2) rfl rfl dX6_cuts_10 ?_
  refine lv_iconst (v := (0 : Int32)) hx hb dX6_cuts_13 (by decide) ?_
  obtain ⟨b_4, h⟩ := h
  refine w_lald (o := 10) hx hb hK.1 hY (by decide) 2 rfl rfl b_4 dX6_cuts_14 ?_
  exact hret (gL σ_3 ((0 : Int32)).toNatClampNeg) σ_3 _ _ _ _ h hY hR_σ_3 dX6_cuts_15
set_option maxHeartbeats 4000000 in
set_option maxRecDepth 100000 in
theorem mX6_cuts (l : Launch) (D : va_G) (ad : Nat → Nat) (ci : Nat → ClassId) (A : Nat → Prop) (σ : St) (K : Int64 → St → Prop) (hR : tt σ) (h : wX6_cuts σ K) : Met l yX6_cuts wsX6_cuts rmX6_cuts (va_Pc [.ref (ad 0)] (PreW D 12 ad A (tyM ci) (obM ad ci σ))) (va_Ql (fun r u => K r u) (PostW D 12 ad (tyM ci) (obM ad ci) tt) A) 0 0 A := by
  refine Met.ofW (cc := cX6_cuts) (maxL := 1) (ret := (some .long)) (by decide) rfl ?_
  intro p e s m args below meth c s₁ B hml hv
  obtain ⟨rfl, hP, hK, hD⟩ := hv
  have C0 : CallFix p m c cX6_cuts 1 s _ wsX6_cuts RX6 := ⟨B.exec, B.bytes, hml, findClass_of_methodNamed B.named, atoms_spec (ws := wsX6_cuts) B.pre⟩
  have hlocks := B.notSynchronized
  have hY : Sy D 12 ad A s.heap (obM ad ci σ) s.heap [] := ⟨hP, hD, va_S.rf⟩
  have hl := lv_entry ([.ref (ad 0)]) (n := 1) (Nat.le_of_ble_eq_true rfl)
  rw [lg_entry_eq]
  generalize (lg_sl ([.ref (ad 0)]) ++ List.replicate (1 - (lg_sl ([.ref (ad 0)])).length) Slot.unset).toArray = ls at hl ⊢
  exact eX6_cuts C0 hK K σ (fun r u H locs pc ls hk hY hR hd => w_lret (I := tt) B.exec B.bytes B.returns hlocks hK hk (fun t ht => ht) hY hR hd) h _ _ hY hR ls hl
set_option maxHeartbeats 4000000 in
set_option maxRecDepth 100000 in
theorem eX6_fewest (C0 : CallFix p m c cX6_fewest 1 s args wsX6_fewest RX6) (hK : Kx D (tyM ci) s) (K : Int32 → St → Prop) (σ : St) (hret : ∀ (r : Int32) (u : St) (H : Heap) (locs : List Loc) (pc : Nat) (ls : Array Slot), K r u → Sy D 12 ad A H0 (obM ad ci u) H locs → tt u → decode cX6_fewest pc = .ok (.ireturn, 1) → W p l e rmX6_fewest s m args below meth c H locs 0 0 Q (F0 m pc ls [.int r])) (h : wX6_fewest σ K) (H : Heap) (locs : List Loc) (hY : Sy D 12 ad A H0 (obM ad ci σ) H locs) (hR : tt σ) (ls : Array Slot) (hl : lv_has ls 1 [(0, .ref (ad 0))]) : W p l e rmX6_fewest s m args below meth c H locs 0 0 Q (F0 m 0 ls []) := by
  obtain ⟨hx, hb, hml, hown, hts⟩ := id C0
  refine lv_aload_n hx hb dX6_fewest_0 rfl (lv_at hl 0 rfl) ?_
  refine lv_iconst (v := (0 : Int32)) hx hb dX6_fewest_1 (by decide) ?_
  obtain ⟨σ_1, e_σ_1⟩ : ∃ z : St, z = pI σ 0 (0 : Int32) := ⟨_, rfl⟩
  have h := h σ_1 e_σ_1
  have hR_σ_1 : tt σ_1 := trivial
  refine w_put (o := 0) (ci := 6) (C := RX6) (T := TX6) (N1 := 14) hx hb hts kX6_fewest_inX6 tyX6 tyX6_ok nmX6 hown hK.1 hY (by decide) obM_main rfl 0 (by decide) (hts _ kX6_fewest_0) rfl rfl rfl (Nat.le_of_ble_eq_true rfl) dX6_fewest_2 (ob' := obM ad ci σ_1) (by rw [e_σ_1]; exact obM_pI rfl) (fun H locs hY => ?_)
  refine lv_aload_n hx hb dX6_fewest_5 rfl (lv_at hl 0 rfl) ?_
  refine w_callv (rest := []) (va_runV (As := []) (rest := []) C0 (mX6_cutsAll l D ad ci A σ_1 _ hR_σ_1  h) (cwV 0 hts gX6_fewest_X6_cutsAll rfl rfl rfl ddX6_cutsAll ⟨Nat.le_of_ble_eq_true rfl, Nat.le_of_ble_eq_true rfl⟩) (w_preV (o := 0) (ci := 6) (ob := obM ad ci) (σ := σ_1) hK hY (by decide) obM_main rfl rfl) rfl rfl hl.1 rfl (lv_room (Nat.le_of_ble_eq_true rfl)) dX6_fewest_6 ⟨Nat.zero_le _, Nat.zero_le _⟩) hY (fun σ_3 H locs h hY hR_σ_3 => ?_)
  refine lv_aload_n hx hb dX6_fewest_9 rfl (lv_at hl 0 rfl) ?_
  refine w_get (o := 0) (ci := 6) (C := RX6) (T := TX6) (N1 := 14) (v := .ref (ad 11)) hx hb hts kX6_fewest_inX6 hown hK.1 hY (by decide) obM_main rfl 13 (by decide) (hts _ kX6_fewest_2) rfl rfl dX6_fewest_10 ?_
  refine lv_iconst (v := (0 : Int32)) hx hb dX6_fewest_13 (by decide) ?_
  obtain ⟨b_4, h⟩ := h
  refine w_iald (o := 11) hx hb hK.1 hY (by decide) 1 rfl rfl b_4 dX6_fewest_14 ?_
  exact hret (gA σ_3 11 ((0 : Int32)).toNatClampNeg) σ_3 _ _ _ _ h hY hR_σ_3 dX6_fewest_15
set_option maxHeartbeats 4000000 in
set_option maxRecDepth 100000 in
theorem mX6_fewest (l : Launch) (D : va_G) (ad : Nat → Nat) (ci : Nat → ClassId) (A : Nat → Prop) (σ : St) (K : Int32 → St → Prop) (hR : tt σ) (h : wX6_fewest σ K) : Met l yX6_fewest wsX6_fewest rmX6_fewest (va_Pc [.ref (ad 0)] (PreW D 12 ad A (tyM ci) (obM ad ci σ))) (va_Qi (fun r u => K r u) (PostW D 12 ad (tyM ci) (obM ad ci) tt) A) 0 0 A := by
  refine Met.ofW (cc := cX6_fewest) (maxL := 1) (ret := (some .int)) (by decide) rfl ?_
  intro p e s m args below meth c s₁ B hml hv
  obtain ⟨rfl, hP, hK, hD⟩ := hv
  have C0 : CallFix p m c cX6_fewest 1 s _ wsX6_fewest RX6 := ⟨B.exec, B.bytes, hml, findClass_of_methodNamed B.named, atoms_spec (ws := wsX6_fewest) B.pre⟩
  have hlocks := B.notSynchronized
  have hY : Sy D 12 ad A s.heap (obM ad ci σ) s.heap [] := ⟨hP, hD, va_S.rf⟩
  have hl := lv_entry ([.ref (ad 0)]) (n := 1) (Nat.le_of_ble_eq_true rfl)
  rw [lg_entry_eq]
  generalize (lg_sl ([.ref (ad 0)]) ++ List.replicate (1 - (lg_sl ([.ref (ad 0)])).length) Slot.unset).toArray = ls at hl ⊢
  exact eX6_fewest C0 hK K σ (fun r u H locs pc ls hk hY hR hd => w_iret (I := tt) B.exec B.bytes B.returns hlocks hK hk (fun t ht => ht) hY hR hd) h _ _ hY hR ls hl
set_option maxHeartbeats 4000000 in
set_option maxRecDepth 100000 in
theorem tX6_code_L62 (C0 : CallFix p m c cX6_code 5 s args wsX6_code RX6) (hK : Kx D (tyM ci) s) (K : Int32 → St → Prop) (x2 : Int32) (x3 : Int32) (hret : ∀ (r : Int32) (u : St) (H : Heap) (locs : List Loc) (pc : Nat) (ls : Array Slot), K r u → Sy D 12 ad A H0 (obM ad ci u) H locs → tt u → decode cX6_code pc = .ok (.ireturn, 1) → W p l e rmX6_code s m args below meth c H locs 0 0 Q (F0 m pc ls [.int r])) : ∀ (n : Nat) (σ : St) (x4 : Int32), wX6_code_L62 K x2 x3 n σ x4 → ∀ (H : Heap) (locs : List Loc), Sy D 12 ad A H0 (obM ad ci σ) H locs → tt σ → ∀ ls : Array Slot, lv_has ls 5 [(0, .ref (ad 0)), (2, .int x2), (3, .int x3), (4, .int x4)] → W p l e rmX6_code s m args below meth c H locs 0 0 Q (F0 m 62 ls []) := by
  obtain ⟨hx, hb, hml, hown, hts⟩ := id C0
  intro n
  induction n with
  | zero =>
    intro σ x4 h
    exact h.elim
  | succ n ih =>
    intro σ x4 h H locs hY hR  ls hl
    refine lv_iload hx hb dX6_code_62 (lv_at hl 3 rfl) ?_
    refine lv_aload_n hx hb dX6_code_64 rfl (lv_at hl 0 rfl) ?_
    refine w_get (o := 0) (ci := 6) (C := RX6) (T := TX6) (N1 := 14) (v := .int (gI σ 1)) hx hb hts kX6_code_inX6 hown hK.1 hY (by decide) obM_main rfl 8 (by decide) (hts _ kX6_code_0) rfl rfl dX6_code_65 ?_
    refine lv_icmp_ge (tgt := 95) hx hb dX6_code_68 (by decide) (fun c_1 => ?_) (fun c_1 => ?_)
    · have h := h.1 c_1
      refine lv_iload_n hx hb dX6_code_95 rfl (lv_at hl 2 rfl) ?_
      exact hret x3 σ _ _ _ _ h hY hR dX6_code_96
    · have h := h.2 c_1
      refine lv_aload_n hx hb dX6_code_71 rfl (lv_at hl 0 rfl) ?_
      refine w_get (o := 0) (ci := 6) (C := RX6) (T := TX6) (N1 := 14) (v := .ref (ad 3)) hx hb hts kX6_code_inX6 hown hK.1 hY (by decide) obM_main rfl 3 (by decide) (hts _ kX6_code_2) rfl rfl dX6_code_72 ?_
      refine lv_iconst (v := (3 : Int32)) hx hb dX6_code_75 (by decide) ?_
      refine lv_iload_n hx hb dX6_code_76 rfl (lv_at hl 1 rfl) ?_
      refine lv_imul hx hb dX6_code_77 ?_
      refine lv_iload hx hb dX6_code_78 (lv_at hl 3 rfl) ?_
      refine lv_iadd hx hb dX6_code_80 ?_
      refine lv_aload_n hx hb dX6_code_81 rfl (lv_at hl 0 rfl) ?_
      refine w_get (o := 0) (ci := 6) (C := RX6) (T := TX6) (N1 := 14) (v := .ref (ad 1)) hx hb hts kX6_code_inX6 hown hK.1 hY (by decide) obM_main rfl 1 (by decide) (hts _ kX6_code_3) rfl rfl dX6_code_82 ?_
      refine lv_iload hx hb dX6_code_85 (lv_at hl 3 rfl) ?_
      obtain ⟨b_2, h⟩ := h
      refine w_cald (o := 1) hx hb hK.1 hY (by decide) 0 rfl rfl b_2 dX6_code_87 ?_
      obtain ⟨b_3, h⟩ := h
      obtain ⟨σ_4, e_σ_4⟩ : ∃ z : St, z = pA σ 3 ((((3 : Int32) * x2) + x4)).toNatClampNeg (vp_nar .char (gA σ 1 (x4).toNatClampNeg)) := ⟨_, rfl⟩
      have h := h σ_4 e_σ_4
      have hR_σ_4 : tt σ_4 := trivial
      refine w_cast (o := 3) hx hb hK.1 hY (by decide) 0 rfl rfl b_3 dX6_code_88 (ob' := obM ad ci σ_4) (by rw [e_σ_4]; exact obM_pA (by rw [← gA_up]; rfl)) (fun H locs hY => ?_)
      refine lv_iinc (v := (x4 + 1)) (lv' := [(4, .int (x4 + 1)), (0, .ref (ad 0)), (2, .int x2), (3, .int x3)]) hx hb dX6_code_89 hl (k := 3) rfl rfl (by decide) rfl (fun ls hl => ?_)
      refine lv_goto (tgt := 62) hx hb dX6_code_92 (by decide) ?_
      exact ih σ_4 (x4 + 1) h _ _ hY hR_σ_4  _ (lv_sub hl [1, 2, 3, 0] rfl)
set_option maxHeartbeats 4000000 in
set_option maxRecDepth 100000 in
theorem tX6_code_J29 (C0 : CallFix p m c cX6_code 5 s args wsX6_code RX6) (hK : Kx D (tyM ci) s) (K : Int32 → St → Prop) (σ : St) (x1 : Int32) (s1 : Int32) (hret : ∀ (r : Int32) (u : St) (H : Heap) (locs : List Loc) (pc : Nat) (ls : Array Slot), K r u → Sy D 12 ad A H0 (obM ad ci u) H locs → tt u → decode cX6_code pc = .ok (.ireturn, 1) → W p l e rmX6_code s m args below meth c H locs 0 0 Q (F0 m pc ls [.int r])) (h : wX6_code_J29 K σ x1 s1) (H : Heap) (locs : List Loc) (hY : Sy D 12 ad A H0 (obM ad ci σ) H locs) (hR : tt σ) (ls : Array Slot) (hl : lv_has ls 5 [(0, .ref (ad 0)), (1, .int x1)]) : W p l e rmX6_code s m args below meth c H locs 0 0 Q (F0 m 29 ls [.int s1, .ref (ad 0)]) := by
  obtain ⟨hx, hb, hml, hown, hts⟩ := id C0
  refine w_calli (rest := []) (va_runV (As := [.int s1]) (rest := []) C0 (mX6_fails l D ad ci A σ s1 _ hR  h) (cwV 1 hts gX6_code_X6_fails rfl rfl rfl ddX6_fails ⟨Nat.le_of_ble_eq_true rfl, Nat.le_of_ble_eq_true rfl⟩) (w_preV (o := 0) (ci := 6) (ob := obM ad ci) (σ := σ) hK hY (by decide) obM_main rfl rfl) rfl rfl hl.1 rfl (lv_room (Nat.le_of_ble_eq_true rfl)) dX6_code_29 ⟨Nat.zero_le _, Nat.zero_le _⟩) hY (fun r_5 σ_6 H locs h hY hR_σ_6 => ?_)
  obtain ⟨n_r_5, h⟩ := h
  refine lv_if_eq (tgt := 37) hx hb dX6_code_32 (by decide) (fun c_7 => ?_) (fun c_7 => ?_)
  · have h := h.1 c_7
    refine lv_iload_n hx hb dX6_code_37 rfl (lv_at hl 1 rfl) ?_
    refine lv_bipush (v := (97 : Int32)) hx hb dX6_code_38 (by decide) ?_
    refine lv_isub hx hb dX6_code_40 ?_
    refine lv_istore_n (lv' := [(2, .int (x1 - (97 : Int32))), (0, .ref (ad 0)), (1, .int x1)]) hx hb dX6_code_41 rfl hl (by decide) rfl (fun ls hl => ?_)
    refine lv_aload_n hx hb dX6_code_42 rfl (lv_at hl 1 rfl) ?_
    refine w_get (o := 0) (ci := 6) (C := RX6) (T := TX6) (N1 := 14) (v := .ref (ad 7)) hx hb hts kX6_code_inX6 hown hK.1 hY (by decide) obM_main rfl 7 (by decide) (hts _ kX6_code_4) rfl rfl dX6_code_43 ?_
    refine lv_iload_n hx hb dX6_code_46 rfl (lv_at hl 0 rfl) ?_
    obtain ⟨b_8, h⟩ := h
    refine w_iald (o := 7) hx hb hK.1 hY (by decide) 1 rfl rfl b_8 dX6_code_47 ?_
    refine lv_topi (fun x3_9 e_x3_9 => ?_)
    have h := h x3_9 e_x3_9
    refine lv_istore_n (lv' := [(3, .int x3_9), (2, .int (x1 - (97 : Int32))), (0, .ref (ad 0)), (1, .int x1)]) hx hb dX6_code_48 rfl hl (by decide) rfl (fun ls hl => ?_)
    refine lv_aload_n hx hb dX6_code_49 rfl (lv_at hl 2 rfl) ?_
    refine w_get (o := 0) (ci := 6) (C := RX6) (T := TX6) (N1 := 14) (v := .ref (ad 7)) hx hb hts kX6_code_inX6 hown hK.1 hY (by decide) obM_main rfl 7 (by decide) (hts _ kX6_code_4) rfl rfl dX6_code_50 ?_
    refine lv_iload_n hx hb dX6_code_53 rfl (lv_at hl 1 rfl) ?_
    refine lv_aload_n hx hb dX6_code_54 rfl (lv_at hl 2 rfl) ?_
    refine w_get (o := 0) (ci := 6) (C := RX6) (T := TX6) (N1 := 14) (v := .int (gI σ_6 1)) hx hb hts kX6_code_inX6 hown hK.1 hY (by decide) obM_main rfl 8 (by decide) (hts _ kX6_code_0) rfl rfl dX6_code_55 ?_
    obtain ⟨b_10, h⟩ := h
    obtain ⟨σ_11, e_σ_11⟩ : ∃ z : St, z = pA σ_6 7 ((x1 - (97 : Int32))).toNatClampNeg (gI σ_6 1) := ⟨_, rfl⟩
    have h := h σ_11 e_σ_11
    have hR_σ_11 : tt σ_11 := trivial
    refine w_iast (o := 7) hx hb hK.1 hY (by decide) 1 rfl rfl b_10 dX6_code_58 (ob' := obM ad ci σ_11) (by rw [e_σ_11]; exact obM_pA (by rw [← gA_up]; rfl)) (fun H locs hY => ?_)
    refine lv_iconst (v := (0 : Int32)) hx hb dX6_code_59 (by decide) ?_
    refine lv_istore (lv' := [(4, .int (0 : Int32)), (3, .int x3_9), (2, .int (x1 - (97 : Int32))), (0, .ref (ad 0)), (1, .int x1)]) hx hb dX6_code_60 hl (by decide) rfl (fun ls hl => ?_)
    obtain ⟨n_12, h⟩ := h
    exact tX6_code_L62 C0 hK K (x1 - (97 : Int32)) x3_9 hret n_12 σ_11 (0 : Int32) h _ _ hY hR_σ_11  _ (lv_sub hl [3, 2, 1, 0] rfl)
  · have h := h.2 c_7
    refine lv_iconst (v := (0 : Int32)) hx hb dX6_code_35 (by decide) ?_
    exact hret (0 : Int32) σ_6 _ _ _ _ h hY hR_σ_6 dX6_code_36
set_option maxHeartbeats 4000000 in
set_option maxRecDepth 100000 in
theorem eX6_code (C0 : CallFix p m c cX6_code 5 s args wsX6_code RX6) (hK : Kx D (tyM ci) s) (K : Int32 → St → Prop) (σ : St) (hret : ∀ (r : Int32) (u : St) (H : Heap) (locs : List Loc) (pc : Nat) (ls : Array Slot), K r u → Sy D 12 ad A H0 (obM ad ci u) H locs → tt u → decode cX6_code pc = .ok (.ireturn, 1) → W p l e rmX6_code s m args below meth c H locs 0 0 Q (F0 m pc ls [.int r])) (x1 : Int32) (h : wX6_code σ x1 K) (H : Heap) (locs : List Loc) (hY : Sy D 12 ad A H0 (obM ad ci σ) H locs) (hR : tt σ) (ls : Array Slot) (hl : lv_has ls 5 [(0, .ref (ad 0)), (1, .int x1)]) : W p l e rmX6_code s m args below meth c H locs 0 0 Q (F0 m 0 ls []) := by
  obtain ⟨hx, hb, hml, hown, hts⟩ := id C0
  refine lv_aload_n hx hb dX6_code_0 rfl (lv_at hl 0 rfl) ?_
  refine lv_iload_n hx hb dX6_code_1 rfl (lv_at hl 1 rfl) ?_
  refine w_callip (rest := [.ref (ad 0)]) (va_runS (As := [.int x1]) (rest := [.ref (ad 0)]) C0 (mX6_isSign l D ad ci A σ x1 _ hR  h) (va_cwS 1 hts gX6_code_X6_isSign rfl rfl rfl ddX6_isSign ⟨Nat.le_of_ble_eq_true rfl, Nat.le_of_ble_eq_true rfl⟩) (w_preS (ob := obM ad ci) (σ := σ) hK hY) rfl rfl hl.1 rfl (lv_room (Nat.le_of_ble_eq_true rfl)) dX6_code_2 ⟨Nat.zero_le _, Nat.zero_le _⟩) hY (fun r_13 H locs h hY => ?_)
  obtain ⟨n_r_13, h⟩ := h
  refine lv_if_ne (tgt := 12) hx hb dX6_code_5 (by decide) (fun c_14 => ?_) (fun c_14 => ?_)
  · have h := h.2 c_14
    refine lv_aload_n hx hb dX6_code_12 rfl (lv_at hl 0 rfl) ?_
    refine w_get (o := 0) (ci := 6) (C := RX6) (T := TX6) (N1 := 14) (v := .int (gI σ 1)) hx hb hts kX6_code_inX6 hown hK.1 hY (by decide) obM_main rfl 8 (by decide) (hts _ kX6_code_0) rfl rfl dX6_code_13 ?_
    refine lv_iconst (v := (1 : Int32)) hx hb dX6_code_16 (by decide) ?_
    refine lv_iconst (v := (3 : Int32)) hx hb dX6_code_17 (by decide) ?_
    refine w_callip (rest := [.ref (ad 0)]) (va_runS (As := [.int (gI σ 1), .int (1 : Int32), .int (3 : Int32)]) (rest := [.ref (ad 0)]) C0 (mX6_in l D ad ci A σ (gI σ 1) (1 : Int32) (3 : Int32) _ hR  h) (va_cwS 3 hts gX6_code_X6_in rfl rfl rfl ddX6_in ⟨Nat.le_of_ble_eq_true rfl, Nat.le_of_ble_eq_true rfl⟩) (w_preS (ob := obM ad ci) (σ := σ) hK hY) rfl rfl hl.1 rfl (lv_room (Nat.le_of_ble_eq_true rfl)) dX6_code_18 ⟨Nat.zero_le _, Nat.zero_le _⟩) hY (fun r_15 H locs h hY => ?_)
    obtain ⟨n_r_15, h⟩ := h
    refine lv_if_ne (tgt := 28) hx hb dX6_code_21 (by decide) (fun c_16 => ?_) (fun c_16 => ?_)
    · have h := h.2 c_16
      refine lv_iconst (v := (0 : Int32)) hx hb dX6_code_28 (by decide) ?_
      exact tX6_code_J29 C0 hK K σ x1 (0 : Int32) hret h _ _ hY hR _ (lv_sub hl [0, 1] rfl)
    · have h := h.1 c_16
      refine lv_iconst (v := (2 : Int32)) hx hb dX6_code_24 (by decide) ?_
      refine lv_goto (tgt := 29) hx hb dX6_code_25 (by decide) ?_
      exact tX6_code_J29 C0 hK K σ x1 (2 : Int32) hret h _ _ hY hR _ (lv_sub hl [0, 1] rfl)
  · have h := h.1 c_14
    refine lv_iconst (v := (1 : Int32)) hx hb dX6_code_8 (by decide) ?_
    refine lv_goto (tgt := 29) hx hb dX6_code_9 (by decide) ?_
    exact tX6_code_J29 C0 hK K σ x1 (1 : Int32) hret h _ _ hY hR _ (lv_sub hl [0, 1] rfl)
set_option maxHeartbeats 4000000 in
set_option maxRecDepth 100000 in
theorem mX6_code (l : Launch) (D : va_G) (ad : Nat → Nat) (ci : Nat → ClassId) (A : Nat → Prop) (σ : St) (x1 : Int32) (K : Int32 → St → Prop) (hR : tt σ) (h : wX6_code σ x1 K) : Met l yX6_code wsX6_code rmX6_code (va_Pc [.ref (ad 0), .int x1] (PreW D 12 ad A (tyM ci) (obM ad ci σ))) (va_Qi (fun r u => K r u) (PostW D 12 ad (tyM ci) (obM ad ci) tt) A) 0 0 A := by
  refine Met.ofW (cc := cX6_code) (maxL := 5) (ret := (some .int)) (by decide) rfl ?_
  intro p e s m args below meth c s₁ B hml hv
  obtain ⟨rfl, hP, hK, hD⟩ := hv
  have C0 : CallFix p m c cX6_code 5 s _ wsX6_code RX6 := ⟨B.exec, B.bytes, hml, findClass_of_methodNamed B.named, atoms_spec (ws := wsX6_code) B.pre⟩
  have hlocks := B.notSynchronized
  have hY : Sy D 12 ad A s.heap (obM ad ci σ) s.heap [] := ⟨hP, hD, va_S.rf⟩
  have hl := lv_entry ([.ref (ad 0), .int x1]) (n := 5) (Nat.le_of_ble_eq_true rfl)
  rw [lg_entry_eq]
  generalize (lg_sl ([.ref (ad 0), .int x1]) ++ List.replicate (5 - (lg_sl ([.ref (ad 0), .int x1])).length) Slot.unset).toArray = ls at hl ⊢
  exact eX6_code C0 hK K σ (fun r u H locs pc ls hk hY hR hd => w_iret (I := tt) B.exec B.bytes B.returns hlocks hK hk (fun t ht => ht) hY hR hd) x1 h _ _ hY hR ls hl
set_option maxHeartbeats 4000000 in
set_option maxRecDepth 100000 in
theorem tX6_isAhead_J51 (C0 : CallFix p m c cX6_isAhead 4 s args wsX6_isAhead RX6) (hK : Kx D (tyM ci) s) (K : Int32 → Prop) (σ : St) (x1 : Int32) (x2 : Int32) (x3 : Int32) (hret : ∀ (r : Int32) (H : Heap) (locs : List Loc) (pc : Nat) (ls : Array Slot), narrow .boolean (.int r) = .int r → K r → Sy D 12 ad A H0 (obM ad ci σ) H locs → decode cX6_isAhead pc = .ok (.ireturn, 1) → W p l e rmX6_isAhead s m args below meth c H locs 0 0 Q (F0 m pc ls [.int r])) (h : wX6_isAhead_J51 K σ x1 x2 x3) (H : Heap) (locs : List Loc) (hY : Sy D 12 ad A H0 (obM ad ci σ) H locs) (hR : tt σ) (ls : Array Slot) (hl : lv_has ls 4 [(0, .ref (ad 0)), (1, .int x1), (2, .int x2), (3, .int x3)]) : W p l e rmX6_isAhead s m args below meth c H locs 0 0 Q (F0 m 51 ls []) := by
  obtain ⟨hx, hb, hml, hown, hts⟩ := id C0
  refine lv_iload_n hx hb dX6_isAhead_51 rfl (lv_at hl 3 rfl) ?_
  refine lv_aload_n hx hb dX6_isAhead_52 rfl (lv_at hl 0 rfl) ?_
  refine w_get (o := 0) (ci := 6) (C := RX6) (T := TX6) (N1 := 14) (v := .ref (ad 7)) hx hb hts kX6_isAhead_inX6 hown hK.1 hY (by decide) obM_main rfl 7 (by decide) (hts _ kX6_isAhead_0) rfl rfl dX6_isAhead_53 ?_
  refine lv_iload_n hx hb dX6_isAhead_56 rfl (lv_at hl 1 rfl) ?_
  obtain ⟨b_1, h⟩ := h
  refine w_iald (o := 7) hx hb hK.1 hY (by decide) 1 rfl rfl b_1 dX6_isAhead_57 ?_
  refine lv_icmp_ge (tgt := 98) hx hb dX6_isAhead_58 (by decide) (fun c_2 => ?_) (fun c_2 => ?_)
  · have h := h.1 c_2
    refine lv_iconst (v := (0 : Int32)) hx hb dX6_isAhead_98 (by decide) ?_
    exact hret (0 : Int32) _ _ _ _ rfl h hY dX6_isAhead_99
  · have h := h.2 c_2
    refine lv_iload_n hx hb dX6_isAhead_61 rfl (lv_at hl 3 rfl) ?_
    refine lv_aload_n hx hb dX6_isAhead_62 rfl (lv_at hl 0 rfl) ?_
    refine w_get (o := 0) (ci := 6) (C := RX6) (T := TX6) (N1 := 14) (v := .ref (ad 7)) hx hb hts kX6_isAhead_inX6 hown hK.1 hY (by decide) obM_main rfl 7 (by decide) (hts _ kX6_isAhead_0) rfl rfl dX6_isAhead_63 ?_
    refine lv_iload_n hx hb dX6_isAhead_66 rfl (lv_at hl 2 rfl) ?_
    obtain ⟨b_3, h⟩ := h
    refine w_iald (o := 7) hx hb hK.1 hY (by decide) 1 rfl rfl b_3 dX6_isAhead_67 ?_
    refine lv_icmp_ge (tgt := 98) hx hb dX6_isAhead_68 (by decide) (fun c_4 => ?_) (fun c_4 => ?_)
    · have h := h.1 c_4
      refine lv_iconst (v := (0 : Int32)) hx hb dX6_isAhead_98 (by decide) ?_
      exact hret (0 : Int32) _ _ _ _ rfl h hY dX6_isAhead_99
    · have h := h.2 c_4
      refine lv_aload_n hx hb dX6_isAhead_71 rfl (lv_at hl 0 rfl) ?_
      refine w_get (o := 0) (ci := 6) (C := RX6) (T := TX6) (N1 := 14) (v := .ref (ad 3)) hx hb hts kX6_isAhead_inX6 hown hK.1 hY (by decide) obM_main rfl 3 (by decide) (hts _ kX6_isAhead_2) rfl rfl dX6_isAhead_72 ?_
      refine lv_iconst (v := (3 : Int32)) hx hb dX6_isAhead_75 (by decide) ?_
      refine lv_iload_n hx hb dX6_isAhead_76 rfl (lv_at hl 1 rfl) ?_
      refine lv_imul hx hb dX6_isAhead_77 ?_
      refine lv_iload_n hx hb dX6_isAhead_78 rfl (lv_at hl 3 rfl) ?_
      refine lv_iadd hx hb dX6_isAhead_79 ?_
      obtain ⟨b_5, h⟩ := h
      refine w_cald (o := 3) hx hb hK.1 hY (by decide) 0 rfl rfl b_5 dX6_isAhead_80 ?_
      refine lv_aload_n hx hb dX6_isAhead_81 rfl (lv_at hl 0 rfl) ?_
      refine w_get (o := 0) (ci := 6) (C := RX6) (T := TX6) (N1 := 14) (v := .ref (ad 3)) hx hb hts kX6_isAhead_inX6 hown hK.1 hY (by decide) obM_main rfl 3 (by decide) (hts _ kX6_isAhead_2) rfl rfl dX6_isAhead_82 ?_
      refine lv_iconst (v := (3 : Int32)) hx hb dX6_isAhead_85 (by decide) ?_
      refine lv_iload_n hx hb dX6_isAhead_86 rfl (lv_at hl 2 rfl) ?_
      refine lv_imul hx hb dX6_isAhead_87 ?_
      refine lv_iload_n hx hb dX6_isAhead_88 rfl (lv_at hl 3 rfl) ?_
      refine lv_iadd hx hb dX6_isAhead_89 ?_
      obtain ⟨b_6, h⟩ := h
      refine w_cald (o := 3) hx hb hK.1 hY (by decide) 0 rfl rfl b_6 dX6_isAhead_90 ?_
      refine lv_icmp_ge (tgt := 98) hx hb dX6_isAhead_91 (by decide) (fun c_7 => ?_) (fun c_7 => ?_)
      · have h := h.1 c_7
        refine lv_iconst (v := (0 : Int32)) hx hb dX6_isAhead_98 (by decide) ?_
        exact hret (0 : Int32) _ _ _ _ rfl h hY dX6_isAhead_99
      · have h := h.2 c_7
        refine lv_iconst (v := (1 : Int32)) hx hb dX6_isAhead_94 (by decide) ?_
        refine lv_goto (tgt := 99) hx hb dX6_isAhead_95 (by decide) ?_
        exact hret (1 : Int32) _ _ _ _ rfl h hY dX6_isAhead_99
set_option maxHeartbeats 4000000 in
set_option maxRecDepth 100000 in
theorem tX6_isAhead_L2 (C0 : CallFix p m c cX6_isAhead 4 s args wsX6_isAhead RX6) (hK : Kx D (tyM ci) s) (K : Int32 → Prop) (σ : St) (x1 : Int32) (x2 : Int32) (hret : ∀ (r : Int32) (H : Heap) (locs : List Loc) (pc : Nat) (ls : Array Slot), narrow .boolean (.int r) = .int r → K r → Sy D 12 ad A H0 (obM ad ci σ) H locs → decode cX6_isAhead pc = .ok (.ireturn, 1) → W p l e rmX6_isAhead s m args below meth c H locs 0 0 Q (F0 m pc ls [.int r])) : ∀ (n : Nat) (x3 : Int32), wX6_isAhead_L2 K σ x1 x2 n x3 → ∀ (H : Heap) (locs : List Loc), Sy D 12 ad A H0 (obM ad ci σ) H locs → tt σ → ∀ ls : Array Slot, lv_has ls 4 [(0, .ref (ad 0)), (1, .int x1), (2, .int x2), (3, .int x3)] → W p l e rmX6_isAhead s m args below meth c H locs 0 0 Q (F0 m 2 ls []) := by
  obtain ⟨hx, hb, hml, hown, hts⟩ := id C0
  intro n
  induction n with
  | zero =>
    intro x3 h
    exact h.elim
  | succ n ih =>
    intro x3 h H locs hY hR  ls hl
    refine lv_iload_n hx hb dX6_isAhead_2 rfl (lv_at hl 3 rfl) ?_
    refine lv_aload_n hx hb dX6_isAhead_3 rfl (lv_at hl 0 rfl) ?_
    refine w_get (o := 0) (ci := 6) (C := RX6) (T := TX6) (N1 := 14) (v := .ref (ad 7)) hx hb hts kX6_isAhead_inX6 hown hK.1 hY (by decide) obM_main rfl 7 (by decide) (hts _ kX6_isAhead_0) rfl rfl dX6_isAhead_4 ?_
    refine lv_iload_n hx hb dX6_isAhead_7 rfl (lv_at hl 1 rfl) ?_
    obtain ⟨b_8, h⟩ := h
    refine w_iald (o := 7) hx hb hK.1 hY (by decide) 1 rfl rfl b_8 dX6_isAhead_8 ?_
    refine lv_icmp_ge (tgt := 51) hx hb dX6_isAhead_9 (by decide) (fun c_9 => ?_) (fun c_9 => ?_)
    · have h := h.1 c_9
      exact tX6_isAhead_J51 C0 hK K σ x1 x2 x3 hret h _ _ hY hR _ (lv_sub hl [0, 1, 2, 3] rfl)
    · have h := h.2 c_9
      refine lv_iload_n hx hb dX6_isAhead_12 rfl (lv_at hl 3 rfl) ?_
      refine lv_aload_n hx hb dX6_isAhead_13 rfl (lv_at hl 0 rfl) ?_
      refine w_get (o := 0) (ci := 6) (C := RX6) (T := TX6) (N1 := 14) (v := .ref (ad 7)) hx hb hts kX6_isAhead_inX6 hown hK.1 hY (by decide) obM_main rfl 7 (by decide) (hts _ kX6_isAhead_0) rfl rfl dX6_isAhead_14 ?_
      refine lv_iload_n hx hb dX6_isAhead_17 rfl (lv_at hl 2 rfl) ?_
      obtain ⟨b_10, h⟩ := h
      refine w_iald (o := 7) hx hb hK.1 hY (by decide) 1 rfl rfl b_10 dX6_isAhead_18 ?_
      refine lv_icmp_ge (tgt := 51) hx hb dX6_isAhead_19 (by decide) (fun c_11 => ?_) (fun c_11 => ?_)
      · have h := h.1 c_11
        exact tX6_isAhead_J51 C0 hK K σ x1 x2 x3 hret h _ _ hY hR _ (lv_sub hl [0, 1, 2, 3] rfl)
      · have h := h.2 c_11
        refine lv_aload_n hx hb dX6_isAhead_22 rfl (lv_at hl 0 rfl) ?_
        refine w_get (o := 0) (ci := 6) (C := RX6) (T := TX6) (N1 := 14) (v := .ref (ad 3)) hx hb hts kX6_isAhead_inX6 hown hK.1 hY (by decide) obM_main rfl 3 (by decide) (hts _ kX6_isAhead_2) rfl rfl dX6_isAhead_23 ?_
        refine lv_iconst (v := (3 : Int32)) hx hb dX6_isAhead_26 (by decide) ?_
        refine lv_iload_n hx hb dX6_isAhead_27 rfl (lv_at hl 1 rfl) ?_
        refine lv_imul hx hb dX6_isAhead_28 ?_
        refine lv_iload_n hx hb dX6_isAhead_29 rfl (lv_at hl 3 rfl) ?_
        refine lv_iadd hx hb dX6_isAhead_30 ?_
        obtain ⟨b_12, h⟩ := h
        refine w_cald (o := 3) hx hb hK.1 hY (by decide) 0 rfl rfl b_12 dX6_isAhead_31 ?_
        refine lv_aload_n hx hb dX6_isAhead_32 rfl (lv_at hl 0 rfl) ?_
        refine w_get (o := 0) (ci := 6) (C := RX6) (T := TX6) (N1 := 14) (v := .ref (ad 3)) hx hb hts kX6_isAhead_inX6 hown hK.1 hY (by decide) obM_main rfl 3 (by decide) (hts _ kX6_isAhead_2) rfl rfl dX6_isAhead_33 ?_
        refine lv_iconst (v := (3 : Int32)) hx hb dX6_isAhead_36 (by decide) ?_
        refine lv_iload_n hx hb dX6_isAhead_37 rfl (lv_at hl 2 rfl) ?_
        refine lv_imul hx hb dX6_isAhead_38 ?_
        refine lv_iload_n hx hb dX6_isAhead_39 rfl (lv_at hl 3 rfl) ?_
        refine lv_iadd hx hb dX6_isAhead_40 ?_
        obtain ⟨b_13, h⟩ := h
        refine w_cald (o := 3) hx hb hK.1 hY (by decide) 0 rfl rfl b_13 dX6_isAhead_41 ?_
        refine lv_icmp_ne (tgt := 51) hx hb dX6_isAhead_42 (by decide) (fun c_14 => ?_) (fun c_14 => ?_)
        · have h := h.2 c_14
          exact tX6_isAhead_J51 C0 hK K σ x1 x2 x3 hret h _ _ hY hR _ (lv_sub hl [0, 1, 2, 3] rfl)
        · have h := h.1 c_14
          refine lv_iinc (v := (x3 + 1)) (lv' := [(3, .int (x3 + 1)), (0, .ref (ad 0)), (1, .int x1), (2, .int x2)]) hx hb dX6_isAhead_45 hl (k := 3) rfl rfl (by decide) rfl (fun ls hl => ?_)
          refine lv_goto (tgt := 2) hx hb dX6_isAhead_48 (by decide) ?_
          exact ih (x3 + 1) h _ _ hY hR  _ (lv_sub hl [1, 2, 3, 0] rfl)
set_option maxHeartbeats 4000000 in
set_option maxRecDepth 100000 in
theorem eX6_isAhead (C0 : CallFix p m c cX6_isAhead 4 s args wsX6_isAhead RX6) (hK : Kx D (tyM ci) s) (K : Int32 → Prop) (σ : St) (hret : ∀ (r : Int32) (H : Heap) (locs : List Loc) (pc : Nat) (ls : Array Slot), narrow .boolean (.int r) = .int r → K r → Sy D 12 ad A H0 (obM ad ci σ) H locs → decode cX6_isAhead pc = .ok (.ireturn, 1) → W p l e rmX6_isAhead s m args below meth c H locs 0 0 Q (F0 m pc ls [.int r])) (x1 : Int32) (x2 : Int32) (h : wX6_isAhead σ x1 x2 K) (H : Heap) (locs : List Loc) (hY : Sy D 12 ad A H0 (obM ad ci σ) H locs) (hR : tt σ) (ls : Array Slot) (hl : lv_has ls 4 [(0, .ref (ad 0)), (1, .int x1), (2, .int x2)]) : W p l e rmX6_isAhead s m args below meth c H locs 0 0 Q (F0 m 0 ls []) := by
  obtain ⟨hx, hb, hml, hown, hts⟩ := id C0
  refine lv_iconst (v := (0 : Int32)) hx hb dX6_isAhead_0 (by decide) ?_
  refine lv_istore_n (lv' := [(3, .int (0 : Int32)), (0, .ref (ad 0)), (1, .int x1), (2, .int x2)]) hx hb dX6_isAhead_1 rfl hl (by decide) rfl (fun ls hl => ?_)
  obtain ⟨n_15, h⟩ := h
  exact tX6_isAhead_L2 C0 hK K σ x1 x2 hret n_15 (0 : Int32) h _ _ hY hR  _ (lv_sub hl [1, 2, 3, 0] rfl)
set_option maxHeartbeats 4000000 in
set_option maxRecDepth 100000 in
theorem mX6_isAhead (l : Launch) (D : va_G) (ad : Nat → Nat) (ci : Nat → ClassId) (A : Nat → Prop) (σ : St) (x1 : Int32) (x2 : Int32) (K : Int32 → Prop) (hR : tt σ) (h : wX6_isAhead σ x1 x2 K) : Met l yX6_isAhead wsX6_isAhead rmX6_isAhead (va_Pc [.ref (ad 0), .int x1, .int x2] (PreW D 12 ad A (tyM ci) (obM ad ci σ))) (va_Qi (fun r (_ : Unit) => narrow .boolean (.int r) = .int r ∧ K r) (fun _ => (PostW D 12 ad (tyM ci) (obM ad ci) tt σ)) A) 0 0 A := by
  refine Met.ofW (cc := cX6_isAhead) (maxL := 4) (ret := (some .boolean)) (by decide) rfl ?_
  intro p e s m args below meth c s₁ B hml hv
  obtain ⟨rfl, hP, hK, hD⟩ := hv
  have C0 : CallFix p m c cX6_isAhead 4 s _ wsX6_isAhead RX6 := ⟨B.exec, B.bytes, hml, findClass_of_methodNamed B.named, atoms_spec (ws := wsX6_isAhead) B.pre⟩
  have hlocks := B.notSynchronized
  have hY : Sy D 12 ad A s.heap (obM ad ci σ) s.heap [] := ⟨hP, hD, va_S.rf⟩
  have hl := lv_entry ([.ref (ad 0), .int x1, .int x2]) (n := 4) (Nat.le_of_ble_eq_true rfl)
  rw [lg_entry_eq]
  generalize (lg_sl ([.ref (ad 0), .int x1, .int x2]) ++ List.replicate (4 - (lg_sl ([.ref (ad 0), .int x1, .int x2])).length) Slot.unset).toArray = ls at hl ⊢
  exact eX6_isAhead C0 hK K σ (fun r H locs pc ls hn hk hY hd => w_zret (I := tt) B.exec B.bytes B.returns hn hlocks (u := ()) hK ⟨hn, hk⟩ (fun t ht => ht) hY hR hd) x1 x2 h _ _ hY hR ls hl
set_option maxHeartbeats 4000000 in
set_option maxRecDepth 100000 in
theorem tX6_areOrderly_L10 (C0 : CallFix p m c cX6_areOrderly 3 s args wsX6_areOrderly RX6) (hK : Kx D (tyM ci) s) (K : Int32 → Prop) (B2 : Int32 → Prop) (σ : St) (x1 : Int32) (hret : ∀ (r : Int32) (H : Heap) (locs : List Loc) (pc : Nat) (ls : Array Slot), narrow .boolean (.int r) = .int r → K r → Sy D 12 ad A H0 (obM ad ci σ) H locs → decode cX6_areOrderly pc = .ok (.ireturn, 1) → W p l e rmX6_areOrderly s m args below meth c H locs 0 0 Q (F0 m pc ls [.int r])) (hB2 : ∀ (x1 : Int32), B2 x1 → ∀ (H : Heap) (locs : List Loc), Sy D 12 ad A H0 (obM ad ci σ) H locs → tt σ → ∀ ls : Array Slot, lv_has ls 3 [(0, .ref (ad 0)), (1, .int x1)] → W p l e rmX6_areOrderly s m args below meth c H locs 0 0 Q (F0 m 2 ls [])) : ∀ (n : Nat) (x2 : Int32), wX6_areOrderly_L10 K B2 σ x1 n x2 → ∀ (H : Heap) (locs : List Loc), Sy D 12 ad A H0 (obM ad ci σ) H locs → tt σ → ∀ ls : Array Slot, lv_has ls 3 [(0, .ref (ad 0)), (1, .int x1), (2, .int x2)] → W p l e rmX6_areOrderly s m args below meth c H locs 0 0 Q (F0 m 10 ls []) := by
  obtain ⟨hx, hb, hml, hown, hts⟩ := id C0
  intro n
  induction n with
  | zero =>
    intro x2 h
    exact h.elim
  | succ n ih =>
    intro x2 h H locs hY hR  ls hl
    refine lv_iload_n hx hb dX6_areOrderly_10 rfl (lv_at hl 2 rfl) ?_
    refine lv_iload_n hx hb dX6_areOrderly_11 rfl (lv_at hl 1 rfl) ?_
    refine lv_icmp_ge (tgt := 32) hx hb dX6_areOrderly_12 (by decide) (fun c_1 => ?_) (fun c_1 => ?_)
    · have h := h.1 c_1
      refine lv_iinc (v := (x1 + 1)) (lv' := [(1, .int (x1 + 1)), (0, .ref (ad 0)), (2, .int x2)]) hx hb dX6_areOrderly_32 hl (k := 1) rfl rfl (by decide) rfl (fun ls hl => ?_)
      refine lv_goto (tgt := 2) hx hb dX6_areOrderly_35 (by decide) ?_
      exact hB2 (x1 + 1) h _ _ hY hR  _ (lv_sub hl [1, 0] rfl)
    · have h := h.2 c_1
      refine lv_aload_n hx hb dX6_areOrderly_15 rfl (lv_at hl 0 rfl) ?_
      refine lv_iload_n hx hb dX6_areOrderly_16 rfl (lv_at hl 2 rfl) ?_
      refine lv_iload_n hx hb dX6_areOrderly_17 rfl (lv_at hl 1 rfl) ?_
      refine w_callip (rest := []) (va_runV (As := [.int x2, .int x1]) (rest := []) C0 (mX6_isAhead l D ad ci A σ x2 x1 _ hR  h) (cwV 2 hts gX6_areOrderly_X6_isAhead rfl rfl rfl ddX6_isAhead ⟨Nat.le_of_ble_eq_true rfl, Nat.le_of_ble_eq_true rfl⟩) (w_preV (o := 0) (ci := 6) (ob := obM ad ci) (σ := σ) hK hY (by decide) obM_main rfl rfl) rfl rfl hl.1 rfl (lv_room (Nat.le_of_ble_eq_true rfl)) dX6_areOrderly_18 ⟨Nat.zero_le _, Nat.zero_le _⟩) hY (fun r_2 H locs h hY => ?_)
      obtain ⟨n_r_2, h⟩ := h
      refine lv_if_ne (tgt := 26) hx hb dX6_areOrderly_21 (by decide) (fun c_3 => ?_) (fun c_3 => ?_)
      · have h := h.2 c_3
        refine lv_iinc (v := (x2 + 1)) (lv' := [(2, .int (x2 + 1)), (0, .ref (ad 0)), (1, .int x1)]) hx hb dX6_areOrderly_26 hl (k := 2) rfl rfl (by decide) rfl (fun ls hl => ?_)
        refine lv_goto (tgt := 10) hx hb dX6_areOrderly_29 (by decide) ?_
        exact ih (x2 + 1) h _ _ hY hR  _ (lv_sub hl [1, 2, 0] rfl)
      · have h := h.1 c_3
        refine lv_iconst (v := (0 : Int32)) hx hb dX6_areOrderly_24 (by decide) ?_
        exact hret (0 : Int32) _ _ _ _ rfl h hY dX6_areOrderly_25
set_option maxHeartbeats 4000000 in
set_option maxRecDepth 100000 in
theorem tX6_areOrderly_L2 (C0 : CallFix p m c cX6_areOrderly 3 s args wsX6_areOrderly RX6) (hK : Kx D (tyM ci) s) (K : Int32 → Prop) (σ : St) (hret : ∀ (r : Int32) (H : Heap) (locs : List Loc) (pc : Nat) (ls : Array Slot), narrow .boolean (.int r) = .int r → K r → Sy D 12 ad A H0 (obM ad ci σ) H locs → decode cX6_areOrderly pc = .ok (.ireturn, 1) → W p l e rmX6_areOrderly s m args below meth c H locs 0 0 Q (F0 m pc ls [.int r])) : ∀ (n : Nat) (x1 : Int32), wX6_areOrderly_L2 K σ n x1 → ∀ (H : Heap) (locs : List Loc), Sy D 12 ad A H0 (obM ad ci σ) H locs → tt σ → ∀ ls : Array Slot, lv_has ls 3 [(0, .ref (ad 0)), (1, .int x1)] → W p l e rmX6_areOrderly s m args below meth c H locs 0 0 Q (F0 m 2 ls []) := by
  obtain ⟨hx, hb, hml, hown, hts⟩ := id C0
  intro n
  induction n with
  | zero =>
    intro x1 h
    exact h.elim
  | succ n ih =>
    intro x1 h H locs hY hR  ls hl
    refine lv_iload_n hx hb dX6_areOrderly_2 rfl (lv_at hl 1 rfl) ?_
    refine lv_bipush (v := (6 : Int32)) hx hb dX6_areOrderly_3 (by decide) ?_
    refine lv_icmp_ge (tgt := 38) hx hb dX6_areOrderly_5 (by decide) (fun c_4 => ?_) (fun c_4 => ?_)
    · have h := h.1 c_4
      refine lv_iconst (v := (1 : Int32)) hx hb dX6_areOrderly_38 (by decide) ?_
      exact hret (1 : Int32) _ _ _ _ rfl h hY dX6_areOrderly_39
    · have h := h.2 c_4
      refine lv_iconst (v := (0 : Int32)) hx hb dX6_areOrderly_8 (by decide) ?_
      refine lv_istore_n (lv' := [(2, .int (0 : Int32)), (0, .ref (ad 0)), (1, .int x1)]) hx hb dX6_areOrderly_9 rfl hl (by decide) rfl (fun ls hl => ?_)
      obtain ⟨n_5, h⟩ := h
      exact tX6_areOrderly_L10 C0 hK K (wX6_areOrderly_L2 K σ n) σ x1 hret ih n_5 (0 : Int32) h _ _ hY hR  _ (lv_sub hl [1, 2, 0] rfl)
set_option maxHeartbeats 4000000 in
set_option maxRecDepth 100000 in
theorem eX6_areOrderly (C0 : CallFix p m c cX6_areOrderly 3 s args wsX6_areOrderly RX6) (hK : Kx D (tyM ci) s) (K : Int32 → Prop) (σ : St) (hret : ∀ (r : Int32) (H : Heap) (locs : List Loc) (pc : Nat) (ls : Array Slot), narrow .boolean (.int r) = .int r → K r → Sy D 12 ad A H0 (obM ad ci σ) H locs → decode cX6_areOrderly pc = .ok (.ireturn, 1) → W p l e rmX6_areOrderly s m args below meth c H locs 0 0 Q (F0 m pc ls [.int r])) (h : wX6_areOrderly σ K) (H : Heap) (locs : List Loc) (hY : Sy D 12 ad A H0 (obM ad ci σ) H locs) (hR : tt σ) (ls : Array Slot) (hl : lv_has ls 3 [(0, .ref (ad 0))]) : W p l e rmX6_areOrderly s m args below meth c H locs 0 0 Q (F0 m 0 ls []) := by
  obtain ⟨hx, hb, hml, hown, hts⟩ := id C0
  refine lv_iconst (v := (0 : Int32)) hx hb dX6_areOrderly_0 (by decide) ?_
  refine lv_istore_n (lv' := [(1, .int (0 : Int32)), (0, .ref (ad 0))]) hx hb dX6_areOrderly_1 rfl hl (by decide) rfl (fun ls hl => ?_)
  obtain ⟨n_6, h⟩ := h
  exact tX6_areOrderly_L2 C0 hK K σ hret n_6 (0 : Int32) h _ _ hY hR  _ (lv_sub hl [1, 0] rfl)
set_option maxHeartbeats 4000000 in
set_option maxRecDepth 100000 in
theorem mX6_areOrderly (l : Launch) (D : va_G) (ad : Nat → Nat) (ci : Nat → ClassId) (A : Nat → Prop) (σ : St) (K : Int32 → Prop) (hR : tt σ) (h : wX6_areOrderly σ K) : Met l yX6_areOrderly wsX6_areOrderly rmX6_areOrderly (va_Pc [.ref (ad 0)] (PreW D 12 ad A (tyM ci) (obM ad ci σ))) (va_Qi (fun r (_ : Unit) => narrow .boolean (.int r) = .int r ∧ K r) (fun _ => (PostW D 12 ad (tyM ci) (obM ad ci) tt σ)) A) 0 0 A := by
  refine Met.ofW (cc := cX6_areOrderly) (maxL := 3) (ret := (some .boolean)) (by decide) rfl ?_
  intro p e s m args below meth c s₁ B hml hv
  obtain ⟨rfl, hP, hK, hD⟩ := hv
  have C0 : CallFix p m c cX6_areOrderly 3 s _ wsX6_areOrderly RX6 := ⟨B.exec, B.bytes, hml, findClass_of_methodNamed B.named, atoms_spec (ws := wsX6_areOrderly) B.pre⟩
  have hlocks := B.notSynchronized
  have hY : Sy D 12 ad A s.heap (obM ad ci σ) s.heap [] := ⟨hP, hD, va_S.rf⟩
  have hl := lv_entry ([.ref (ad 0)]) (n := 3) (Nat.le_of_ble_eq_true rfl)
  rw [lg_entry_eq]
  generalize (lg_sl ([.ref (ad 0)]) ++ List.replicate (3 - (lg_sl ([.ref (ad 0)])).length) Slot.unset).toArray = ls at hl ⊢
  exact eX6_areOrderly C0 hK K σ (fun r H locs pc ls hn hk hY hd => w_zret (I := tt) B.exec B.bytes B.returns hn hlocks (u := ()) hK ⟨hn, hk⟩ (fun t ht => ht) hY hR hd) h _ _ hY hR ls hl
set_option maxHeartbeats 4000000 in
set_option maxRecDepth 100000 in
theorem tX6_puts_L8 (C0 : CallFix p m c cX6_puts 5 s args wsX6_puts RX6) (hK : Kx D (tyM ci) s) (K : Int32 → St → Prop) (x1 : Int32) (x3 : Int32) (hret : ∀ (r : Int32) (u : St) (H : Heap) (locs : List Loc) (pc : Nat) (ls : Array Slot), K r u → Sy D 12 ad A H0 (obM ad ci u) H locs → tt u → decode cX6_puts pc = .ok (.ireturn, 1) → W p l e rmX6_puts s m args below meth c H locs 0 0 Q (F0 m pc ls [.int r])) : ∀ (n : Nat) (σ : St) (x4 : Int32), wX6_puts_L8 K x1 x3 n σ x4 → ∀ (H : Heap) (locs : List Loc), Sy D 12 ad A H0 (obM ad ci σ) H locs → tt σ → ∀ ls : Array Slot, lv_has ls 5 [(0, .ref (ad 0)), (1, .int x1), (3, .int x3), (4, .int x4)] → W p l e rmX6_puts s m args below meth c H locs 0 0 Q (F0 m 8 ls []) := by
  obtain ⟨hx, hb, hml, hown, hts⟩ := id C0
  intro n
  induction n with
  | zero =>
    intro σ x4 h
    exact h.elim
  | succ n ih =>
    intro σ x4 h H locs hY hR  ls hl
    refine lv_iload hx hb dX6_puts_8 (lv_at hl 3 rfl) ?_
    refine lv_aload_n hx hb dX6_puts_10 rfl (lv_at hl 0 rfl) ?_
    refine w_get (o := 0) (ci := 6) (C := RX6) (T := TX6) (N1 := 14) (v := .ref (ad 7)) hx hb hts kX6_puts_inX6 hown hK.1 hY (by decide) obM_main rfl 7 (by decide) (hts _ kX6_puts_0) rfl rfl dX6_puts_11 ?_
    refine lv_iload_n hx hb dX6_puts_14 rfl (lv_at hl 2 rfl) ?_
    obtain ⟨b_1, h⟩ := h
    refine w_iald (o := 7) hx hb hK.1 hY (by decide) 1 rfl rfl b_1 dX6_puts_15 ?_
    refine lv_icmp_ge (tgt := 45) hx hb dX6_puts_16 (by decide) (fun c_2 => ?_) (fun c_2 => ?_)
    · have h := h.1 c_2
      refine lv_iload_n hx hb dX6_puts_45 rfl (lv_at hl 1 rfl) ?_
      refine lv_aload_n hx hb dX6_puts_46 rfl (lv_at hl 0 rfl) ?_
      refine w_get (o := 0) (ci := 6) (C := RX6) (T := TX6) (N1 := 14) (v := .ref (ad 7)) hx hb hts kX6_puts_inX6 hown hK.1 hY (by decide) obM_main rfl 7 (by decide) (hts _ kX6_puts_0) rfl rfl dX6_puts_47 ?_
      refine lv_iload_n hx hb dX6_puts_50 rfl (lv_at hl 2 rfl) ?_
      obtain ⟨b_3, h⟩ := h
      refine w_iald (o := 7) hx hb hK.1 hY (by decide) 1 rfl rfl b_3 dX6_puts_51 ?_
      refine lv_iadd hx hb dX6_puts_52 ?_
      exact hret (x1 + (gA σ 7 (x3).toNatClampNeg)) σ _ _ _ _ h hY hR dX6_puts_53
    · have h := h.2 c_2
      refine lv_aload_n hx hb dX6_puts_19 rfl (lv_at hl 0 rfl) ?_
      refine w_get (o := 0) (ci := 6) (C := RX6) (T := TX6) (N1 := 14) (v := .ref (ad 4)) hx hb hts kX6_puts_inX6 hown hK.1 hY (by decide) obM_main rfl 4 (by decide) (hts _ kX6_puts_2) rfl rfl dX6_puts_20 ?_
      refine lv_iload_n hx hb dX6_puts_23 rfl (lv_at hl 1 rfl) ?_
      refine lv_iload hx hb dX6_puts_24 (lv_at hl 3 rfl) ?_
      refine lv_iadd hx hb dX6_puts_26 ?_
      refine lv_aload_n hx hb dX6_puts_27 rfl (lv_at hl 0 rfl) ?_
      refine w_get (o := 0) (ci := 6) (C := RX6) (T := TX6) (N1 := 14) (v := .ref (ad 3)) hx hb hts kX6_puts_inX6 hown hK.1 hY (by decide) obM_main rfl 3 (by decide) (hts _ kX6_puts_3) rfl rfl dX6_puts_28 ?_
      refine lv_iconst (v := (3 : Int32)) hx hb dX6_puts_31 (by decide) ?_
      refine lv_iload_n hx hb dX6_puts_32 rfl (lv_at hl 2 rfl) ?_
      refine lv_imul hx hb dX6_puts_33 ?_
      refine lv_iload hx hb dX6_puts_34 (lv_at hl 3 rfl) ?_
      refine lv_iadd hx hb dX6_puts_36 ?_
      obtain ⟨b_4, h⟩ := h
      refine w_cald (o := 3) hx hb hK.1 hY (by decide) 0 rfl rfl b_4 dX6_puts_37 ?_
      obtain ⟨b_5, h⟩ := h
      obtain ⟨σ_6, e_σ_6⟩ : ∃ z : St, z = pA σ 4 ((x1 + x4)).toNatClampNeg (vp_nar .char (gA σ 3 ((((3 : Int32) * x3) + x4)).toNatClampNeg)) := ⟨_, rfl⟩
      have h := h σ_6 e_σ_6
      have hR_σ_6 : tt σ_6 := trivial
      refine w_cast (o := 4) hx hb hK.1 hY (by decide) 0 rfl rfl b_5 dX6_puts_38 (ob' := obM ad ci σ_6) (by rw [e_σ_6]; exact obM_pA (by rw [← gA_up]; rfl)) (fun H locs hY => ?_)
      refine lv_iinc (v := (x4 + 1)) (lv' := [(4, .int (x4 + 1)), (0, .ref (ad 0)), (1, .int x1), (3, .int x3)]) hx hb dX6_puts_39 hl (k := 3) rfl rfl (by decide) rfl (fun ls hl => ?_)
      refine lv_goto (tgt := 8) hx hb dX6_puts_42 (by decide) ?_
      exact ih σ_6 (x4 + 1) h _ _ hY hR_σ_6  _ (lv_sub hl [1, 2, 3, 0] rfl)
set_option maxHeartbeats 4000000 in
set_option maxRecDepth 100000 in
theorem eX6_puts (C0 : CallFix p m c cX6_puts 5 s args wsX6_puts RX6) (hK : Kx D (tyM ci) s) (K : Int32 → St → Prop) (σ : St) (hret : ∀ (r : Int32) (u : St) (H : Heap) (locs : List Loc) (pc : Nat) (ls : Array Slot), K r u → Sy D 12 ad A H0 (obM ad ci u) H locs → tt u → decode cX6_puts pc = .ok (.ireturn, 1) → W p l e rmX6_puts s m args below meth c H locs 0 0 Q (F0 m pc ls [.int r])) (x1 : Int32) (x2 : Int32) (h : wX6_puts σ x1 x2 K) (H : Heap) (locs : List Loc) (hY : Sy D 12 ad A H0 (obM ad ci σ) H locs) (hR : tt σ) (ls : Array Slot) (hl : lv_has ls 5 [(0, .ref (ad 0)), (1, .int x1), (2, .int x2)]) : W p l e rmX6_puts s m args below meth c H locs 0 0 Q (F0 m 0 ls []) := by
  obtain ⟨hx, hb, hml, hown, hts⟩ := id C0
  refine lv_iload_n hx hb dX6_puts_0 rfl (lv_at hl 2 rfl) ?_
  refine lv_bipush (v := (97 : Int32)) hx hb dX6_puts_1 (by decide) ?_
  refine lv_isub hx hb dX6_puts_3 ?_
  refine lv_istore_n (lv' := [(3, .int (x2 - (97 : Int32))), (0, .ref (ad 0)), (1, .int x1), (2, .int x2)]) hx hb dX6_puts_4 rfl hl (by decide) rfl (fun ls hl => ?_)
  refine lv_iconst (v := (0 : Int32)) hx hb dX6_puts_5 (by decide) ?_
  refine lv_istore (lv' := [(4, .int (0 : Int32)), (3, .int (x2 - (97 : Int32))), (0, .ref (ad 0)), (1, .int x1), (2, .int x2)]) hx hb dX6_puts_6 hl (by decide) rfl (fun ls hl => ?_)
  obtain ⟨n_7, h⟩ := h
  exact tX6_puts_L8 C0 hK K x1 (x2 - (97 : Int32)) hret n_7 σ (0 : Int32) h _ _ hY hR  _ (lv_sub hl [2, 3, 1, 0] rfl)
set_option maxHeartbeats 4000000 in
set_option maxRecDepth 100000 in
theorem mX6_puts (l : Launch) (D : va_G) (ad : Nat → Nat) (ci : Nat → ClassId) (A : Nat → Prop) (σ : St) (x1 : Int32) (x2 : Int32) (K : Int32 → St → Prop) (hR : tt σ) (h : wX6_puts σ x1 x2 K) : Met l yX6_puts wsX6_puts rmX6_puts (va_Pc [.ref (ad 0), .int x1, .int x2] (PreW D 12 ad A (tyM ci) (obM ad ci σ))) (va_Qi (fun r u => K r u) (PostW D 12 ad (tyM ci) (obM ad ci) tt) A) 0 0 A := by
  refine Met.ofW (cc := cX6_puts) (maxL := 5) (ret := (some .int)) (by decide) rfl ?_
  intro p e s m args below meth c s₁ B hml hv
  obtain ⟨rfl, hP, hK, hD⟩ := hv
  have C0 : CallFix p m c cX6_puts 5 s _ wsX6_puts RX6 := ⟨B.exec, B.bytes, hml, findClass_of_methodNamed B.named, atoms_spec (ws := wsX6_puts) B.pre⟩
  have hlocks := B.notSynchronized
  have hY : Sy D 12 ad A s.heap (obM ad ci σ) s.heap [] := ⟨hP, hD, va_S.rf⟩
  have hl := lv_entry ([.ref (ad 0), .int x1, .int x2]) (n := 5) (Nat.le_of_ble_eq_true rfl)
  rw [lg_entry_eq]
  generalize (lg_sl ([.ref (ad 0), .int x1, .int x2]) ++ List.replicate (5 - (lg_sl ([.ref (ad 0), .int x1, .int x2])).length) Slot.unset).toArray = ls at hl ⊢
  exact eX6_puts C0 hK K σ (fun r u H locs pc ls hk hY hR hd => w_iret (I := tt) B.exec B.bytes B.returns hlocks hK hk (fun t ht => ht) hY hR hd) x1 x2 h _ _ hY hR ls hl
set_option maxHeartbeats 4000000 in
set_option maxRecDepth 100000 in
theorem tX6_write_L57 (C0 : CallFix p m c cX6_write 3 s args wsX6_write RX6) (hK : Kx D (tyM ci) s) (K : Int32 → St → Prop) (x1 : Int32) (hret : ∀ (r : Int32) (u : St) (H : Heap) (locs : List Loc) (pc : Nat) (ls : Array Slot), K r u → Sy D 12 ad A H0 (obM ad ci u) H locs → tt u → decode cX6_write pc = .ok (.ireturn, 1) → W p l e rmX6_write s m args below meth c H locs 0 0 Q (F0 m pc ls [.int r])) : ∀ (n : Nat) (σ : St) (x2 : Int32), wX6_write_L57 K x1 n σ x2 → ∀ (H : Heap) (locs : List Loc), Sy D 12 ad A H0 (obM ad ci σ) H locs → tt σ → ∀ ls : Array Slot, lv_has ls 3 [(0, .ref (ad 0)), (1, .int x1), (2, .int x2)] → W p l e rmX6_write s m args below meth c H locs 0 0 Q (F0 m 57 ls []) := by
  obtain ⟨hx, hb, hml, hown, hts⟩ := id C0
  intro n
  induction n with
  | zero =>
    intro σ x2 h
    exact h.elim
  | succ n ih =>
    intro σ x2 h H locs hY hR  ls hl
    refine lv_iload_n hx hb dX6_write_57 rfl (lv_at hl 2 rfl) ?_
    refine lv_iload_n hx hb dX6_write_58 rfl (lv_at hl 1 rfl) ?_
    refine lv_icmp_ge (tgt := 80) hx hb dX6_write_59 (by decide) (fun c_1 => ?_) (fun c_1 => ?_)
    · have h := h.1 c_1
      refine lv_aload_n hx hb dX6_write_80 rfl (lv_at hl 0 rfl) ?_
      refine w_get (o := 0) (ci := 6) (C := RX6) (T := TX6) (N1 := 14) (v := .int (gI σ 1)) hx hb hts kX6_write_inX6 hown hK.1 hY (by decide) obM_main rfl 8 (by decide) (hts _ kX6_write_0) rfl rfl dX6_write_81 ?_
      exact hret (gI σ 1) σ _ _ _ _ h hY hR dX6_write_84
    · have h := h.2 c_1
      refine lv_aload_n hx hb dX6_write_62 rfl (lv_at hl 0 rfl) ?_
      refine w_get (o := 0) (ci := 6) (C := RX6) (T := TX6) (N1 := 14) (v := .ref (ad 1)) hx hb hts kX6_write_inX6 hown hK.1 hY (by decide) obM_main rfl 1 (by decide) (hts _ kX6_write_2) rfl rfl dX6_write_63 ?_
      refine lv_iload_n hx hb dX6_write_66 rfl (lv_at hl 2 rfl) ?_
      refine lv_aload_n hx hb dX6_write_67 rfl (lv_at hl 0 rfl) ?_
      refine w_get (o := 0) (ci := 6) (C := RX6) (T := TX6) (N1 := 14) (v := .ref (ad 4)) hx hb hts kX6_write_inX6 hown hK.1 hY (by decide) obM_main rfl 4 (by decide) (hts _ kX6_write_3) rfl rfl dX6_write_68 ?_
      refine lv_iload_n hx hb dX6_write_71 rfl (lv_at hl 2 rfl) ?_
      obtain ⟨b_2, h⟩ := h
      refine w_cald (o := 4) hx hb hK.1 hY (by decide) 0 rfl rfl b_2 dX6_write_72 ?_
      obtain ⟨b_3, h⟩ := h
      obtain ⟨σ_4, e_σ_4⟩ : ∃ z : St, z = pA σ 1 (x2).toNatClampNeg (vp_nar .char (gA σ 4 (x2).toNatClampNeg)) := ⟨_, rfl⟩
      have h := h σ_4 e_σ_4
      have hR_σ_4 : tt σ_4 := trivial
      refine w_cast (o := 1) hx hb hK.1 hY (by decide) 0 rfl rfl b_3 dX6_write_73 (ob' := obM ad ci σ_4) (by rw [e_σ_4]; exact obM_pA (by rw [← gA_up]; rfl)) (fun H locs hY => ?_)
      refine lv_iinc (v := (x2 + 1)) (lv' := [(2, .int (x2 + 1)), (0, .ref (ad 0)), (1, .int x1)]) hx hb dX6_write_74 hl (k := 2) rfl rfl (by decide) rfl (fun ls hl => ?_)
      refine lv_goto (tgt := 57) hx hb dX6_write_77 (by decide) ?_
      exact ih σ_4 (x2 + 1) h _ _ hY hR_σ_4  _ (lv_sub hl [1, 2, 0] rfl)
set_option maxHeartbeats 4000000 in
set_option maxRecDepth 100000 in
theorem tX6_write_J42 (C0 : CallFix p m c cX6_write 3 s args wsX6_write RX6) (hK : Kx D (tyM ci) s) (K : Int32 → St → Prop) (σ : St) (x1 : Int32) (s1 : Int32) (hret : ∀ (r : Int32) (u : St) (H : Heap) (locs : List Loc) (pc : Nat) (ls : Array Slot), K r u → Sy D 12 ad A H0 (obM ad ci u) H locs → tt u → decode cX6_write pc = .ok (.ireturn, 1) → W p l e rmX6_write s m args below meth c H locs 0 0 Q (F0 m pc ls [.int r])) (h : wX6_write_J42 K σ x1 s1) (H : Heap) (locs : List Loc) (hY : Sy D 12 ad A H0 (obM ad ci σ) H locs) (hR : tt σ) (ls : Array Slot) (hl : lv_has ls 3 [(0, .ref (ad 0)), (1, .int x1)]) : W p l e rmX6_write s m args below meth c H locs 0 0 Q (F0 m 42 ls [.int s1, .ref (ad 0)]) := by
  obtain ⟨hx, hb, hml, hown, hts⟩ := id C0
  refine w_calli (rest := []) (va_runV (As := [.int s1]) (rest := []) C0 (mX6_fails l D ad ci A σ s1 _ hR  h) (cwV 1 hts gX6_write_X6_fails rfl rfl rfl ddX6_fails ⟨Nat.le_of_ble_eq_true rfl, Nat.le_of_ble_eq_true rfl⟩) (w_preV (o := 0) (ci := 6) (ob := obM ad ci) (σ := σ) hK hY (by decide) obM_main rfl rfl) rfl rfl hl.1 rfl (lv_room (Nat.le_of_ble_eq_true rfl)) dX6_write_42 ⟨Nat.zero_le _, Nat.zero_le _⟩) hY (fun r_5 σ_6 H locs h hY hR_σ_6 => ?_)
  obtain ⟨n_r_5, h⟩ := h
  refine lv_if_eq (tgt := 50) hx hb dX6_write_45 (by decide) (fun c_7 => ?_) (fun c_7 => ?_)
  · have h := h.1 c_7
    refine lv_aload_n hx hb dX6_write_50 rfl (lv_at hl 0 rfl) ?_
    refine lv_iload_n hx hb dX6_write_51 rfl (lv_at hl 1 rfl) ?_
    obtain ⟨σ_8, e_σ_8⟩ : ∃ z : St, z = pI σ_6 1 x1 := ⟨_, rfl⟩
    have h := h σ_8 e_σ_8
    have hR_σ_8 : tt σ_8 := trivial
    refine w_put (o := 0) (ci := 6) (C := RX6) (T := TX6) (N1 := 14) hx hb hts kX6_write_inX6 tyX6 tyX6_ok nmX6 hown hK.1 hY (by decide) obM_main rfl 8 (by decide) (hts _ kX6_write_0) rfl rfl rfl (Nat.le_of_ble_eq_true rfl) dX6_write_52 (ob' := obM ad ci σ_8) (by rw [e_σ_8]; exact obM_pI rfl) (fun H locs hY => ?_)
    refine lv_iconst (v := (0 : Int32)) hx hb dX6_write_55 (by decide) ?_
    refine lv_istore_n (lv' := [(2, .int (0 : Int32)), (0, .ref (ad 0)), (1, .int x1)]) hx hb dX6_write_56 rfl hl (by decide) rfl (fun ls hl => ?_)
    obtain ⟨n_9, h⟩ := h
    exact tX6_write_L57 C0 hK K x1 hret n_9 σ_8 (0 : Int32) h _ _ hY hR_σ_8  _ (lv_sub hl [1, 2, 0] rfl)
  · have h := h.2 c_7
    refine lv_iconst (v := (0 : Int32)) hx hb dX6_write_48 (by decide) ?_
    exact hret (0 : Int32) σ_6 _ _ _ _ h hY hR_σ_6 dX6_write_49
set_option maxHeartbeats 4000000 in
set_option maxRecDepth 100000 in
theorem tX6_write_L4 (C0 : CallFix p m c cX6_write 3 s args wsX6_write RX6) (hK : Kx D (tyM ci) s) (K : Int32 → St → Prop) (hret : ∀ (r : Int32) (u : St) (H : Heap) (locs : List Loc) (pc : Nat) (ls : Array Slot), K r u → Sy D 12 ad A H0 (obM ad ci u) H locs → tt u → decode cX6_write pc = .ok (.ireturn, 1) → W p l e rmX6_write s m args below meth c H locs 0 0 Q (F0 m pc ls [.int r])) : ∀ (n : Nat) (σ : St) (x1 : Int32) (x2 : Int32), wX6_write_L4 K n σ x1 x2 → ∀ (H : Heap) (locs : List Loc), Sy D 12 ad A H0 (obM ad ci σ) H locs → tt σ → ∀ ls : Array Slot, lv_has ls 3 [(0, .ref (ad 0)), (1, .int x1), (2, .int x2)] → W p l e rmX6_write s m args below meth c H locs 0 0 Q (F0 m 4 ls []) := by
  obtain ⟨hx, hb, hml, hown, hts⟩ := id C0
  intro n
  induction n with
  | zero =>
    intro σ x1 x2 h
    exact h.elim
  | succ n ih =>
    intro σ x1 x2 h H locs hY hR  ls hl
    refine lv_iload_n hx hb dX6_write_4 rfl (lv_at hl 2 rfl) ?_
    refine lv_aload_n hx hb dX6_write_5 rfl (lv_at hl 0 rfl) ?_
    refine w_get (o := 0) (ci := 6) (C := RX6) (T := TX6) (N1 := 14) (v := .int (gI σ 1)) hx hb hts kX6_write_inX6 hown hK.1 hY (by decide) obM_main rfl 8 (by decide) (hts _ kX6_write_0) rfl rfl dX6_write_6 ?_
    refine lv_icmp_ge (tgt := 30) hx hb dX6_write_9 (by decide) (fun c_10 => ?_) (fun c_10 => ?_)
    · have h := h.1 c_10
      refine lv_aload_n hx hb dX6_write_30 rfl (lv_at hl 0 rfl) ?_
      refine lv_iload_n hx hb dX6_write_31 rfl (lv_at hl 1 rfl) ?_
      refine lv_bipush (v := (24 : Int32)) hx hb dX6_write_32 (by decide) ?_
      refine lv_icmp_le (tgt := 41) hx hb dX6_write_34 (by decide) (fun c_11 => ?_) (fun c_11 => ?_)
      · have h := h.1 c_11
        refine lv_iconst (v := (0 : Int32)) hx hb dX6_write_41 (by decide) ?_
        exact tX6_write_J42 C0 hK K σ x1 (0 : Int32) hret h _ _ hY hR _ (lv_sub hl [0, 1] rfl)
      · have h := h.2 c_11
        refine lv_iconst (v := (1 : Int32)) hx hb dX6_write_37 (by decide) ?_
        refine lv_goto (tgt := 42) hx hb dX6_write_38 (by decide) ?_
        exact tX6_write_J42 C0 hK K σ x1 (1 : Int32) hret h _ _ hY hR _ (lv_sub hl [0, 1] rfl)
    · have h := h.2 c_10
      refine lv_aload_n hx hb dX6_write_12 rfl (lv_at hl 0 rfl) ?_
      refine lv_iload_n hx hb dX6_write_13 rfl (lv_at hl 1 rfl) ?_
      refine lv_aload_n hx hb dX6_write_14 rfl (lv_at hl 0 rfl) ?_
      refine w_get (o := 0) (ci := 6) (C := RX6) (T := TX6) (N1 := 14) (v := .ref (ad 1)) hx hb hts kX6_write_inX6 hown hK.1 hY (by decide) obM_main rfl 1 (by decide) (hts _ kX6_write_2) rfl rfl dX6_write_15 ?_
      refine lv_iload_n hx hb dX6_write_18 rfl (lv_at hl 2 rfl) ?_
      obtain ⟨b_12, h⟩ := h
      refine w_cald (o := 1) hx hb hK.1 hY (by decide) 0 rfl rfl b_12 dX6_write_19 ?_
      refine w_calli (rest := []) (va_runV (As := [.int x1, .int (gA σ 1 (x2).toNatClampNeg)]) (rest := []) C0 (mX6_puts l D ad ci A σ x1 (gA σ 1 (x2).toNatClampNeg) _ hR  h) (cwV 2 hts gX6_write_X6_puts rfl rfl rfl ddX6_puts ⟨Nat.le_of_ble_eq_true rfl, Nat.le_of_ble_eq_true rfl⟩) (w_preV (o := 0) (ci := 6) (ob := obM ad ci) (σ := σ) hK hY (by decide) obM_main rfl rfl) rfl rfl hl.1 rfl (lv_room (Nat.le_of_ble_eq_true rfl)) dX6_write_20 ⟨Nat.zero_le _, Nat.zero_le _⟩) hY (fun r_13 σ_14 H locs h hY hR_σ_14 => ?_)
      refine lv_istore_n (lv' := [(1, .int r_13), (0, .ref (ad 0)), (2, .int x2)]) hx hb dX6_write_23 rfl hl (by decide) rfl (fun ls hl => ?_)
      refine lv_iinc (v := (x2 + 1)) (lv' := [(2, .int (x2 + 1)), (1, .int r_13), (0, .ref (ad 0))]) hx hb dX6_write_24 hl (k := 2) rfl rfl (by decide) rfl (fun ls hl => ?_)
      refine lv_goto (tgt := 4) hx hb dX6_write_27 (by decide) ?_
      exact ih σ_14 r_13 (x2 + 1) h _ _ hY hR_σ_14  _ (lv_sub hl [2, 1, 0] rfl)
set_option maxHeartbeats 4000000 in
set_option maxRecDepth 100000 in
theorem eX6_write (C0 : CallFix p m c cX6_write 3 s args wsX6_write RX6) (hK : Kx D (tyM ci) s) (K : Int32 → St → Prop) (σ : St) (hret : ∀ (r : Int32) (u : St) (H : Heap) (locs : List Loc) (pc : Nat) (ls : Array Slot), K r u → Sy D 12 ad A H0 (obM ad ci u) H locs → tt u → decode cX6_write pc = .ok (.ireturn, 1) → W p l e rmX6_write s m args below meth c H locs 0 0 Q (F0 m pc ls [.int r])) (h : wX6_write σ K) (H : Heap) (locs : List Loc) (hY : Sy D 12 ad A H0 (obM ad ci σ) H locs) (hR : tt σ) (ls : Array Slot) (hl : lv_has ls 3 [(0, .ref (ad 0))]) : W p l e rmX6_write s m args below meth c H locs 0 0 Q (F0 m 0 ls []) := by
  obtain ⟨hx, hb, hml, hown, hts⟩ := id C0
  refine lv_iconst (v := (0 : Int32)) hx hb dX6_write_0 (by decide) ?_
  refine lv_istore_n (lv' := [(1, .int (0 : Int32)), (0, .ref (ad 0))]) hx hb dX6_write_1 rfl hl (by decide) rfl (fun ls hl => ?_)
  refine lv_iconst (v := (0 : Int32)) hx hb dX6_write_2 (by decide) ?_
  refine lv_istore_n (lv' := [(2, .int (0 : Int32)), (1, .int (0 : Int32)), (0, .ref (ad 0))]) hx hb dX6_write_3 rfl hl (by decide) rfl (fun ls hl => ?_)
  obtain ⟨n_15, h⟩ := h
  exact tX6_write_L4 C0 hK K hret n_15 σ (0 : Int32) (0 : Int32) h _ _ hY hR  _ (lv_sub hl [2, 1, 0] rfl)
set_option maxHeartbeats 4000000 in
set_option maxRecDepth 100000 in
theorem mX6_write (l : Launch) (D : va_G) (ad : Nat → Nat) (ci : Nat → ClassId) (A : Nat → Prop) (σ : St) (K : Int32 → St → Prop) (hR : tt σ) (h : wX6_write σ K) : Met l yX6_write wsX6_write rmX6_write (va_Pc [.ref (ad 0)] (PreW D 12 ad A (tyM ci) (obM ad ci σ))) (va_Qi (fun r u => K r u) (PostW D 12 ad (tyM ci) (obM ad ci) tt) A) 0 0 A := by
  refine Met.ofW (cc := cX6_write) (maxL := 3) (ret := (some .int)) (by decide) rfl ?_
  intro p e s m args below meth c s₁ B hml hv
  obtain ⟨rfl, hP, hK, hD⟩ := hv
  have C0 : CallFix p m c cX6_write 3 s _ wsX6_write RX6 := ⟨B.exec, B.bytes, hml, findClass_of_methodNamed B.named, atoms_spec (ws := wsX6_write) B.pre⟩
  have hlocks := B.notSynchronized
  have hY : Sy D 12 ad A s.heap (obM ad ci σ) s.heap [] := ⟨hP, hD, va_S.rf⟩
  have hl := lv_entry ([.ref (ad 0)]) (n := 3) (Nat.le_of_ble_eq_true rfl)
  rw [lg_entry_eq]
  generalize (lg_sl ([.ref (ad 0)]) ++ List.replicate (3 - (lg_sl ([.ref (ad 0)])).length) Slot.unset).toArray = ls at hl ⊢
  exact eX6_write C0 hK K σ (fun r u H locs pc ls hk hY hR hd => w_iret (I := tt) B.exec B.bytes B.returns hlocks hK hk (fun t ht => ht) hY hR hd) h _ _ hY hR ls hl
set_option maxHeartbeats 4000000 in
set_option maxRecDepth 100000 in
theorem tX6_codeAt_J57 (C0 : CallFix p m c cX6_codeAt 4 s args wsX6_codeAt RX6) (hK : Kx D (tyM ci) s) (K : Int32 → Prop) (B2 : Int32 → Prop) (σ : St) (x1 : Int32) (x2 : Int32) (x3 : Int32) (hret : ∀ (r : Int32) (H : Heap) (locs : List Loc) (pc : Nat) (ls : Array Slot), K r → Sy D 12 ad A H0 (obM ad ci σ) H locs → decode cX6_codeAt pc = .ok (.ireturn, 1) → W p l e rmX6_codeAt s m args below meth c H locs 0 0 Q (F0 m pc ls [.int r])) (hB2 : ∀ (x2 : Int32), B2 x2 → ∀ (H : Heap) (locs : List Loc), Sy D 12 ad A H0 (obM ad ci σ) H locs → tt σ → ∀ ls : Array Slot, lv_has ls 4 [(0, .ref (ad 0)), (1, .int x1), (2, .int x2)] → W p l e rmX6_codeAt s m args below meth c H locs 0 0 Q (F0 m 2 ls [])) (h : wX6_codeAt_J57 K B2 σ x1 x2 x3) (H : Heap) (locs : List Loc) (hY : Sy D 12 ad A H0 (obM ad ci σ) H locs) (hR : tt σ) (ls : Array Slot) (hl : lv_has ls 4 [(0, .ref (ad 0)), (1, .int x1), (2, .int x2), (3, .int x3)]) : W p l e rmX6_codeAt s m args below meth c H locs 0 0 Q (F0 m 57 ls []) := by
  obtain ⟨hx, hb, hml, hown, hts⟩ := id C0
  refine lv_iload_n hx hb dX6_codeAt_57 rfl (lv_at hl 3 rfl) ?_
  refine lv_aload_n hx hb dX6_codeAt_58 rfl (lv_at hl 0 rfl) ?_
  refine w_get (o := 0) (ci := 6) (C := RX6) (T := TX6) (N1 := 14) (v := .ref (ad 7)) hx hb hts kX6_codeAt_inX6 hown hK.1 hY (by decide) obM_main rfl 7 (by decide) (hts _ kX6_codeAt_0) rfl rfl dX6_codeAt_59 ?_
  refine lv_iload_n hx hb dX6_codeAt_62 rfl (lv_at hl 2 rfl) ?_
  obtain ⟨b_1, h⟩ := h
  refine w_iald (o := 7) hx hb hK.1 hY (by decide) 1 rfl rfl b_1 dX6_codeAt_63 ?_
  refine lv_icmp_ne (tgt := 69) hx hb dX6_codeAt_64 (by decide) (fun c_2 => ?_) (fun c_2 => ?_)
  · have h := h.2 c_2
    refine lv_iinc (v := (x2 + 1)) (lv' := [(2, .int (x2 + 1)), (0, .ref (ad 0)), (1, .int x1), (3, .int x3)]) hx hb dX6_codeAt_69 hl (k := 2) rfl rfl (by decide) rfl (fun ls hl => ?_)
    refine lv_goto (tgt := 2) hx hb dX6_codeAt_72 (by decide) ?_
    exact hB2 (x2 + 1) h _ _ hY hR  _ (lv_sub hl [1, 2, 0] rfl)
  · have h := h.1 c_2
    refine lv_iload_n hx hb dX6_codeAt_67 rfl (lv_at hl 2 rfl) ?_
    exact hret x2 _ _ _ _ h hY dX6_codeAt_68
set_option maxHeartbeats 4000000 in
set_option maxRecDepth 100000 in
theorem tX6_codeAt_L10 (C0 : CallFix p m c cX6_codeAt 4 s args wsX6_codeAt RX6) (hK : Kx D (tyM ci) s) (K : Int32 → Prop) (B2 : Int32 → Prop) (σ : St) (x1 : Int32) (x2 : Int32) (hret : ∀ (r : Int32) (H : Heap) (locs : List Loc) (pc : Nat) (ls : Array Slot), K r → Sy D 12 ad A H0 (obM ad ci σ) H locs → decode cX6_codeAt pc = .ok (.ireturn, 1) → W p l e rmX6_codeAt s m args below meth c H locs 0 0 Q (F0 m pc ls [.int r])) (hB2 : ∀ (x2 : Int32), B2 x2 → ∀ (H : Heap) (locs : List Loc), Sy D 12 ad A H0 (obM ad ci σ) H locs → tt σ → ∀ ls : Array Slot, lv_has ls 4 [(0, .ref (ad 0)), (1, .int x1), (2, .int x2)] → W p l e rmX6_codeAt s m args below meth c H locs 0 0 Q (F0 m 2 ls [])) : ∀ (n : Nat) (x3 : Int32), wX6_codeAt_L10 K B2 σ x1 x2 n x3 → ∀ (H : Heap) (locs : List Loc), Sy D 12 ad A H0 (obM ad ci σ) H locs → tt σ → ∀ ls : Array Slot, lv_has ls 4 [(0, .ref (ad 0)), (1, .int x1), (2, .int x2), (3, .int x3)] → W p l e rmX6_codeAt s m args below meth c H locs 0 0 Q (F0 m 10 ls []) := by
  obtain ⟨hx, hb, hml, hown, hts⟩ := id C0
  intro n
  induction n with
  | zero =>
    intro x3 h
    exact h.elim
  | succ n ih =>
    intro x3 h H locs hY hR  ls hl
    refine lv_iload_n hx hb dX6_codeAt_10 rfl (lv_at hl 3 rfl) ?_
    refine lv_aload_n hx hb dX6_codeAt_11 rfl (lv_at hl 0 rfl) ?_
    refine w_get (o := 0) (ci := 6) (C := RX6) (T := TX6) (N1 := 14) (v := .ref (ad 7)) hx hb hts kX6_codeAt_inX6 hown hK.1 hY (by decide) obM_main rfl 7 (by decide) (hts _ kX6_codeAt_0) rfl rfl dX6_codeAt_12 ?_
    refine lv_iload_n hx hb dX6_codeAt_15 rfl (lv_at hl 2 rfl) ?_
    obtain ⟨b_3, h⟩ := h
    refine w_iald (o := 7) hx hb hK.1 hY (by decide) 1 rfl rfl b_3 dX6_codeAt_16 ?_
    refine lv_icmp_ge (tgt := 57) hx hb dX6_codeAt_17 (by decide) (fun c_4 => ?_) (fun c_4 => ?_)
    · have h := h.1 c_4
      exact tX6_codeAt_J57 C0 hK K B2 σ x1 x2 x3 hret hB2 h _ _ hY hR _ (lv_sub hl [0, 1, 2, 3] rfl)
    · have h := h.2 c_4
      refine lv_iload_n hx hb dX6_codeAt_20 rfl (lv_at hl 1 rfl) ?_
      refine lv_iload_n hx hb dX6_codeAt_21 rfl (lv_at hl 3 rfl) ?_
      refine lv_iadd hx hb dX6_codeAt_22 ?_
      refine lv_aload_n hx hb dX6_codeAt_23 rfl (lv_at hl 0 rfl) ?_
      refine w_get (o := 0) (ci := 6) (C := RX6) (T := TX6) (N1 := 14) (v := .int (gI σ 1)) hx hb hts kX6_codeAt_inX6 hown hK.1 hY (by decide) obM_main rfl 8 (by decide) (hts _ kX6_codeAt_2) rfl rfl dX6_codeAt_24 ?_
      refine lv_icmp_ge (tgt := 57) hx hb dX6_codeAt_27 (by decide) (fun c_5 => ?_) (fun c_5 => ?_)
      · have h := h.1 c_5
        exact tX6_codeAt_J57 C0 hK K B2 σ x1 x2 x3 hret hB2 h _ _ hY hR _ (lv_sub hl [0, 1, 2, 3] rfl)
      · have h := h.2 c_5
        refine lv_aload_n hx hb dX6_codeAt_30 rfl (lv_at hl 0 rfl) ?_
        refine w_get (o := 0) (ci := 6) (C := RX6) (T := TX6) (N1 := 14) (v := .ref (ad 3)) hx hb hts kX6_codeAt_inX6 hown hK.1 hY (by decide) obM_main rfl 3 (by decide) (hts _ kX6_codeAt_3) rfl rfl dX6_codeAt_31 ?_
        refine lv_iconst (v := (3 : Int32)) hx hb dX6_codeAt_34 (by decide) ?_
        refine lv_iload_n hx hb dX6_codeAt_35 rfl (lv_at hl 2 rfl) ?_
        refine lv_imul hx hb dX6_codeAt_36 ?_
        refine lv_iload_n hx hb dX6_codeAt_37 rfl (lv_at hl 3 rfl) ?_
        refine lv_iadd hx hb dX6_codeAt_38 ?_
        obtain ⟨b_6, h⟩ := h
        refine w_cald (o := 3) hx hb hK.1 hY (by decide) 0 rfl rfl b_6 dX6_codeAt_39 ?_
        refine lv_aload_n hx hb dX6_codeAt_40 rfl (lv_at hl 0 rfl) ?_
        refine w_get (o := 0) (ci := 6) (C := RX6) (T := TX6) (N1 := 14) (v := .ref (ad 1)) hx hb hts kX6_codeAt_inX6 hown hK.1 hY (by decide) obM_main rfl 1 (by decide) (hts _ kX6_codeAt_4) rfl rfl dX6_codeAt_41 ?_
        refine lv_iload_n hx hb dX6_codeAt_44 rfl (lv_at hl 1 rfl) ?_
        refine lv_iload_n hx hb dX6_codeAt_45 rfl (lv_at hl 3 rfl) ?_
        refine lv_iadd hx hb dX6_codeAt_46 ?_
        obtain ⟨b_7, h⟩ := h
        refine w_cald (o := 1) hx hb hK.1 hY (by decide) 0 rfl rfl b_7 dX6_codeAt_47 ?_
        refine lv_icmp_ne (tgt := 57) hx hb dX6_codeAt_48 (by decide) (fun c_8 => ?_) (fun c_8 => ?_)
        · have h := h.2 c_8
          exact tX6_codeAt_J57 C0 hK K B2 σ x1 x2 x3 hret hB2 h _ _ hY hR _ (lv_sub hl [0, 1, 2, 3] rfl)
        · have h := h.1 c_8
          refine lv_iinc (v := (x3 + 1)) (lv' := [(3, .int (x3 + 1)), (0, .ref (ad 0)), (1, .int x1), (2, .int x2)]) hx hb dX6_codeAt_51 hl (k := 3) rfl rfl (by decide) rfl (fun ls hl => ?_)
          refine lv_goto (tgt := 10) hx hb dX6_codeAt_54 (by decide) ?_
          exact ih (x3 + 1) h _ _ hY hR  _ (lv_sub hl [1, 2, 3, 0] rfl)
set_option maxHeartbeats 4000000 in
set_option maxRecDepth 100000 in
theorem tX6_codeAt_L2 (C0 : CallFix p m c cX6_codeAt 4 s args wsX6_codeAt RX6) (hK : Kx D (tyM ci) s) (K : Int32 → Prop) (σ : St) (x1 : Int32) (hret : ∀ (r : Int32) (H : Heap) (locs : List Loc) (pc : Nat) (ls : Array Slot), K r → Sy D 12 ad A H0 (obM ad ci σ) H locs → decode cX6_codeAt pc = .ok (.ireturn, 1) → W p l e rmX6_codeAt s m args below meth c H locs 0 0 Q (F0 m pc ls [.int r])) : ∀ (n : Nat) (x2 : Int32), wX6_codeAt_L2 K σ x1 n x2 → ∀ (H : Heap) (locs : List Loc), Sy D 12 ad A H0 (obM ad ci σ) H locs → tt σ → ∀ ls : Array Slot, lv_has ls 4 [(0, .ref (ad 0)), (1, .int x1), (2, .int x2)] → W p l e rmX6_codeAt s m args below meth c H locs 0 0 Q (F0 m 2 ls []) := by
  obtain ⟨hx, hb, hml, hown, hts⟩ := id C0
  intro n
  induction n with
  | zero =>
    intro x2 h
    exact h.elim
  | succ n ih =>
    intro x2 h H locs hY hR  ls hl
    refine lv_iload_n hx hb dX6_codeAt_2 rfl (lv_at hl 2 rfl) ?_
    refine lv_bipush (v := (6 : Int32)) hx hb dX6_codeAt_3 (by decide) ?_
    refine lv_icmp_ge (tgt := 75) hx hb dX6_codeAt_5 (by decide) (fun c_9 => ?_) (fun c_9 => ?_)
    · have h := h.1 c_9
      refine lv_iconst (v := (-1 : Int32)) hx hb dX6_codeAt_75 (by decide) ?_
      exact hret (-1 : Int32) _ _ _ _ h hY dX6_codeAt_76
    · have h := h.2 c_9
      refine lv_iconst (v := (0 : Int32)) hx hb dX6_codeAt_8 (by decide) ?_
      refine lv_istore_n (lv' := [(3, .int (0 : Int32)), (0, .ref (ad 0)), (1, .int x1), (2, .int x2)]) hx hb dX6_codeAt_9 rfl hl (by decide) rfl (fun ls hl => ?_)
      obtain ⟨n_10, h⟩ := h
      exact tX6_codeAt_L10 C0 hK K (wX6_codeAt_L2 K σ x1 n) σ x1 x2 hret ih n_10 (0 : Int32) h _ _ hY hR  _ (lv_sub hl [1, 2, 3, 0] rfl)
set_option maxHeartbeats 4000000 in
set_option maxRecDepth 100000 in
theorem eX6_codeAt (C0 : CallFix p m c cX6_codeAt 4 s args wsX6_codeAt RX6) (hK : Kx D (tyM ci) s) (K : Int32 → Prop) (σ : St) (hret : ∀ (r : Int32) (H : Heap) (locs : List Loc) (pc : Nat) (ls : Array Slot), K r → Sy D 12 ad A H0 (obM ad ci σ) H locs → decode cX6_codeAt pc = .ok (.ireturn, 1) → W p l e rmX6_codeAt s m args below meth c H locs 0 0 Q (F0 m pc ls [.int r])) (x1 : Int32) (h : wX6_codeAt σ x1 K) (H : Heap) (locs : List Loc) (hY : Sy D 12 ad A H0 (obM ad ci σ) H locs) (hR : tt σ) (ls : Array Slot) (hl : lv_has ls 4 [(0, .ref (ad 0)), (1, .int x1)]) : W p l e rmX6_codeAt s m args below meth c H locs 0 0 Q (F0 m 0 ls []) := by
  obtain ⟨hx, hb, hml, hown, hts⟩ := id C0
  refine lv_iconst (v := (0 : Int32)) hx hb dX6_codeAt_0 (by decide) ?_
  refine lv_istore_n (lv' := [(2, .int (0 : Int32)), (0, .ref (ad 0)), (1, .int x1)]) hx hb dX6_codeAt_1 rfl hl (by decide) rfl (fun ls hl => ?_)
  obtain ⟨n_11, h⟩ := h
  exact tX6_codeAt_L2 C0 hK K σ x1 hret n_11 (0 : Int32) h _ _ hY hR  _ (lv_sub hl [1, 2, 0] rfl)
set_option maxHeartbeats 4000000 in
set_option maxRecDepth 100000 in
theorem mX6_codeAt (l : Launch) (D : va_G) (ad : Nat → Nat) (ci : Nat → ClassId) (A : Nat → Prop) (σ : St) (x1 : Int32) (K : Int32 → Prop) (hR : tt σ) (h : wX6_codeAt σ x1 K) : Met l yX6_codeAt wsX6_codeAt rmX6_codeAt (va_Pc [.ref (ad 0), .int x1] (PreW D 12 ad A (tyM ci) (obM ad ci σ))) (va_Qi (fun r (_ : Unit) => K r) (fun _ => (PostW D 12 ad (tyM ci) (obM ad ci) tt σ)) A) 0 0 A := by
  refine Met.ofW (cc := cX6_codeAt) (maxL := 4) (ret := (some .int)) (by decide) rfl ?_
  intro p e s m args below meth c s₁ B hml hv
  obtain ⟨rfl, hP, hK, hD⟩ := hv
  have C0 : CallFix p m c cX6_codeAt 4 s _ wsX6_codeAt RX6 := ⟨B.exec, B.bytes, hml, findClass_of_methodNamed B.named, atoms_spec (ws := wsX6_codeAt) B.pre⟩
  have hlocks := B.notSynchronized
  have hY : Sy D 12 ad A s.heap (obM ad ci σ) s.heap [] := ⟨hP, hD, va_S.rf⟩
  have hl := lv_entry ([.ref (ad 0), .int x1]) (n := 4) (Nat.le_of_ble_eq_true rfl)
  rw [lg_entry_eq]
  generalize (lg_sl ([.ref (ad 0), .int x1]) ++ List.replicate (4 - (lg_sl ([.ref (ad 0), .int x1])).length) Slot.unset).toArray = ls at hl ⊢
  exact eX6_codeAt C0 hK K σ (fun r H locs pc ls hk hY hd => w_iret (I := tt) B.exec B.bytes B.returns hlocks (u := ()) hK hk (fun t ht => ht) hY hR hd) x1 h _ _ hY hR ls hl
set_option maxHeartbeats 4000000 in
set_option maxRecDepth 100000 in
theorem tX6_read_L92 (C0 : CallFix p m c cX6_read 4 s args wsX6_read RX6) (hK : Kx D (tyM ci) s) (K : Int32 → St → Prop) (x2 : Int32) (hret : ∀ (r : Int32) (u : St) (H : Heap) (locs : List Loc) (pc : Nat) (ls : Array Slot), K r u → Sy D 12 ad A H0 (obM ad ci u) H locs → tt u → decode cX6_read pc = .ok (.ireturn, 1) → W p l e rmX6_read s m args below meth c H locs 0 0 Q (F0 m pc ls [.int r])) : ∀ (n : Nat) (σ : St) (x3 : Int32), wX6_read_L92 K x2 n σ x3 → ∀ (H : Heap) (locs : List Loc), Sy D 12 ad A H0 (obM ad ci σ) H locs → tt σ → ∀ ls : Array Slot, lv_has ls 4 [(0, .ref (ad 0)), (2, .int x2), (3, .int x3)] → W p l e rmX6_read s m args below meth c H locs 0 0 Q (F0 m 92 ls []) := by
  obtain ⟨hx, hb, hml, hown, hts⟩ := id C0
  intro n
  induction n with
  | zero =>
    intro σ x3 h
    exact h.elim
  | succ n ih =>
    intro σ x3 h H locs hY hR  ls hl
    refine lv_iload_n hx hb dX6_read_92 rfl (lv_at hl 2 rfl) ?_
    refine lv_iload_n hx hb dX6_read_93 rfl (lv_at hl 1 rfl) ?_
    refine lv_icmp_ge (tgt := 115) hx hb dX6_read_94 (by decide) (fun c_1 => ?_) (fun c_1 => ?_)
    · have h := h.1 c_1
      refine lv_aload_n hx hb dX6_read_115 rfl (lv_at hl 0 rfl) ?_
      refine w_get (o := 0) (ci := 6) (C := RX6) (T := TX6) (N1 := 14) (v := .int (gI σ 1)) hx hb hts kX6_read_inX6 hown hK.1 hY (by decide) obM_main rfl 8 (by decide) (hts _ kX6_read_0) rfl rfl dX6_read_116 ?_
      exact hret (gI σ 1) σ _ _ _ _ h hY hR dX6_read_119
    · have h := h.2 c_1
      refine lv_aload_n hx hb dX6_read_97 rfl (lv_at hl 0 rfl) ?_
      refine w_get (o := 0) (ci := 6) (C := RX6) (T := TX6) (N1 := 14) (v := .ref (ad 1)) hx hb hts kX6_read_inX6 hown hK.1 hY (by decide) obM_main rfl 1 (by decide) (hts _ kX6_read_2) rfl rfl dX6_read_98 ?_
      refine lv_iload_n hx hb dX6_read_101 rfl (lv_at hl 2 rfl) ?_
      refine lv_aload_n hx hb dX6_read_102 rfl (lv_at hl 0 rfl) ?_
      refine w_get (o := 0) (ci := 6) (C := RX6) (T := TX6) (N1 := 14) (v := .ref (ad 4)) hx hb hts kX6_read_inX6 hown hK.1 hY (by decide) obM_main rfl 4 (by decide) (hts _ kX6_read_3) rfl rfl dX6_read_103 ?_
      refine lv_iload_n hx hb dX6_read_106 rfl (lv_at hl 2 rfl) ?_
      obtain ⟨b_2, h⟩ := h
      refine w_cald (o := 4) hx hb hK.1 hY (by decide) 0 rfl rfl b_2 dX6_read_107 ?_
      obtain ⟨b_3, h⟩ := h
      obtain ⟨σ_4, e_σ_4⟩ : ∃ z : St, z = pA σ 1 (x3).toNatClampNeg (vp_nar .char (gA σ 4 (x3).toNatClampNeg)) := ⟨_, rfl⟩
      have h := h σ_4 e_σ_4
      have hR_σ_4 : tt σ_4 := trivial
      refine w_cast (o := 1) hx hb hK.1 hY (by decide) 0 rfl rfl b_3 dX6_read_108 (ob' := obM ad ci σ_4) (by rw [e_σ_4]; exact obM_pA (by rw [← gA_up]; rfl)) (fun H locs hY => ?_)
      refine lv_iinc (v := (x3 + 1)) (lv' := [(3, .int (x3 + 1)), (0, .ref (ad 0)), (2, .int x2)]) hx hb dX6_read_109 hl (k := 2) rfl rfl (by decide) rfl (fun ls hl => ?_)
      refine lv_goto (tgt := 92) hx hb dX6_read_112 (by decide) ?_
      exact ih σ_4 (x3 + 1) h _ _ hY hR_σ_4  _ (lv_sub hl [1, 2, 0] rfl)
set_option maxHeartbeats 4000000 in
set_option maxRecDepth 100000 in
theorem tX6_read_J77 (C0 : CallFix p m c cX6_read 4 s args wsX6_read RX6) (hK : Kx D (tyM ci) s) (K : Int32 → St → Prop) (σ : St) (x2 : Int32) (s1 : Int32) (hret : ∀ (r : Int32) (u : St) (H : Heap) (locs : List Loc) (pc : Nat) (ls : Array Slot), K r u → Sy D 12 ad A H0 (obM ad ci u) H locs → tt u → decode cX6_read pc = .ok (.ireturn, 1) → W p l e rmX6_read s m args below meth c H locs 0 0 Q (F0 m pc ls [.int r])) (h : wX6_read_J77 K σ x2 s1) (H : Heap) (locs : List Loc) (hY : Sy D 12 ad A H0 (obM ad ci σ) H locs) (hR : tt σ) (ls : Array Slot) (hl : lv_has ls 4 [(0, .ref (ad 0)), (2, .int x2)]) : W p l e rmX6_read s m args below meth c H locs 0 0 Q (F0 m 77 ls [.int s1, .ref (ad 0)]) := by
  obtain ⟨hx, hb, hml, hown, hts⟩ := id C0
  refine w_calli (rest := []) (va_runV (As := [.int s1]) (rest := []) C0 (mX6_fails l D ad ci A σ s1 _ hR  h) (cwV 1 hts gX6_read_X6_fails rfl rfl rfl ddX6_fails ⟨Nat.le_of_ble_eq_true rfl, Nat.le_of_ble_eq_true rfl⟩) (w_preV (o := 0) (ci := 6) (ob := obM ad ci) (σ := σ) hK hY (by decide) obM_main rfl rfl) rfl rfl hl.1 rfl (lv_room (Nat.le_of_ble_eq_true rfl)) dX6_read_77 ⟨Nat.zero_le _, Nat.zero_le _⟩) hY (fun r_5 σ_6 H locs h hY hR_σ_6 => ?_)
  obtain ⟨n_r_5, h⟩ := h
  refine lv_if_eq (tgt := 85) hx hb dX6_read_80 (by decide) (fun c_7 => ?_) (fun c_7 => ?_)
  · have h := h.1 c_7
    refine lv_aload_n hx hb dX6_read_85 rfl (lv_at hl 0 rfl) ?_
    refine lv_iload_n hx hb dX6_read_86 rfl (lv_at hl 1 rfl) ?_
    obtain ⟨σ_8, e_σ_8⟩ : ∃ z : St, z = pI σ_6 1 x2 := ⟨_, rfl⟩
    have h := h σ_8 e_σ_8
    have hR_σ_8 : tt σ_8 := trivial
    refine w_put (o := 0) (ci := 6) (C := RX6) (T := TX6) (N1 := 14) hx hb hts kX6_read_inX6 tyX6 tyX6_ok nmX6 hown hK.1 hY (by decide) obM_main rfl 8 (by decide) (hts _ kX6_read_0) rfl rfl rfl (Nat.le_of_ble_eq_true rfl) dX6_read_87 (ob' := obM ad ci σ_8) (by rw [e_σ_8]; exact obM_pI rfl) (fun H locs hY => ?_)
    refine lv_iconst (v := (0 : Int32)) hx hb dX6_read_90 (by decide) ?_
    refine lv_istore_n (lv' := [(3, .int (0 : Int32)), (0, .ref (ad 0)), (2, .int x2)]) hx hb dX6_read_91 rfl hl (by decide) rfl (fun ls hl => ?_)
    obtain ⟨n_9, h⟩ := h
    exact tX6_read_L92 C0 hK K x2 hret n_9 σ_8 (0 : Int32) h _ _ hY hR_σ_8  _ (lv_sub hl [1, 2, 0] rfl)
  · have h := h.2 c_7
    refine lv_iconst (v := (0 : Int32)) hx hb dX6_read_83 (by decide) ?_
    exact hret (0 : Int32) σ_6 _ _ _ _ h hY hR_σ_6 dX6_read_84
set_option maxHeartbeats 4000000 in
set_option maxRecDepth 100000 in
theorem tX6_read_J52 (C0 : CallFix p m c cX6_read 4 s args wsX6_read RX6) (hK : Kx D (tyM ci) s) (K : Int32 → St → Prop) (σ : St) (x1 : Int32) (x2 : Int32) (hret : ∀ (r : Int32) (u : St) (H : Heap) (locs : List Loc) (pc : Nat) (ls : Array Slot), K r u → Sy D 12 ad A H0 (obM ad ci u) H locs → tt u → decode cX6_read pc = .ok (.ireturn, 1) → W p l e rmX6_read s m args below meth c H locs 0 0 Q (F0 m pc ls [.int r])) (h : wX6_read_J52 K σ x1 x2) (H : Heap) (locs : List Loc) (hY : Sy D 12 ad A H0 (obM ad ci σ) H locs) (hR : tt σ) (ls : Array Slot) (hl : lv_has ls 4 [(0, .ref (ad 0)), (1, .int x1), (2, .int x2)]) : W p l e rmX6_read s m args below meth c H locs 0 0 Q (F0 m 52 ls []) := by
  obtain ⟨hx, hb, hml, hown, hts⟩ := id C0
  refine lv_aload_n hx hb dX6_read_52 rfl (lv_at hl 0 rfl) ?_
  refine lv_aload_n hx hb dX6_read_53 rfl (lv_at hl 0 rfl) ?_
  refine w_callip (rest := [.ref (ad 0)]) (va_runV (As := []) (rest := [.ref (ad 0)]) C0 (mX6_areOrderly l D ad ci A σ _ hR  h) (cwV 0 hts gX6_read_X6_areOrderly rfl rfl rfl ddX6_areOrderly ⟨Nat.le_of_ble_eq_true rfl, Nat.le_of_ble_eq_true rfl⟩) (w_preV (o := 0) (ci := 6) (ob := obM ad ci) (σ := σ) hK hY (by decide) obM_main rfl rfl) rfl rfl hl.1 rfl (lv_room (Nat.le_of_ble_eq_true rfl)) dX6_read_54 ⟨Nat.zero_le _, Nat.zero_le _⟩) hY (fun r_10 H locs h hY => ?_)
  obtain ⟨n_r_10, h⟩ := h
  refine lv_if_ne (tgt := 64) hx hb dX6_read_57 (by decide) (fun c_11 => ?_) (fun c_11 => ?_)
  · have h := h.2 c_11
    refine lv_iload_n hx hb dX6_read_64 rfl (lv_at hl 1 rfl) ?_
    refine lv_aload_n hx hb dX6_read_65 rfl (lv_at hl 0 rfl) ?_
    refine w_get (o := 0) (ci := 6) (C := RX6) (T := TX6) (N1 := 14) (v := .int (gI σ 1)) hx hb hts kX6_read_inX6 hown hK.1 hY (by decide) obM_main rfl 8 (by decide) (hts _ kX6_read_0) rfl rfl dX6_read_66 ?_
    refine lv_icmp_ge (tgt := 76) hx hb dX6_read_69 (by decide) (fun c_12 => ?_) (fun c_12 => ?_)
    · have h := h.1 c_12
      refine lv_iconst (v := (0 : Int32)) hx hb dX6_read_76 (by decide) ?_
      exact tX6_read_J77 C0 hK K σ x2 (0 : Int32) hret h _ _ hY hR _ (lv_sub hl [0, 2] rfl)
    · have h := h.2 c_12
      refine lv_iconst (v := (2 : Int32)) hx hb dX6_read_72 (by decide) ?_
      refine lv_goto (tgt := 77) hx hb dX6_read_73 (by decide) ?_
      exact tX6_read_J77 C0 hK K σ x2 (2 : Int32) hret h _ _ hY hR _ (lv_sub hl [0, 2] rfl)
  · have h := h.1 c_11
    refine lv_iconst (v := (1 : Int32)) hx hb dX6_read_60 (by decide) ?_
    refine lv_goto (tgt := 77) hx hb dX6_read_61 (by decide) ?_
    exact tX6_read_J77 C0 hK K σ x2 (1 : Int32) hret h _ _ hY hR _ (lv_sub hl [0, 2] rfl)
set_option maxHeartbeats 4000000 in
set_option maxRecDepth 100000 in
theorem tX6_read_L4 (C0 : CallFix p m c cX6_read 4 s args wsX6_read RX6) (hK : Kx D (tyM ci) s) (K : Int32 → St → Prop) (hret : ∀ (r : Int32) (u : St) (H : Heap) (locs : List Loc) (pc : Nat) (ls : Array Slot), K r u → Sy D 12 ad A H0 (obM ad ci u) H locs → tt u → decode cX6_read pc = .ok (.ireturn, 1) → W p l e rmX6_read s m args below meth c H locs 0 0 Q (F0 m pc ls [.int r])) : ∀ (n : Nat) (σ : St) (x1 : Int32) (x2 : Int32), wX6_read_L4 K n σ x1 x2 → ∀ (H : Heap) (locs : List Loc), Sy D 12 ad A H0 (obM ad ci σ) H locs → tt σ → ∀ ls : Array Slot, lv_has ls 4 [(0, .ref (ad 0)), (1, .int x1), (2, .int x2)] → W p l e rmX6_read s m args below meth c H locs 0 0 Q (F0 m 4 ls []) := by
  obtain ⟨hx, hb, hml, hown, hts⟩ := id C0
  intro n
  induction n with
  | zero =>
    intro σ x1 x2 h
    exact h.elim
  | succ n ih =>
    intro σ x1 x2 h H locs hY hR  ls hl
    refine lv_iload_n hx hb dX6_read_4 rfl (lv_at hl 1 rfl) ?_
    refine lv_aload_n hx hb dX6_read_5 rfl (lv_at hl 0 rfl) ?_
    refine w_get (o := 0) (ci := 6) (C := RX6) (T := TX6) (N1 := 14) (v := .int (gI σ 1)) hx hb hts kX6_read_inX6 hown hK.1 hY (by decide) obM_main rfl 8 (by decide) (hts _ kX6_read_0) rfl rfl dX6_read_6 ?_
    refine lv_icmp_ge (tgt := 52) hx hb dX6_read_9 (by decide) (fun c_13 => ?_) (fun c_13 => ?_)
    · have h := h.1 c_13
      exact tX6_read_J52 C0 hK K σ x1 x2 hret h _ _ hY hR _ (lv_sub hl [0, 1, 2] rfl)
    · have h := h.2 c_13
      refine lv_aload_n hx hb dX6_read_12 rfl (lv_at hl 0 rfl) ?_
      refine lv_iload_n hx hb dX6_read_13 rfl (lv_at hl 1 rfl) ?_
      refine w_callip (rest := []) (va_runV (As := [.int x1]) (rest := []) C0 (mX6_codeAt l D ad ci A σ x1 _ hR  h) (cwV 1 hts gX6_read_X6_codeAt rfl rfl rfl ddX6_codeAt ⟨Nat.le_of_ble_eq_true rfl, Nat.le_of_ble_eq_true rfl⟩) (w_preV (o := 0) (ci := 6) (ob := obM ad ci) (σ := σ) hK hY (by decide) obM_main rfl rfl) rfl rfl hl.1 rfl (lv_room (Nat.le_of_ble_eq_true rfl)) dX6_read_14 ⟨Nat.zero_le _, Nat.zero_le _⟩) hY (fun r_14 H locs h hY => ?_)
      refine lv_if_lt (tgt := 52) hx hb dX6_read_17 (by decide) (fun c_15 => ?_) (fun c_15 => ?_)
      · have h := h.1 c_15
        exact tX6_read_J52 C0 hK K σ x1 x2 hret h _ _ hY hR _ (lv_sub hl [0, 1, 2] rfl)
      · have h := h.2 c_15
        refine lv_aload_n hx hb dX6_read_20 rfl (lv_at hl 0 rfl) ?_
        refine lv_iload_n hx hb dX6_read_21 rfl (lv_at hl 1 rfl) ?_
        refine w_callip (rest := []) (va_runV (As := [.int x1]) (rest := []) C0 (mX6_codeAt l D ad ci A σ x1 _ hR  h) (cwV 1 hts gX6_read_X6_codeAt rfl rfl rfl ddX6_codeAt ⟨Nat.le_of_ble_eq_true rfl, Nat.le_of_ble_eq_true rfl⟩) (w_preV (o := 0) (ci := 6) (ob := obM ad ci) (σ := σ) hK hY (by decide) obM_main rfl rfl) rfl rfl hl.1 rfl (lv_room (Nat.le_of_ble_eq_true rfl)) dX6_read_22 ⟨Nat.zero_le _, Nat.zero_le _⟩) hY (fun r_16 H locs h hY => ?_)
        refine lv_istore_n (lv' := [(3, .int r_16), (0, .ref (ad 0)), (1, .int x1), (2, .int x2)]) hx hb dX6_read_25 rfl hl (by decide) rfl (fun ls hl => ?_)
        refine lv_aload_n hx hb dX6_read_26 rfl (lv_at hl 1 rfl) ?_
        refine w_get (o := 0) (ci := 6) (C := RX6) (T := TX6) (N1 := 14) (v := .ref (ad 4)) hx hb hts kX6_read_inX6 hown hK.1 hY (by decide) obM_main rfl 4 (by decide) (hts _ kX6_read_3) rfl rfl dX6_read_27 ?_
        refine lv_iload_n hx hb dX6_read_30 rfl (lv_at hl 3 rfl) ?_
        refine lv_bipush (v := (97 : Int32)) hx hb dX6_read_31 (by decide) ?_
        refine lv_iload_n hx hb dX6_read_33 rfl (lv_at hl 0 rfl) ?_
        refine lv_iadd hx hb dX6_read_34 ?_
        refine lv_i2c hx hb dX6_read_35 rfl ?_
        obtain ⟨b_17, h⟩ := h
        obtain ⟨σ_18, e_σ_18⟩ : ∃ z : St, z = pA σ 4 (x2).toNatClampNeg (vp_nar .char ((((97 : Int32) + r_16)).toUInt32 % 65536).toInt32) := ⟨_, rfl⟩
        have h := h σ_18 e_σ_18
        have hR_σ_18 : tt σ_18 := trivial
        refine w_cast (o := 4) hx hb hK.1 hY (by decide) 0 rfl rfl b_17 dX6_read_36 (ob' := obM ad ci σ_18) (by rw [e_σ_18]; exact obM_pA (by rw [← gA_up]; rfl)) (fun H locs hY => ?_)
        refine lv_iinc (v := (x2 + 1)) (lv' := [(2, .int (x2 + 1)), (3, .int r_16), (0, .ref (ad 0)), (1, .int x1)]) hx hb dX6_read_37 hl (k := 3) rfl rfl (by decide) rfl (fun ls hl => ?_)
        refine lv_iload_n hx hb dX6_read_40 rfl (lv_at hl 3 rfl) ?_
        refine lv_aload_n hx hb dX6_read_41 rfl (lv_at hl 2 rfl) ?_
        refine w_get (o := 0) (ci := 6) (C := RX6) (T := TX6) (N1 := 14) (v := .ref (ad 7)) hx hb hts kX6_read_inX6 hown hK.1 hY (by decide) obM_main rfl 7 (by decide) (hts _ kX6_read_4) rfl rfl dX6_read_42 ?_
        refine lv_iload_n hx hb dX6_read_45 rfl (lv_at hl 1 rfl) ?_
        obtain ⟨b_19, h⟩ := h
        refine w_iald (o := 7) hx hb hK.1 hY (by decide) 1 rfl rfl b_19 dX6_read_46 ?_
        refine lv_iadd hx hb dX6_read_47 ?_
        refine lv_topi (fun x1_20 e_x1_20 => ?_)
        have h := h x1_20 e_x1_20
        refine lv_istore_n (lv' := [(1, .int x1_20), (2, .int (x2 + 1)), (3, .int r_16), (0, .ref (ad 0))]) hx hb dX6_read_48 rfl hl (by decide) rfl (fun ls hl => ?_)
        refine lv_goto (tgt := 4) hx hb dX6_read_49 (by decide) ?_
        exact ih σ_18 x1_20 (x2 + 1) h _ _ hY hR_σ_18  _ (lv_sub hl [3, 0, 1] rfl)
set_option maxHeartbeats 4000000 in
set_option maxRecDepth 100000 in
theorem eX6_read (C0 : CallFix p m c cX6_read 4 s args wsX6_read RX6) (hK : Kx D (tyM ci) s) (K : Int32 → St → Prop) (σ : St) (hret : ∀ (r : Int32) (u : St) (H : Heap) (locs : List Loc) (pc : Nat) (ls : Array Slot), K r u → Sy D 12 ad A H0 (obM ad ci u) H locs → tt u → decode cX6_read pc = .ok (.ireturn, 1) → W p l e rmX6_read s m args below meth c H locs 0 0 Q (F0 m pc ls [.int r])) (h : wX6_read σ K) (H : Heap) (locs : List Loc) (hY : Sy D 12 ad A H0 (obM ad ci σ) H locs) (hR : tt σ) (ls : Array Slot) (hl : lv_has ls 4 [(0, .ref (ad 0))]) : W p l e rmX6_read s m args below meth c H locs 0 0 Q (F0 m 0 ls []) := by
  obtain ⟨hx, hb, hml, hown, hts⟩ := id C0
  refine lv_iconst (v := (0 : Int32)) hx hb dX6_read_0 (by decide) ?_
  refine lv_istore_n (lv' := [(1, .int (0 : Int32)), (0, .ref (ad 0))]) hx hb dX6_read_1 rfl hl (by decide) rfl (fun ls hl => ?_)
  refine lv_iconst (v := (0 : Int32)) hx hb dX6_read_2 (by decide) ?_
  refine lv_istore_n (lv' := [(2, .int (0 : Int32)), (1, .int (0 : Int32)), (0, .ref (ad 0))]) hx hb dX6_read_3 rfl hl (by decide) rfl (fun ls hl => ?_)
  obtain ⟨n_21, h⟩ := h
  exact tX6_read_L4 C0 hK K hret n_21 σ (0 : Int32) (0 : Int32) h _ _ hY hR  _ (lv_sub hl [2, 1, 0] rfl)
set_option maxHeartbeats 4000000 in
set_option maxRecDepth 100000 in
theorem mX6_read (l : Launch) (D : va_G) (ad : Nat → Nat) (ci : Nat → ClassId) (A : Nat → Prop) (σ : St) (K : Int32 → St → Prop) (hR : tt σ) (h : wX6_read σ K) : Met l yX6_read wsX6_read rmX6_read (va_Pc [.ref (ad 0)] (PreW D 12 ad A (tyM ci) (obM ad ci σ))) (va_Qi (fun r u => K r u) (PostW D 12 ad (tyM ci) (obM ad ci) tt) A) 0 0 A := by
  refine Met.ofW (cc := cX6_read) (maxL := 4) (ret := (some .int)) (by decide) rfl ?_
  intro p e s m args below meth c s₁ B hml hv
  obtain ⟨rfl, hP, hK, hD⟩ := hv
  have C0 : CallFix p m c cX6_read 4 s _ wsX6_read RX6 := ⟨B.exec, B.bytes, hml, findClass_of_methodNamed B.named, atoms_spec (ws := wsX6_read) B.pre⟩
  have hlocks := B.notSynchronized
  have hY : Sy D 12 ad A s.heap (obM ad ci σ) s.heap [] := ⟨hP, hD, va_S.rf⟩
  have hl := lv_entry ([.ref (ad 0)]) (n := 4) (Nat.le_of_ble_eq_true rfl)
  rw [lg_entry_eq]
  generalize (lg_sl ([.ref (ad 0)]) ++ List.replicate (4 - (lg_sl ([.ref (ad 0)])).length) Slot.unset).toArray = ls at hl ⊢
  exact eX6_read C0 hK K σ (fun r u H locs pc ls hk hY hR hd => w_iret (I := tt) B.exec B.bytes B.returns hlocks hK hk (fun t ht => ht) hY hR hd) h _ _ hY hR ls hl
set_option maxHeartbeats 4000000 in
set_option maxRecDepth 100000 in
theorem tX6_written_L4 (C0 : CallFix p m c cX6_written 4 s args wsX6_written RX6) (hK : Kx D (tyM ci) s) (K : Int32 → St → Prop) (x1 : Int32) (hret : ∀ (r : Int32) (u : St) (H : Heap) (locs : List Loc) (pc : Nat) (ls : Array Slot), K r u → Sy D 12 ad A H0 (obM ad ci u) H locs → tt u → decode cX6_written pc = .ok (.ireturn, 1) → W p l e rmX6_written s m args below meth c H locs 0 0 Q (F0 m pc ls [.int r])) : ∀ (n : Nat) (σ : St) (x2 : Int32) (x3 : Int32), wX6_written_L4 K x1 n σ x2 x3 → ∀ (H : Heap) (locs : List Loc), Sy D 12 ad A H0 (obM ad ci σ) H locs → tt σ → ∀ ls : Array Slot, lv_has ls 4 [(0, .ref (ad 0)), (1, .int x1), (2, .int x2), (3, .int x3)] → W p l e rmX6_written s m args below meth c H locs 0 0 Q (F0 m 4 ls []) := by
  obtain ⟨hx, hb, hml, hown, hts⟩ := id C0
  intro n
  induction n with
  | zero =>
    intro σ x2 x3 h
    exact h.elim
  | succ n ih =>
    intro σ x2 x3 h H locs hY hR  ls hl
    refine lv_iload_n hx hb dX6_written_4 rfl (lv_at hl 3 rfl) ?_
    refine lv_aload_n hx hb dX6_written_5 rfl (lv_at hl 0 rfl) ?_
    refine w_get (o := 0) (ci := 6) (C := RX6) (T := TX6) (N1 := 14) (v := .ref (ad 5)) hx hb hts kX6_written_inX6 hown hK.1 hY (by decide) obM_main rfl 5 (by decide) (hts _ kX6_written_0) rfl rfl dX6_written_6 ?_
    refine lv_iload_n hx hb dX6_written_9 rfl (lv_at hl 1 rfl) ?_
    obtain ⟨b_1, h⟩ := h
    refine w_iald (o := 5) hx hb hK.1 hY (by decide) 1 rfl rfl b_1 dX6_written_10 ?_
    refine lv_icmp_ge (tgt := 37) hx hb dX6_written_11 (by decide) (fun c_2 => ?_) (fun c_2 => ?_)
    · have h := h.1 c_2
      refine lv_iload_n hx hb dX6_written_37 rfl (lv_at hl 2 rfl) ?_
      exact hret x2 σ _ _ _ _ h hY hR dX6_written_38
    · have h := h.2 c_2
      refine lv_aload_n hx hb dX6_written_14 rfl (lv_at hl 0 rfl) ?_
      refine lv_iload_n hx hb dX6_written_15 rfl (lv_at hl 2 rfl) ?_
      refine lv_aload_n hx hb dX6_written_16 rfl (lv_at hl 0 rfl) ?_
      refine w_get (o := 0) (ci := 6) (C := RX6) (T := TX6) (N1 := 14) (v := .ref (ad 2)) hx hb hts kX6_written_inX6 hown hK.1 hY (by decide) obM_main rfl 2 (by decide) (hts _ kX6_written_2) rfl rfl dX6_written_17 ?_
      refine lv_bipush (v := (10 : Int32)) hx hb dX6_written_20 (by decide) ?_
      refine lv_iload_n hx hb dX6_written_22 rfl (lv_at hl 1 rfl) ?_
      refine lv_imul hx hb dX6_written_23 ?_
      refine lv_iload_n hx hb dX6_written_24 rfl (lv_at hl 3 rfl) ?_
      refine lv_iadd hx hb dX6_written_25 ?_
      obtain ⟨b_3, h⟩ := h
      refine w_cald (o := 2) hx hb hK.1 hY (by decide) 0 rfl rfl b_3 dX6_written_26 ?_
      refine w_calli (rest := []) (va_runV (As := [.int x2, .int (gA σ 2 ((((10 : Int32) * x1) + x3)).toNatClampNeg)]) (rest := []) C0 (mX6_puts l D ad ci A σ x2 (gA σ 2 ((((10 : Int32) * x1) + x3)).toNatClampNeg) _ hR  h) (cwV 2 hts gX6_written_X6_puts rfl rfl rfl ddX6_puts ⟨Nat.le_of_ble_eq_true rfl, Nat.le_of_ble_eq_true rfl⟩) (w_preV (o := 0) (ci := 6) (ob := obM ad ci) (σ := σ) hK hY (by decide) obM_main rfl rfl) rfl rfl hl.1 rfl (lv_room (Nat.le_of_ble_eq_true rfl)) dX6_written_27 ⟨Nat.zero_le _, Nat.zero_le _⟩) hY (fun r_4 σ_5 H locs h hY hR_σ_5 => ?_)
      refine lv_istore_n (lv' := [(2, .int r_4), (0, .ref (ad 0)), (1, .int x1), (3, .int x3)]) hx hb dX6_written_30 rfl hl (by decide) rfl (fun ls hl => ?_)
      refine lv_iinc (v := (x3 + 1)) (lv' := [(3, .int (x3 + 1)), (2, .int r_4), (0, .ref (ad 0)), (1, .int x1)]) hx hb dX6_written_31 hl (k := 3) rfl rfl (by decide) rfl (fun ls hl => ?_)
      refine lv_goto (tgt := 4) hx hb dX6_written_34 (by decide) ?_
      exact ih σ_5 r_4 (x3 + 1) h _ _ hY hR_σ_5  _ (lv_sub hl [2, 3, 1, 0] rfl)
set_option maxHeartbeats 4000000 in
set_option maxRecDepth 100000 in
theorem eX6_written (C0 : CallFix p m c cX6_written 4 s args wsX6_written RX6) (hK : Kx D (tyM ci) s) (K : Int32 → St → Prop) (σ : St) (hret : ∀ (r : Int32) (u : St) (H : Heap) (locs : List Loc) (pc : Nat) (ls : Array Slot), K r u → Sy D 12 ad A H0 (obM ad ci u) H locs → tt u → decode cX6_written pc = .ok (.ireturn, 1) → W p l e rmX6_written s m args below meth c H locs 0 0 Q (F0 m pc ls [.int r])) (x1 : Int32) (h : wX6_written σ x1 K) (H : Heap) (locs : List Loc) (hY : Sy D 12 ad A H0 (obM ad ci σ) H locs) (hR : tt σ) (ls : Array Slot) (hl : lv_has ls 4 [(0, .ref (ad 0)), (1, .int x1)]) : W p l e rmX6_written s m args below meth c H locs 0 0 Q (F0 m 0 ls []) := by
  obtain ⟨hx, hb, hml, hown, hts⟩ := id C0
  refine lv_iconst (v := (0 : Int32)) hx hb dX6_written_0 (by decide) ?_
  refine lv_istore_n (lv' := [(2, .int (0 : Int32)), (0, .ref (ad 0)), (1, .int x1)]) hx hb dX6_written_1 rfl hl (by decide) rfl (fun ls hl => ?_)
  refine lv_iconst (v := (0 : Int32)) hx hb dX6_written_2 (by decide) ?_
  refine lv_istore_n (lv' := [(3, .int (0 : Int32)), (2, .int (0 : Int32)), (0, .ref (ad 0)), (1, .int x1)]) hx hb dX6_written_3 rfl hl (by decide) rfl (fun ls hl => ?_)
  obtain ⟨n_6, h⟩ := h
  exact tX6_written_L4 C0 hK K x1 hret n_6 σ (0 : Int32) (0 : Int32) h _ _ hY hR  _ (lv_sub hl [2, 3, 1, 0] rfl)
set_option maxHeartbeats 4000000 in
set_option maxRecDepth 100000 in
theorem mX6_written (l : Launch) (D : va_G) (ad : Nat → Nat) (ci : Nat → ClassId) (A : Nat → Prop) (σ : St) (x1 : Int32) (K : Int32 → St → Prop) (hR : tt σ) (h : wX6_written σ x1 K) : Met l yX6_written wsX6_written rmX6_written (va_Pc [.ref (ad 0), .int x1] (PreW D 12 ad A (tyM ci) (obM ad ci σ))) (va_Qi (fun r u => K r u) (PostW D 12 ad (tyM ci) (obM ad ci) tt) A) 0 0 A := by
  refine Met.ofW (cc := cX6_written) (maxL := 4) (ret := (some .int)) (by decide) rfl ?_
  intro p e s m args below meth c s₁ B hml hv
  obtain ⟨rfl, hP, hK, hD⟩ := hv
  have C0 : CallFix p m c cX6_written 4 s _ wsX6_written RX6 := ⟨B.exec, B.bytes, hml, findClass_of_methodNamed B.named, atoms_spec (ws := wsX6_written) B.pre⟩
  have hlocks := B.notSynchronized
  have hY : Sy D 12 ad A s.heap (obM ad ci σ) s.heap [] := ⟨hP, hD, va_S.rf⟩
  have hl := lv_entry ([.ref (ad 0), .int x1]) (n := 4) (Nat.le_of_ble_eq_true rfl)
  rw [lg_entry_eq]
  generalize (lg_sl ([.ref (ad 0), .int x1]) ++ List.replicate (4 - (lg_sl ([.ref (ad 0), .int x1])).length) Slot.unset).toArray = ls at hl ⊢
  exact eX6_written C0 hK K σ (fun r u H locs pc ls hk hY hR hd => w_iret (I := tt) B.exec B.bytes B.returns hlocks hK hk (fun t ht => ht) hY hR hd) x1 h _ _ hY hR ls hl
set_option maxHeartbeats 4000000 in
set_option maxRecDepth 100000 in
theorem tX6_writeAll_L109 (C0 : CallFix p m c cX6_writeAll 6 s args wsX6_writeAll RX6) (hK : Kx D (tyM ci) s) (K : Int32 → St → Prop) (B69 : St → Int32 → Int32 → Prop) (x2 : Int32) (x3 : Int32) (x4 : Int32) (hret : ∀ (r : Int32) (u : St) (H : Heap) (locs : List Loc) (pc : Nat) (ls : Array Slot), K r u → Sy D 12 ad A H0 (obM ad ci u) H locs → tt u → decode cX6_writeAll pc = .ok (.ireturn, 1) → W p l e rmX6_writeAll s m args below meth c H locs 0 0 Q (F0 m pc ls [.int r])) (hB69 : ∀ (σ : St) (x2 : Int32) (x3 : Int32), B69 σ x2 x3 → ∀ (H : Heap) (locs : List Loc), Sy D 12 ad A H0 (obM ad ci σ) H locs → tt σ → ∀ ls : Array Slot, lv_has ls 6 [(0, .ref (ad 0)), (2, .int x2), (3, .int x3)] → W p l e rmX6_writeAll s m args below meth c H locs 0 0 Q (F0 m 69 ls [])) : ∀ (n : Nat) (σ : St) (x5 : Int32), wX6_writeAll_L109 K B69 x2 x3 x4 n σ x5 → ∀ (H : Heap) (locs : List Loc), Sy D 12 ad A H0 (obM ad ci σ) H locs → tt σ → ∀ ls : Array Slot, lv_has ls 6 [(0, .ref (ad 0)), (2, .int x2), (3, .int x3), (4, .int x4), (5, .int x5)] → W p l e rmX6_writeAll s m args below meth c H locs 0 0 Q (F0 m 109 ls []) := by
  obtain ⟨hx, hb, hml, hown, hts⟩ := id C0
  intro n
  induction n with
  | zero =>
    intro σ x5 h
    exact h.elim
  | succ n ih =>
    intro σ x5 h H locs hY hR  ls hl
    refine lv_iload hx hb dX6_writeAll_109 (lv_at hl 4 rfl) ?_
    refine lv_iload hx hb dX6_writeAll_111 (lv_at hl 3 rfl) ?_
    refine lv_icmp_ge (tgt := 141) hx hb dX6_writeAll_113 (by decide) (fun c_1 => ?_) (fun c_1 => ?_)
    · have h := h.1 c_1
      refine lv_iinc (v := (x3 + 1)) (lv' := [(3, .int (x3 + 1)), (0, .ref (ad 0)), (2, .int x2), (4, .int x4), (5, .int x5)]) hx hb dX6_writeAll_141 hl (k := 2) rfl rfl (by decide) rfl (fun ls hl => ?_)
      refine lv_goto (tgt := 69) hx hb dX6_writeAll_144 (by decide) ?_
      exact hB69 σ x2 (x3 + 1) h _ _ hY hR  _ (lv_sub hl [1, 2, 0] rfl)
    · have h := h.2 c_1
      refine lv_aload_n hx hb dX6_writeAll_116 rfl (lv_at hl 0 rfl) ?_
      refine w_get (o := 0) (ci := 6) (C := RX6) (T := TX6) (N1 := 14) (v := .ref (ad 2)) hx hb hts kX6_writeAll_inX6 hown hK.1 hY (by decide) obM_main rfl 2 (by decide) (hts _ kX6_writeAll_0) rfl rfl dX6_writeAll_117 ?_
      refine lv_bipush (v := (10 : Int32)) hx hb dX6_writeAll_120 (by decide) ?_
      refine lv_iload_n hx hb dX6_writeAll_122 rfl (lv_at hl 2 rfl) ?_
      refine lv_imul hx hb dX6_writeAll_123 ?_
      refine lv_iload hx hb dX6_writeAll_124 (lv_at hl 4 rfl) ?_
      refine lv_iadd hx hb dX6_writeAll_126 ?_
      refine lv_aload_n hx hb dX6_writeAll_127 rfl (lv_at hl 0 rfl) ?_
      refine w_get (o := 0) (ci := 6) (C := RX6) (T := TX6) (N1 := 14) (v := .ref (ad 4)) hx hb hts kX6_writeAll_inX6 hown hK.1 hY (by decide) obM_main rfl 4 (by decide) (hts _ kX6_writeAll_2) rfl rfl dX6_writeAll_128 ?_
      refine lv_iload hx hb dX6_writeAll_131 (lv_at hl 4 rfl) ?_
      obtain ⟨b_2, h⟩ := h
      refine w_cald (o := 4) hx hb hK.1 hY (by decide) 0 rfl rfl b_2 dX6_writeAll_133 ?_
      obtain ⟨b_3, h⟩ := h
      obtain ⟨σ_4, e_σ_4⟩ : ∃ z : St, z = pA σ 2 ((((10 : Int32) * x3) + x5)).toNatClampNeg (vp_nar .char (gA σ 4 (x5).toNatClampNeg)) := ⟨_, rfl⟩
      have h := h σ_4 e_σ_4
      have hR_σ_4 : tt σ_4 := trivial
      refine w_cast (o := 2) hx hb hK.1 hY (by decide) 0 rfl rfl b_3 dX6_writeAll_134 (ob' := obM ad ci σ_4) (by rw [e_σ_4]; exact obM_pA (by rw [← gA_up]; rfl)) (fun H locs hY => ?_)
      refine lv_iinc (v := (x5 + 1)) (lv' := [(5, .int (x5 + 1)), (0, .ref (ad 0)), (2, .int x2), (3, .int x3), (4, .int x4)]) hx hb dX6_writeAll_135 hl (k := 4) rfl rfl (by decide) rfl (fun ls hl => ?_)
      refine lv_goto (tgt := 109) hx hb dX6_writeAll_138 (by decide) ?_
      exact ih σ_4 (x5 + 1) h _ _ hY hR_σ_4  _ (lv_sub hl [1, 2, 3, 4, 0] rfl)
set_option maxHeartbeats 4000000 in
set_option maxRecDepth 100000 in
theorem tX6_writeAll_J98 (C0 : CallFix p m c cX6_writeAll 6 s args wsX6_writeAll RX6) (hK : Kx D (tyM ci) s) (K : Int32 → St → Prop) (B69 : St → Int32 → Int32 → Prop) (σ : St) (x2 : Int32) (x3 : Int32) (x4 : Int32) (hret : ∀ (r : Int32) (u : St) (H : Heap) (locs : List Loc) (pc : Nat) (ls : Array Slot), K r u → Sy D 12 ad A H0 (obM ad ci u) H locs → tt u → decode cX6_writeAll pc = .ok (.ireturn, 1) → W p l e rmX6_writeAll s m args below meth c H locs 0 0 Q (F0 m pc ls [.int r])) (hB69 : ∀ (σ : St) (x2 : Int32) (x3 : Int32), B69 σ x2 x3 → ∀ (H : Heap) (locs : List Loc), Sy D 12 ad A H0 (obM ad ci σ) H locs → tt σ → ∀ ls : Array Slot, lv_has ls 6 [(0, .ref (ad 0)), (2, .int x2), (3, .int x3)] → W p l e rmX6_writeAll s m args below meth c H locs 0 0 Q (F0 m 69 ls [])) (h : wX6_writeAll_J98 K B69 σ x2 x3 x4) (H : Heap) (locs : List Loc) (hY : Sy D 12 ad A H0 (obM ad ci σ) H locs) (hR : tt σ) (ls : Array Slot) (hl : lv_has ls 6 [(0, .ref (ad 0)), (2, .int x2), (3, .int x3), (4, .int x4)]) : W p l e rmX6_writeAll s m args below meth c H locs 0 0 Q (F0 m 98 ls []) := by
  obtain ⟨hx, hb, hml, hown, hts⟩ := id C0
  refine lv_aload_n hx hb dX6_writeAll_98 rfl (lv_at hl 0 rfl) ?_
  refine w_get (o := 0) (ci := 6) (C := RX6) (T := TX6) (N1 := 14) (v := .ref (ad 5)) hx hb hts kX6_writeAll_inX6 hown hK.1 hY (by decide) obM_main rfl 5 (by decide) (hts _ kX6_writeAll_3) rfl rfl dX6_writeAll_99 ?_
  refine lv_iload_n hx hb dX6_writeAll_102 rfl (lv_at hl 2 rfl) ?_
  refine lv_iload hx hb dX6_writeAll_103 (lv_at hl 3 rfl) ?_
  obtain ⟨b_5, h⟩ := h
  obtain ⟨σ_6, e_σ_6⟩ : ∃ z : St, z = pA σ 5 (x3).toNatClampNeg x4 := ⟨_, rfl⟩
  have h := h σ_6 e_σ_6
  have hR_σ_6 : tt σ_6 := trivial
  refine w_iast (o := 5) hx hb hK.1 hY (by decide) 1 rfl rfl b_5 dX6_writeAll_105 (ob' := obM ad ci σ_6) (by rw [e_σ_6]; exact obM_pA (by rw [← gA_up]; rfl)) (fun H locs hY => ?_)
  refine lv_iconst (v := (0 : Int32)) hx hb dX6_writeAll_106 (by decide) ?_
  refine lv_istore (lv' := [(5, .int (0 : Int32)), (0, .ref (ad 0)), (2, .int x2), (3, .int x3), (4, .int x4)]) hx hb dX6_writeAll_107 hl (by decide) rfl (fun ls hl => ?_)
  obtain ⟨n_7, h⟩ := h
  exact tX6_writeAll_L109 C0 hK K B69 x2 x3 x4 hret hB69 n_7 σ_6 (0 : Int32) h _ _ hY hR_σ_6  _ (lv_sub hl [1, 2, 3, 4, 0] rfl)
set_option maxHeartbeats 4000000 in
set_option maxRecDepth 100000 in
theorem tX6_writeAll_L69 (C0 : CallFix p m c cX6_writeAll 6 s args wsX6_writeAll RX6) (hK : Kx D (tyM ci) s) (K : Int32 → St → Prop) (hret : ∀ (r : Int32) (u : St) (H : Heap) (locs : List Loc) (pc : Nat) (ls : Array Slot), K r u → Sy D 12 ad A H0 (obM ad ci u) H locs → tt u → decode cX6_writeAll pc = .ok (.ireturn, 1) → W p l e rmX6_writeAll s m args below meth c H locs 0 0 Q (F0 m pc ls [.int r])) : ∀ (n : Nat) (σ : St) (x2 : Int32) (x3 : Int32), wX6_writeAll_L69 K n σ x2 x3 → ∀ (H : Heap) (locs : List Loc), Sy D 12 ad A H0 (obM ad ci σ) H locs → tt σ → ∀ ls : Array Slot, lv_has ls 6 [(0, .ref (ad 0)), (2, .int x2), (3, .int x3)] → W p l e rmX6_writeAll s m args below meth c H locs 0 0 Q (F0 m 69 ls []) := by
  obtain ⟨hx, hb, hml, hown, hts⟩ := id C0
  intro n
  induction n with
  | zero =>
    intro σ x2 x3 h
    exact h.elim
  | succ n ih =>
    intro σ x2 x3 h H locs hY hR  ls hl
    refine lv_iload_n hx hb dX6_writeAll_69 rfl (lv_at hl 2 rfl) ?_
    refine lv_aload_n hx hb dX6_writeAll_70 rfl (lv_at hl 0 rfl) ?_
    refine w_get (o := 0) (ci := 6) (C := RX6) (T := TX6) (N1 := 14) (v := .int (gI σ 2)) hx hb hts kX6_writeAll_inX6 hown hK.1 hY (by decide) obM_main rfl 9 (by decide) (hts _ kX6_writeAll_4) rfl rfl dX6_writeAll_71 ?_
    refine lv_icmp_ge (tgt := 147) hx hb dX6_writeAll_74 (by decide) (fun c_8 => ?_) (fun c_8 => ?_)
    · have h := h.1 c_8
      refine lv_iload_n hx hb dX6_writeAll_147 rfl (lv_at hl 1 rfl) ?_
      exact hret x2 σ _ _ _ _ h hY hR dX6_writeAll_148
    · have h := h.2 c_8
      refine lv_aload_n hx hb dX6_writeAll_77 rfl (lv_at hl 0 rfl) ?_
      refine lv_iload_n hx hb dX6_writeAll_78 rfl (lv_at hl 2 rfl) ?_
      refine w_calli (rest := []) (va_runV (As := [.int x3]) (rest := []) C0 (mX6_written l D ad ci A σ x3 _ hR  h) (cwV 1 hts gX6_writeAll_X6_written rfl rfl rfl ddX6_written ⟨Nat.le_of_ble_eq_true rfl, Nat.le_of_ble_eq_true rfl⟩) (w_preV (o := 0) (ci := 6) (ob := obM ad ci) (σ := σ) hK hY (by decide) obM_main rfl rfl) rfl rfl hl.1 rfl (lv_room (Nat.le_of_ble_eq_true rfl)) dX6_writeAll_79 ⟨Nat.zero_le _, Nat.zero_le _⟩) hY (fun r_9 σ_10 H locs h hY hR_σ_10 => ?_)
      refine lv_istore (lv' := [(4, .int r_9), (0, .ref (ad 0)), (2, .int x2), (3, .int x3)]) hx hb dX6_writeAll_82 hl (by decide) rfl (fun ls hl => ?_)
      refine lv_iload hx hb dX6_writeAll_84 (lv_at hl 0 rfl) ?_
      refine lv_aload_n hx hb dX6_writeAll_86 rfl (lv_at hl 1 rfl) ?_
      refine w_get (o := 0) (ci := 6) (C := RX6) (T := TX6) (N1 := 14) (v := .ref (ad 5)) hx hb hts kX6_writeAll_inX6 hown hK.1 hY (by decide) obM_main rfl 5 (by decide) (hts _ kX6_writeAll_3) rfl rfl dX6_writeAll_87 ?_
      refine lv_iload_n hx hb dX6_writeAll_90 rfl (lv_at hl 3 rfl) ?_
      obtain ⟨b_11, h⟩ := h
      refine w_iald (o := 5) hx hb hK.1 hY (by decide) 1 rfl rfl b_11 dX6_writeAll_91 ?_
      refine lv_icmp_le (tgt := 98) hx hb dX6_writeAll_92 (by decide) (fun c_12 => ?_) (fun c_12 => ?_)
      · have h := h.1 c_12
        exact tX6_writeAll_J98 C0 hK K (wX6_writeAll_L69 K n) σ_10 x2 x3 r_9 hret ih h _ _ hY hR_σ_10 _ (lv_sub hl [1, 2, 3, 0] rfl)
      · have h := h.2 c_12
        refine lv_iinc (v := (x2 + 1)) (lv' := [(2, .int (x2 + 1)), (4, .int r_9), (0, .ref (ad 0)), (3, .int x3)]) hx hb dX6_writeAll_95 hl (k := 2) rfl rfl (by decide) rfl (fun ls hl => ?_)
        exact tX6_writeAll_J98 C0 hK K (wX6_writeAll_L69 K n) σ_10 (x2 + 1) x3 r_9 hret ih h _ _ hY hR_σ_10 _ (lv_sub hl [2, 0, 3, 1] rfl)
set_option maxHeartbeats 4000000 in
set_option maxRecDepth 100000 in
theorem tX6_writeAll_J57 (C0 : CallFix p m c cX6_writeAll 6 s args wsX6_writeAll RX6) (hK : Kx D (tyM ci) s) (K : Int32 → St → Prop) (σ : St) (s1 : Int32) (hret : ∀ (r : Int32) (u : St) (H : Heap) (locs : List Loc) (pc : Nat) (ls : Array Slot), K r u → Sy D 12 ad A H0 (obM ad ci u) H locs → tt u → decode cX6_writeAll pc = .ok (.ireturn, 1) → W p l e rmX6_writeAll s m args below meth c H locs 0 0 Q (F0 m pc ls [.int r])) (h : wX6_writeAll_J57 K σ s1) (H : Heap) (locs : List Loc) (hY : Sy D 12 ad A H0 (obM ad ci σ) H locs) (hR : tt σ) (ls : Array Slot) (hl : lv_has ls 6 [(0, .ref (ad 0))]) : W p l e rmX6_writeAll s m args below meth c H locs 0 0 Q (F0 m 57 ls [.int s1, .ref (ad 0)]) := by
  obtain ⟨hx, hb, hml, hown, hts⟩ := id C0
  refine w_calli (rest := []) (va_runV (As := [.int s1]) (rest := []) C0 (mX6_fails l D ad ci A σ s1 _ hR  h) (cwV 1 hts gX6_writeAll_X6_fails rfl rfl rfl ddX6_fails ⟨Nat.le_of_ble_eq_true rfl, Nat.le_of_ble_eq_true rfl⟩) (w_preV (o := 0) (ci := 6) (ob := obM ad ci) (σ := σ) hK hY (by decide) obM_main rfl rfl) rfl rfl hl.1 rfl (lv_room (Nat.le_of_ble_eq_true rfl)) dX6_writeAll_57 ⟨Nat.zero_le _, Nat.zero_le _⟩) hY (fun r_13 σ_14 H locs h hY hR_σ_14 => ?_)
  obtain ⟨n_r_13, h⟩ := h
  refine lv_if_eq (tgt := 65) hx hb dX6_writeAll_60 (by decide) (fun c_15 => ?_) (fun c_15 => ?_)
  · have h := h.1 c_15
    refine lv_iconst (v := (0 : Int32)) hx hb dX6_writeAll_65 (by decide) ?_
    refine lv_istore_n (lv' := [(2, .int (0 : Int32)), (0, .ref (ad 0))]) hx hb dX6_writeAll_66 rfl hl (by decide) rfl (fun ls hl => ?_)
    refine lv_iconst (v := (0 : Int32)) hx hb dX6_writeAll_67 (by decide) ?_
    refine lv_istore_n (lv' := [(3, .int (0 : Int32)), (2, .int (0 : Int32)), (0, .ref (ad 0))]) hx hb dX6_writeAll_68 rfl hl (by decide) rfl (fun ls hl => ?_)
    obtain ⟨n_16, h⟩ := h
    exact tX6_writeAll_L69 C0 hK K hret n_16 σ_14 (0 : Int32) (0 : Int32) h _ _ hY hR_σ_14  _ (lv_sub hl [2, 1, 0] rfl)
  · have h := h.2 c_15
    refine lv_iconst (v := (0 : Int32)) hx hb dX6_writeAll_63 (by decide) ?_
    exact hret (0 : Int32) σ_14 _ _ _ _ h hY hR_σ_14 dX6_writeAll_64
set_option maxHeartbeats 4000000 in
set_option maxRecDepth 100000 in
theorem tX6_writeAll_L4 (C0 : CallFix p m c cX6_writeAll 6 s args wsX6_writeAll RX6) (hK : Kx D (tyM ci) s) (K : Int32 → St → Prop) (hret : ∀ (r : Int32) (u : St) (H : Heap) (locs : List Loc) (pc : Nat) (ls : Array Slot), K r u → Sy D 12 ad A H0 (obM ad ci u) H locs → tt u → decode cX6_writeAll pc = .ok (.ireturn, 1) → W p l e rmX6_writeAll s m args below meth c H locs 0 0 Q (F0 m pc ls [.int r])) : ∀ (n : Nat) (σ : St) (x1 : Int32) (x2 : Int32), wX6_writeAll_L4 K n σ x1 x2 → ∀ (H : Heap) (locs : List Loc), Sy D 12 ad A H0 (obM ad ci σ) H locs → tt σ → ∀ ls : Array Slot, lv_has ls 6 [(0, .ref (ad 0)), (1, .int x1), (2, .int x2)] → W p l e rmX6_writeAll s m args below meth c H locs 0 0 Q (F0 m 4 ls []) := by
  obtain ⟨hx, hb, hml, hown, hts⟩ := id C0
  intro n
  induction n with
  | zero =>
    intro σ x1 x2 h
    exact h.elim
  | succ n ih =>
    intro σ x1 x2 h H locs hY hR  ls hl
    refine lv_iload_n hx hb dX6_writeAll_4 rfl (lv_at hl 2 rfl) ?_
    refine lv_aload_n hx hb dX6_writeAll_5 rfl (lv_at hl 0 rfl) ?_
    refine w_get (o := 0) (ci := 6) (C := RX6) (T := TX6) (N1 := 14) (v := .int (gI σ 2)) hx hb hts kX6_writeAll_inX6 hown hK.1 hY (by decide) obM_main rfl 9 (by decide) (hts _ kX6_writeAll_4) rfl rfl dX6_writeAll_6 ?_
    refine lv_icmp_ge (tgt := 36) hx hb dX6_writeAll_9 (by decide) (fun c_17 => ?_) (fun c_17 => ?_)
    · have h := h.1 c_17
      refine lv_aload_n hx hb dX6_writeAll_36 rfl (lv_at hl 0 rfl) ?_
      refine lv_aload_n hx hb dX6_writeAll_37 rfl (lv_at hl 0 rfl) ?_
      refine w_callip (rest := [.ref (ad 0)]) (va_runV (As := []) (rest := [.ref (ad 0)]) C0 (mX6_areOrderly l D ad ci A σ _ hR  h) (cwV 0 hts gX6_writeAll_X6_areOrderly rfl rfl rfl ddX6_areOrderly ⟨Nat.le_of_ble_eq_true rfl, Nat.le_of_ble_eq_true rfl⟩) (w_preV (o := 0) (ci := 6) (ob := obM ad ci) (σ := σ) hK hY (by decide) obM_main rfl rfl) rfl rfl hl.1 rfl (lv_room (Nat.le_of_ble_eq_true rfl)) dX6_writeAll_38 ⟨Nat.zero_le _, Nat.zero_le _⟩) hY (fun r_18 H locs h hY => ?_)
      obtain ⟨n_r_18, h⟩ := h
      refine lv_if_ne (tgt := 48) hx hb dX6_writeAll_41 (by decide) (fun c_19 => ?_) (fun c_19 => ?_)
      · have h := h.2 c_19
        refine lv_iload_n hx hb dX6_writeAll_48 rfl (lv_at hl 1 rfl) ?_
        refine lv_if_eq (tgt := 56) hx hb dX6_writeAll_49 (by decide) (fun c_20 => ?_) (fun c_20 => ?_)
        · have h := h.1 c_20
          refine lv_iconst (v := (0 : Int32)) hx hb dX6_writeAll_56 (by decide) ?_
          exact tX6_writeAll_J57 C0 hK K σ (0 : Int32) hret h _ _ hY hR _ (lv_sub hl [0] rfl)
        · have h := h.2 c_20
          refine lv_iconst (v := (2 : Int32)) hx hb dX6_writeAll_52 (by decide) ?_
          refine lv_goto (tgt := 57) hx hb dX6_writeAll_53 (by decide) ?_
          exact tX6_writeAll_J57 C0 hK K σ (2 : Int32) hret h _ _ hY hR _ (lv_sub hl [0] rfl)
      · have h := h.1 c_19
        refine lv_iconst (v := (1 : Int32)) hx hb dX6_writeAll_44 (by decide) ?_
        refine lv_goto (tgt := 57) hx hb dX6_writeAll_45 (by decide) ?_
        exact tX6_writeAll_J57 C0 hK K σ (1 : Int32) hret h _ _ hY hR _ (lv_sub hl [0] rfl)
    · have h := h.2 c_17
      refine lv_iload_n hx hb dX6_writeAll_12 rfl (lv_at hl 1 rfl) ?_
      refine lv_aload_n hx hb dX6_writeAll_13 rfl (lv_at hl 0 rfl) ?_
      refine lv_iload_n hx hb dX6_writeAll_14 rfl (lv_at hl 2 rfl) ?_
      refine w_calli (rest := [.int x1]) (va_runV (As := [.int x2]) (rest := [.int x1]) C0 (mX6_written l D ad ci A σ x2 _ hR  h) (cwV 1 hts gX6_writeAll_X6_written rfl rfl rfl ddX6_written ⟨Nat.le_of_ble_eq_true rfl, Nat.le_of_ble_eq_true rfl⟩) (w_preV (o := 0) (ci := 6) (ob := obM ad ci) (σ := σ) hK hY (by decide) obM_main rfl rfl) rfl rfl hl.1 rfl (lv_room (Nat.le_of_ble_eq_true rfl)) dX6_writeAll_15 ⟨Nat.zero_le _, Nat.zero_le _⟩) hY (fun r_21 σ_22 H locs h hY hR_σ_22 => ?_)
      refine lv_bipush (v := (10 : Int32)) hx hb dX6_writeAll_18 (by decide) ?_
      refine lv_icmp_le (tgt := 27) hx hb dX6_writeAll_20 (by decide) (fun c_23 => ?_) (fun c_23 => ?_)
      · have h := h.1 c_23
        refine lv_iconst (v := (0 : Int32)) hx hb dX6_writeAll_27 (by decide) ?_
        refine lv_ior hx hb dX6_writeAll_28 ?_
        refine lv_istore_n (lv' := [(1, .int (x1 ||| (0 : Int32))), (0, .ref (ad 0)), (2, .int x2)]) hx hb dX6_writeAll_29 rfl hl (by decide) rfl (fun ls hl => ?_)
        refine lv_iinc (v := (x2 + 1)) (lv' := [(2, .int (x2 + 1)), (1, .int (x1 ||| (0 : Int32))), (0, .ref (ad 0))]) hx hb dX6_writeAll_30 hl (k := 2) rfl rfl (by decide) rfl (fun ls hl => ?_)
        refine lv_goto (tgt := 4) hx hb dX6_writeAll_33 (by decide) ?_
        exact ih σ_22 (x1 ||| (0 : Int32)) (x2 + 1) h _ _ hY hR_σ_22  _ (lv_sub hl [2, 1, 0] rfl)
      · have h := h.2 c_23
        refine lv_iconst (v := (1 : Int32)) hx hb dX6_writeAll_23 (by decide) ?_
        refine lv_goto (tgt := 28) hx hb dX6_writeAll_24 (by decide) ?_
        refine lv_ior hx hb dX6_writeAll_28 ?_
        refine lv_istore_n (lv' := [(1, .int (x1 ||| (1 : Int32))), (0, .ref (ad 0)), (2, .int x2)]) hx hb dX6_writeAll_29 rfl hl (by decide) rfl (fun ls hl => ?_)
        refine lv_iinc (v := (x2 + 1)) (lv' := [(2, .int (x2 + 1)), (1, .int (x1 ||| (1 : Int32))), (0, .ref (ad 0))]) hx hb dX6_writeAll_30 hl (k := 2) rfl rfl (by decide) rfl (fun ls hl => ?_)
        refine lv_goto (tgt := 4) hx hb dX6_writeAll_33 (by decide) ?_
        exact ih σ_22 (x1 ||| (1 : Int32)) (x2 + 1) h _ _ hY hR_σ_22  _ (lv_sub hl [2, 1, 0] rfl)
set_option maxHeartbeats 4000000 in
set_option maxRecDepth 100000 in
theorem eX6_writeAll (C0 : CallFix p m c cX6_writeAll 6 s args wsX6_writeAll RX6) (hK : Kx D (tyM ci) s) (K : Int32 → St → Prop) (σ : St) (hret : ∀ (r : Int32) (u : St) (H : Heap) (locs : List Loc) (pc : Nat) (ls : Array Slot), K r u → Sy D 12 ad A H0 (obM ad ci u) H locs → tt u → decode cX6_writeAll pc = .ok (.ireturn, 1) → W p l e rmX6_writeAll s m args below meth c H locs 0 0 Q (F0 m pc ls [.int r])) (h : wX6_writeAll σ K) (H : Heap) (locs : List Loc) (hY : Sy D 12 ad A H0 (obM ad ci σ) H locs) (hR : tt σ) (ls : Array Slot) (hl : lv_has ls 6 [(0, .ref (ad 0))]) : W p l e rmX6_writeAll s m args below meth c H locs 0 0 Q (F0 m 0 ls []) := by
  obtain ⟨hx, hb, hml, hown, hts⟩ := id C0
  refine lv_iconst (v := (0 : Int32)) hx hb dX6_writeAll_0 (by decide) ?_
  refine lv_istore_n (lv' := [(1, .int (0 : Int32)), (0, .ref (ad 0))]) hx hb dX6_writeAll_1 rfl hl (by decide) rfl (fun ls hl => ?_)
  refine lv_iconst (v := (0 : Int32)) hx hb dX6_writeAll_2 (by decide) ?_
  refine lv_istore_n (lv' := [(2, .int (0 : Int32)), (1, .int (0 : Int32)), (0, .ref (ad 0))]) hx hb dX6_writeAll_3 rfl hl (by decide) rfl (fun ls hl => ?_)
  obtain ⟨n_24, h⟩ := h
  exact tX6_writeAll_L4 C0 hK K hret n_24 σ (0 : Int32) (0 : Int32) h _ _ hY hR  _ (lv_sub hl [2, 1, 0] rfl)
set_option maxHeartbeats 4000000 in
set_option maxRecDepth 100000 in
theorem mX6_writeAll (l : Launch) (D : va_G) (ad : Nat → Nat) (ci : Nat → ClassId) (A : Nat → Prop) (σ : St) (K : Int32 → St → Prop) (hR : tt σ) (h : wX6_writeAll σ K) : Met l yX6_writeAll wsX6_writeAll rmX6_writeAll (va_Pc [.ref (ad 0)] (PreW D 12 ad A (tyM ci) (obM ad ci σ))) (va_Qi (fun r u => K r u) (PostW D 12 ad (tyM ci) (obM ad ci) tt) A) 0 0 A := by
  refine Met.ofW (cc := cX6_writeAll) (maxL := 6) (ret := (some .int)) (by decide) rfl ?_
  intro p e s m args below meth c s₁ B hml hv
  obtain ⟨rfl, hP, hK, hD⟩ := hv
  have C0 : CallFix p m c cX6_writeAll 6 s _ wsX6_writeAll RX6 := ⟨B.exec, B.bytes, hml, findClass_of_methodNamed B.named, atoms_spec (ws := wsX6_writeAll) B.pre⟩
  have hlocks := B.notSynchronized
  have hY : Sy D 12 ad A s.heap (obM ad ci σ) s.heap [] := ⟨hP, hD, va_S.rf⟩
  have hl := lv_entry ([.ref (ad 0)]) (n := 6) (Nat.le_of_ble_eq_true rfl)
  rw [lg_entry_eq]
  generalize (lg_sl ([.ref (ad 0)]) ++ List.replicate (6 - (lg_sl ([.ref (ad 0)])).length) Slot.unset).toArray = ls at hl ⊢
  exact eX6_writeAll C0 hK K σ (fun r u H locs pc ls hk hY hR hd => w_iret (I := tt) B.exec B.bytes B.returns hlocks hK hk (fun t ht => ht) hY hR hd) h _ _ hY hR ls hl
set_option maxHeartbeats 4000000 in
set_option maxRecDepth 100000 in
theorem tX6_isSideBySide_J81 (C0 : CallFix p m c cX6_isSideBySide 8 s args wsX6_isSideBySide RX6) (hK : Kx D (tyM ci) s) (K : Int32 → Prop) (B16 : Int32 → Int32 → Int32 → Int32 → Int32 → Prop) (σ : St) (x1 : Int32) (x2 : Int32) (x3 : Int32) (x4 : Int32) (x5 : Int32) (x6 : Int32) (hret : ∀ (r : Int32) (H : Heap) (locs : List Loc) (pc : Nat) (ls : Array Slot), narrow .boolean (.int r) = .int r → K r → Sy D 12 ad A H0 (obM ad ci σ) H locs → decode cX6_isSideBySide pc = .ok (.ireturn, 1) → W p l e rmX6_isSideBySide s m args below meth c H locs 0 0 Q (F0 m pc ls [.int r])) (hB16 : ∀ (x2 : Int32) (x3 : Int32) (x4 : Int32) (x5 : Int32) (x6 : Int32), B16 x2 x3 x4 x5 x6 → ∀ (H : Heap) (locs : List Loc), Sy D 12 ad A H0 (obM ad ci σ) H locs → tt σ → ∀ ls : Array Slot, lv_has ls 8 [(0, .ref (ad 0)), (1, .int x1), (2, .int x2), (3, .int x3), (4, .int x4), (5, .int x5), (6, .int x6)] → W p l e rmX6_isSideBySide s m args below meth c H locs 0 0 Q (F0 m 16 ls [])) (h : wX6_isSideBySide_J81 K B16 σ x1 x2 x3 x4 x5 x6) (H : Heap) (locs : List Loc) (hY : Sy D 12 ad A H0 (obM ad ci σ) H locs) (hR : tt σ) (ls : Array Slot) (hl : lv_has ls 8 [(0, .ref (ad 0)), (1, .int x1), (2, .int x2), (3, .int x3), (4, .int x4), (5, .int x5), (6, .int x6)]) : W p l e rmX6_isSideBySide s m args below meth c H locs 0 0 Q (F0 m 81 ls []) := by
  obtain ⟨hx, hb, hml, hown, hts⟩ := id C0
  refine lv_aload_n hx hb dX6_isSideBySide_81 rfl (lv_at hl 0 rfl) ?_
  refine w_get (o := 0) (ci := 6) (C := RX6) (T := TX6) (N1 := 14) (v := .ref (ad 9)) hx hb hts kX6_isSideBySide_inX6 hown hK.1 hY (by decide) obM_main rfl 11 (by decide) (hts _ kX6_isSideBySide_0) rfl rfl dX6_isSideBySide_82 ?_
  refine lv_iload hx hb dX6_isSideBySide_85 (lv_at hl 6 rfl) ?_
  obtain ⟨b_1, h⟩ := h
  refine w_iald (o := 9) hx hb hK.1 hY (by decide) 1 rfl rfl b_1 dX6_isSideBySide_87 ?_
  refine lv_iload_n hx hb dX6_isSideBySide_88 rfl (lv_at hl 3 rfl) ?_
  refine lv_icmp_le (tgt := 167) hx hb dX6_isSideBySide_89 (by decide) (fun c_2 => ?_) (fun c_2 => ?_)
  · have h := h.1 c_2
    refine lv_iinc (v := (x6 + 1)) (lv' := [(6, .int (x6 + 1)), (0, .ref (ad 0)), (1, .int x1), (2, .int x2), (3, .int x3), (4, .int x4), (5, .int x5)]) hx hb dX6_isSideBySide_167 hl (k := 6) rfl rfl (by decide) rfl (fun ls hl => ?_)
    refine lv_goto (tgt := 16) hx hb dX6_isSideBySide_170 (by decide) ?_
    exact hB16 x2 x3 x4 x5 (x6 + 1) h _ _ hY hR  _ (lv_sub hl [1, 2, 3, 4, 5, 6, 0] rfl)
  · have h := h.2 c_2
    refine lv_aload_n hx hb dX6_isSideBySide_92 rfl (lv_at hl 0 rfl) ?_
    refine w_get (o := 0) (ci := 6) (C := RX6) (T := TX6) (N1 := 14) (v := .ref (ad 9)) hx hb hts kX6_isSideBySide_inX6 hown hK.1 hY (by decide) obM_main rfl 11 (by decide) (hts _ kX6_isSideBySide_0) rfl rfl dX6_isSideBySide_93 ?_
    refine lv_iload hx hb dX6_isSideBySide_96 (lv_at hl 6 rfl) ?_
    obtain ⟨b_3, h⟩ := h
    refine w_iald (o := 9) hx hb hK.1 hY (by decide) 1 rfl rfl b_3 dX6_isSideBySide_98 ?_
    refine lv_topi (fun x3_4 e_x3_4 => ?_)
    have h := h x3_4 e_x3_4
    refine lv_istore_n (lv' := [(3, .int x3_4), (0, .ref (ad 0)), (1, .int x1), (2, .int x2), (4, .int x4), (5, .int x5), (6, .int x6)]) hx hb dX6_isSideBySide_99 rfl hl (by decide) rfl (fun ls hl => ?_)
    refine lv_goto (tgt := 167) hx hb dX6_isSideBySide_100 (by decide) ?_
    refine lv_iinc (v := (x6 + 1)) (lv' := [(6, .int (x6 + 1)), (3, .int x3_4), (0, .ref (ad 0)), (1, .int x1), (2, .int x2), (4, .int x4), (5, .int x5)]) hx hb dX6_isSideBySide_167 hl (k := 6) rfl rfl (by decide) rfl (fun ls hl => ?_)
    refine lv_goto (tgt := 16) hx hb dX6_isSideBySide_170 (by decide) ?_
    exact hB16 x2 x3_4 x4 x5 (x6 + 1) h _ _ hY hR  _ (lv_sub hl [2, 3, 4, 1, 5, 6, 0] rfl)
set_option maxHeartbeats 4000000 in
set_option maxRecDepth 100000 in
theorem tX6_isSideBySide_J52 (C0 : CallFix p m c cX6_isSideBySide 8 s args wsX6_isSideBySide RX6) (hK : Kx D (tyM ci) s) (K : Int32 → Prop) (B16 : Int32 → Int32 → Int32 → Int32 → Int32 → Prop) (σ : St) (x1 : Int32) (x2 : Int32) (x3 : Int32) (x4 : Int32) (x5 : Int32) (x6 : Int32) (s0 : Int32) (hret : ∀ (r : Int32) (H : Heap) (locs : List Loc) (pc : Nat) (ls : Array Slot), narrow .boolean (.int r) = .int r → K r → Sy D 12 ad A H0 (obM ad ci σ) H locs → decode cX6_isSideBySide pc = .ok (.ireturn, 1) → W p l e rmX6_isSideBySide s m args below meth c H locs 0 0 Q (F0 m pc ls [.int r])) (hB16 : ∀ (x2 : Int32) (x3 : Int32) (x4 : Int32) (x5 : Int32) (x6 : Int32), B16 x2 x3 x4 x5 x6 → ∀ (H : Heap) (locs : List Loc), Sy D 12 ad A H0 (obM ad ci σ) H locs → tt σ → ∀ ls : Array Slot, lv_has ls 8 [(0, .ref (ad 0)), (1, .int x1), (2, .int x2), (3, .int x3), (4, .int x4), (5, .int x5), (6, .int x6)] → W p l e rmX6_isSideBySide s m args below meth c H locs 0 0 Q (F0 m 16 ls [])) (h : wX6_isSideBySide_J52 K B16 σ x1 x2 x3 x4 x5 x6 s0) (H : Heap) (locs : List Loc) (hY : Sy D 12 ad A H0 (obM ad ci σ) H locs) (hR : tt σ) (ls : Array Slot) (hl : lv_has ls 8 [(0, .ref (ad 0)), (1, .int x1), (2, .int x2), (3, .int x3), (4, .int x4), (5, .int x5), (6, .int x6)]) : W p l e rmX6_isSideBySide s m args below meth c H locs 0 0 Q (F0 m 52 ls [.int s0]) := by
  obtain ⟨hx, hb, hml, hown, hts⟩ := id C0
  refine lv_istore (lv' := [(7, .int s0), (0, .ref (ad 0)), (1, .int x1), (2, .int x2), (3, .int x3), (4, .int x4), (5, .int x5), (6, .int x6)]) hx hb dX6_isSideBySide_52 hl (by decide) rfl (fun ls hl => ?_)
  refine lv_iload hx hb dX6_isSideBySide_54 (lv_at hl 0 rfl) ?_
  refine lv_if_eq (tgt := 103) hx hb dX6_isSideBySide_56 (by decide) (fun c_5 => ?_) (fun c_5 => ?_)
  · have h := h.1 c_5
    refine lv_aload_n hx hb dX6_isSideBySide_103 rfl (lv_at hl 1 rfl) ?_
    refine lv_iload hx hb dX6_isSideBySide_104 (lv_at hl 7 rfl) ?_
    refine lv_iconst (v := (0 : Int32)) hx hb dX6_isSideBySide_106 (by decide) ?_
    refine w_callip (rest := []) (va_runV (As := [.int x6, .int (0 : Int32)]) (rest := []) C0 (mX6_like l D ad ci A σ x6 (0 : Int32) _ hR  h) (cwV 2 hts gX6_isSideBySide_X6_like rfl rfl rfl ddX6_like ⟨Nat.le_of_ble_eq_true rfl, Nat.le_of_ble_eq_true rfl⟩) (w_preV (o := 0) (ci := 6) (ob := obM ad ci) (σ := σ) hK hY (by decide) obM_main rfl rfl) rfl rfl hl.1 rfl (lv_room (Nat.le_of_ble_eq_true rfl)) dX6_isSideBySide_107 ⟨Nat.zero_le _, Nat.zero_le _⟩) hY (fun r_6 H locs h hY => ?_)
    refine lv_aload_n hx hb dX6_isSideBySide_110 rfl (lv_at hl 1 rfl) ?_
    refine w_get (o := 0) (ci := 6) (C := RX6) (T := TX6) (N1 := 14) (v := .ref (ad 5)) hx hb hts kX6_isSideBySide_inX6 hown hK.1 hY (by decide) obM_main rfl 5 (by decide) (hts _ kX6_isSideBySide_2) rfl rfl dX6_isSideBySide_111 ?_
    refine lv_iload hx hb dX6_isSideBySide_114 (lv_at hl 7 rfl) ?_
    obtain ⟨b_7, h⟩ := h
    refine w_iald (o := 5) hx hb hK.1 hY (by decide) 1 rfl rfl b_7 dX6_isSideBySide_116 ?_
    refine lv_icmp_eq (tgt := 164) hx hb dX6_isSideBySide_117 (by decide) (fun c_8 => ?_) (fun c_8 => ?_)
    · have h := h.1 c_8
      refine lv_iinc (v := (x5 + 1)) (lv' := [(5, .int (x5 + 1)), (7, .int s0), (0, .ref (ad 0)), (1, .int x1), (2, .int x2), (3, .int x3), (4, .int x4), (6, .int x6)]) hx hb dX6_isSideBySide_164 hl (k := 6) rfl rfl (by decide) rfl (fun ls hl => ?_)
      refine lv_iinc (v := (x6 + 1)) (lv' := [(6, .int (x6 + 1)), (5, .int (x5 + 1)), (7, .int s0), (0, .ref (ad 0)), (1, .int x1), (2, .int x2), (3, .int x3), (4, .int x4)]) hx hb dX6_isSideBySide_167 hl (k := 7) rfl rfl (by decide) rfl (fun ls hl => ?_)
      refine lv_goto (tgt := 16) hx hb dX6_isSideBySide_170 (by decide) ?_
      exact hB16 x2 x3 x4 (x5 + 1) (x6 + 1) h _ _ hY hR  _ (lv_sub hl [3, 4, 5, 6, 7, 1, 0] rfl)
    · have h := h.2 c_8
      refine lv_aload_n hx hb dX6_isSideBySide_120 rfl (lv_at hl 1 rfl) ?_
      refine lv_iload hx hb dX6_isSideBySide_121 (lv_at hl 7 rfl) ?_
      refine lv_iconst (v := (0 : Int32)) hx hb dX6_isSideBySide_123 (by decide) ?_
      refine w_callip (rest := []) (va_runV (As := [.int x6, .int (0 : Int32)]) (rest := []) C0 (mX6_like l D ad ci A σ x6 (0 : Int32) _ hR  h) (cwV 2 hts gX6_isSideBySide_X6_like rfl rfl rfl ddX6_like ⟨Nat.le_of_ble_eq_true rfl, Nat.le_of_ble_eq_true rfl⟩) (w_preV (o := 0) (ci := 6) (ob := obM ad ci) (σ := σ) hK hY (by decide) obM_main rfl rfl) rfl rfl hl.1 rfl (lv_room (Nat.le_of_ble_eq_true rfl)) dX6_isSideBySide_124 ⟨Nat.zero_le _, Nat.zero_le _⟩) hY (fun r_9 H locs h hY => ?_)
      refine lv_iload_n hx hb dX6_isSideBySide_127 rfl (lv_at hl 2 rfl) ?_
      refine lv_icmp_ge (tgt := 167) hx hb dX6_isSideBySide_128 (by decide) (fun c_10 => ?_) (fun c_10 => ?_)
      · have h := h.1 c_10
        refine lv_iinc (v := (x6 + 1)) (lv' := [(6, .int (x6 + 1)), (7, .int s0), (0, .ref (ad 0)), (1, .int x1), (2, .int x2), (3, .int x3), (4, .int x4), (5, .int x5)]) hx hb dX6_isSideBySide_167 hl (k := 7) rfl rfl (by decide) rfl (fun ls hl => ?_)
        refine lv_goto (tgt := 16) hx hb dX6_isSideBySide_170 (by decide) ?_
        exact hB16 x2 x3 x4 x5 (x6 + 1) h _ _ hY hR  _ (lv_sub hl [2, 3, 4, 5, 6, 7, 0] rfl)
      · have h := h.2 c_10
        refine lv_aload_n hx hb dX6_isSideBySide_131 rfl (lv_at hl 1 rfl) ?_
        refine w_get (o := 0) (ci := 6) (C := RX6) (T := TX6) (N1 := 14) (v := .ref (ad 2)) hx hb hts kX6_isSideBySide_inX6 hown hK.1 hY (by decide) obM_main rfl 2 (by decide) (hts _ kX6_isSideBySide_3) rfl rfl dX6_isSideBySide_132 ?_
        refine lv_bipush (v := (10 : Int32)) hx hb dX6_isSideBySide_135 (by decide) ?_
        refine lv_iload hx hb dX6_isSideBySide_137 (lv_at hl 7 rfl) ?_
        refine lv_imul hx hb dX6_isSideBySide_139 ?_
        refine lv_aload_n hx hb dX6_isSideBySide_140 rfl (lv_at hl 1 rfl) ?_
        refine lv_iload hx hb dX6_isSideBySide_141 (lv_at hl 7 rfl) ?_
        refine lv_iconst (v := (0 : Int32)) hx hb dX6_isSideBySide_143 (by decide) ?_
        refine w_callip (rest := [.int ((10 : Int32) * x6), .ref (ad 2)]) (va_runV (As := [.int x6, .int (0 : Int32)]) (rest := [.int ((10 : Int32) * x6), .ref (ad 2)]) C0 (mX6_like l D ad ci A σ x6 (0 : Int32) _ hR  h) (cwV 2 hts gX6_isSideBySide_X6_like rfl rfl rfl ddX6_like ⟨Nat.le_of_ble_eq_true rfl, Nat.le_of_ble_eq_true rfl⟩) (w_preV (o := 0) (ci := 6) (ob := obM ad ci) (σ := σ) hK hY (by decide) obM_main rfl rfl) rfl rfl hl.1 rfl (lv_room (Nat.le_of_ble_eq_true rfl)) dX6_isSideBySide_144 ⟨Nat.zero_le _, Nat.zero_le _⟩) hY (fun r_11 H locs h hY => ?_)
        refine lv_iadd hx hb dX6_isSideBySide_147 ?_
        obtain ⟨b_12, h⟩ := h
        refine w_cald (o := 2) hx hb hK.1 hY (by decide) 0 rfl rfl b_12 dX6_isSideBySide_148 ?_
        refine lv_aload_n hx hb dX6_isSideBySide_149 rfl (lv_at hl 1 rfl) ?_
        refine w_get (o := 0) (ci := 6) (C := RX6) (T := TX6) (N1 := 14) (v := .ref (ad 1)) hx hb hts kX6_isSideBySide_inX6 hown hK.1 hY (by decide) obM_main rfl 1 (by decide) (hts _ kX6_isSideBySide_4) rfl rfl dX6_isSideBySide_150 ?_
        refine lv_aload_n hx hb dX6_isSideBySide_153 rfl (lv_at hl 1 rfl) ?_
        refine lv_iload hx hb dX6_isSideBySide_154 (lv_at hl 7 rfl) ?_
        refine lv_iconst (v := (0 : Int32)) hx hb dX6_isSideBySide_156 (by decide) ?_
        refine w_callip (rest := [.ref (ad 1), .int (gA σ 2 ((((10 : Int32) * x6) + r_11)).toNatClampNeg)]) (va_runV (As := [.int x6, .int (0 : Int32)]) (rest := [.ref (ad 1), .int (gA σ 2 ((((10 : Int32) * x6) + r_11)).toNatClampNeg)]) C0 (mX6_like l D ad ci A σ x6 (0 : Int32) _ hR  h) (cwV 2 hts gX6_isSideBySide_X6_like rfl rfl rfl ddX6_like ⟨Nat.le_of_ble_eq_true rfl, Nat.le_of_ble_eq_true rfl⟩) (w_preV (o := 0) (ci := 6) (ob := obM ad ci) (σ := σ) hK hY (by decide) obM_main rfl rfl) rfl rfl hl.1 rfl (lv_room (Nat.le_of_ble_eq_true rfl)) dX6_isSideBySide_157 ⟨Nat.zero_le _, Nat.zero_le _⟩) hY (fun r_13 H locs h hY => ?_)
        obtain ⟨b_14, h⟩ := h
        refine w_cald (o := 1) hx hb hK.1 hY (by decide) 0 rfl rfl b_14 dX6_isSideBySide_160 ?_
        refine lv_icmp_ge (tgt := 167) hx hb dX6_isSideBySide_161 (by decide) (fun c_15 => ?_) (fun c_15 => ?_)
        · have h := h.1 c_15
          refine lv_iinc (v := (x6 + 1)) (lv' := [(6, .int (x6 + 1)), (7, .int s0), (0, .ref (ad 0)), (1, .int x1), (2, .int x2), (3, .int x3), (4, .int x4), (5, .int x5)]) hx hb dX6_isSideBySide_167 hl (k := 7) rfl rfl (by decide) rfl (fun ls hl => ?_)
          refine lv_goto (tgt := 16) hx hb dX6_isSideBySide_170 (by decide) ?_
          exact hB16 x2 x3 x4 x5 (x6 + 1) h _ _ hY hR  _ (lv_sub hl [2, 3, 4, 5, 6, 7, 0] rfl)
        · have h := h.2 c_15
          refine lv_iinc (v := (x5 + 1)) (lv' := [(5, .int (x5 + 1)), (7, .int s0), (0, .ref (ad 0)), (1, .int x1), (2, .int x2), (3, .int x3), (4, .int x4), (6, .int x6)]) hx hb dX6_isSideBySide_164 hl (k := 6) rfl rfl (by decide) rfl (fun ls hl => ?_)
          refine lv_iinc (v := (x6 + 1)) (lv' := [(6, .int (x6 + 1)), (5, .int (x5 + 1)), (7, .int s0), (0, .ref (ad 0)), (1, .int x1), (2, .int x2), (3, .int x3), (4, .int x4)]) hx hb dX6_isSideBySide_167 hl (k := 7) rfl rfl (by decide) rfl (fun ls hl => ?_)
          refine lv_goto (tgt := 16) hx hb dX6_isSideBySide_170 (by decide) ?_
          exact hB16 x2 x3 x4 (x5 + 1) (x6 + 1) h _ _ hY hR  _ (lv_sub hl [3, 4, 5, 6, 7, 1, 0] rfl)
  · have h := h.2 c_5
    refine lv_iinc (v := (x4 + 1)) (lv' := [(4, .int (x4 + 1)), (7, .int s0), (0, .ref (ad 0)), (1, .int x1), (2, .int x2), (3, .int x3), (5, .int x5), (6, .int x6)]) hx hb dX6_isSideBySide_59 hl (k := 5) rfl rfl (by decide) rfl (fun ls hl => ?_)
    refine lv_aload_n hx hb dX6_isSideBySide_62 rfl (lv_at hl 2 rfl) ?_
    refine w_get (o := 0) (ci := 6) (C := RX6) (T := TX6) (N1 := 14) (v := .ref (ad 9)) hx hb hts kX6_isSideBySide_inX6 hown hK.1 hY (by decide) obM_main rfl 11 (by decide) (hts _ kX6_isSideBySide_0) rfl rfl dX6_isSideBySide_63 ?_
    refine lv_iload hx hb dX6_isSideBySide_66 (lv_at hl 7 rfl) ?_
    obtain ⟨b_16, h⟩ := h
    refine w_iald (o := 9) hx hb hK.1 hY (by decide) 1 rfl rfl b_16 dX6_isSideBySide_68 ?_
    refine lv_iload_n hx hb dX6_isSideBySide_69 rfl (lv_at hl 4 rfl) ?_
    refine lv_icmp_ge (tgt := 81) hx hb dX6_isSideBySide_70 (by decide) (fun c_17 => ?_) (fun c_17 => ?_)
    · have h := h.1 c_17
      exact tX6_isSideBySide_J81 C0 hK K B16 σ x1 x2 x3 (x4 + 1) x5 x6 hret hB16 h _ _ hY hR _ (lv_sub hl [2, 3, 4, 5, 0, 6, 7] rfl)
    · have h := h.2 c_17
      refine lv_aload_n hx hb dX6_isSideBySide_73 rfl (lv_at hl 2 rfl) ?_
      refine w_get (o := 0) (ci := 6) (C := RX6) (T := TX6) (N1 := 14) (v := .ref (ad 9)) hx hb hts kX6_isSideBySide_inX6 hown hK.1 hY (by decide) obM_main rfl 11 (by decide) (hts _ kX6_isSideBySide_0) rfl rfl dX6_isSideBySide_74 ?_
      refine lv_iload hx hb dX6_isSideBySide_77 (lv_at hl 7 rfl) ?_
      obtain ⟨b_18, h⟩ := h
      refine w_iald (o := 9) hx hb hK.1 hY (by decide) 1 rfl rfl b_18 dX6_isSideBySide_79 ?_
      refine lv_topi (fun x2_19 e_x2_19 => ?_)
      have h := h x2_19 e_x2_19
      refine lv_istore_n (lv' := [(2, .int x2_19), (4, .int (x4 + 1)), (7, .int s0), (0, .ref (ad 0)), (1, .int x1), (3, .int x3), (5, .int x5), (6, .int x6)]) hx hb dX6_isSideBySide_80 rfl hl (by decide) rfl (fun ls hl => ?_)
      exact tX6_isSideBySide_J81 C0 hK K B16 σ x1 x2_19 x3 (x4 + 1) x5 x6 hret hB16 h _ _ hY hR _ (lv_sub hl [3, 4, 0, 5, 1, 6, 7] rfl)
set_option maxHeartbeats 4000000 in
set_option maxRecDepth 100000 in
theorem tX6_isSideBySide_J51 (C0 : CallFix p m c cX6_isSideBySide 8 s args wsX6_isSideBySide RX6) (hK : Kx D (tyM ci) s) (K : Int32 → Prop) (B16 : Int32 → Int32 → Int32 → Int32 → Int32 → Prop) (σ : St) (x1 : Int32) (x2 : Int32) (x3 : Int32) (x4 : Int32) (x5 : Int32) (x6 : Int32) (hret : ∀ (r : Int32) (H : Heap) (locs : List Loc) (pc : Nat) (ls : Array Slot), narrow .boolean (.int r) = .int r → K r → Sy D 12 ad A H0 (obM ad ci σ) H locs → decode cX6_isSideBySide pc = .ok (.ireturn, 1) → W p l e rmX6_isSideBySide s m args below meth c H locs 0 0 Q (F0 m pc ls [.int r])) (hB16 : ∀ (x2 : Int32) (x3 : Int32) (x4 : Int32) (x5 : Int32) (x6 : Int32), B16 x2 x3 x4 x5 x6 → ∀ (H : Heap) (locs : List Loc), Sy D 12 ad A H0 (obM ad ci σ) H locs → tt σ → ∀ ls : Array Slot, lv_has ls 8 [(0, .ref (ad 0)), (1, .int x1), (2, .int x2), (3, .int x3), (4, .int x4), (5, .int x5), (6, .int x6)] → W p l e rmX6_isSideBySide s m args below meth c H locs 0 0 Q (F0 m 16 ls [])) (h : wX6_isSideBySide_J51 K B16 σ x1 x2 x3 x4 x5 x6) (H : Heap) (locs : List Loc) (hY : Sy D 12 ad A H0 (obM ad ci σ) H locs) (hR : tt σ) (ls : Array Slot) (hl : lv_has ls 8 [(0, .ref (ad 0)), (1, .int x1), (2, .int x2), (3, .int x3), (4, .int x4), (5, .int x5), (6, .int x6)]) : W p l e rmX6_isSideBySide s m args below meth c H locs 0 0 Q (F0 m 51 ls []) := by
  obtain ⟨hx, hb, hml, hown, hts⟩ := id C0
  refine lv_iconst (v := (0 : Int32)) hx hb dX6_isSideBySide_51 (by decide) ?_
  exact tX6_isSideBySide_J52 C0 hK K B16 σ x1 x2 x3 x4 x5 x6 (0 : Int32) hret hB16 h _ _ hY hR _ (lv_sub hl [0, 1, 2, 3, 4, 5, 6] rfl)
set_option maxHeartbeats 4000000 in
set_option maxRecDepth 100000 in
theorem tX6_isSideBySide_L16 (C0 : CallFix p m c cX6_isSideBySide 8 s args wsX6_isSideBySide RX6) (hK : Kx D (tyM ci) s) (K : Int32 → Prop) (σ : St) (x1 : Int32) (hret : ∀ (r : Int32) (H : Heap) (locs : List Loc) (pc : Nat) (ls : Array Slot), narrow .boolean (.int r) = .int r → K r → Sy D 12 ad A H0 (obM ad ci σ) H locs → decode cX6_isSideBySide pc = .ok (.ireturn, 1) → W p l e rmX6_isSideBySide s m args below meth c H locs 0 0 Q (F0 m pc ls [.int r])) : ∀ (n : Nat) (x2 : Int32) (x3 : Int32) (x4 : Int32) (x5 : Int32) (x6 : Int32), wX6_isSideBySide_L16 K σ x1 n x2 x3 x4 x5 x6 → ∀ (H : Heap) (locs : List Loc), Sy D 12 ad A H0 (obM ad ci σ) H locs → tt σ → ∀ ls : Array Slot, lv_has ls 8 [(0, .ref (ad 0)), (1, .int x1), (2, .int x2), (3, .int x3), (4, .int x4), (5, .int x5), (6, .int x6)] → W p l e rmX6_isSideBySide s m args below meth c H locs 0 0 Q (F0 m 16 ls []) := by
  obtain ⟨hx, hb, hml, hown, hts⟩ := id C0
  intro n
  induction n with
  | zero =>
    intro x2 x3 x4 x5 x6 h
    exact h.elim
  | succ n ih =>
    intro x2 x3 x4 x5 x6 h H locs hY hR  ls hl
    refine lv_iload hx hb dX6_isSideBySide_16 (lv_at hl 6 rfl) ?_
    refine lv_aload_n hx hb dX6_isSideBySide_18 rfl (lv_at hl 0 rfl) ?_
    refine w_get (o := 0) (ci := 6) (C := RX6) (T := TX6) (N1 := 14) (v := .int (gI σ 2)) hx hb hts kX6_isSideBySide_inX6 hown hK.1 hY (by decide) obM_main rfl 9 (by decide) (hts _ kX6_isSideBySide_5) rfl rfl dX6_isSideBySide_19 ?_
    refine lv_icmp_ge (tgt := 173) hx hb dX6_isSideBySide_22 (by decide) (fun c_20 => ?_) (fun c_20 => ?_)
    · have h := h.1 c_20
      refine lv_iload hx hb dX6_isSideBySide_173 (lv_at hl 4 rfl) ?_
      refine lv_if_eq (tgt := 194) hx hb dX6_isSideBySide_175 (by decide) (fun c_21 => ?_) (fun c_21 => ?_)
      · have h := h.1 c_21
        refine lv_iconst (v := (1 : Int32)) hx hb dX6_isSideBySide_194 (by decide) ?_
        refine lv_goto (tgt := 199) hx hb dX6_isSideBySide_195 (by decide) ?_
        exact hret (1 : Int32) _ _ _ _ rfl h hY dX6_isSideBySide_199
      · have h := h.2 c_21
        refine lv_iload_n hx hb dX6_isSideBySide_178 rfl (lv_at hl 3 rfl) ?_
        refine lv_iload_n hx hb dX6_isSideBySide_179 rfl (lv_at hl 2 rfl) ?_
        refine lv_isub hx hb dX6_isSideBySide_180 ?_
        refine lv_iconst (v := (1 : Int32)) hx hb dX6_isSideBySide_181 (by decide) ?_
        refine lv_iadd hx hb dX6_isSideBySide_182 ?_
        refine lv_iload hx hb dX6_isSideBySide_183 (lv_at hl 4 rfl) ?_
        refine lv_icmp_ne (tgt := 198) hx hb dX6_isSideBySide_185 (by decide) (fun c_22 => ?_) (fun c_22 => ?_)
        · have h := h.2 c_22
          refine lv_iconst (v := (0 : Int32)) hx hb dX6_isSideBySide_198 (by decide) ?_
          exact hret (0 : Int32) _ _ _ _ rfl h hY dX6_isSideBySide_199
        · have h := h.1 c_22
          refine lv_iload_n hx hb dX6_isSideBySide_188 rfl (lv_at hl 2 rfl) ?_
          refine lv_iload hx hb dX6_isSideBySide_189 (lv_at hl 5 rfl) ?_
          refine lv_icmp_ne (tgt := 198) hx hb dX6_isSideBySide_191 (by decide) (fun c_23 => ?_) (fun c_23 => ?_)
          · have h := h.2 c_23
            refine lv_iconst (v := (0 : Int32)) hx hb dX6_isSideBySide_198 (by decide) ?_
            exact hret (0 : Int32) _ _ _ _ rfl h hY dX6_isSideBySide_199
          · have h := h.1 c_23
            refine lv_iconst (v := (1 : Int32)) hx hb dX6_isSideBySide_194 (by decide) ?_
            refine lv_goto (tgt := 199) hx hb dX6_isSideBySide_195 (by decide) ?_
            exact hret (1 : Int32) _ _ _ _ rfl h hY dX6_isSideBySide_199
    · have h := h.2 c_20
      refine lv_aload_n hx hb dX6_isSideBySide_25 rfl (lv_at hl 0 rfl) ?_
      refine w_get (o := 0) (ci := 6) (C := RX6) (T := TX6) (N1 := 14) (v := .ref (ad 5)) hx hb hts kX6_isSideBySide_inX6 hown hK.1 hY (by decide) obM_main rfl 5 (by decide) (hts _ kX6_isSideBySide_2) rfl rfl dX6_isSideBySide_26 ?_
      refine lv_iload hx hb dX6_isSideBySide_29 (lv_at hl 6 rfl) ?_
      obtain ⟨b_24, h⟩ := h
      refine w_iald (o := 5) hx hb hK.1 hY (by decide) 1 rfl rfl b_24 dX6_isSideBySide_31 ?_
      refine lv_iload_n hx hb dX6_isSideBySide_32 rfl (lv_at hl 1 rfl) ?_
      refine lv_icmp_lt (tgt := 51) hx hb dX6_isSideBySide_33 (by decide) (fun c_25 => ?_) (fun c_25 => ?_)
      · have h := h.1 c_25
        exact tX6_isSideBySide_J51 C0 hK K (wX6_isSideBySide_L16 K σ x1 n) σ x1 x2 x3 x4 x5 x6 hret ih h _ _ hY hR _ (lv_sub hl [0, 1, 2, 3, 4, 5, 6] rfl)
      · have h := h.2 c_25
        refine lv_aload_n hx hb dX6_isSideBySide_36 rfl (lv_at hl 0 rfl) ?_
        refine lv_iload hx hb dX6_isSideBySide_37 (lv_at hl 6 rfl) ?_
        refine lv_iconst (v := (0 : Int32)) hx hb dX6_isSideBySide_39 (by decide) ?_
        refine w_callip (rest := []) (va_runV (As := [.int x6, .int (0 : Int32)]) (rest := []) C0 (mX6_like l D ad ci A σ x6 (0 : Int32) _ hR  h) (cwV 2 hts gX6_isSideBySide_X6_like rfl rfl rfl ddX6_like ⟨Nat.le_of_ble_eq_true rfl, Nat.le_of_ble_eq_true rfl⟩) (w_preV (o := 0) (ci := 6) (ob := obM ad ci) (σ := σ) hK hY (by decide) obM_main rfl rfl) rfl rfl hl.1 rfl (lv_room (Nat.le_of_ble_eq_true rfl)) dX6_isSideBySide_40 ⟨Nat.zero_le _, Nat.zero_le _⟩) hY (fun r_26 H locs h hY => ?_)
        refine lv_iload_n hx hb dX6_isSideBySide_43 rfl (lv_at hl 1 rfl) ?_
        refine lv_icmp_lt (tgt := 51) hx hb dX6_isSideBySide_44 (by decide) (fun c_27 => ?_) (fun c_27 => ?_)
        · have h := h.1 c_27
          exact tX6_isSideBySide_J51 C0 hK K (wX6_isSideBySide_L16 K σ x1 n) σ x1 x2 x3 x4 x5 x6 hret ih h _ _ hY hR _ (lv_sub hl [0, 1, 2, 3, 4, 5, 6] rfl)
        · have h := h.2 c_27
          refine lv_iconst (v := (1 : Int32)) hx hb dX6_isSideBySide_47 (by decide) ?_
          refine lv_goto (tgt := 52) hx hb dX6_isSideBySide_48 (by decide) ?_
          exact tX6_isSideBySide_J52 C0 hK K (wX6_isSideBySide_L16 K σ x1 n) σ x1 x2 x3 x4 x5 x6 (1 : Int32) hret ih h _ _ hY hR _ (lv_sub hl [0, 1, 2, 3, 4, 5, 6] rfl)
set_option maxHeartbeats 4000000 in
set_option maxRecDepth 100000 in
theorem eX6_isSideBySide (C0 : CallFix p m c cX6_isSideBySide 8 s args wsX6_isSideBySide RX6) (hK : Kx D (tyM ci) s) (K : Int32 → Prop) (σ : St) (hret : ∀ (r : Int32) (H : Heap) (locs : List Loc) (pc : Nat) (ls : Array Slot), narrow .boolean (.int r) = .int r → K r → Sy D 12 ad A H0 (obM ad ci σ) H locs → decode cX6_isSideBySide pc = .ok (.ireturn, 1) → W p l e rmX6_isSideBySide s m args below meth c H locs 0 0 Q (F0 m pc ls [.int r])) (x1 : Int32) (h : wX6_isSideBySide σ x1 K) (H : Heap) (locs : List Loc) (hY : Sy D 12 ad A H0 (obM ad ci σ) H locs) (hR : tt σ) (ls : Array Slot) (hl : lv_has ls 8 [(0, .ref (ad 0)), (1, .int x1)]) : W p l e rmX6_isSideBySide s m args below meth c H locs 0 0 Q (F0 m 0 ls []) := by
  obtain ⟨hx, hb, hml, hown, hts⟩ := id C0
  refine lv_aload_n hx hb dX6_isSideBySide_0 rfl (lv_at hl 0 rfl) ?_
  refine w_get (o := 0) (ci := 6) (C := RX6) (T := TX6) (N1 := 14) (v := .int (gI σ 2)) hx hb hts kX6_isSideBySide_inX6 hown hK.1 hY (by decide) obM_main rfl 9 (by decide) (hts _ kX6_isSideBySide_5) rfl rfl dX6_isSideBySide_1 ?_
  refine lv_topi (fun x2_28 e_x2_28 => ?_)
  have h := h x2_28 e_x2_28
  refine lv_istore_n (lv' := [(2, .int x2_28), (0, .ref (ad 0)), (1, .int x1)]) hx hb dX6_isSideBySide_4 rfl hl (by decide) rfl (fun ls hl => ?_)
  refine lv_iconst (v := (-1 : Int32)) hx hb dX6_isSideBySide_5 (by decide) ?_
  refine lv_istore_n (lv' := [(3, .int (-1 : Int32)), (2, .int x2_28), (0, .ref (ad 0)), (1, .int x1)]) hx hb dX6_isSideBySide_6 rfl hl (by decide) rfl (fun ls hl => ?_)
  refine lv_iconst (v := (0 : Int32)) hx hb dX6_isSideBySide_7 (by decide) ?_
  refine lv_istore (lv' := [(4, .int (0 : Int32)), (3, .int (-1 : Int32)), (2, .int x2_28), (0, .ref (ad 0)), (1, .int x1)]) hx hb dX6_isSideBySide_8 hl (by decide) rfl (fun ls hl => ?_)
  refine lv_iconst (v := (0 : Int32)) hx hb dX6_isSideBySide_10 (by decide) ?_
  refine lv_istore (lv' := [(5, .int (0 : Int32)), (4, .int (0 : Int32)), (3, .int (-1 : Int32)), (2, .int x2_28), (0, .ref (ad 0)), (1, .int x1)]) hx hb dX6_isSideBySide_11 hl (by decide) rfl (fun ls hl => ?_)
  refine lv_iconst (v := (0 : Int32)) hx hb dX6_isSideBySide_13 (by decide) ?_
  refine lv_istore (lv' := [(6, .int (0 : Int32)), (5, .int (0 : Int32)), (4, .int (0 : Int32)), (3, .int (-1 : Int32)), (2, .int x2_28), (0, .ref (ad 0)), (1, .int x1)]) hx hb dX6_isSideBySide_14 hl (by decide) rfl (fun ls hl => ?_)
  obtain ⟨n_29, h⟩ := h
  exact tX6_isSideBySide_L16 C0 hK K σ x1 hret n_29 x2_28 (-1 : Int32) (0 : Int32) (0 : Int32) (0 : Int32) h _ _ hY hR  _ (lv_sub hl [5, 6, 4, 3, 2, 1, 0] rfl)
set_option maxHeartbeats 4000000 in
set_option maxRecDepth 100000 in
theorem mX6_isSideBySide (l : Launch) (D : va_G) (ad : Nat → Nat) (ci : Nat → ClassId) (A : Nat → Prop) (σ : St) (x1 : Int32) (K : Int32 → Prop) (hR : tt σ) (h : wX6_isSideBySide σ x1 K) : Met l yX6_isSideBySide wsX6_isSideBySide rmX6_isSideBySide (va_Pc [.ref (ad 0), .int x1] (PreW D 12 ad A (tyM ci) (obM ad ci σ))) (va_Qi (fun r (_ : Unit) => narrow .boolean (.int r) = .int r ∧ K r) (fun _ => (PostW D 12 ad (tyM ci) (obM ad ci) tt σ)) A) 0 0 A := by
  refine Met.ofW (cc := cX6_isSideBySide) (maxL := 8) (ret := (some .boolean)) (by decide) rfl ?_
  intro p e s m args below meth c s₁ B hml hv
  obtain ⟨rfl, hP, hK, hD⟩ := hv
  have C0 : CallFix p m c cX6_isSideBySide 8 s _ wsX6_isSideBySide RX6 := ⟨B.exec, B.bytes, hml, findClass_of_methodNamed B.named, atoms_spec (ws := wsX6_isSideBySide) B.pre⟩
  have hlocks := B.notSynchronized
  have hY : Sy D 12 ad A s.heap (obM ad ci σ) s.heap [] := ⟨hP, hD, va_S.rf⟩
  have hl := lv_entry ([.ref (ad 0), .int x1]) (n := 8) (Nat.le_of_ble_eq_true rfl)
  rw [lg_entry_eq]
  generalize (lg_sl ([.ref (ad 0), .int x1]) ++ List.replicate (8 - (lg_sl ([.ref (ad 0), .int x1])).length) Slot.unset).toArray = ls at hl ⊢
  exact eX6_isSideBySide C0 hK K σ (fun r H locs pc ls hn hk hY hd => w_zret (I := tt) B.exec B.bytes B.returns hn hlocks (u := ()) hK ⟨hn, hk⟩ (fun t ht => ht) hY hR hd) x1 h _ _ hY hR ls hl
set_option maxHeartbeats 4000000 in
set_option maxRecDepth 100000 in
theorem tX6_areTwins_L66 (C0 : CallFix p m c cX6_areTwins 5 s args wsX6_areTwins RX6) (hK : Kx D (tyM ci) s) (K : Int32 → Prop) (σ : St) (x1 : Int32) (hret : ∀ (r : Int32) (H : Heap) (locs : List Loc) (pc : Nat) (ls : Array Slot), narrow .boolean (.int r) = .int r → K r → Sy D 12 ad A H0 (obM ad ci σ) H locs → decode cX6_areTwins pc = .ok (.ireturn, 1) → W p l e rmX6_areTwins s m args below meth c H locs 0 0 Q (F0 m pc ls [.int r])) : ∀ (n : Nat) (x2 : Int32) (x3 : Int32), wX6_areTwins_L66 K σ x1 n x2 x3 → ∀ (H : Heap) (locs : List Loc), Sy D 12 ad A H0 (obM ad ci σ) H locs → tt σ → ∀ ls : Array Slot, lv_has ls 5 [(0, .ref (ad 0)), (1, .int x1), (2, .int x2), (3, .int x3)] → W p l e rmX6_areTwins s m args below meth c H locs 0 0 Q (F0 m 66 ls []) := by
  obtain ⟨hx, hb, hml, hown, hts⟩ := id C0
  intro n
  induction n with
  | zero =>
    intro x2 x3 h
    exact h.elim
  | succ n ih =>
    intro x2 x3 h H locs hY hR  ls hl
    refine lv_iload_n hx hb dX6_areTwins_66 rfl (lv_at hl 3 rfl) ?_
    refine lv_aload_n hx hb dX6_areTwins_67 rfl (lv_at hl 0 rfl) ?_
    refine w_get (o := 0) (ci := 6) (C := RX6) (T := TX6) (N1 := 14) (v := .int (gI σ 2)) hx hb hts kX6_areTwins_inX6 hown hK.1 hY (by decide) obM_main rfl 9 (by decide) (hts _ kX6_areTwins_0) rfl rfl dX6_areTwins_68 ?_
    refine lv_icmp_ge (tgt := 121) hx hb dX6_areTwins_71 (by decide) (fun c_1 => ?_) (fun c_1 => ?_)
    · have h := h.1 c_1
      refine lv_iload_n hx hb dX6_areTwins_121 rfl (lv_at hl 1 rfl) ?_
      refine lv_iload_n hx hb dX6_areTwins_122 rfl (lv_at hl 2 rfl) ?_
      refine lv_icmp_ne (tgt := 130) hx hb dX6_areTwins_123 (by decide) (fun c_2 => ?_) (fun c_2 => ?_)
      · have h := h.2 c_2
        refine lv_iconst (v := (0 : Int32)) hx hb dX6_areTwins_130 (by decide) ?_
        exact hret (0 : Int32) _ _ _ _ rfl h hY dX6_areTwins_131
      · have h := h.1 c_2
        refine lv_iconst (v := (1 : Int32)) hx hb dX6_areTwins_126 (by decide) ?_
        refine lv_goto (tgt := 131) hx hb dX6_areTwins_127 (by decide) ?_
        exact hret (1 : Int32) _ _ _ _ rfl h hY dX6_areTwins_131
    · have h := h.2 c_1
      refine lv_aload_n hx hb dX6_areTwins_74 rfl (lv_at hl 0 rfl) ?_
      refine lv_aload_n hx hb dX6_areTwins_75 rfl (lv_at hl 0 rfl) ?_
      refine w_get (o := 0) (ci := 6) (C := RX6) (T := TX6) (N1 := 14) (v := .ref (ad 8)) hx hb hts kX6_areTwins_inX6 hown hK.1 hY (by decide) obM_main rfl 10 (by decide) (hts _ kX6_areTwins_2) rfl rfl dX6_areTwins_76 ?_
      refine lv_iload_n hx hb dX6_areTwins_79 rfl (lv_at hl 3 rfl) ?_
      refine lv_iconst (v := (1 : Int32)) hx hb dX6_areTwins_80 (by decide) ?_
      refine lv_isub hx hb dX6_areTwins_81 ?_
      obtain ⟨b_3, h⟩ := h
      refine w_iald (o := 8) hx hb hK.1 hY (by decide) 1 rfl rfl b_3 dX6_areTwins_82 ?_
      refine lv_aload_n hx hb dX6_areTwins_83 rfl (lv_at hl 0 rfl) ?_
      refine w_get (o := 0) (ci := 6) (C := RX6) (T := TX6) (N1 := 14) (v := .ref (ad 8)) hx hb hts kX6_areTwins_inX6 hown hK.1 hY (by decide) obM_main rfl 10 (by decide) (hts _ kX6_areTwins_2) rfl rfl dX6_areTwins_84 ?_
      refine lv_iload_n hx hb dX6_areTwins_87 rfl (lv_at hl 3 rfl) ?_
      obtain ⟨b_4, h⟩ := h
      refine w_iald (o := 8) hx hb hK.1 hY (by decide) 1 rfl rfl b_4 dX6_areTwins_88 ?_
      refine w_callip (rest := []) (va_runV (As := [.int (gA σ 8 ((x3 - (1 : Int32))).toNatClampNeg), .int (gA σ 8 (x3).toNatClampNeg)]) (rest := []) C0 (mX6_likeWords l D ad ci A σ (gA σ 8 ((x3 - (1 : Int32))).toNatClampNeg) (gA σ 8 (x3).toNatClampNeg) _ hR  h) (cwV 2 hts gX6_areTwins_X6_likeWords rfl rfl rfl ddX6_likeWords ⟨Nat.le_of_ble_eq_true rfl, Nat.le_of_ble_eq_true rfl⟩) (w_preV (o := 0) (ci := 6) (ob := obM ad ci) (σ := σ) hK hY (by decide) obM_main rfl rfl) rfl rfl hl.1 rfl (lv_room (Nat.le_of_ble_eq_true rfl)) dX6_areTwins_89 ⟨Nat.zero_le _, Nat.zero_le _⟩) hY (fun r_5 H locs h hY => ?_)
      refine lv_iload_n hx hb dX6_areTwins_92 rfl (lv_at hl 2 rfl) ?_
      refine lv_icmp_le (tgt := 115) hx hb dX6_areTwins_93 (by decide) (fun c_6 => ?_) (fun c_6 => ?_)
      · have h := h.1 c_6
        refine lv_iinc (v := (x3 + 1)) (lv' := [(3, .int (x3 + 1)), (0, .ref (ad 0)), (1, .int x1), (2, .int x2)]) hx hb dX6_areTwins_115 hl (k := 3) rfl rfl (by decide) rfl (fun ls hl => ?_)
        refine lv_goto (tgt := 66) hx hb dX6_areTwins_118 (by decide) ?_
        exact ih x2 (x3 + 1) h _ _ hY hR  _ (lv_sub hl [1, 2, 3, 0] rfl)
      · have h := h.2 c_6
        refine lv_aload_n hx hb dX6_areTwins_96 rfl (lv_at hl 0 rfl) ?_
        refine lv_aload_n hx hb dX6_areTwins_97 rfl (lv_at hl 0 rfl) ?_
        refine w_get (o := 0) (ci := 6) (C := RX6) (T := TX6) (N1 := 14) (v := .ref (ad 8)) hx hb hts kX6_areTwins_inX6 hown hK.1 hY (by decide) obM_main rfl 10 (by decide) (hts _ kX6_areTwins_2) rfl rfl dX6_areTwins_98 ?_
        refine lv_iload_n hx hb dX6_areTwins_101 rfl (lv_at hl 3 rfl) ?_
        refine lv_iconst (v := (1 : Int32)) hx hb dX6_areTwins_102 (by decide) ?_
        refine lv_isub hx hb dX6_areTwins_103 ?_
        obtain ⟨b_7, h⟩ := h
        refine w_iald (o := 8) hx hb hK.1 hY (by decide) 1 rfl rfl b_7 dX6_areTwins_104 ?_
        refine lv_aload_n hx hb dX6_areTwins_105 rfl (lv_at hl 0 rfl) ?_
        refine w_get (o := 0) (ci := 6) (C := RX6) (T := TX6) (N1 := 14) (v := .ref (ad 8)) hx hb hts kX6_areTwins_inX6 hown hK.1 hY (by decide) obM_main rfl 10 (by decide) (hts _ kX6_areTwins_2) rfl rfl dX6_areTwins_106 ?_
        refine lv_iload_n hx hb dX6_areTwins_109 rfl (lv_at hl 3 rfl) ?_
        obtain ⟨b_8, h⟩ := h
        refine w_iald (o := 8) hx hb hK.1 hY (by decide) 1 rfl rfl b_8 dX6_areTwins_110 ?_
        refine w_callip (rest := []) (va_runV (As := [.int (gA σ 8 ((x3 - (1 : Int32))).toNatClampNeg), .int (gA σ 8 (x3).toNatClampNeg)]) (rest := []) C0 (mX6_likeWords l D ad ci A σ (gA σ 8 ((x3 - (1 : Int32))).toNatClampNeg) (gA σ 8 (x3).toNatClampNeg) _ hR  h) (cwV 2 hts gX6_areTwins_X6_likeWords rfl rfl rfl ddX6_likeWords ⟨Nat.le_of_ble_eq_true rfl, Nat.le_of_ble_eq_true rfl⟩) (w_preV (o := 0) (ci := 6) (ob := obM ad ci) (σ := σ) hK hY (by decide) obM_main rfl rfl) rfl rfl hl.1 rfl (lv_room (Nat.le_of_ble_eq_true rfl)) dX6_areTwins_111 ⟨Nat.zero_le _, Nat.zero_le _⟩) hY (fun r_9 H locs h hY => ?_)
        refine lv_istore_n (lv' := [(2, .int r_9), (0, .ref (ad 0)), (1, .int x1), (3, .int x3)]) hx hb dX6_areTwins_114 rfl hl (by decide) rfl (fun ls hl => ?_)
        refine lv_iinc (v := (x3 + 1)) (lv' := [(3, .int (x3 + 1)), (2, .int r_9), (0, .ref (ad 0)), (1, .int x1)]) hx hb dX6_areTwins_115 hl (k := 3) rfl rfl (by decide) rfl (fun ls hl => ?_)
        refine lv_goto (tgt := 66) hx hb dX6_areTwins_118 (by decide) ?_
        exact ih r_9 (x3 + 1) h _ _ hY hR  _ (lv_sub hl [2, 3, 1, 0] rfl)
set_option maxHeartbeats 4000000 in
set_option maxRecDepth 100000 in
theorem tX6_areTwins_L27 (C0 : CallFix p m c cX6_areTwins 5 s args wsX6_areTwins RX6) (hK : Kx D (tyM ci) s) (K : Int32 → Prop) (B16 : Int32 → Int32 → Prop) (σ : St) (x2 : Int32) (x3 : Int32) (hret : ∀ (r : Int32) (H : Heap) (locs : List Loc) (pc : Nat) (ls : Array Slot), narrow .boolean (.int r) = .int r → K r → Sy D 12 ad A H0 (obM ad ci σ) H locs → decode cX6_areTwins pc = .ok (.ireturn, 1) → W p l e rmX6_areTwins s m args below meth c H locs 0 0 Q (F0 m pc ls [.int r])) (hB16 : ∀ (x1 : Int32) (x3 : Int32), B16 x1 x3 → ∀ (H : Heap) (locs : List Loc), Sy D 12 ad A H0 (obM ad ci σ) H locs → tt σ → ∀ ls : Array Slot, lv_has ls 5 [(0, .ref (ad 0)), (1, .int x1), (2, .int x2), (3, .int x3)] → W p l e rmX6_areTwins s m args below meth c H locs 0 0 Q (F0 m 16 ls [])) : ∀ (n : Nat) (x1 : Int32) (x4 : Int32), wX6_areTwins_L27 K B16 σ x2 x3 n x1 x4 → ∀ (H : Heap) (locs : List Loc), Sy D 12 ad A H0 (obM ad ci σ) H locs → tt σ → ∀ ls : Array Slot, lv_has ls 5 [(0, .ref (ad 0)), (1, .int x1), (2, .int x2), (3, .int x3), (4, .int x4)] → W p l e rmX6_areTwins s m args below meth c H locs 0 0 Q (F0 m 27 ls []) := by
  obtain ⟨hx, hb, hml, hown, hts⟩ := id C0
  intro n
  induction n with
  | zero =>
    intro x1 x4 h
    exact h.elim
  | succ n ih =>
    intro x1 x4 h H locs hY hR  ls hl
    refine lv_iload hx hb dX6_areTwins_27 (lv_at hl 4 rfl) ?_
    refine lv_iload_n hx hb dX6_areTwins_29 rfl (lv_at hl 3 rfl) ?_
    refine lv_icmp_ge (tgt := 58) hx hb dX6_areTwins_30 (by decide) (fun c_10 => ?_) (fun c_10 => ?_)
    · have h := h.1 c_10
      refine lv_iinc (v := (x3 + 1)) (lv' := [(3, .int (x3 + 1)), (0, .ref (ad 0)), (1, .int x1), (2, .int x2), (4, .int x4)]) hx hb dX6_areTwins_58 hl (k := 3) rfl rfl (by decide) rfl (fun ls hl => ?_)
      refine lv_goto (tgt := 16) hx hb dX6_areTwins_61 (by decide) ?_
      exact hB16 x1 (x3 + 1) h _ _ hY hR  _ (lv_sub hl [1, 2, 3, 0] rfl)
    · have h := h.2 c_10
      refine lv_aload_n hx hb dX6_areTwins_33 rfl (lv_at hl 0 rfl) ?_
      refine lv_iload hx hb dX6_areTwins_34 (lv_at hl 4 rfl) ?_
      refine lv_iload_n hx hb dX6_areTwins_36 rfl (lv_at hl 3 rfl) ?_
      refine w_callip (rest := []) (va_runV (As := [.int x4, .int x3]) (rest := []) C0 (mX6_likeWords l D ad ci A σ x4 x3 _ hR  h) (cwV 2 hts gX6_areTwins_X6_likeWords rfl rfl rfl ddX6_likeWords ⟨Nat.le_of_ble_eq_true rfl, Nat.le_of_ble_eq_true rfl⟩) (w_preV (o := 0) (ci := 6) (ob := obM ad ci) (σ := σ) hK hY (by decide) obM_main rfl rfl) rfl rfl hl.1 rfl (lv_room (Nat.le_of_ble_eq_true rfl)) dX6_areTwins_37 ⟨Nat.zero_le _, Nat.zero_le _⟩) hY (fun r_11 H locs h hY => ?_)
      refine lv_iload_n hx hb dX6_areTwins_40 rfl (lv_at hl 1 rfl) ?_
      refine lv_icmp_le (tgt := 52) hx hb dX6_areTwins_41 (by decide) (fun c_12 => ?_) (fun c_12 => ?_)
      · have h := h.1 c_12
        refine lv_iinc (v := (x4 + 1)) (lv' := [(4, .int (x4 + 1)), (0, .ref (ad 0)), (1, .int x1), (2, .int x2), (3, .int x3)]) hx hb dX6_areTwins_52 hl (k := 4) rfl rfl (by decide) rfl (fun ls hl => ?_)
        refine lv_goto (tgt := 27) hx hb dX6_areTwins_55 (by decide) ?_
        exact ih x1 (x4 + 1) h _ _ hY hR  _ (lv_sub hl [1, 2, 3, 4, 0] rfl)
      · have h := h.2 c_12
        refine lv_aload_n hx hb dX6_areTwins_44 rfl (lv_at hl 0 rfl) ?_
        refine lv_iload hx hb dX6_areTwins_45 (lv_at hl 4 rfl) ?_
        refine lv_iload_n hx hb dX6_areTwins_47 rfl (lv_at hl 3 rfl) ?_
        refine w_callip (rest := []) (va_runV (As := [.int x4, .int x3]) (rest := []) C0 (mX6_likeWords l D ad ci A σ x4 x3 _ hR  h) (cwV 2 hts gX6_areTwins_X6_likeWords rfl rfl rfl ddX6_likeWords ⟨Nat.le_of_ble_eq_true rfl, Nat.le_of_ble_eq_true rfl⟩) (w_preV (o := 0) (ci := 6) (ob := obM ad ci) (σ := σ) hK hY (by decide) obM_main rfl rfl) rfl rfl hl.1 rfl (lv_room (Nat.le_of_ble_eq_true rfl)) dX6_areTwins_48 ⟨Nat.zero_le _, Nat.zero_le _⟩) hY (fun r_13 H locs h hY => ?_)
        refine lv_istore_n (lv' := [(1, .int r_13), (0, .ref (ad 0)), (2, .int x2), (3, .int x3), (4, .int x4)]) hx hb dX6_areTwins_51 rfl hl (by decide) rfl (fun ls hl => ?_)
        refine lv_iinc (v := (x4 + 1)) (lv' := [(4, .int (x4 + 1)), (1, .int r_13), (0, .ref (ad 0)), (2, .int x2), (3, .int x3)]) hx hb dX6_areTwins_52 hl (k := 4) rfl rfl (by decide) rfl (fun ls hl => ?_)
        refine lv_goto (tgt := 27) hx hb dX6_areTwins_55 (by decide) ?_
        exact ih r_13 (x4 + 1) h _ _ hY hR  _ (lv_sub hl [2, 1, 3, 4, 0] rfl)
set_option maxHeartbeats 4000000 in
set_option maxRecDepth 100000 in
theorem tX6_areTwins_L16 (C0 : CallFix p m c cX6_areTwins 5 s args wsX6_areTwins RX6) (hK : Kx D (tyM ci) s) (K : Int32 → Prop) (σ : St) (x2 : Int32) (hret : ∀ (r : Int32) (H : Heap) (locs : List Loc) (pc : Nat) (ls : Array Slot), narrow .boolean (.int r) = .int r → K r → Sy D 12 ad A H0 (obM ad ci σ) H locs → decode cX6_areTwins pc = .ok (.ireturn, 1) → W p l e rmX6_areTwins s m args below meth c H locs 0 0 Q (F0 m pc ls [.int r])) : ∀ (n : Nat) (x1 : Int32) (x3 : Int32), wX6_areTwins_L16 K σ x2 n x1 x3 → ∀ (H : Heap) (locs : List Loc), Sy D 12 ad A H0 (obM ad ci σ) H locs → tt σ → ∀ ls : Array Slot, lv_has ls 5 [(0, .ref (ad 0)), (1, .int x1), (2, .int x2), (3, .int x3)] → W p l e rmX6_areTwins s m args below meth c H locs 0 0 Q (F0 m 16 ls []) := by
  obtain ⟨hx, hb, hml, hown, hts⟩ := id C0
  intro n
  induction n with
  | zero =>
    intro x1 x3 h
    exact h.elim
  | succ n ih =>
    intro x1 x3 h H locs hY hR  ls hl
    refine lv_iload_n hx hb dX6_areTwins_16 rfl (lv_at hl 3 rfl) ?_
    refine lv_aload_n hx hb dX6_areTwins_17 rfl (lv_at hl 0 rfl) ?_
    refine w_get (o := 0) (ci := 6) (C := RX6) (T := TX6) (N1 := 14) (v := .int (gI σ 2)) hx hb hts kX6_areTwins_inX6 hown hK.1 hY (by decide) obM_main rfl 9 (by decide) (hts _ kX6_areTwins_0) rfl rfl dX6_areTwins_18 ?_
    refine lv_icmp_ge (tgt := 64) hx hb dX6_areTwins_21 (by decide) (fun c_14 => ?_) (fun c_14 => ?_)
    · have h := h.1 c_14
      refine lv_iconst (v := (1 : Int32)) hx hb dX6_areTwins_64 (by decide) ?_
      refine lv_istore_n (lv' := [(3, .int (1 : Int32)), (0, .ref (ad 0)), (1, .int x1), (2, .int x2)]) hx hb dX6_areTwins_65 rfl hl (by decide) rfl (fun ls hl => ?_)
      obtain ⟨n_15, h⟩ := h
      exact tX6_areTwins_L66 C0 hK K σ x1 hret n_15 x2 (1 : Int32) h _ _ hY hR  _ (lv_sub hl [1, 2, 3, 0] rfl)
    · have h := h.2 c_14
      refine lv_iconst (v := (0 : Int32)) hx hb dX6_areTwins_24 (by decide) ?_
      refine lv_istore (lv' := [(4, .int (0 : Int32)), (0, .ref (ad 0)), (1, .int x1), (2, .int x2), (3, .int x3)]) hx hb dX6_areTwins_25 hl (by decide) rfl (fun ls hl => ?_)
      obtain ⟨n_16, h⟩ := h
      exact tX6_areTwins_L27 C0 hK K (wX6_areTwins_L16 K σ x2 n) σ x2 x3 hret ih n_16 x1 (0 : Int32) h _ _ hY hR  _ (lv_sub hl [1, 2, 3, 4, 0] rfl)
set_option maxHeartbeats 4000000 in
set_option maxRecDepth 100000 in
theorem eX6_areTwins (C0 : CallFix p m c cX6_areTwins 5 s args wsX6_areTwins RX6) (hK : Kx D (tyM ci) s) (K : Int32 → Prop) (σ : St) (hret : ∀ (r : Int32) (H : Heap) (locs : List Loc) (pc : Nat) (ls : Array Slot), narrow .boolean (.int r) = .int r → K r → Sy D 12 ad A H0 (obM ad ci σ) H locs → decode cX6_areTwins pc = .ok (.ireturn, 1) → W p l e rmX6_areTwins s m args below meth c H locs 0 0 Q (F0 m pc ls [.int r])) (h : wX6_areTwins σ K) (H : Heap) (locs : List Loc) (hY : Sy D 12 ad A H0 (obM ad ci σ) H locs) (hR : tt σ) (ls : Array Slot) (hl : lv_has ls 5 [(0, .ref (ad 0))]) : W p l e rmX6_areTwins s m args below meth c H locs 0 0 Q (F0 m 0 ls []) := by
  obtain ⟨hx, hb, hml, hown, hts⟩ := id C0
  refine lv_aload_n hx hb dX6_areTwins_0 rfl (lv_at hl 0 rfl) ?_
  refine w_get (o := 0) (ci := 6) (C := RX6) (T := TX6) (N1 := 14) (v := .int (gI σ 2)) hx hb hts kX6_areTwins_inX6 hown hK.1 hY (by decide) obM_main rfl 9 (by decide) (hts _ kX6_areTwins_0) rfl rfl dX6_areTwins_1 ?_
  refine lv_iconst (v := (2 : Int32)) hx hb dX6_areTwins_4 (by decide) ?_
  refine lv_icmp_ge (tgt := 10) hx hb dX6_areTwins_5 (by decide) (fun c_17 => ?_) (fun c_17 => ?_)
  · have h := h.1 c_17
    refine lv_iconst (v := (0 : Int32)) hx hb dX6_areTwins_10 (by decide) ?_
    refine lv_istore_n (lv' := [(1, .int (0 : Int32)), (0, .ref (ad 0))]) hx hb dX6_areTwins_11 rfl hl (by decide) rfl (fun ls hl => ?_)
    refine lv_iconst (v := (0 : Int32)) hx hb dX6_areTwins_12 (by decide) ?_
    refine lv_istore_n (lv' := [(2, .int (0 : Int32)), (1, .int (0 : Int32)), (0, .ref (ad 0))]) hx hb dX6_areTwins_13 rfl hl (by decide) rfl (fun ls hl => ?_)
    refine lv_iconst (v := (0 : Int32)) hx hb dX6_areTwins_14 (by decide) ?_
    refine lv_istore_n (lv' := [(3, .int (0 : Int32)), (2, .int (0 : Int32)), (1, .int (0 : Int32)), (0, .ref (ad 0))]) hx hb dX6_areTwins_15 rfl hl (by decide) rfl (fun ls hl => ?_)
    obtain ⟨n_18, h⟩ := h
    exact tX6_areTwins_L16 C0 hK K σ (0 : Int32) hret n_18 (0 : Int32) (0 : Int32) h _ _ hY hR  _ (lv_sub hl [3, 2, 1, 0] rfl)
  · have h := h.2 c_17
    refine lv_iconst (v := (1 : Int32)) hx hb dX6_areTwins_8 (by decide) ?_
    exact hret (1 : Int32) _ _ _ _ rfl h hY dX6_areTwins_9
set_option maxHeartbeats 4000000 in
set_option maxRecDepth 100000 in
theorem mX6_areTwins (l : Launch) (D : va_G) (ad : Nat → Nat) (ci : Nat → ClassId) (A : Nat → Prop) (σ : St) (K : Int32 → Prop) (hR : tt σ) (h : wX6_areTwins σ K) : Met l yX6_areTwins wsX6_areTwins rmX6_areTwins (va_Pc [.ref (ad 0)] (PreW D 12 ad A (tyM ci) (obM ad ci σ))) (va_Qi (fun r (_ : Unit) => narrow .boolean (.int r) = .int r ∧ K r) (fun _ => (PostW D 12 ad (tyM ci) (obM ad ci) tt σ)) A) 0 0 A := by
  refine Met.ofW (cc := cX6_areTwins) (maxL := 5) (ret := (some .boolean)) (by decide) rfl ?_
  intro p e s m args below meth c s₁ B hml hv
  obtain ⟨rfl, hP, hK, hD⟩ := hv
  have C0 : CallFix p m c cX6_areTwins 5 s _ wsX6_areTwins RX6 := ⟨B.exec, B.bytes, hml, findClass_of_methodNamed B.named, atoms_spec (ws := wsX6_areTwins) B.pre⟩
  have hlocks := B.notSynchronized
  have hY : Sy D 12 ad A s.heap (obM ad ci σ) s.heap [] := ⟨hP, hD, va_S.rf⟩
  have hl := lv_entry ([.ref (ad 0)]) (n := 5) (Nat.le_of_ble_eq_true rfl)
  rw [lg_entry_eq]
  generalize (lg_sl ([.ref (ad 0)]) ++ List.replicate (5 - (lg_sl ([.ref (ad 0)])).length) Slot.unset).toArray = ls at hl ⊢
  exact eX6_areTwins C0 hK K σ (fun r H locs pc ls hn hk hY hd => w_zret (I := tt) B.exec B.bytes B.returns hn hlocks (u := ()) hK ⟨hn, hk⟩ (fun t ht => ht) hY hR hd) h _ _ hY hR ls hl
set_option maxHeartbeats 4000000 in
set_option maxRecDepth 100000 in
theorem tX6_isTrue_J41 (C0 : CallFix p m c cX6_isTrue 2 s args wsX6_isTrue RX6) (hK : Kx D (tyM ci) s) (K : Int32 → St → Prop) (σ : St) (hret : ∀ (r : Int32) (u : St) (H : Heap) (locs : List Loc) (pc : Nat) (ls : Array Slot), narrow .boolean (.int r) = .int r → K r u → Sy D 12 ad A H0 (obM ad ci u) H locs → tt u → decode cX6_isTrue pc = .ok (.ireturn, 1) → W p l e rmX6_isTrue s m args below meth c H locs 0 0 Q (F0 m pc ls [.int r])) (h : wX6_isTrue_J41 K σ) (H : Heap) (locs : List Loc) (hY : Sy D 12 ad A H0 (obM ad ci σ) H locs) (hR : tt σ) (ls : Array Slot) (hl : lv_has ls 2 [(0, .ref (ad 0))]) : W p l e rmX6_isTrue s m args below meth c H locs 0 0 Q (F0 m 41 ls []) := by
  obtain ⟨hx, hb, hml, hown, hts⟩ := id C0
  refine lv_aload_n hx hb dX6_isTrue_41 rfl (lv_at hl 0 rfl) ?_
  refine w_callip (rest := []) (va_runV (As := []) (rest := []) C0 (mX6_areTwins l D ad ci A σ _ hR  h) (cwV 0 hts gX6_isTrue_X6_areTwins rfl rfl rfl ddX6_areTwins ⟨Nat.le_of_ble_eq_true rfl, Nat.le_of_ble_eq_true rfl⟩) (w_preV (o := 0) (ci := 6) (ob := obM ad ci) (σ := σ) hK hY (by decide) obM_main rfl rfl) rfl rfl hl.1 rfl (lv_room (Nat.le_of_ble_eq_true rfl)) dX6_isTrue_42 ⟨Nat.zero_le _, Nat.zero_le _⟩) hY (fun r_1 H locs h hY => ?_)
  obtain ⟨n_r_1, h⟩ := h
  exact hret r_1 σ _ _ _ _ n_r_1 h hY hR dX6_isTrue_45
set_option maxHeartbeats 4000000 in
set_option maxRecDepth 100000 in
theorem tX6_isTrue_L11 (C0 : CallFix p m c cX6_isTrue 2 s args wsX6_isTrue RX6) (hK : Kx D (tyM ci) s) (K : Int32 → St → Prop) (σ : St) (hret : ∀ (r : Int32) (u : St) (H : Heap) (locs : List Loc) (pc : Nat) (ls : Array Slot), narrow .boolean (.int r) = .int r → K r u → Sy D 12 ad A H0 (obM ad ci u) H locs → tt u → decode cX6_isTrue pc = .ok (.ireturn, 1) → W p l e rmX6_isTrue s m args below meth c H locs 0 0 Q (F0 m pc ls [.int r])) : ∀ (n : Nat) (x1 : Int32), wX6_isTrue_L11 K σ n x1 → ∀ (H : Heap) (locs : List Loc), Sy D 12 ad A H0 (obM ad ci σ) H locs → tt σ → ∀ ls : Array Slot, lv_has ls 2 [(0, .ref (ad 0)), (1, .int x1)] → W p l e rmX6_isTrue s m args below meth c H locs 0 0 Q (F0 m 11 ls []) := by
  obtain ⟨hx, hb, hml, hown, hts⟩ := id C0
  intro n
  induction n with
  | zero =>
    intro x1 h
    exact h.elim
  | succ n ih =>
    intro x1 h H locs hY hR  ls hl
    refine lv_iload_n hx hb dX6_isTrue_11 rfl (lv_at hl 1 rfl) ?_
    refine lv_aload_n hx hb dX6_isTrue_12 rfl (lv_at hl 0 rfl) ?_
    refine w_get (o := 0) (ci := 6) (C := RX6) (T := TX6) (N1 := 14) (v := .int (gI σ 1)) hx hb hts kX6_isTrue_inX6 hown hK.1 hY (by decide) obM_main rfl 8 (by decide) (hts _ kX6_isTrue_0) rfl rfl dX6_isTrue_13 ?_
    refine lv_icmp_gt (tgt := 41) hx hb dX6_isTrue_16 (by decide) (fun c_2 => ?_) (fun c_2 => ?_)
    · have h := h.1 c_2
      exact tX6_isTrue_J41 C0 hK K σ hret h _ _ hY hR _ (lv_sub hl [0] rfl)
    · have h := h.2 c_2
      refine lv_iload_n hx hb dX6_isTrue_19 rfl (lv_at hl 1 rfl) ?_
      refine lv_bipush (v := (10 : Int32)) hx hb dX6_isTrue_20 (by decide) ?_
      refine lv_icmp_gt (tgt := 41) hx hb dX6_isTrue_22 (by decide) (fun c_3 => ?_) (fun c_3 => ?_)
      · have h := h.1 c_3
        exact tX6_isTrue_J41 C0 hK K σ hret h _ _ hY hR _ (lv_sub hl [0] rfl)
      · have h := h.2 c_3
        refine lv_aload_n hx hb dX6_isTrue_25 rfl (lv_at hl 0 rfl) ?_
        refine lv_iload_n hx hb dX6_isTrue_26 rfl (lv_at hl 1 rfl) ?_
        refine w_callip (rest := []) (va_runV (As := [.int x1]) (rest := []) C0 (mX6_isSideBySide l D ad ci A σ x1 _ hR  h) (cwV 1 hts gX6_isTrue_X6_isSideBySide rfl rfl rfl ddX6_isSideBySide ⟨Nat.le_of_ble_eq_true rfl, Nat.le_of_ble_eq_true rfl⟩) (w_preV (o := 0) (ci := 6) (ob := obM ad ci) (σ := σ) hK hY (by decide) obM_main rfl rfl) rfl rfl hl.1 rfl (lv_room (Nat.le_of_ble_eq_true rfl)) dX6_isTrue_27 ⟨Nat.zero_le _, Nat.zero_le _⟩) hY (fun r_4 H locs h hY => ?_)
        obtain ⟨n_r_4, h⟩ := h
        refine lv_if_ne (tgt := 35) hx hb dX6_isTrue_30 (by decide) (fun c_5 => ?_) (fun c_5 => ?_)
        · have h := h.2 c_5
          refine lv_iinc (v := (x1 + 1)) (lv' := [(1, .int (x1 + 1)), (0, .ref (ad 0))]) hx hb dX6_isTrue_35 hl (k := 1) rfl rfl (by decide) rfl (fun ls hl => ?_)
          refine lv_goto (tgt := 11) hx hb dX6_isTrue_38 (by decide) ?_
          exact ih (x1 + 1) h _ _ hY hR  _ (lv_sub hl [1, 0] rfl)
        · have h := h.1 c_5
          refine lv_iconst (v := (0 : Int32)) hx hb dX6_isTrue_33 (by decide) ?_
          exact hret (0 : Int32) σ _ _ _ _ rfl h hY hR dX6_isTrue_34
set_option maxHeartbeats 4000000 in
set_option maxRecDepth 100000 in
theorem eX6_isTrue (C0 : CallFix p m c cX6_isTrue 2 s args wsX6_isTrue RX6) (hK : Kx D (tyM ci) s) (K : Int32 → St → Prop) (σ : St) (hret : ∀ (r : Int32) (u : St) (H : Heap) (locs : List Loc) (pc : Nat) (ls : Array Slot), narrow .boolean (.int r) = .int r → K r u → Sy D 12 ad A H0 (obM ad ci u) H locs → tt u → decode cX6_isTrue pc = .ok (.ireturn, 1) → W p l e rmX6_isTrue s m args below meth c H locs 0 0 Q (F0 m pc ls [.int r])) (h : wX6_isTrue σ K) (H : Heap) (locs : List Loc) (hY : Sy D 12 ad A H0 (obM ad ci σ) H locs) (hR : tt σ) (ls : Array Slot) (hl : lv_has ls 2 [(0, .ref (ad 0))]) : W p l e rmX6_isTrue s m args below meth c H locs 0 0 Q (F0 m 0 ls []) := by
  obtain ⟨hx, hb, hml, hown, hts⟩ := id C0
  refine lv_aload_n hx hb dX6_isTrue_0 rfl (lv_at hl 0 rfl) ?_
  refine lv_iconst (v := (0 : Int32)) hx hb dX6_isTrue_1 (by decide) ?_
  obtain ⟨σ_6, e_σ_6⟩ : ∃ z : St, z = pI σ 0 (0 : Int32) := ⟨_, rfl⟩
  have h := h σ_6 e_σ_6
  have hR_σ_6 : tt σ_6 := trivial
  refine w_put (o := 0) (ci := 6) (C := RX6) (T := TX6) (N1 := 14) hx hb hts kX6_isTrue_inX6 tyX6 tyX6_ok nmX6 hown hK.1 hY (by decide) obM_main rfl 0 (by decide) (hts _ kX6_isTrue_2) rfl rfl rfl (Nat.le_of_ble_eq_true rfl) dX6_isTrue_2 (ob' := obM ad ci σ_6) (by rw [e_σ_6]; exact obM_pI rfl) (fun H locs hY => ?_)
  refine lv_aload_n hx hb dX6_isTrue_5 rfl (lv_at hl 0 rfl) ?_
  refine w_callv (rest := []) (va_runV (As := []) (rest := []) C0 (mX6_orders l D ad ci A σ_6 _ hR_σ_6  h) (cwV 0 hts gX6_isTrue_X6_orders rfl rfl rfl ddX6_orders ⟨Nat.le_of_ble_eq_true rfl, Nat.le_of_ble_eq_true rfl⟩) (w_preV (o := 0) (ci := 6) (ob := obM ad ci) (σ := σ_6) hK hY (by decide) obM_main rfl rfl) rfl rfl hl.1 rfl (lv_room (Nat.le_of_ble_eq_true rfl)) dX6_isTrue_6 ⟨Nat.zero_le _, Nat.zero_le _⟩) hY (fun σ_8 H locs h hY hR_σ_8 => ?_)
  refine lv_iconst (v := (0 : Int32)) hx hb dX6_isTrue_9 (by decide) ?_
  refine lv_istore_n (lv' := [(1, .int (0 : Int32)), (0, .ref (ad 0))]) hx hb dX6_isTrue_10 rfl hl (by decide) rfl (fun ls hl => ?_)
  obtain ⟨n_9, h⟩ := h
  exact tX6_isTrue_L11 C0 hK K σ_8 hret n_9 (0 : Int32) h _ _ hY hR_σ_8  _ (lv_sub hl [1, 0] rfl)
set_option maxHeartbeats 4000000 in
set_option maxRecDepth 100000 in
theorem mX6_isTrue (l : Launch) (D : va_G) (ad : Nat → Nat) (ci : Nat → ClassId) (A : Nat → Prop) (σ : St) (K : Int32 → St → Prop) (hR : tt σ) (h : wX6_isTrue σ K) : Met l yX6_isTrue wsX6_isTrue rmX6_isTrue (va_Pc [.ref (ad 0)] (PreW D 12 ad A (tyM ci) (obM ad ci σ))) (va_Qi (fun r u => narrow .boolean (.int r) = .int r ∧ K r u) (PostW D 12 ad (tyM ci) (obM ad ci) tt) A) 0 0 A := by
  refine Met.ofW (cc := cX6_isTrue) (maxL := 2) (ret := (some .boolean)) (by decide) rfl ?_
  intro p e s m args below meth c s₁ B hml hv
  obtain ⟨rfl, hP, hK, hD⟩ := hv
  have C0 : CallFix p m c cX6_isTrue 2 s _ wsX6_isTrue RX6 := ⟨B.exec, B.bytes, hml, findClass_of_methodNamed B.named, atoms_spec (ws := wsX6_isTrue) B.pre⟩
  have hlocks := B.notSynchronized
  have hY : Sy D 12 ad A s.heap (obM ad ci σ) s.heap [] := ⟨hP, hD, va_S.rf⟩
  have hl := lv_entry ([.ref (ad 0)]) (n := 2) (Nat.le_of_ble_eq_true rfl)
  rw [lg_entry_eq]
  generalize (lg_sl ([.ref (ad 0)]) ++ List.replicate (2 - (lg_sl ([.ref (ad 0)])).length) Slot.unset).toArray = ls at hl ⊢
  exact eX6_isTrue C0 hK K σ (fun r u H locs pc ls hn hk hY hR hd => w_zret (I := tt) B.exec B.bytes B.returns hn hlocks hK ⟨hn, hk⟩ (fun t ht => ht) hY hR hd) h _ _ hY hR ls hl
set_option maxHeartbeats 4000000 in
set_option maxRecDepth 100000 in
theorem tX6_checksum_L149 (C0 : CallFix p m c cX6_checksum 6 s args wsX6_checksum RX6) (hK : Kx D (tyM ci) s) (K : Int64 → St → Prop) (B126 : Int64 → Int32 → Prop) (σ : St) (x3 : Int32) (hret : ∀ (r : Int64) (u : St) (H : Heap) (locs : List Loc) (pc : Nat) (ls : Array Slot), K r u → Sy D 12 ad A H0 (obM ad ci u) H locs → tt u → decode cX6_checksum pc = .ok (.lreturn, 1) → W p l e rmX6_checksum s m args below meth c H locs 0 0 Q (F0 m pc ls [.long r])) (hB126 : ∀ (x1 : Int64) (x3 : Int32), B126 x1 x3 → ∀ (H : Heap) (locs : List Loc), Sy D 12 ad A H0 (obM ad ci σ) H locs → tt σ → ∀ ls : Array Slot, lv_has ls 6 [(0, .ref (ad 0)), (1, .long x1), (3, .int x3)] → W p l e rmX6_checksum s m args below meth c H locs 0 0 Q (F0 m 126 ls [])) : ∀ (n : Nat) (x1 : Int64) (x4 : Int32), wX6_checksum_L149 K B126 σ x3 n x1 x4 → ∀ (H : Heap) (locs : List Loc), Sy D 12 ad A H0 (obM ad ci σ) H locs → tt σ → ∀ ls : Array Slot, lv_has ls 6 [(0, .ref (ad 0)), (1, .long x1), (3, .int x3), (4, .int x4)] → W p l e rmX6_checksum s m args below meth c H locs 0 0 Q (F0 m 149 ls []) := by
  obtain ⟨hx, hb, hml, hown, hts⟩ := id C0
  intro n
  induction n with
  | zero =>
    intro x1 x4 h
    exact h.elim
  | succ n ih =>
    intro x1 x4 h H locs hY hR  ls hl
    refine lv_iload hx hb dX6_checksum_149 (lv_at hl 3 rfl) ?_
    refine lv_aload_n hx hb dX6_checksum_151 rfl (lv_at hl 0 rfl) ?_
    refine w_get (o := 0) (ci := 6) (C := RX6) (T := TX6) (N1 := 14) (v := .ref (ad 7)) hx hb hts kX6_checksum_inX6 hown hK.1 hY (by decide) obM_main rfl 7 (by decide) (hts _ kX6_checksum_0) rfl rfl dX6_checksum_152 ?_
    refine lv_iload_n hx hb dX6_checksum_155 rfl (lv_at hl 2 rfl) ?_
    obtain ⟨b_1, h⟩ := h
    refine w_iald (o := 7) hx hb hK.1 hY (by decide) 1 rfl rfl b_1 dX6_checksum_156 ?_
    refine lv_icmp_ge (tgt := 185) hx hb dX6_checksum_157 (by decide) (fun c_2 => ?_) (fun c_2 => ?_)
    · have h := h.1 c_2
      refine lv_iinc (v := (x3 + 1)) (lv' := [(3, .int (x3 + 1)), (0, .ref (ad 0)), (1, .long x1), (4, .int x4)]) hx hb dX6_checksum_185 hl (k := 2) rfl rfl (by decide) rfl (fun ls hl => ?_)
      refine lv_goto (tgt := 126) hx hb dX6_checksum_188 (by decide) ?_
      exact hB126 x1 (x3 + 1) h _ _ hY hR  _ (lv_sub hl [1, 2, 0] rfl)
    · have h := h.2 c_2
      refine lv_ldc2 hx hb hown (hts _ kX6_checksum_2) dX6_checksum_160 ?_
      refine lv_lload_n hx hb dX6_checksum_163 rfl (lv_at hl 1 rfl) ?_
      refine lv_lmul hx hb dX6_checksum_164 ?_
      refine lv_aload_n hx hb dX6_checksum_165 rfl (lv_at hl 0 rfl) ?_
      refine w_get (o := 0) (ci := 6) (C := RX6) (T := TX6) (N1 := 14) (v := .ref (ad 3)) hx hb hts kX6_checksum_inX6 hown hK.1 hY (by decide) obM_main rfl 3 (by decide) (hts _ kX6_checksum_3) rfl rfl dX6_checksum_166 ?_
      refine lv_iconst (v := (3 : Int32)) hx hb dX6_checksum_169 (by decide) ?_
      refine lv_iload_n hx hb dX6_checksum_170 rfl (lv_at hl 2 rfl) ?_
      refine lv_imul hx hb dX6_checksum_171 ?_
      refine lv_iload hx hb dX6_checksum_172 (lv_at hl 3 rfl) ?_
      refine lv_iadd hx hb dX6_checksum_174 ?_
      obtain ⟨b_3, h⟩ := h
      refine w_cald (o := 3) hx hb hK.1 hY (by decide) 0 rfl rfl b_3 dX6_checksum_175 ?_
      refine lv_i2l hx hb dX6_checksum_176 rfl ?_
      refine lv_ladd hx hb dX6_checksum_177 ?_
      refine lv_topl (fun x1_4 e_x1_4 => ?_)
      have h := h x1_4 e_x1_4
      refine lv_lstore_n (lv' := [(1, .long x1_4), (0, .ref (ad 0)), (3, .int x3), (4, .int x4)]) hx hb dX6_checksum_178 rfl hl (by decide) rfl (fun ls hl => ?_)
      refine lv_iinc (v := (x4 + 1)) (lv' := [(4, .int (x4 + 1)), (1, .long x1_4), (0, .ref (ad 0)), (3, .int x3)]) hx hb dX6_checksum_179 hl (k := 3) rfl rfl (by decide) rfl (fun ls hl => ?_)
      refine lv_goto (tgt := 149) hx hb dX6_checksum_182 (by decide) ?_
      exact ih x1_4 (x4 + 1) h _ _ hY hR  _ (lv_sub hl [2, 1, 3, 0] rfl)
set_option maxHeartbeats 4000000 in
set_option maxRecDepth 100000 in
theorem tX6_checksum_L126 (C0 : CallFix p m c cX6_checksum 6 s args wsX6_checksum RX6) (hK : Kx D (tyM ci) s) (K : Int64 → St → Prop) (σ : St) (hret : ∀ (r : Int64) (u : St) (H : Heap) (locs : List Loc) (pc : Nat) (ls : Array Slot), K r u → Sy D 12 ad A H0 (obM ad ci u) H locs → tt u → decode cX6_checksum pc = .ok (.lreturn, 1) → W p l e rmX6_checksum s m args below meth c H locs 0 0 Q (F0 m pc ls [.long r])) : ∀ (n : Nat) (x1 : Int64) (x3 : Int32), wX6_checksum_L126 K σ n x1 x3 → ∀ (H : Heap) (locs : List Loc), Sy D 12 ad A H0 (obM ad ci σ) H locs → tt σ → ∀ ls : Array Slot, lv_has ls 6 [(0, .ref (ad 0)), (1, .long x1), (3, .int x3)] → W p l e rmX6_checksum s m args below meth c H locs 0 0 Q (F0 m 126 ls []) := by
  obtain ⟨hx, hb, hml, hown, hts⟩ := id C0
  intro n
  induction n with
  | zero =>
    intro x1 x3 h
    exact h.elim
  | succ n ih =>
    intro x1 x3 h H locs hY hR  ls hl
    refine lv_iload_n hx hb dX6_checksum_126 rfl (lv_at hl 2 rfl) ?_
    refine lv_bipush (v := (6 : Int32)) hx hb dX6_checksum_127 (by decide) ?_
    refine lv_icmp_ge (tgt := 191) hx hb dX6_checksum_129 (by decide) (fun c_5 => ?_) (fun c_5 => ?_)
    · have h := h.1 c_5
      refine lv_lload_n hx hb dX6_checksum_191 rfl (lv_at hl 1 rfl) ?_
      exact hret x1 σ _ _ _ _ h hY hR dX6_checksum_192
    · have h := h.2 c_5
      refine lv_ldc2 hx hb hown (hts _ kX6_checksum_2) dX6_checksum_132 ?_
      refine lv_lload_n hx hb dX6_checksum_135 rfl (lv_at hl 1 rfl) ?_
      refine lv_lmul hx hb dX6_checksum_136 ?_
      refine lv_aload_n hx hb dX6_checksum_137 rfl (lv_at hl 0 rfl) ?_
      refine w_get (o := 0) (ci := 6) (C := RX6) (T := TX6) (N1 := 14) (v := .ref (ad 7)) hx hb hts kX6_checksum_inX6 hown hK.1 hY (by decide) obM_main rfl 7 (by decide) (hts _ kX6_checksum_0) rfl rfl dX6_checksum_138 ?_
      refine lv_iload_n hx hb dX6_checksum_141 rfl (lv_at hl 2 rfl) ?_
      obtain ⟨b_6, h⟩ := h
      refine w_iald (o := 7) hx hb hK.1 hY (by decide) 1 rfl rfl b_6 dX6_checksum_142 ?_
      refine lv_i2l hx hb dX6_checksum_143 rfl ?_
      refine lv_ladd hx hb dX6_checksum_144 ?_
      refine lv_topl (fun x1_7 e_x1_7 => ?_)
      have h := h x1_7 e_x1_7
      refine lv_lstore_n (lv' := [(1, .long x1_7), (0, .ref (ad 0)), (3, .int x3)]) hx hb dX6_checksum_145 rfl hl (by decide) rfl (fun ls hl => ?_)
      refine lv_iconst (v := (0 : Int32)) hx hb dX6_checksum_146 (by decide) ?_
      refine lv_istore (lv' := [(4, .int (0 : Int32)), (1, .long x1_7), (0, .ref (ad 0)), (3, .int x3)]) hx hb dX6_checksum_147 hl (by decide) rfl (fun ls hl => ?_)
      obtain ⟨n_8, h⟩ := h
      exact tX6_checksum_L149 C0 hK K (wX6_checksum_L126 K σ n) σ x3 hret ih n_8 x1_7 (0 : Int32) h _ _ hY hR  _ (lv_sub hl [2, 1, 3, 0] rfl)
set_option maxHeartbeats 4000000 in
set_option maxRecDepth 100000 in
theorem tX6_checksum_L64 (C0 : CallFix p m c cX6_checksum 6 s args wsX6_checksum RX6) (hK : Kx D (tyM ci) s) (K : Int64 → St → Prop) (B45 : Int64 → Int32 → Prop) (σ : St) (x3 : Int32) (x4 : Int32) (hret : ∀ (r : Int64) (u : St) (H : Heap) (locs : List Loc) (pc : Nat) (ls : Array Slot), K r u → Sy D 12 ad A H0 (obM ad ci u) H locs → tt u → decode cX6_checksum pc = .ok (.lreturn, 1) → W p l e rmX6_checksum s m args below meth c H locs 0 0 Q (F0 m pc ls [.long r])) (hB45 : ∀ (x1 : Int64) (x3 : Int32), B45 x1 x3 → ∀ (H : Heap) (locs : List Loc), Sy D 12 ad A H0 (obM ad ci σ) H locs → tt σ → ∀ ls : Array Slot, lv_has ls 6 [(0, .ref (ad 0)), (1, .long x1), (3, .int x3)] → W p l e rmX6_checksum s m args below meth c H locs 0 0 Q (F0 m 45 ls [])) : ∀ (n : Nat) (x1 : Int64) (x5 : Int32), wX6_checksum_L64 K B45 σ x3 x4 n x1 x5 → ∀ (H : Heap) (locs : List Loc), Sy D 12 ad A H0 (obM ad ci σ) H locs → tt σ → ∀ ls : Array Slot, lv_has ls 6 [(0, .ref (ad 0)), (1, .long x1), (3, .int x3), (4, .int x4), (5, .int x5)] → W p l e rmX6_checksum s m args below meth c H locs 0 0 Q (F0 m 64 ls []) := by
  obtain ⟨hx, hb, hml, hown, hts⟩ := id C0
  intro n
  induction n with
  | zero =>
    intro x1 x5 h
    exact h.elim
  | succ n ih =>
    intro x1 x5 h H locs hY hR  ls hl
    refine lv_iload hx hb dX6_checksum_64 (lv_at hl 4 rfl) ?_
    refine lv_aload_n hx hb dX6_checksum_66 rfl (lv_at hl 0 rfl) ?_
    refine w_get (o := 0) (ci := 6) (C := RX6) (T := TX6) (N1 := 14) (v := .ref (ad 5)) hx hb hts kX6_checksum_inX6 hown hK.1 hY (by decide) obM_main rfl 5 (by decide) (hts _ kX6_checksum_4) rfl rfl dX6_checksum_67 ?_
    refine lv_iload hx hb dX6_checksum_70 (lv_at hl 3 rfl) ?_
    obtain ⟨b_9, h⟩ := h
    refine w_iald (o := 5) hx hb hK.1 hY (by decide) 1 rfl rfl b_9 dX6_checksum_72 ?_
    refine lv_icmp_ge (tgt := 103) hx hb dX6_checksum_73 (by decide) (fun c_10 => ?_) (fun c_10 => ?_)
    · have h := h.1 c_10
      refine lv_ldc2 hx hb hown (hts _ kX6_checksum_2) dX6_checksum_103 ?_
      refine lv_lload_n hx hb dX6_checksum_106 rfl (lv_at hl 1 rfl) ?_
      refine lv_lmul hx hb dX6_checksum_107 ?_
      refine lv_aload_n hx hb dX6_checksum_108 rfl (lv_at hl 0 rfl) ?_
      refine w_get (o := 0) (ci := 6) (C := RX6) (T := TX6) (N1 := 14) (v := .ref (ad 6)) hx hb hts kX6_checksum_inX6 hown hK.1 hY (by decide) obM_main rfl 6 (by decide) (hts _ kX6_checksum_5) rfl rfl dX6_checksum_109 ?_
      refine lv_iload hx hb dX6_checksum_112 (lv_at hl 3 rfl) ?_
      obtain ⟨b_11, h⟩ := h
      refine w_iald (o := 6) hx hb hK.1 hY (by decide) 1 rfl rfl b_11 dX6_checksum_114 ?_
      refine lv_i2l hx hb dX6_checksum_115 rfl ?_
      refine lv_ladd hx hb dX6_checksum_116 ?_
      refine lv_topl (fun x1_12 e_x1_12 => ?_)
      have h := h x1_12 e_x1_12
      refine lv_lstore_n (lv' := [(1, .long x1_12), (0, .ref (ad 0)), (3, .int x3), (4, .int x4), (5, .int x5)]) hx hb dX6_checksum_117 rfl hl (by decide) rfl (fun ls hl => ?_)
      refine lv_iinc (v := (x3 + 1)) (lv' := [(3, .int (x3 + 1)), (1, .long x1_12), (0, .ref (ad 0)), (4, .int x4), (5, .int x5)]) hx hb dX6_checksum_118 hl (k := 2) rfl rfl (by decide) rfl (fun ls hl => ?_)
      refine lv_goto (tgt := 45) hx hb dX6_checksum_121 (by decide) ?_
      exact hB45 x1_12 (x3 + 1) h _ _ hY hR  _ (lv_sub hl [2, 1, 0] rfl)
    · have h := h.2 c_10
      refine lv_ldc2 hx hb hown (hts _ kX6_checksum_2) dX6_checksum_76 ?_
      refine lv_lload_n hx hb dX6_checksum_79 rfl (lv_at hl 1 rfl) ?_
      refine lv_lmul hx hb dX6_checksum_80 ?_
      refine lv_aload_n hx hb dX6_checksum_81 rfl (lv_at hl 0 rfl) ?_
      refine w_get (o := 0) (ci := 6) (C := RX6) (T := TX6) (N1 := 14) (v := .ref (ad 2)) hx hb hts kX6_checksum_inX6 hown hK.1 hY (by decide) obM_main rfl 2 (by decide) (hts _ kX6_checksum_6) rfl rfl dX6_checksum_82 ?_
      refine lv_bipush (v := (10 : Int32)) hx hb dX6_checksum_85 (by decide) ?_
      refine lv_iload hx hb dX6_checksum_87 (lv_at hl 3 rfl) ?_
      refine lv_imul hx hb dX6_checksum_89 ?_
      refine lv_iload hx hb dX6_checksum_90 (lv_at hl 4 rfl) ?_
      refine lv_iadd hx hb dX6_checksum_92 ?_
      obtain ⟨b_13, h⟩ := h
      refine w_cald (o := 2) hx hb hK.1 hY (by decide) 0 rfl rfl b_13 dX6_checksum_93 ?_
      refine lv_i2l hx hb dX6_checksum_94 rfl ?_
      refine lv_ladd hx hb dX6_checksum_95 ?_
      refine lv_topl (fun x1_14 e_x1_14 => ?_)
      have h := h x1_14 e_x1_14
      refine lv_lstore_n (lv' := [(1, .long x1_14), (0, .ref (ad 0)), (3, .int x3), (4, .int x4), (5, .int x5)]) hx hb dX6_checksum_96 rfl hl (by decide) rfl (fun ls hl => ?_)
      refine lv_iinc (v := (x5 + 1)) (lv' := [(5, .int (x5 + 1)), (1, .long x1_14), (0, .ref (ad 0)), (3, .int x3), (4, .int x4)]) hx hb dX6_checksum_97 hl (k := 4) rfl rfl (by decide) rfl (fun ls hl => ?_)
      refine lv_goto (tgt := 64) hx hb dX6_checksum_100 (by decide) ?_
      exact ih x1_14 (x5 + 1) h _ _ hY hR  _ (lv_sub hl [2, 1, 3, 4, 0] rfl)
set_option maxHeartbeats 4000000 in
set_option maxRecDepth 100000 in
theorem tX6_checksum_L45 (C0 : CallFix p m c cX6_checksum 6 s args wsX6_checksum RX6) (hK : Kx D (tyM ci) s) (K : Int64 → St → Prop) (σ : St) (hret : ∀ (r : Int64) (u : St) (H : Heap) (locs : List Loc) (pc : Nat) (ls : Array Slot), K r u → Sy D 12 ad A H0 (obM ad ci u) H locs → tt u → decode cX6_checksum pc = .ok (.lreturn, 1) → W p l e rmX6_checksum s m args below meth c H locs 0 0 Q (F0 m pc ls [.long r])) : ∀ (n : Nat) (x1 : Int64) (x3 : Int32), wX6_checksum_L45 K σ n x1 x3 → ∀ (H : Heap) (locs : List Loc), Sy D 12 ad A H0 (obM ad ci σ) H locs → tt σ → ∀ ls : Array Slot, lv_has ls 6 [(0, .ref (ad 0)), (1, .long x1), (3, .int x3)] → W p l e rmX6_checksum s m args below meth c H locs 0 0 Q (F0 m 45 ls []) := by
  obtain ⟨hx, hb, hml, hown, hts⟩ := id C0
  intro n
  induction n with
  | zero =>
    intro x1 x3 h
    exact h.elim
  | succ n ih =>
    intro x1 x3 h H locs hY hR  ls hl
    refine lv_iload_n hx hb dX6_checksum_45 rfl (lv_at hl 2 rfl) ?_
    refine lv_aload_n hx hb dX6_checksum_46 rfl (lv_at hl 0 rfl) ?_
    refine w_get (o := 0) (ci := 6) (C := RX6) (T := TX6) (N1 := 14) (v := .int (gI σ 2)) hx hb hts kX6_checksum_inX6 hown hK.1 hY (by decide) obM_main rfl 9 (by decide) (hts _ kX6_checksum_7) rfl rfl dX6_checksum_47 ?_
    refine lv_icmp_ge (tgt := 124) hx hb dX6_checksum_50 (by decide) (fun c_15 => ?_) (fun c_15 => ?_)
    · have h := h.1 c_15
      refine lv_iconst (v := (0 : Int32)) hx hb dX6_checksum_124 (by decide) ?_
      refine lv_istore_n (lv' := [(3, .int (0 : Int32)), (0, .ref (ad 0)), (1, .long x1)]) hx hb dX6_checksum_125 rfl hl (by decide) rfl (fun ls hl => ?_)
      obtain ⟨n_16, h⟩ := h
      exact tX6_checksum_L126 C0 hK K σ hret n_16 x1 (0 : Int32) h _ _ hY hR  _ (lv_sub hl [1, 2, 0] rfl)
    · have h := h.2 c_15
      refine lv_aload_n hx hb dX6_checksum_53 rfl (lv_at hl 0 rfl) ?_
      refine w_get (o := 0) (ci := 6) (C := RX6) (T := TX6) (N1 := 14) (v := .ref (ad 8)) hx hb hts kX6_checksum_inX6 hown hK.1 hY (by decide) obM_main rfl 10 (by decide) (hts _ kX6_checksum_8) rfl rfl dX6_checksum_54 ?_
      refine lv_iload_n hx hb dX6_checksum_57 rfl (lv_at hl 2 rfl) ?_
      obtain ⟨b_17, h⟩ := h
      refine w_iald (o := 8) hx hb hK.1 hY (by decide) 1 rfl rfl b_17 dX6_checksum_58 ?_
      refine lv_topi (fun x4_18 e_x4_18 => ?_)
      have h := h x4_18 e_x4_18
      refine lv_istore (lv' := [(4, .int x4_18), (0, .ref (ad 0)), (1, .long x1), (3, .int x3)]) hx hb dX6_checksum_59 hl (by decide) rfl (fun ls hl => ?_)
      refine lv_iconst (v := (0 : Int32)) hx hb dX6_checksum_61 (by decide) ?_
      refine lv_istore (lv' := [(5, .int (0 : Int32)), (4, .int x4_18), (0, .ref (ad 0)), (1, .long x1), (3, .int x3)]) hx hb dX6_checksum_62 hl (by decide) rfl (fun ls hl => ?_)
      obtain ⟨n_19, h⟩ := h
      exact tX6_checksum_L64 C0 hK K (wX6_checksum_L45 K σ n) σ x3 x4_18 hret ih n_19 x1 (0 : Int32) h _ _ hY hR  _ (lv_sub hl [2, 3, 4, 1, 0] rfl)
set_option maxHeartbeats 4000000 in
set_option maxRecDepth 100000 in
theorem tX6_checksum_L11 (C0 : CallFix p m c cX6_checksum 6 s args wsX6_checksum RX6) (hK : Kx D (tyM ci) s) (K : Int64 → St → Prop) (σ : St) (hret : ∀ (r : Int64) (u : St) (H : Heap) (locs : List Loc) (pc : Nat) (ls : Array Slot), K r u → Sy D 12 ad A H0 (obM ad ci u) H locs → tt u → decode cX6_checksum pc = .ok (.lreturn, 1) → W p l e rmX6_checksum s m args below meth c H locs 0 0 Q (F0 m pc ls [.long r])) : ∀ (n : Nat) (x1 : Int64) (x3 : Int32), wX6_checksum_L11 K σ n x1 x3 → ∀ (H : Heap) (locs : List Loc), Sy D 12 ad A H0 (obM ad ci σ) H locs → tt σ → ∀ ls : Array Slot, lv_has ls 6 [(0, .ref (ad 0)), (1, .long x1), (3, .int x3)] → W p l e rmX6_checksum s m args below meth c H locs 0 0 Q (F0 m 11 ls []) := by
  obtain ⟨hx, hb, hml, hown, hts⟩ := id C0
  intro n
  induction n with
  | zero =>
    intro x1 x3 h
    exact h.elim
  | succ n ih =>
    intro x1 x3 h H locs hY hR  ls hl
    refine lv_iload_n hx hb dX6_checksum_11 rfl (lv_at hl 2 rfl) ?_
    refine lv_aload_n hx hb dX6_checksum_12 rfl (lv_at hl 0 rfl) ?_
    refine w_get (o := 0) (ci := 6) (C := RX6) (T := TX6) (N1 := 14) (v := .int (gI σ 1)) hx hb hts kX6_checksum_inX6 hown hK.1 hY (by decide) obM_main rfl 8 (by decide) (hts _ kX6_checksum_9) rfl rfl dX6_checksum_13 ?_
    refine lv_icmp_ge (tgt := 39) hx hb dX6_checksum_16 (by decide) (fun c_20 => ?_) (fun c_20 => ?_)
    · have h := h.1 c_20
      refine lv_aload_n hx hb dX6_checksum_39 rfl (lv_at hl 0 rfl) ?_
      refine w_callv (rest := []) (va_runV (As := []) (rest := []) C0 (mX6_orders l D ad ci A σ _ hR  h) (cwV 0 hts gX6_checksum_X6_orders rfl rfl rfl ddX6_orders ⟨Nat.le_of_ble_eq_true rfl, Nat.le_of_ble_eq_true rfl⟩) (w_preV (o := 0) (ci := 6) (ob := obM ad ci) (σ := σ) hK hY (by decide) obM_main rfl rfl) rfl rfl hl.1 rfl (lv_room (Nat.le_of_ble_eq_true rfl)) dX6_checksum_40 ⟨Nat.zero_le _, Nat.zero_le _⟩) hY (fun σ_22 H locs h hY hR_σ_22 => ?_)
      refine lv_iconst (v := (0 : Int32)) hx hb dX6_checksum_43 (by decide) ?_
      refine lv_istore_n (lv' := [(3, .int (0 : Int32)), (0, .ref (ad 0)), (1, .long x1)]) hx hb dX6_checksum_44 rfl hl (by decide) rfl (fun ls hl => ?_)
      obtain ⟨n_23, h⟩ := h
      exact tX6_checksum_L45 C0 hK K σ_22 hret n_23 x1 (0 : Int32) h _ _ hY hR_σ_22  _ (lv_sub hl [1, 2, 0] rfl)
    · have h := h.2 c_20
      refine lv_ldc2 hx hb hown (hts _ kX6_checksum_2) dX6_checksum_19 ?_
      refine lv_lload_n hx hb dX6_checksum_22 rfl (lv_at hl 1 rfl) ?_
      refine lv_lmul hx hb dX6_checksum_23 ?_
      refine lv_aload_n hx hb dX6_checksum_24 rfl (lv_at hl 0 rfl) ?_
      refine w_get (o := 0) (ci := 6) (C := RX6) (T := TX6) (N1 := 14) (v := .ref (ad 1)) hx hb hts kX6_checksum_inX6 hown hK.1 hY (by decide) obM_main rfl 1 (by decide) (hts _ kX6_checksum_10) rfl rfl dX6_checksum_25 ?_
      refine lv_iload_n hx hb dX6_checksum_28 rfl (lv_at hl 2 rfl) ?_
      obtain ⟨b_24, h⟩ := h
      refine w_cald (o := 1) hx hb hK.1 hY (by decide) 0 rfl rfl b_24 dX6_checksum_29 ?_
      refine lv_i2l hx hb dX6_checksum_30 rfl ?_
      refine lv_ladd hx hb dX6_checksum_31 ?_
      refine lv_topl (fun x1_25 e_x1_25 => ?_)
      have h := h x1_25 e_x1_25
      refine lv_lstore_n (lv' := [(1, .long x1_25), (0, .ref (ad 0)), (3, .int x3)]) hx hb dX6_checksum_32 rfl hl (by decide) rfl (fun ls hl => ?_)
      refine lv_iinc (v := (x3 + 1)) (lv' := [(3, .int (x3 + 1)), (1, .long x1_25), (0, .ref (ad 0))]) hx hb dX6_checksum_33 hl (k := 2) rfl rfl (by decide) rfl (fun ls hl => ?_)
      refine lv_goto (tgt := 11) hx hb dX6_checksum_36 (by decide) ?_
      exact ih x1_25 (x3 + 1) h _ _ hY hR  _ (lv_sub hl [2, 1, 0] rfl)
set_option maxHeartbeats 4000000 in
set_option maxRecDepth 100000 in
theorem eX6_checksum (C0 : CallFix p m c cX6_checksum 6 s args wsX6_checksum RX6) (hK : Kx D (tyM ci) s) (K : Int64 → St → Prop) (σ : St) (hret : ∀ (r : Int64) (u : St) (H : Heap) (locs : List Loc) (pc : Nat) (ls : Array Slot), K r u → Sy D 12 ad A H0 (obM ad ci u) H locs → tt u → decode cX6_checksum pc = .ok (.lreturn, 1) → W p l e rmX6_checksum s m args below meth c H locs 0 0 Q (F0 m pc ls [.long r])) (h : wX6_checksum σ K) (H : Heap) (locs : List Loc) (hY : Sy D 12 ad A H0 (obM ad ci σ) H locs) (hR : tt σ) (ls : Array Slot) (hl : lv_has ls 6 [(0, .ref (ad 0))]) : W p l e rmX6_checksum s m args below meth c H locs 0 0 Q (F0 m 0 ls []) := by
  obtain ⟨hx, hb, hml, hown, hts⟩ := id C0
  refine lv_aload_n hx hb dX6_checksum_0 rfl (lv_at hl 0 rfl) ?_
  refine lv_iconst (v := (0 : Int32)) hx hb dX6_checksum_1 (by decide) ?_
  obtain ⟨σ_26, e_σ_26⟩ : ∃ z : St, z = pI σ 0 (0 : Int32) := ⟨_, rfl⟩
  have h := h σ_26 e_σ_26
  have hR_σ_26 : tt σ_26 := trivial
  refine w_put (o := 0) (ci := 6) (C := RX6) (T := TX6) (N1 := 14) hx hb hts kX6_checksum_inX6 tyX6 tyX6_ok nmX6 hown hK.1 hY (by decide) obM_main rfl 0 (by decide) (hts _ kX6_checksum_11) rfl rfl rfl (Nat.le_of_ble_eq_true rfl) dX6_checksum_2 (ob' := obM ad ci σ_26) (by rw [e_σ_26]; exact obM_pI rfl) (fun H locs hY => ?_)
  refine lv_ldc2 hx hb hown (hts _ kX6_checksum_12) dX6_checksum_5 ?_
  refine lv_lstore_n (lv' := [(1, .long (7 : Int64)), (0, .ref (ad 0))]) hx hb dX6_checksum_8 rfl hl (by decide) rfl (fun ls hl => ?_)
  refine lv_iconst (v := (0 : Int32)) hx hb dX6_checksum_9 (by decide) ?_
  refine lv_istore_n (lv' := [(3, .int (0 : Int32)), (1, .long (7 : Int64)), (0, .ref (ad 0))]) hx hb dX6_checksum_10 rfl hl (by decide) rfl (fun ls hl => ?_)
  obtain ⟨n_27, h⟩ := h
  exact tX6_checksum_L11 C0 hK K σ_26 hret n_27 (7 : Int64) (0 : Int32) h _ _ hY hR_σ_26  _ (lv_sub hl [2, 1, 0] rfl)
set_option maxHeartbeats 4000000 in
set_option maxRecDepth 100000 in
theorem mX6_checksum (l : Launch) (D : va_G) (ad : Nat → Nat) (ci : Nat → ClassId) (A : Nat → Prop) (σ : St) (K : Int64 → St → Prop) (hR : tt σ) (h : wX6_checksum σ K) : Met l yX6_checksum wsX6_checksum rmX6_checksum (va_Pc [.ref (ad 0)] (PreW D 12 ad A (tyM ci) (obM ad ci σ))) (va_Ql (fun r u => K r u) (PostW D 12 ad (tyM ci) (obM ad ci) tt) A) 0 0 A := by
  refine Met.ofW (cc := cX6_checksum) (maxL := 6) (ret := (some .long)) (by decide) rfl ?_
  intro p e s m args below meth c s₁ B hml hv
  obtain ⟨rfl, hP, hK, hD⟩ := hv
  have C0 : CallFix p m c cX6_checksum 6 s _ wsX6_checksum RX6 := ⟨B.exec, B.bytes, hml, findClass_of_methodNamed B.named, atoms_spec (ws := wsX6_checksum) B.pre⟩
  have hlocks := B.notSynchronized
  have hY : Sy D 12 ad A s.heap (obM ad ci σ) s.heap [] := ⟨hP, hD, va_S.rf⟩
  have hl := lv_entry ([.ref (ad 0)]) (n := 6) (Nat.le_of_ble_eq_true rfl)
  rw [lg_entry_eq]
  generalize (lg_sl ([.ref (ad 0)]) ++ List.replicate (6 - (lg_sl ([.ref (ad 0)])).length) Slot.unset).toArray = ls at hl ⊢
  exact eX6_checksum C0 hK K σ (fun r u H locs pc ls hk hY hR hd => w_lret (I := tt) B.exec B.bytes B.returns hlocks hK hk (fun t ht => ht) hY hR hd) h _ _ hY hR ls hl
end
