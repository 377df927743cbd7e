/-! THE CLAIM OUT OF ONE WALK OF THE LAW'S BODY. Your part is whole_start (and what it stands on); all else here is the same for every law, but numbers. -/
def R_law : String := "StemspanLaw"
def lw_P (b : Addr) (xs : List Int32) (args : Array Value) (s : State) : Prop := args = #[.ref b] ∧ s.IntsAt b xs ∧ xs.length ≤ 1536 ∧ (Jvm.Cond.and given_1 narrow_1).before args s = true
def lw_Q (_ : Array Value) (s : State) (o : Outcome) (t : State) : Prop := o = .returned (some (.int 1)) ∧ Framed s o t [] 610757 7263833
def lw_Z (below : List Frame) (a : Array Value) (s : State) : State → Prop := fun t => ∃ o, t.status = .running ∧ Ended t below o ∧ lw_Q a s o t
/-- the law's own end, with 1 on the stack, nothing written that was there before, its room as the claim has it -/
theorem lw_ret {p : Program} {l : Launch} {e : Env} {s : State} {m : MethodId} {below : List Frame} {meth : Method} {c : Code} {b : Nat} (hx : p.tables.exec = Jvm.exec) (hb : c.code = code) (hr : meth.sig.returnType = ret) (hlocks : meth.locks = false) {pc : Nat} {H : Heap} {ls : Array Slot} (hdg : decode code pc = .ok (.ireturn, 1)) : W p l e room_1 s m #[Value.ref b] below meth c H [] 610757 7263833 (lw_Z below #[Value.ref b] s) (F0 m pc ls [.int 1]) := by
  intro T hT X
  obtain ⟨fs, hret, hrun, hended, hW, hframe⟩ := X.leave (v := some (.int 1)) (hlocks := hlocks) (fun h => by rw [hr] at h; cases h)
  have hmeth' : T.vm.method? m = some meth := X.method'
  refine ⟨T.setFrames fs, ?_, .returned (some (.int 1)), hrun, hended, rfl, ⟨_, rfl⟩, hW, hframe⟩
  jvm_step X.here [X.here.top, hx, hb, hdg, hmeth', hr, ret, narrow_b1]
  (try refine ⟨rfl, ?_⟩); (try refine ⟨rfl, ?_⟩)
  first | (intro acts; rw [hret _ acts rfl rfl rfl]) | rw [hret _ _ rfl rfl rfl]
  exact Steps.refl _
/-- what holds at the law's entry: the machine, the code, the tables' words (any of lw_tbl by 'hts w (by decide +kernel)'), the script of L ints xs at the cell b, what the Statement gives of the start (any of its parts by flat_of_before) -/
def lw_At (p : Program) (s : State) (m : MethodId) (meth : Method) (c : Code) (b L : Nat) (xs : Nat → Int32) : Prop :=
  p.tables.exec = Jvm.exec ∧ c.code = code ∧ meth.sig.returnType = ret ∧ c.maxLocals = 7 ∧ s.vm.findClass R_law = some m.cls ∧ (∀ w ∈ lw_tbl, w.before #[Value.ref b] s = true) ∧ va_X b L xs s s.heap ∧ b < s.heap.size ∧ meth.locks = false ∧ (Jvm.Cond.and given_1 narrow_1).before #[Value.ref b] s = true
/-! THE LAW'S LOOP -/
section LAWL
variable {p : Program} {l : Launch} {e : Env} {s : State} {m : MethodId} {below : List Frame} {meth : Method} {c : Code} {b L : Nat} {xs : Nat → Int32} {D : va_G} {ci : Nat → ClassId}
theorem law_past {L i : Nat} (hL : L ≤ 1536) (hi : i ≤ 1539) (h : ¬ Int32.ofNat L - nI 3 < nI i) : i + 3 ≤ L := by
  rcases Nat.lt_or_ge L 3 with q | q
  · exfalso
    refine h ?_
    have h0 : (nI i).toInt = i := nI_toInt (by omega)
    rw [Int32.lt_iff_toInt_lt, h0]
    have : (Int32.ofNat L - nI 3).toInt < 0 := by
      rcases (show L = 0 ∨ L = 1 ∨ L = 2 by omega) with rfl | rfl | rfl <;> decide
    omega
  · have e : Int32.ofNat L - nI 3 = nI (L - 3) := nI_subI q
    rw [e] at h
    have := mt (nI_ltI (a := L - 3) (b := i) (by omega) (by omega)).mpr h
    omega
set_option maxHeartbeats 4000000 in
set_option maxRecDepth 100000 in
theorem law_step {i cells slots : Nat} {Q : State → Prop} (hC : lw_C l p s m c b L xs D ci) (hi : i ≤ 1539) (hcs : cells + 1 ≤ 610757 ∧ slots + 6 ≤ 7263833) (hgo : i + 3 ≤ L → Go p l e s m below meth c b D ci i (cells + 1) (slots + 6) Q 1375)
    (hend : ∀ (H : Heap) (locs : List Loc) (ls : Array Slot), va_S (Az s.heap.size) s.heap H locs → W p l e room_1 s m #[Value.ref b] below meth c H locs cells slots Q (F0 m 1381 ls [])) : Go p l e s m below meth c b D ci i cells slots Q 23 := by
  intro H locs σ τ g mm ls hw hI hR hM hS hl
  obtain ⟨C0, hX, hbl, hK, hE, hN, hL, hlt⟩ := id hC
  obtain ⟨hx, hb, -, -, hts⟩ := id C0
  have hbA : ¬ Az s.heap.size b := Nat.not_le.mpr hbl
  refine lv_iload hx hb dL_law_23 (lv_at hl 4 rfl) ?_
  refine lv_aload_n hx hb dL_law_25 rfl (lv_at hl 0 rfl) ?_
  refine va_slen (A := Az s.heap.size) hx hb hX hbl hbA hS dL_law_26 ?_
  refine lv_iconst (v := nI 3) hx hb dL_law_27 (by decide) ?_
  refine lv_isub hx hb dL_law_28 ?_
  refine lv_icmp_gt (tgt := 1381) hx hb dL_law_29 (by decide) (fun _ => hend H locs ls hS) (fun z => ?_)
  have hi3 := law_past hL hi z
  refine lv_aload_n hx hb dL_law_32 rfl (lv_at hl 0 rfl) ?_
  refine lv_iload hx hb dL_law_33 (lv_at hl 4 rfl) ?_
  refine va_sld (A := Az s.heap.size) hx hb hX hbl hbA hS (vp_in_nI (by omega) (by omega)) dL_law_35 ?_
  refine lv_bipush (v := 31) hx hb dL_law_36 (by decide) ?_
  refine lv_iand hx hb dL_law_38 ?_
  obtain ⟨j, hj, e1⟩ := pk_andE (xs (nI i).toNatClampNeg) (m := 31) 5 (by decide)
  match j, hj, e1 with
    | 0, _, e1 => exact lv_tableIn (off := 141) (tgt := 180) hx hb dL_law_39 (by rw [e1]; decide) (by rw [e1]; decide) (by rw [e1]; rfl) (by decide) (case_type hC hi3 hcs (hgo hi3) H locs σ τ g mm ls hw hI hR hM hS hl)
    | 1, _, e1 => exact lv_tableIn (off := 199) (tgt := 238) hx hb dL_law_39 (by rw [e1]; decide) (by rw [e1]; decide) (by rw [e1]; rfl) (by decide) (case_typeMore hC hi3 hcs (hgo hi3) H locs σ τ g mm ls hw hI hR hM hS hl)
    | 2, _, e1 => exact lv_tableIn (off := 267) (tgt := 306) hx hb dL_law_39 (by rw [e1]; decide) (by rw [e1]; decide) (by rw [e1]; rfl) (by decide) (case_typeAt hC hi3 hcs (hgo hi3) H locs σ τ g mm ls hw hI hR hM hS hl)
    | 3, _, e1 => exact lv_tableIn (off := 337) (tgt := 376) hx hb dL_law_39 (by rw [e1]; decide) (by rw [e1]; decide) (by rw [e1]; rfl) (by decide) (case_drop hC hi3 hcs (hgo hi3) H locs σ τ g mm ls hw hI hR hM hS hl)
    | 4, _, e1 => exact lv_tableIn (off := 381) (tgt := 420) hx hb dL_law_39 (by rw [e1]; decide) (by rw [e1]; decide) (by rw [e1]; rfl) (by decide) (case_clip hC hi3 hcs (hgo hi3) H locs σ τ g mm ls hw hI hR hM hS hl)
    | 5, _, e1 => exact lv_tableIn (off := 449) (tgt := 488) hx hb dL_law_39 (by rw [e1]; decide) (by rw [e1]; decide) (by rw [e1]; rfl) (by decide) (case_wipe hC hi3 hcs (hgo hi3) H locs σ τ g mm ls hw hI hR hM hS hl)
    | 6, _, e1 => exact lv_tableIn (off := 462) (tgt := 501) hx hb dL_law_39 (by rw [e1]; decide) (by rw [e1]; decide) (by rw [e1]; rfl) (by decide) (case_turn hC hi3 hcs (hgo hi3) H locs σ τ g mm ls hw hI hR hM hS hl)
    | 7, _, e1 => exact lv_tableIn (off := 475) (tgt := 514) hx hb dL_law_39 (by rw [e1]; decide) (by rw [e1]; decide) (by rw [e1]; rfl) (by decide) (case_signAt hC hi3 hcs (hgo hi3) H locs σ τ g mm ls hw hI hR hM hS hl)
    | 8, _, e1 => exact lv_tableIn (off := 531) (tgt := 570) hx hb dL_law_39 (by rw [e1]; decide) (by rw [e1]; decide) (by rw [e1]; rfl) (by decide) (case_put hC hi3 hcs (hgo hi3) H locs σ τ g mm ls hw hI hR hM hS hl)
    | 9, _, e1 => exact lv_tableIn (off := 587) (tgt := 626) hx hb dL_law_39 (by rw [e1]; decide) (by rw [e1]; decide) (by rw [e1]; rfl) (by decide) (case_take hC hi3 hcs (hgo hi3) H locs σ τ g mm ls hw hI hR hM hS hl)
    | 10, _, e1 => exact lv_tableIn (off := 631) (tgt := 670) hx hb dL_law_39 (by rw [e1]; decide) (by rw [e1]; decide) (by rw [e1]; rfl) (by decide) (case_number hC hi3 hcs (hgo hi3) H locs σ τ g mm ls hw hI hR hM hS hl)
    | 11, _, e1 => exact lv_tableIn (off := 675) (tgt := 714) hx hb dL_law_39 (by rw [e1]; decide) (by rw [e1]; decide) (by rw [e1]; rfl) (by decide) (case_words hC hi3 hcs (hgo hi3) H locs σ τ g mm ls hw hI hR hM hS hl)
    | 12, _, e1 => exact lv_tableIn (off := 688) (tgt := 727) hx hb dL_law_39 (by rw [e1]; decide) (by rw [e1]; decide) (by rw [e1]; rfl) (by decide) (case_rank hC hi3 hcs (hgo hi3) H locs σ τ g mm ls hw hI hR hM hS hl)
    | 13, _, e1 => exact lv_tableIn (off := 701) (tgt := 740) hx hb dL_law_39 (by rw [e1]; decide) (by rw [e1]; decide) (by rw [e1]; rfl) (by decide) (case_word hC hi3 hcs (hgo hi3) H locs σ τ g mm ls hw hI hR hM hS hl)
    | 14, _, e1 => exact lv_tableIn (off := 757) (tgt := 796) hx hb dL_law_39 (by rw [e1]; decide) (by rw [e1]; decide) (by rw [e1]; rfl) (by decide) (case_near hC hi3 hcs (hgo hi3) H locs σ τ g mm ls hw hI hR hM hS hl)
    | 15, _, e1 => exact lv_tableIn (off := 815) (tgt := 854) hx hb dL_law_39 (by rw [e1]; decide) (by rw [e1]; decide) (by rw [e1]; rfl) (by decide) (case_begun hC hi3 hcs (hgo hi3) H locs σ τ g mm ls hw hI hR hM hS hl)
    | 16, _, e1 => exact lv_tableIn (off := 828) (tgt := 867) hx hb dL_law_39 (by rw [e1]; decide) (by rw [e1]; decide) (by rw [e1]; rfl) (by decide) (case_begunAt hC hi3 hcs (hgo hi3) H locs σ τ g mm ls hw hI hR hM hS hl)
    | 17, _, e1 => exact lv_tableIn (off := 884) (tgt := 923) hx hb dL_law_39 (by rw [e1]; decide) (by rw [e1]; decide) (by rw [e1]; rfl) (by decide) (case_sum hC hi3 hcs (hgo hi3) H locs σ τ g mm ls hw hI hR hM hS hl)
    | 18, _, e1 => exact lv_tableIn (off := 897) (tgt := 936) hx hb dL_law_39 (by rw [e1]; decide) (by rw [e1]; decide) (by rw [e1]; rfl) (by decide) (case_gone hC hi3 hcs (hgo hi3) H locs σ τ g mm ls hw hI hR hM hS hl)
    | 19, _, e1 => exact lv_tableIn (off := 910) (tgt := 949) hx hb dL_law_39 (by rw [e1]; decide) (by rw [e1]; decide) (by rw [e1]; rfl) (by decide) (case_longest hC hi3 hcs (hgo hi3) H locs σ τ g mm ls hw hI hR hM hS hl)
    | 20, _, e1 => exact lv_tableIn (off := 966) (tgt := 1005) hx hb dL_law_39 (by rw [e1]; decide) (by rw [e1]; decide) (by rw [e1]; rfl) (by decide) (case_shared hC hi3 hcs (hgo hi3) H locs σ τ g mm ls hw hI hR hM hS hl)
    | 21, _, e1 => exact lv_tableIn (off := 979) (tgt := 1018) hx hb dL_law_39 (by rw [e1]; decide) (by rw [e1]; decide) (by rw [e1]; rfl) (by decide) (case_twin hC hi3 hcs (hgo hi3) H locs σ τ g mm ls hw hI hR hM hS hl)
    | 22, _, e1 => exact lv_tableIn (off := 1023) (tgt := 1062) hx hb dL_law_39 (by rw [e1]; decide) (by rw [e1]; decide) (by rw [e1]; rfl) (by decide) (case_pieces hC hi3 hcs (hgo hi3) H locs σ τ g mm ls hw hI hR hM hS hl)
    | 23, _, e1 => exact lv_tableIn (off := 1036) (tgt := 1075) hx hb dL_law_39 (by rw [e1]; decide) (by rw [e1]; decide) (by rw [e1]; rfl) (by decide) (case_piece hC hi3 hcs (hgo hi3) H locs σ τ g mm ls hw hI hR hM hS hl)
    | 24, _, e1 => exact lv_tableIn (off := 1092) (tgt := 1131) hx hb dL_law_39 (by rw [e1]; decide) (by rw [e1]; decide) (by rw [e1]; rfl) (by decide) (case_cuts hC hi3 hcs (hgo hi3) H locs σ τ g mm ls hw hI hR hM hS hl)
    | 25, _, e1 => exact lv_tableIn (off := 1106) (tgt := 1145) hx hb dL_law_39 (by rw [e1]; decide) (by rw [e1]; decide) (by rw [e1]; rfl) (by decide) (case_fewest hC hi3 hcs (hgo hi3) H locs σ τ g mm ls hw hI hR hM hS hl)
    | 26, _, e1 => exact lv_tableIn (off := 1119) (tgt := 1158) hx hb dL_law_39 (by rw [e1]; decide) (by rw [e1]; decide) (by rw [e1]; rfl) (by decide) (case_code hC hi3 hcs (hgo hi3) H locs σ τ g mm ls hw hI hR hM hS hl)
    | 27, _, e1 => exact lv_tableIn (off := 1177) (tgt := 1216) hx hb dL_law_39 (by rw [e1]; decide) (by rw [e1]; decide) (by rw [e1]; rfl) (by decide) (case_write hC hi3 hcs (hgo hi3) H locs σ τ g mm ls hw hI hR hM hS hl)
    | 28, _, e1 => exact lv_tableIn (off := 1221) (tgt := 1260) hx hb dL_law_39 (by rw [e1]; decide) (by rw [e1]; decide) (by rw [e1]; rfl) (by decide) (case_read hC hi3 hcs (hgo hi3) H locs σ τ g mm ls hw hI hR hM hS hl)
    | 29, _, e1 => exact lv_tableIn (off := 1265) (tgt := 1304) hx hb dL_law_39 (by rw [e1]; decide) (by rw [e1]; decide) (by rw [e1]; rfl) (by decide) (case_writeAll hC hi3 hcs (hgo hi3) H locs σ τ g mm ls hw hI hR hM hS hl)
    | 30, _, e1 => exact lv_tableIn (off := 1309) (tgt := 1348) hx hb dL_law_39 (by rw [e1]; decide) (by rw [e1]; decide) (by rw [e1]; rfl) (by decide) (case_isTrue hC hi3 hcs (hgo hi3) H locs σ τ g mm ls hw hI hR hM hS hl)
    | 31, _, e1 => exact lv_tableIn (off := 1322) (tgt := 1361) hx hb dL_law_39 (by rw [e1]; decide) (by rw [e1]; decide) (by rw [e1]; rfl) (by decide) (case_checksum hC hi3 hcs (hgo hi3) H locs σ τ g mm ls hw hI hR hM hS hl)
    | n + 32, h, _ => exact absurd h (by show ¬ n + 32 < 32; omega)
theorem law_loop (hC : lw_C l p s m c b L xs D ci) (hr : meth.sig.returnType = ret) (hlocks : meth.locks = false) : ∀ (n i : Nat), i ≤ 1539 → 1539 < i + n → Go p l e s m below meth c b D ci i (145 + i) (1887 + 2 * i) (lw_Z below #[Value.ref b] s) 23 := by
  obtain ⟨⟨hx, hb, -, -, hts⟩, hX, hbl, hK, hE, hN, hL, hlt⟩ := id hC
  intro n
  induction n with
  | zero => intro i h1 h2; omega
  | succ n ih =>
    intro i h1 h2
    refine law_step hC h1 ⟨by omega, by omega⟩ (fun h3 H locs σ τ g mm ls hw hI hR hM hS hl => ?_) (fun H locs ls hS => ?_)
    · refine lv_iinc (v := nI (i + 3)) (lv' := [(4, .int (nI (i + 3))), (0, .ref b), (1, .ref (adz s.heap.size 0)), (2, .ref (adM s.heap.size 0)), (3, .ref (s.heap.size + 144))]) hx hb dL_law_1375 hl (k := 4) rfl (nI_add i 3) (by decide) rfl (fun ls hl => ?_)
      refine lv_goto (tgt := 23) hx hb dL_law_1378 (by decide) ?_
      refine W.widen (k := 145 + (i + 3)) (n := 1887 + 2 * (i + 3)) (by omega) (by omega) ?_
      exact ih (i + 3) (by omega) (by omega) H locs σ τ g mm ls hw hI hR hM hS (lv_sub hl [1, 2, 3, 4, 0] rfl)
    · refine lv_iconst (v := 1) hx hb dL_law_1381 (by decide) ?_
      refine va_forget (fun q hq => hS.2.2 q hq) ?_
      refine W.widen (k := 610757) (n := 7263833) (by omega) (by omega) ?_
      exact lw_ret hx hb hr hlocks dL_law_1382
end LAWL
