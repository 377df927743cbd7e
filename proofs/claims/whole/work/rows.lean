section
-- ===== PART A: goes FIRST, ahead of the names: the tables' words, and 'selects' of the private methods out of them =====
/-- a private method of a class that the tables say can be made, by its rows of tables_1 -/
def lw_okq (q : MethodName × Nat) : Prop := (q.1.cls ≠ "java/lang/invoke/MethodHandle" ∧ q.1.cls ≠ "java/lang/invoke/VarHandle") ∧ Cond.instantiable q.1.cls q.2 ∈ tables_1 ∧ Cond.privateMethod q.1 ∈ tables_1 ∧ Cond.instanceMethod q.1 ∈ tables_1
theorem lw_p0 : lw_okq (⟨"Stemspan$Cutter", "longestFit", "(I)I"⟩, 4) := ⟨⟨by decide +kernel, by decide +kernel⟩, List.mem_of_getElem? (i := 91) (by decide +kernel), List.mem_of_getElem? (i := 262) (by decide +kernel), List.mem_of_getElem? (i := 263) (by decide +kernel)⟩
theorem lw_p1 : lw_okq (⟨"Stemspan$Theorem", "standTogether", "(LStemspan$WordList;)Z"⟩, 2) := ⟨⟨by decide +kernel, by decide +kernel⟩, List.mem_of_getElem? (i := 111) (by decide +kernel), List.mem_of_getElem? (i := 309) (by decide +kernel), List.mem_of_getElem? (i := 310) (by decide +kernel)⟩
theorem lw_p2 : lw_okq (⟨"Stemspan$Theorem", "longestByOrder", "(LStemspan$WordList;)I"⟩, 2) := ⟨⟨by decide +kernel, by decide +kernel⟩, List.mem_of_getElem? (i := 111) (by decide +kernel), List.mem_of_getElem? (i := 328) (by decide +kernel), List.mem_of_getElem? (i := 329) (by decide +kernel)⟩
theorem lw_p3 : lw_okq (⟨"Stemspan$Theorem", "endsAreWords", "(LStemspan$WordList;)Z"⟩, 2) := ⟨⟨by decide +kernel, by decide +kernel⟩, List.mem_of_getElem? (i := 111) (by decide +kernel), List.mem_of_getElem? (i := 363) (by decide +kernel), List.mem_of_getElem? (i := 364) (by decide +kernel)⟩
theorem lw_p4 : lw_okq (⟨"java/lang/Throwable", "fillInStackTrace", "(I)Ljava/lang/Throwable;"⟩, 6) := ⟨⟨by decide +kernel, by decide +kernel⟩, List.mem_of_getElem? (i := 480) (by decide +kernel), List.mem_of_getElem? (i := 478) (by decide +kernel), List.mem_of_getElem? (i := 479) (by decide +kernel)⟩
theorem lw_p5 : lw_okq (⟨"Stemspan", "rankNear", "(C)I"⟩, 6) := ⟨⟨by decide +kernel, by decide +kernel⟩, List.mem_of_getElem? (i := 18) (by decide +kernel), List.mem_of_getElem? (i := 682) (by decide +kernel), List.mem_of_getElem? (i := 683) (by decide +kernel)⟩
theorem lw_p6 : lw_okq (⟨"Stemspan$CodeBook", "signRead", "(LStemspan$Row;I)C"⟩, 3) := ⟨⟨by decide +kernel, by decide +kernel⟩, List.mem_of_getElem? (i := 66) (by decide +kernel), List.mem_of_getElem? (i := 761) (by decide +kernel), List.mem_of_getElem? (i := 762) (by decide +kernel)⟩
theorem lw_p7 : lw_okq (⟨"StemspanModel", "fails", "(I)Z"⟩, 14) := ⟨⟨by decide +kernel, by decide +kernel⟩, List.mem_of_getElem? (i := 787) (by decide +kernel), List.mem_of_getElem? (i := 843) (by decide +kernel), List.mem_of_getElem? (i := 844) (by decide +kernel)⟩
theorem lw_p8 : lw_okq (⟨"StemspanModel", "own", "()I"⟩, 14) := ⟨⟨by decide +kernel, by decide +kernel⟩, List.mem_of_getElem? (i := 787) (by decide +kernel), List.mem_of_getElem? (i := 883) (by decide +kernel), List.mem_of_getElem? (i := 884) (by decide +kernel)⟩
theorem lw_p9 : lw_okq (⟨"StemspanModel", "beside", "(I)I"⟩, 14) := ⟨⟨by decide +kernel, by decide +kernel⟩, List.mem_of_getElem? (i := 787) (by decide +kernel), List.mem_of_getElem? (i := 887) (by decide +kernel), List.mem_of_getElem? (i := 888) (by decide +kernel)⟩
theorem lw_p10 : lw_okq (⟨"StemspanModel", "like", "(II)I"⟩, 14) := ⟨⟨by decide +kernel, by decide +kernel⟩, List.mem_of_getElem? (i := 787) (by decide +kernel), List.mem_of_getElem? (i := 891) (by decide +kernel), List.mem_of_getElem? (i := 892) (by decide +kernel)⟩
theorem lw_p11 : lw_okq (⟨"StemspanModel", "goes", "(I)V"⟩, 14) := ⟨⟨by decide +kernel, by decide +kernel⟩, List.mem_of_getElem? (i := 787) (by decide +kernel), List.mem_of_getElem? (i := 899) (by decide +kernel), List.mem_of_getElem? (i := 900) (by decide +kernel)⟩
theorem lw_p12 : lw_okq (⟨"StemspanModel", "orders", "()V"⟩, 14) := ⟨⟨by decide +kernel, by decide +kernel⟩, List.mem_of_getElem? (i := 787) (by decide +kernel), List.mem_of_getElem? (i := 919) (by decide +kernel), List.mem_of_getElem? (i := 920) (by decide +kernel)⟩
theorem lw_p13 : lw_okq (⟨"StemspanModel", "rankOf", "(I)I"⟩, 14) := ⟨⟨by decide +kernel, by decide +kernel⟩, List.mem_of_getElem? (i := 787) (by decide +kernel), List.mem_of_getElem? (i := 923) (by decide +kernel), List.mem_of_getElem? (i := 924) (by decide +kernel)⟩
theorem lw_p14 : lw_okq (⟨"StemspanModel", "isLess", "(II)Z"⟩, 14) := ⟨⟨by decide +kernel, by decide +kernel⟩, List.mem_of_getElem? (i := 787) (by decide +kernel), List.mem_of_getElem? (i := 927) (by decide +kernel), List.mem_of_getElem? (i := 928) (by decide +kernel)⟩
theorem lw_p15 : lw_okq (⟨"StemspanModel", "likeWords", "(II)I"⟩, 14) := ⟨⟨by decide +kernel, by decide +kernel⟩, List.mem_of_getElem? (i := 787) (by decide +kernel), List.mem_of_getElem? (i := 931) (by decide +kernel), List.mem_of_getElem? (i := 932) (by decide +kernel)⟩
def lw_privs_1 : List (MethodName × Nat) := [(⟨"Stemspan$Cutter", "longestFit", "(I)I"⟩, 4), (⟨"Stemspan$Theorem", "standTogether", "(LStemspan$WordList;)Z"⟩, 2), (⟨"Stemspan$Theorem", "longestByOrder", "(LStemspan$WordList;)I"⟩, 2), (⟨"Stemspan$Theorem", "endsAreWords", "(LStemspan$WordList;)Z"⟩, 2), (⟨"java/lang/Throwable", "fillInStackTrace", "(I)Ljava/lang/Throwable;"⟩, 6), (⟨"Stemspan", "rankNear", "(C)I"⟩, 6), (⟨"Stemspan$CodeBook", "signRead", "(LStemspan$Row;I)C"⟩, 3), (⟨"StemspanModel", "fails", "(I)Z"⟩, 14), (⟨"StemspanModel", "own", "()I"⟩, 14), (⟨"StemspanModel", "beside", "(I)I"⟩, 14), (⟨"StemspanModel", "like", "(II)I"⟩, 14), (⟨"StemspanModel", "goes", "(I)V"⟩, 14), (⟨"StemspanModel", "orders", "()V"⟩, 14), (⟨"StemspanModel", "rankOf", "(I)I"⟩, 14), (⟨"StemspanModel", "isLess", "(II)Z"⟩, 14), (⟨"StemspanModel", "likeWords", "(II)I"⟩, 14)]
theorem lw_r1 : ∀ q ∈ lw_privs_1, lw_okq q := List.forall_mem_cons.mpr ⟨lw_p0, List.forall_mem_cons.mpr ⟨lw_p1, List.forall_mem_cons.mpr ⟨lw_p2, List.forall_mem_cons.mpr ⟨lw_p3, List.forall_mem_cons.mpr ⟨lw_p4, List.forall_mem_cons.mpr ⟨lw_p5, List.forall_mem_cons.mpr ⟨lw_p6, List.forall_mem_cons.mpr ⟨lw_p7, List.forall_mem_cons.mpr ⟨lw_p8, List.forall_mem_cons.mpr ⟨lw_p9, List.forall_mem_cons.mpr ⟨lw_p10, List.forall_mem_cons.mpr ⟨lw_p11, List.forall_mem_cons.mpr ⟨lw_p12, List.forall_mem_cons.mpr ⟨lw_p13, List.forall_mem_cons.mpr ⟨lw_p14, List.forall_mem_cons.mpr ⟨lw_p15, fun _ h => absurd h List.not_mem_nil⟩⟩⟩⟩⟩⟩⟩⟩⟩⟩⟩⟩⟩⟩⟩⟩
theorem lw_p16 : lw_okq (⟨"StemspanModel", "becomes", "(I)V"⟩, 14) := ⟨⟨by decide +kernel, by decide +kernel⟩, List.mem_of_getElem? (i := 787) (by decide +kernel), List.mem_of_getElem? (i := 935) (by decide +kernel), List.mem_of_getElem? (i := 936) (by decide +kernel)⟩
theorem lw_p17 : lw_okq (⟨"StemspanModel", "isBegun", "(I)Z"⟩, 14) := ⟨⟨by decide +kernel, by decide +kernel⟩, List.mem_of_getElem? (i := 787) (by decide +kernel), List.mem_of_getElem? (i := 947) (by decide +kernel), List.mem_of_getElem? (i := 948) (by decide +kernel)⟩
theorem lw_p18 : lw_okq (⟨"StemspanModel", "longestAt", "(I)I"⟩, 14) := ⟨⟨by decide +kernel, by decide +kernel⟩, List.mem_of_getElem? (i := 787) (by decide +kernel), List.mem_of_getElem? (i := 967) (by decide +kernel), List.mem_of_getElem? (i := 968) (by decide +kernel)⟩
theorem lw_p19 : lw_okq (⟨"StemspanModel", "cutsAll", "()V"⟩, 14) := ⟨⟨by decide +kernel, by decide +kernel⟩, List.mem_of_getElem? (i := 787) (by decide +kernel), List.mem_of_getElem? (i := 991) (by decide +kernel), List.mem_of_getElem? (i := 992) (by decide +kernel)⟩
theorem lw_p20 : lw_okq (⟨"StemspanModel", "puts", "(IC)I"⟩, 14) := ⟨⟨by decide +kernel, by decide +kernel⟩, List.mem_of_getElem? (i := 787) (by decide +kernel), List.mem_of_getElem? (i := 1007) (by decide +kernel), List.mem_of_getElem? (i := 1008) (by decide +kernel)⟩
theorem lw_p21 : lw_okq (⟨"StemspanModel", "codeAt", "(I)I"⟩, 14) := ⟨⟨by decide +kernel, by decide +kernel⟩, List.mem_of_getElem? (i := 787) (by decide +kernel), List.mem_of_getElem? (i := 1015) (by decide +kernel), List.mem_of_getElem? (i := 1016) (by decide +kernel)⟩
theorem lw_p22 : lw_okq (⟨"StemspanModel", "areOrderly", "()Z"⟩, 14) := ⟨⟨by decide +kernel, by decide +kernel⟩, List.mem_of_getElem? (i := 787) (by decide +kernel), List.mem_of_getElem? (i := 1019) (by decide +kernel), List.mem_of_getElem? (i := 1020) (by decide +kernel)⟩
theorem lw_p23 : lw_okq (⟨"StemspanModel", "isAhead", "(II)Z"⟩, 14) := ⟨⟨by decide +kernel, by decide +kernel⟩, List.mem_of_getElem? (i := 787) (by decide +kernel), List.mem_of_getElem? (i := 1023) (by decide +kernel), List.mem_of_getElem? (i := 1024) (by decide +kernel)⟩
theorem lw_p24 : lw_okq (⟨"StemspanModel", "written", "(I)I"⟩, 14) := ⟨⟨by decide +kernel, by decide +kernel⟩, List.mem_of_getElem? (i := 787) (by decide +kernel), List.mem_of_getElem? (i := 1031) (by decide +kernel), List.mem_of_getElem? (i := 1032) (by decide +kernel)⟩
theorem lw_p25 : lw_okq (⟨"StemspanModel", "isSideBySide", "(I)Z"⟩, 14) := ⟨⟨by decide +kernel, by decide +kernel⟩, List.mem_of_getElem? (i := 787) (by decide +kernel), List.mem_of_getElem? (i := 1039) (by decide +kernel), List.mem_of_getElem? (i := 1040) (by decide +kernel)⟩
theorem lw_p26 : lw_okq (⟨"StemspanModel", "areTwins", "()Z"⟩, 14) := ⟨⟨by decide +kernel, by decide +kernel⟩, List.mem_of_getElem? (i := 787) (by decide +kernel), List.mem_of_getElem? (i := 1043) (by decide +kernel), List.mem_of_getElem? (i := 1044) (by decide +kernel)⟩
def lw_privs_2 : List (MethodName × Nat) := [(⟨"StemspanModel", "becomes", "(I)V"⟩, 14), (⟨"StemspanModel", "isBegun", "(I)Z"⟩, 14), (⟨"StemspanModel", "longestAt", "(I)I"⟩, 14), (⟨"StemspanModel", "cutsAll", "()V"⟩, 14), (⟨"StemspanModel", "puts", "(IC)I"⟩, 14), (⟨"StemspanModel", "codeAt", "(I)I"⟩, 14), (⟨"StemspanModel", "areOrderly", "()Z"⟩, 14), (⟨"StemspanModel", "isAhead", "(II)Z"⟩, 14), (⟨"StemspanModel", "written", "(I)I"⟩, 14), (⟨"StemspanModel", "isSideBySide", "(I)Z"⟩, 14), (⟨"StemspanModel", "areTwins", "()Z"⟩, 14)]
theorem lw_r2 : ∀ q ∈ lw_privs_2, lw_okq q := List.forall_mem_cons.mpr ⟨lw_p16, List.forall_mem_cons.mpr ⟨lw_p17, List.forall_mem_cons.mpr ⟨lw_p18, List.forall_mem_cons.mpr ⟨lw_p19, List.forall_mem_cons.mpr ⟨lw_p20, List.forall_mem_cons.mpr ⟨lw_p21, List.forall_mem_cons.mpr ⟨lw_p22, List.forall_mem_cons.mpr ⟨lw_p23, List.forall_mem_cons.mpr ⟨lw_p24, List.forall_mem_cons.mpr ⟨lw_p25, List.forall_mem_cons.mpr ⟨lw_p26, fun _ h => absurd h List.not_mem_nil⟩⟩⟩⟩⟩⟩⟩⟩⟩⟩⟩
def lw_privs : List (MethodName × Nat) := lw_privs_1 ++ (lw_privs_2)
def lw_tbl : List Cond := k2_sels lw_privs ++ tables_1
theorem lw_privs_ok : ∀ q ∈ lw_privs, lw_okq q := by
  show ∀ q ∈ lw_privs_1 ++ (lw_privs_2), lw_okq q
  exact List.forall_mem_append.mpr ⟨lw_r1, lw_r2⟩
end
section
/-! ===== BEGIN words of one list among another's, by their places ===== -/
theorem goodIn_r {big : List Cond} (ws : List Cond) (ps : List Nat) (hp : ws = ps.filterMap (fun i => big[i]?)) (h : ws.all goodWord = true) : GoodIn big ws := by
  intro w hw
  have h1 := List.all_eq_true.mp h w hw
  rw [hp] at hw
  obtain ⟨i, -, hi⟩ := List.mem_filterMap.mp hw
  have hm : w ∈ big := by first | exact List.mem_of_getElem? hi | exact List.getElem?_mem hi
  exact ⟨hm, good_of_word h1⟩
theorem goodIn_app {big a b : List Cond} (ha : GoodIn big a) (hb : GoodIn big b) : GoodIn big (a ++ b) := fun w h => (List.mem_append.mp h).elim (ha w) (hb w)
theorem goodIn_ca {big a b : List Cond} {c : Cond} (ha : GoodIn big (c :: a)) (hb : GoodIn big b) : GoodIn big (c :: (a ++ b)) := fun w h => (List.mem_cons.mp h).elim (fun e => ha w (List.mem_cons.mpr (Or.inl e))) (fun h => (List.mem_append.mp h).elim (fun h => ha w (List.mem_cons.mpr (Or.inr h))) (hb w))
theorem goodIn_sub {big ws : List Cond} (hm : ∀ w ∈ ws, w ∈ big) (h : ws.all goodWord = true) : GoodIn big ws := fun w hw => ⟨hm w hw, good_of_word (List.all_eq_true.mp h w hw)⟩
/-! ===== END ===== -/

/-! ===== BEGIN exceptions that leave a method, and their catching by the caller (launches without stack traces) ===== -/
section VXA
/-! The laws vx_back, vx_callV, vx_callS, vx_callSW, vx_throw0, vx_throwS follow proofs of the library, with one case more: JvmDerived/Free/Laws.lean (Back.of_free), Shelf42/LK1.lean (callV, callS), Shelf/KitTraced.lean (throwNew0V, throwNewS). -/
/-- where a method has thrown q: the class by its name, the cell, what was written, the world -/
def vx_T (XC : String → State → State → Prop) (st : State) (q : Addr) (t : State) (mc ms : Nat) (free : Addr → Prop) : Prop :=
  ∃ (E : String) (ce : Cell) (L : List Loc), XC E st t ∧ t.heap[q]? = some ce ∧ ce.vm = .none ∧ st.vm.findClass E = some ce.cls ∧ st.WarmedH t.vm ∧ st.sameButNew ({ t with vm := st.vm } : State) L mc ms ∧ ∀ z ∈ L, free z.base
def vx_Q (Qc : Array Value → State → Outcome → State → Prop) (XC : String → State → State → Prop) (mc ms : Nat) (free : Addr → Prop) : Array Value → State → Outcome → State → Prop := fun a st o t =>
  (Qc a st o t ∧ ∃ L, FrameEnd st o t L mc ms ∧ ∀ q ∈ L, free q.base) ∨ ∃ q, o = .threw q ∧ vx_T XC st q t mc ms free
/-- a callee that returns or throws -/
def vx_Met (l : Launch) (y : MethodName) (ws : List Cond) (rm : Room) (Pc : Array Value → State → Prop) (Qc : Array Value → State → Outcome → State → Prop) (XC : String → State → State → Prop) (mc ms : Nat) (free : Addr → Prop) : Prop :=
  MetFree l y (headSpec ws rm) Pc (fun _ _ _ _ _ => True) (vx_Q Qc XC mc ms free)
def vx_Post (XC : String → State → State → Prop) (mc ms : Nat) (free : Addr → Prop) : Pt → Array Value → Addr → Pt → Prop := fun A a q B =>
  ∃ (g : JFrame) (mk : MethodId) (t : State) (L : List Loc) (E : String) (ce : Cell), B.U.heap = t.heap ∧ B.U.vm = t.vm ∧ XC E (A.U.calling g mk a) t ∧ t.heap[q]? = some ce ∧ ce.vm = .none ∧ A.U.vm.findClass E = some ce.cls ∧ B.locs = A.locs ++ L ∧ (∀ z ∈ L, free z.base) ∧ B.cells = A.cells + mc ∧ B.slots = A.slots + ms
def vx_Back (l : Launch) (R : Room) (p : Program) (e : Env) (below : List Frame) (s : State) (sargs : Array Value) (y : MethodName) (len W9 : Nat)
    (Pre : Pt → Array Value → Prop) (Post : Pt → Array Value → Option Value → Pt → Prop) (PostX : Pt → Array Value → Addr → Pt → Prop) : Prop :=
  ∀ (m : MethodId) (meth : Method) (c : Code) (A : Pt) (g : JFrame) (ig : Instr) (mk : MethodId) (a : Array Value),
    Stand p l e R s m sargs below meth c A.U A.locs A.cells A.slots → g.method = m → g.locals.size = c.maxLocals → decode c.code g.pc = .ok (ig, len) →
    2 * g.monitorRoom + (g.stack.map fun v => v.category).sum ≤ W9 → A.U.methodNamed? y = some mk → Pre A a →
    (∃ (v : Option Value) (B : Pt), Stand p l e R s m sargs below meth c B.U B.locs B.cells B.slots ∧ Post A a v B ∧
      Steps p.tables e below (doInvoke e (A.U.setTop g) [] mk a).1 (B.U.setTop { g with pc := g.pc + len, stack := v.toList ++ g.stack })) ∨
    (∃ (q : Addr) (B : Pt), Stand p l e R s m sargs below meth c B.U B.locs B.cells B.slots ∧ PostX A a q B ∧
      Steps p.tables e below (doInvoke e (A.U.setTop g) [] mk a).1 ((B.U.setTop g).pushFrame (.throwing q)))
section Payer
variable {l : Launch} {R : Room} {p : Program} {e : Env} {below : List Frame} {s : State} {sargs : Array Value} {y : MethodName} {len W9 : Nat}
theorem vx_back {ws : List Cond} {rm : Room} {Pc : Array Value → State → Prop} {Qc : Array Value → State → Outcome → State → Prop} {XC : String → State → State → Prop} {mc ms : Nat} {free : Addr → Prop} {bytes : ByteArray} {maxL : Nat} {ret : Option FieldType}
    (hM : vx_Met l y ws rm Pc Qc XC mc ms free) (hblind : FrameBlind Pc) (hrc : rm.cells = mc) (hrs : rm.slots = ms)
    (hframes : rm.frames + 1 ≤ R.frames) (hlocals : W9 + (maxL + 11) + rm.locals ≤ R.locals)
    (hws : ∀ w ∈ ws, ∀ a' U, s.WarmedH U.vm → w.before a' U = true) (hcode : Cond.code y bytes maxL ret ∈ ws) (hinit : ∀ a' U, s.WarmedH U.vm → (Cond.initialized y.cls).before a' U = true) :
    vx_Back l R p e below s sargs y len W9 (PreOf R mc ms Pc) (PostOf Qc mc ms free) (vx_Post XC mc ms free) := by
  intro m meth c A g ig mk a X hg hsize hdg hW hn hp
  have h1 : (headSpec ws rm).pre.before a A.U = true := atoms_intro fun w hw => hws w hw _ _ X.warmed
  have h2 : (Cond.code y bytes maxL ret).before a A.U = true := hws _ hcode _ _ X.warmed
  have h3 : (Cond.initialized y.cls).before a A.U = true := hinit _ _ X.warmed
  have h4 : A.cells + (headSpec ws rm).room.cells ≤ R.cells := by rw [show (headSpec ws rm).room.cells = mc from hrc]; exact hp.1
  have h5 : A.slots + (headSpec ws rm).room.slots ≤ R.slots := by rw [show (headSpec ws rm).room.slots = ms from hrs]; exact hp.2.1
  have hPc : Pc a (A.U.calling g mk a) := hblind _ _ _ _ hp.2.2
  obtain ⟨U, Ls, c0, s0⟩ := A
  dsimp only [Pt.U, Pt.locs, Pt.cells, Pt.slots] at h1 h2 h3 h4 h5 X hn hPc ⊢
  obtain ⟨methY, cY, hmY, hcY, -, hlY, -, -, -, -⟩ := Cond.code_spec hn h2
  obtain ⟨kY, hkY, -⟩ := className_of_methodNamed hn
  have hinitY : kY.init = .initialized := Cond.initialized_spec (findClass_of_methodNamed hn) hkY h3
  have h : At U g.method c below := by rw [hg]; exact X.here
  have hlocals9 : W9 + (maxL + 11) + (headSpec ws rm).room.locals ≤ R.locals := hlocals
  have happ : (headSpec ws rm).appliesLoose y e.platform (U.calling g mk a) = true :=
    Spec.appliesLoose_calling (g := g) h hdg hn hkY hinitY
      (X.room_calling (g := g) (R' := (headSpec ws rm).room) hsize hmY hcY hframes (by rw [hlY]; omega) h4 h5) h1
  obtain ⟨mid, hmid⟩ := h.above
  have hfr : (U.setTop g).frames = (.java g :: mid) ++ below := by rw [State.frames_setTop' g h.top, hmid]; rfl
  obtain ⟨o, s₂, hsteps, -, hend, hq⟩ := Steps.callFree hM p X.admits X.cas X.clock (acts := []) hfr happ hPc trivial
  have hq' : vx_Q Qc XC mc ms free a (U.calling g mk a) o s₂ := hq
  rw [State.frames_setTop' g h.top] at hend
  obtain ⟨g₀, hg0⟩ := Option.isSome_iff_exists.mp h.top
  obtain ⟨r, hr⟩ := State.topJava?_eq_some.mp hg0
  have hr' : (({ U with heap := s₂.heap, slotsUsed := s₂.slotsUsed } : State).setVm s₂.vm).frames = .java g₀ :: r := hr
  rcases hq' with ⟨hqc, L, hfe, hL⟩ | ⟨q, rfl, E, ce, L, hx, hce, hcv, hcl, hW₂, hsm, hL⟩
  · obtain ⟨⟨v, rfl⟩, hW₂, e2, q2, q3, q4, q5, q6⟩ := id hfe
    have e3 : s₂ = ({ (U.calling g mk a).setFrames s₂.frames with heap := s₂.heap, slotsUsed := s₂.slotsUsed } : State).setVm s₂.vm := by
      have : s₂ = ({ s₂ with vm := (U.calling g mk a).vm } : State).setVm s₂.vm := rfl
      rw [e2] at this
      exact this
    obtain ⟨c₂, i₂, len₂, hc₂, hd₂, hf₂⟩ := hend
    have hW' : U.WarmedH s₂.vm := hW₂
    have hcc : c₂ = c := by
      have h1 : s₂.code? g.method = U.code? g.method := by
        rw [State.code?_eq, State.code?_eq, hW'.alike.method?]
      exact Option.some.inj (hc₂.symm.trans (h1.trans h.code))
    subst hcc
    have hlen : len₂ = len := by rw [hdg] at hd₂; cases hd₂; rfl
    subst hlen
    have hs₂ : s₂ = (({ U with heap := s₂.heap, slotsUsed := s₂.slotsUsed } : State).setVm s₂.vm).setTop { g with pc := g.pc + len₂, stack := v.toList ++ g.stack } := by
      refine e3.trans ?_
      rw [hf₂, State.calling_eq h.top, State.setFrames_setFrames, State.setTop_of_frames _ hr', hr]
      rfl
    have hsame : U.sameButNew ({ U with heap := s₂.heap, slotsUsed := s₂.slotsUsed } : State) L mc ms := by
      refine ⟨?_, q2, q3, q4, q5, q6⟩
      obtain ⟨t, ht, -⟩ := State.frames_cons hr
      show ({ U with heap := s₂.heap, slotsUsed := s₂.slotsUsed } : State) = { U.setFrames U.frames with heap := s₂.heap, slotsUsed := s₂.slotsUsed }
      rw [State.setFrames_self ht]
    subst hg
    refine Or.inl ⟨v, ⟨(({ U with heap := s₂.heap, slotsUsed := s₂.slotsUsed } : State).setVm s₂.vm), Ls ++ L, c0 + mc, s0 + ms⟩,
      ⟨X.admits, X.cas, X.clock, X.frames, X.room, X.hears, X.method, X.code, (X.here.setHeapUsed s₂.heap s₂.slotsUsed).setVm hW'.alike, X.tail, State.WarmedH.trans X.warmed hW', X.limits, X.bytes, X.same.trans (hsame.setVm s.vm)⟩,
      ⟨g, mk, s₂, L, rfl, rfl, hqc, rfl, hL, rfl, rfl⟩, ?_⟩
    show Steps p.tables e below _ ((({ U with heap := s₂.heap, slotsUsed := s₂.slotsUsed } : State).setVm s₂.vm).setTop { g with pc := g.pc + len₂, stack := v.toList ++ g.stack })
    rw [← hs₂]
    exact hsteps
  · obtain ⟨e2, q2, q3, q4, q5, q6⟩ := id hsm
    have e3 : s₂ = ({ (U.calling g mk a).setFrames s₂.frames with heap := s₂.heap, slotsUsed := s₂.slotsUsed } : State).setVm s₂.vm := by
      have : s₂ = ({ s₂ with vm := (U.calling g mk a).vm } : State).setVm s₂.vm := rfl
      rw [e2] at this
      exact this
    have hf₂ : s₂.frames = .throwing q :: .java g :: U.frames.tail := hend
    have hW' : U.WarmedH s₂.vm := hW₂
    have hs₂ : s₂ = ((({ U with heap := s₂.heap, slotsUsed := s₂.slotsUsed } : State).setVm s₂.vm).setTop g).pushFrame (.throwing q) := by
      refine e3.trans ?_
      rw [hf₂, State.calling_eq h.top, State.setFrames_setFrames, State.pushFrame, State.frames_setTop _ hr', State.setTop_of_frames _ hr', State.setFrames_setFrames, hr]
      rfl
    have hsame : U.sameButNew ({ U with heap := s₂.heap, slotsUsed := s₂.slotsUsed } : State) L mc ms := by
      refine ⟨?_, q2, q3, q4, q5, q6⟩
      obtain ⟨t, ht, -⟩ := State.frames_cons hr
      show ({ U with heap := s₂.heap, slotsUsed := s₂.slotsUsed } : State) = { U.setFrames U.frames with heap := s₂.heap, slotsUsed := s₂.slotsUsed }
      rw [State.setFrames_self ht]
    subst hg
    refine Or.inr ⟨q, ⟨(({ U with heap := s₂.heap, slotsUsed := s₂.slotsUsed } : State).setVm s₂.vm), Ls ++ L, c0 + mc, s0 + ms⟩,
      ⟨X.admits, X.cas, X.clock, X.frames, X.room, X.hears, X.method, X.code, (X.here.setHeapUsed s₂.heap s₂.slotsUsed).setVm hW'.alike, X.tail, State.WarmedH.trans X.warmed hW', X.limits, X.bytes, X.same.trans (hsame.setVm s.vm)⟩,
      ⟨g, mk, s₂, L, E, ce, rfl, rfl, hx, hce, hcv, hcl, rfl, hL, rfl, rfl⟩, ?_⟩
    show Steps p.tables e below _ (((({ U with heap := s₂.heap, slotsUsed := s₂.slotsUsed } : State).setVm s₂.vm).setTop g).pushFrame (.throwing q))
    rw [← hs₂]
    exact hsteps
end Payer
section Calls
variable {p : Program} {l : Launch} {e : Env} {R : Room} {s : State} {m : MethodId} {args : Array Value} {below : List Frame} {meth : Method} {c : Code} {T : State} {locs : List Loc} {cells slots : Nat}
theorem vx_callV (X : Stand p l e R s m args below meth c T locs cells slots) (hexec : p.tables.exec = Jvm.exec) {own C : String} {index : Nat} {y : MethodName} {bytes : ByteArray} {maxL : Nat} {ret : Option FieldType}
    (hown : s.vm.findClass own = some m.cls) (hlink : (Cond.methodLink own index y).before args s = true) (hinst : (Cond.instanceMethod y).before args s = true) (hsel : (Cond.selects C y y).before args s = true)
    (hcode : (Cond.code y bytes maxL ret).before args s = true) (hy : y.cls ≠ "java/lang/invoke/MethodHandle" ∧ y.cls ≠ "java/lang/invoke/VarHandle")
    {W9 : Nat} {Pre : Pt → Array Value → Prop} {Post : Pt → Array Value → Option Value → Pt → Prop} {PostX : Pt → Array Value → Addr → Pt → Prop} (hK : vx_Back l R p e below s args y 3 W9 Pre Post PostX)
    {b : Addr} {cellB : Cell} (hcell : T.heap[b]? = some cellB) (hobj : cellB.vm.isStatics = false) (hcls : s.vm.findClass C = some cellB.cls)
    {g : JFrame} (hg : g.method = m) (hsize : g.locals.size = c.maxLocals) {argsL rest : List Value} (hlen : ∀ sig, parseMethodDescriptor y.desc = some sig → argsL.length = sig.parameters.length)
    (hstack : g.stack = argsL.reverse ++ .ref b :: rest) (hW : 2 * g.monitorRoom + (rest.map fun v => v.category).sum ≤ W9) (hdg : decode c.code g.pc = .ok (.invokevirtual index, 3))
    (hpre : ∀ vm₁, s.WarmedH vm₁ → Pre ⟨T.setVm vm₁, locs, cells, slots⟩ (Value.ref b :: argsL).toArray) :
    (∃ (v : Option Value) (vm₁ : Vm) (B : Pt), s.WarmedH vm₁ ∧ Stand p l e R s m args below meth c B.U B.locs B.cells B.slots ∧ Post ⟨T.setVm vm₁, locs, cells, slots⟩ (Value.ref b :: argsL).toArray v B ∧
      ∀ target, Steps p.tables e below (B.U.setTop { g with pc := g.pc + 3, stack := v.toList ++ rest }) target → Steps p.tables e below (T.setTop g) target) ∨
    (∃ (q : Addr) (vm₁ : Vm) (B : Pt), s.WarmedH vm₁ ∧ Stand p l e R s m args below meth c B.U B.locs B.cells B.slots ∧ PostX ⟨T.setVm vm₁, locs, cells, slots⟩ (Value.ref b :: argsL).toArray q B ∧
      Steps p.tables e below (T.setTop g) ((B.U.setTop { g with stack := rest }).pushFrame (.throwing q))) := by
  obtain ⟨mk, methM, hnamed, hmethM, hstM, habM⟩ := Cond.instanceMethod_spec hinst
  obtain ⟨methM', cM, hmethM', -, -, -, -, -, -, hsigM⟩ := Cond.code_spec hnamed hcode
  cases hmethM.symm.trans hmethM'
  obtain ⟨c2, r2, m2, q1, q2, q3, q4, kP, hkP, hkPi⟩ := Cond.selects_spec hsel
  cases hcls.symm.trans q1
  cases (State.methodFound?_of_named hnamed hy).symm.trans q2
  cases hnamed.symm.trans q3
  have hselP : selectMethod e.platform s.vm cellB.cls mk = .method mk := by rw [Launch.admits_selectMethod X.admits]; exact q4
  obtain ⟨vm₁, X₁, hstep₁⟩ := X.invokevirtual hexec hown hlink hnamed hmethM hstM hkP hkPi hy (a := b) (cell := cellB) hcell
    (fun z h => by rw [h] at hobj; cases hobj) hselP hmethM habM hkP hkPi (g := g) hg (argsL := argsL) (rest := rest) (hlen _ hsigM) hstack hdg
  rcases hK m meth c ⟨T.setVm vm₁, locs, cells, slots⟩ { g with stack := rest } (.invokevirtual index) mk (Value.ref b :: argsL).toArray X₁ hg hsize hdg hW (X₁.named hnamed) (hpre vm₁ X₁.warmed) with ⟨v, B, X', hpost, hsteps⟩ | ⟨q, B, X', hpost, hsteps⟩
  · exact Or.inl ⟨v, vm₁, B, X₁.warmed, X', hpost, fun target h => hstep₁ _ fun acts => by rw [doInvoke_state]; exact hsteps.trans h⟩
  · exact Or.inr ⟨q, vm₁, B, X₁.warmed, X', hpost, hstep₁ _ fun acts => by rw [doInvoke_state]; exact hsteps⟩
theorem vx_callS (X : Stand p l e R s m args below meth c T locs cells slots) (hexec : p.tables.exec = Jvm.exec) {own : String} {index : Nat} {y : MethodName} {bytes : ByteArray} {maxL : Nat} {ret : Option FieldType}
    (hown : s.vm.findClass own = some m.cls) (hlink : (Cond.methodLink own index y).before args s = true) (hstat : (Cond.static y).before args s = true) (hinit : (Cond.initialized y.cls).before args s = true)
    (hcode : (Cond.code y bytes maxL ret).before args s = true) (hy : y.cls ≠ "java/lang/invoke/MethodHandle" ∧ y.cls ≠ "java/lang/invoke/VarHandle")
    {W9 : Nat} {Pre : Pt → Array Value → Prop} {Post : Pt → Array Value → Option Value → Pt → Prop} {PostX : Pt → Array Value → Addr → Pt → Prop} (hK : vx_Back l R p e below s args y 3 W9 Pre Post PostX)
    {g : JFrame} (hg : g.method = m) (hsize : g.locals.size = c.maxLocals) {argsL rest : List Value} (hlen : ∀ sig, parseMethodDescriptor y.desc = some sig → argsL.length = sig.parameters.length)
    (hstack : g.stack = argsL.reverse ++ rest) (hW : 2 * g.monitorRoom + (rest.map fun v => v.category).sum ≤ W9) (hdg : decode c.code g.pc = .ok (.invokestatic index, 3))
    (hpre : ∀ vm₁, s.WarmedH vm₁ → Pre ⟨T.setVm vm₁, locs, cells, slots⟩ argsL.toArray) :
    (∃ (v : Option Value) (vm₁ : Vm) (B : Pt), s.WarmedH vm₁ ∧ Stand p l e R s m args below meth c B.U B.locs B.cells B.slots ∧ Post ⟨T.setVm vm₁, locs, cells, slots⟩ argsL.toArray v B ∧
      ∀ target, Steps p.tables e below (B.U.setTop { g with pc := g.pc + 3, stack := v.toList ++ rest }) target → Steps p.tables e below (T.setTop g) target) ∨
    (∃ (q : Addr) (vm₁ : Vm) (B : Pt), s.WarmedH vm₁ ∧ Stand p l e R s m args below meth c B.U B.locs B.cells B.slots ∧ PostX ⟨T.setVm vm₁, locs, cells, slots⟩ argsL.toArray q B ∧
      Steps p.tables e below (T.setTop g) ((B.U.setTop { g with stack := rest }).pushFrame (.throwing q))) := by
  obtain ⟨mk, hnamed⟩ := Cond.code_named hcode
  obtain ⟨methM, cM, hmethM, -, -, -, -, -, -, hsigM⟩ := Cond.code_spec hnamed hcode
  have hstatic : methM.isStatic = true := Cond.static_spec hnamed hmethM hstat
  obtain ⟨kP, hkP, -⟩ := className_of_methodNamed hnamed
  have hinitP : kP.init = .initialized := Cond.initialized_spec (findClass_of_methodNamed hnamed) hkP hinit
  obtain ⟨vm₁, X₁, hstep₁⟩ := X.invokestatic hexec hown hlink hnamed hmethM hstatic hkP hinitP hy (g := g) hg (argsL := argsL) (rest := rest) (hlen _ hsigM) hstack hdg
  rcases hK m meth c ⟨T.setVm vm₁, locs, cells, slots⟩ { g with stack := rest } (.invokestatic index) mk argsL.toArray X₁ hg hsize hdg hW (X₁.named hnamed) (hpre vm₁ X₁.warmed) with ⟨v, B, X', hpost, hsteps⟩ | ⟨q, B, X', hpost, hsteps⟩
  · exact Or.inl ⟨v, vm₁, B, X₁.warmed, X', hpost, fun target h => hstep₁ _ fun acts => by rw [doInvoke_state]; exact hsteps.trans h⟩
  · exact Or.inr ⟨q, vm₁, B, X₁.warmed, X', hpost, hstep₁ _ fun acts => by rw [doInvoke_state]; exact hsteps⟩
end Calls
theorem vx_cls {s : State} {T : State} {vm₁ : Vm} {E : String} {k : ClassId} (hW : s.WarmedH vm₁) (h : (T.setVm vm₁).vm.findClass E = some k) : s.vm.findClass E = some k := by
  have h1 : vm₁.findClass E = some k := h
  rw [hW.alike.findClass] at h1
  exact h1
/-- the method's frame g, with q thrown over it -/
def vx_W (p : Program) (l : Launch) (e : Env) (R : Room) (s : State) (m : MethodId) (args : Array Value) (below : List Frame) (meth : Method) (c : Code) (H : Heap) (locs : List Loc) (cells slots : Nat) (Q : State → Prop) (g : JFrame) (q : Addr) : Prop :=
  ∀ T : State, T.heap = H → Stand p l e R s m args below meth c T locs cells slots → ∃ t, Steps p.tables e below ((T.setTop g).pushFrame (.throwing q)) t ∧ Q t
def vx_Run (p : Program) (l : Launch) (e : Env) (R : Room) (s : State) (m : MethodId) (args : Array Value) (below : List Frame) (meth : Method) (c : Code) (H : Heap) (locs : List Loc) (cells slots mc ms : Nat) (g : JFrame) (rest : List Value) (Qa : State → Outcome → State → Prop) (XC : String → State → State → Prop) (free : Addr → Prop) : Prop :=
  ∀ T : State, T.heap = H → Stand p l e R s m args below meth c T locs cells slots →
    (∃ (v : Option Value) (st₀ t T' : State) (L : List Loc), st₀.heap = H ∧ Stand p l e R s m args below meth c T' (locs ++ L) (cells + mc) (slots + ms) ∧ (∀ q ∈ L, free q.base) ∧ T'.heap = t.heap ∧ T'.vm = t.vm ∧ Qa st₀ (.returned v) t ∧
      Goes p e below T g T' { g with pc := g.pc + 3, stack := v.toList ++ rest }) ∨
    (∃ (q : Addr) (st₀ t T' : State) (L : List Loc) (E : String) (ce : Cell), st₀.heap = H ∧ Stand p l e R s m args below meth c T' (locs ++ L) (cells + mc) (slots + ms) ∧ (∀ z ∈ L, free z.base) ∧ T'.heap = t.heap ∧ T'.vm = t.vm ∧ XC E st₀ t ∧ t.heap[q]? = some ce ∧ ce.vm = .none ∧ s.vm.findClass E = some ce.cls ∧
      Steps p.tables e below (T.setTop g) ((T'.setTop { g with stack := rest }).pushFrame (.throwing q)))
def vx_X {S : Type} (px : S → Prop) (B : String → S → State → Prop) (A : Nat → Prop) : String → State → State → Prop := fun E st t => ∃ u : S, px u ∧ B E u t ∧ va_F A st t
section Runs
variable {p : Program} {l : Launch} {e : Env} {R : Room} {s : State} {m : MethodId} {args : Array Value} {below : List Frame} {meth : Method} {c : Code} {H : Heap} {locs : List Loc} {cells slots : Nat}
variable {y : MethodName} {bytes cc : ByteArray} {maxL nL mc ms n index : Nat} {ret : Option FieldType} {ws : List Cond} {rm : Room} {Pc : Array Value → State → Prop} {Qc : Array Value → State → Outcome → State → Prop} {XC : String → State → State → Prop} {free : Addr → Prop} {Ts : List Cond} {own C : String} {b : Addr} {As rest : List Value} {g : JFrame}
theorem vx_callBack (cb : CallB R s args own index y bytes maxL ret ws rm mc ms n) (hM : vx_Met l y ws rm Pc Qc XC mc ms free) (hbl : FrameBlind Pc) : vx_Back l R p e below s args y 3 8 (PreOf R mc ms Pc) (PostOf Qc mc ms free) (vx_Post XC mc ms free) := by
  obtain ⟨hrc, hrs, hfr, hlo, hws, hcw, -, hini, -⟩ := cb
  exact vx_back (bytes := bytes) (maxL := maxL) (ret := ret) hM hbl hrc hrs hfr hlo hws hcw (fun a' U hW => word_at hW (Or.inl (by first | rfl | simp [Cond.onTables, Cond.keeps, Cond.steady])) hini)
theorem vx_runV (S : CallFix p m c cc nL s args Ts own) (hM : vx_Met l y ws rm Pc Qc XC mc ms free) (cw : CallW R s args own C index y bytes maxL ret ws rm mc ms n) (hp : PreV s H C b Pc As)
    (hg : g.method = m) (hn : As.length = n) (hsize : g.locals.size = nL) (hstack : g.stack = As.reverse ++ .ref b :: rest) (hW : 2 * g.monitorRoom + (rest.map fun v => v.category).sum ≤ 8) (hdg : decode cc g.pc = .ok (.invokevirtual index, 3)) (hf : cells + mc ≤ R.cells ∧ slots + ms ≤ R.slots) :
    vx_Run p l e R s m args below meth c H locs cells slots mc ms g rest (Qc (Value.ref b :: As).toArray) XC free := by
  have hK : vx_Back l R p e below s args y 3 8 (PreOf R mc ms Pc) (PostOf Qc mc ms free) (vx_Post XC mc ms free) := vx_callBack cw.1 hM hp.1
  obtain ⟨⟨-, -, -, -, -, -, hcode, -, hy, hlen, hl⟩, hin, hse⟩ := cw
  obtain ⟨hx, hb, hml, ho, -⟩ := S
  obtain ⟨-, ⟨cellB, hcB, hoB, hclB⟩, hPc⟩ := hp
  intro T hT X
  rcases vx_callV X hx (C := C) (bytes := bytes) (maxL := maxL) (ret := ret) ho hl hin hse hcode hy hK (by rw [hT]; exact hcB) hoB hclB hg (hsize.trans hml.symm) (argsL := As) (rest := rest) (fun sig h => hn.trans (hlen sig h)) hstack hW (by rw [hb]; exact hdg)
    (fun vm₁ hW₁ => ⟨hf.1, hf.2, hPc (T.setVm vm₁) hT hW₁⟩) with ⟨v, vm₁, ⟨U', l2, c2, s2⟩, hW₁, X', ⟨g', mk, t, L, e1, e2, hq, h1, hL, h2, h3⟩, st⟩ | ⟨q, vm₁, ⟨U', l2, c2, s2⟩, hW₁, X', ⟨g', mk, t, L, E, ce, e1, e2, hq, hce, hcv, hcl, h1, hL, h2, h3⟩, st⟩
  · dsimp only [Pt.U, Pt.locs, Pt.cells, Pt.slots] at X' e1 e2 h1 h2 h3 st
    subst h1; subst h2; subst h3
    exact Or.inl ⟨v, (T.setVm vm₁).calling g' mk (Value.ref b :: As).toArray, t, U', L, hT, X', hL, e1, e2, hq, st⟩
  · dsimp only [Pt.U, Pt.locs, Pt.cells, Pt.slots] at X' e1 e2 h1 h2 h3 st hcl
    subst h1; subst h2; subst h3
    exact Or.inr ⟨q, (T.setVm vm₁).calling g' mk (Value.ref b :: As).toArray, t, U', L, E, ce, hT, X', hL, e1, e2, hq, hce, hcv, vx_cls hW₁ hcl, st⟩
theorem vx_runS (S : CallFix p m c cc nL s args Ts own) (hM : vx_Met l y ws rm Pc Qc XC mc ms free) (cw : CallB R s args own index y bytes maxL ret ws rm mc ms n ∧ (Cond.static y).before args s = true) (hp : PreS s H Pc As)
    (hg : g.method = m) (hn : As.length = n) (hsize : g.locals.size = nL) (hstack : g.stack = As.reverse ++ rest) (hW : 2 * g.monitorRoom + (rest.map fun v => v.category).sum ≤ 8) (hdg : decode cc g.pc = .ok (.invokestatic index, 3)) (hf : cells + mc ≤ R.cells ∧ slots + ms ≤ R.slots) :
    vx_Run p l e R s m args below meth c H locs cells slots mc ms g rest (Qc As.toArray) XC free := by
  have hK : vx_Back l R p e below s args y 3 8 (PreOf R mc ms Pc) (PostOf Qc mc ms free) (vx_Post XC mc ms free) := vx_callBack cw.1 hM hp.1
  obtain ⟨⟨-, -, -, -, -, -, hcode, hini, hy, hlen, hl⟩, hstt⟩ := cw
  obtain ⟨hx, hb, hml, ho, -⟩ := S
  intro T hT X
  rcases vx_callS X hx (bytes := bytes) (maxL := maxL) (ret := ret) ho hl hstt hini hcode hy hK hg (hsize.trans hml.symm) (argsL := As) (rest := rest) (fun sig h => hn.trans (hlen sig h)) hstack hW (by rw [hb]; exact hdg)
    (fun vm₁ hW₁ => ⟨hf.1, hf.2, hp.2 (T.setVm vm₁) hT hW₁⟩) with ⟨v, vm₁, ⟨U', l2, c2, s2⟩, hW₁, X', ⟨g', mk, t, L, e1, e2, hq, h1, hL, h2, h3⟩, st⟩ | ⟨q, vm₁, ⟨U', l2, c2, s2⟩, hW₁, X', ⟨g', mk, t, L, E, ce, e1, e2, hq, hce, hcv, hcl, h1, hL, h2, h3⟩, st⟩
  · dsimp only [Pt.U, Pt.locs, Pt.cells, Pt.slots] at X' e1 e2 h1 h2 h3 st
    subst h1; subst h2; subst h3
    exact Or.inl ⟨v, (T.setVm vm₁).calling g' mk As.toArray, t, U', L, hT, X', hL, e1, e2, hq, st⟩
  · dsimp only [Pt.U, Pt.locs, Pt.cells, Pt.slots] at X' e1 e2 h1 h2 h3 st hcl
    subst h1; subst h2; subst h3
    exact Or.inr ⟨q, (T.setVm vm₁).calling g' mk As.toArray, t, U', L, E, ce, hT, X', hL, e1, e2, hq, hce, hcv, vx_cls hW₁ hcl, st⟩
end Runs
section Rows
variable {p : Program} {l : Launch} {e : Env} {R : Room} {s : State} {m : MethodId} {args : Array Value} {below : List Frame} {meth : Method} {c : Code} {H : Heap} {locs : List Loc} {cells slots : Nat} {Q : State → Prop}
variable {mc ms : Nat} {free : Addr → Prop} {A0 A1 : Nat → Prop} {H0 : Heap} {a : Array Value} {pc : Nat} {ls : Array Slot} {st0 rest : List Value}
theorem vx_keep {st₀ t T' : State} {L : List Loc} (h0 : st₀.heap = H) (e1 : T'.heap = t.heap) (hS : va_S A0 H0 H locs) (hA : ∀ q, q < H.size → A1 q → A0 q) (hf : ∀ q, free q → A0 q) (hL : ∀ q ∈ L, free q.base) (hF : va_F A1 st₀ t) :
    H.size ≤ T'.heap.size ∧ (∀ q : Nat, q < H.size → ¬ A1 q → T'.heap[q]? = H[q]?) ∧ va_S A0 H0 T'.heap (locs ++ L) := by
  obtain ⟨hz, hk⟩ := hF
  rw [h0] at hz hk
  exact ⟨by rw [e1]; exact hz, fun q h1 h2 => by rw [e1]; exact hk q h1 h2,
    ⟨Nat.le_trans hS.1 (by rw [e1]; exact hz), fun q h1 h2 => by rw [e1, hk q (Nat.lt_of_lt_of_le h1 hS.1) (fun z => h2 (hA q (Nat.lt_of_lt_of_le h1 hS.1) z))]; exact hS.2.1 q h1 h2, fun q hq => by
      rcases List.mem_append.mp hq with h | h
      · exact hS.2.2 q h
      · exact hf _ (hL q h)⟩⟩
theorem vx_calli {S SX : Type} {post : Int32 → S → Prop} {px : SX → Prop} {B : S → State → Prop} {BX : String → SX → State → Prop} {AX : Nat → Prop} (hr : vx_Run p l e R s m args below meth c H locs cells slots mc ms (F0 m pc ls st0) rest (va_Qi post B A1 a) (vx_X px BX AX) free) (hS : va_S A0 H0 H locs) (hA : ∀ q, q < H.size → A1 q → A0 q) (hf : ∀ q, free q → A0 q) (hAX : ∀ q, q < H.size → AX q → A0 q)
    (kx : ∀ (E : String) (ce : Cell) (q9 : Addr) (u : SX) (t : State) (H1 : Heap) (locs1 : List Loc), t.heap = H1 → s.vm.Alike t.vm → px u → BX E u t → H.size ≤ H1.size → (∀ q : Nat, q < H.size → ¬ AX q → H1[q]? = H[q]?) → va_S A0 H0 H1 locs1 → H1[q9]? = some ce → ce.vm = .none → s.vm.findClass E = some ce.cls → vx_W p l e R s m args below meth c H1 locs1 (cells + mc) (slots + ms) Q (F0 m pc ls rest) q9)
    (kk : ∀ (r : Int32) (u : S) (t : State) (H1 : Heap) (locs1 : List Loc), t.heap = H1 → s.vm.Alike t.vm → post r u → B u t → H.size ≤ H1.size → (∀ q : Nat, q < H.size → ¬ A1 q → H1[q]? = H[q]?) → va_S A0 H0 H1 locs1 → W p l e R s m args below meth c H1 locs1 (cells + mc) (slots + ms) Q (F0 m (pc + 3) ls (.int r :: rest))) : W p l e R s m args below meth c H locs cells slots Q (F0 m pc ls st0) := by
  intro T hT X
  rcases hr T hT X with ⟨v, st₀, t, T', L, h0, X', hL, e1, e2, ⟨⟨r, u, hv, hp, hb⟩, hF⟩, st⟩ | ⟨q, st₀, t, T', L, E, ce, h0, X', hL, e1, e2, ⟨u, hp, hb, hF⟩, hce, hcv, hcl, st⟩
  · cases hv
    obtain ⟨k1, k2, k3⟩ := vx_keep h0 e1 hS hA hf hL hF
    obtain ⟨t2, a1, b1⟩ := kk r u t T'.heap (locs ++ L) e1.symm (by rw [← e2]; exact X'.warmed.alike) hp hb k1 k2 k3 T' rfl X'
    exact ⟨t2, st t2 a1, b1⟩
  · obtain ⟨k1, k2, k3⟩ := vx_keep h0 e1 hS hAX hf hL hF
    obtain ⟨t2, a1, b1⟩ := kx E ce q u t T'.heap (locs ++ L) e1.symm (by rw [← e2]; exact X'.warmed.alike) hp hb k1 k2 k3 (by rw [e1]; exact hce) hcv hcl T' rfl X'
    exact ⟨t2, st.trans a1, b1⟩
theorem vx_calll {S SX : Type} {post : Int64 → S → Prop} {px : SX → Prop} {B : S → State → Prop} {BX : String → SX → State → Prop} {AX : Nat → Prop} (hr : vx_Run p l e R s m args below meth c H locs cells slots mc ms (F0 m pc ls st0) rest (va_Ql post B A1 a) (vx_X px BX AX) free) (hS : va_S A0 H0 H locs) (hA : ∀ q, q < H.size → A1 q → A0 q) (hf : ∀ q, free q → A0 q) (hAX : ∀ q, q < H.size → AX q → A0 q)
    (kx : ∀ (E : String) (ce : Cell) (q9 : Addr) (u : SX) (t : State) (H1 : Heap) (locs1 : List Loc), t.heap = H1 → s.vm.Alike t.vm → px u → BX E u t → H.size ≤ H1.size → (∀ q : Nat, q < H.size → ¬ AX q → H1[q]? = H[q]?) → va_S A0 H0 H1 locs1 → H1[q9]? = some ce → ce.vm = .none → s.vm.findClass E = some ce.cls → vx_W p l e R s m args below meth c H1 locs1 (cells + mc) (slots + ms) Q (F0 m pc ls rest) q9)
    (kk : ∀ (r : Int64) (u : S) (t : State) (H1 : Heap) (locs1 : List Loc), t.heap = H1 → s.vm.Alike t.vm → post r u → B u t → H.size ≤ H1.size → (∀ q : Nat, q < H.size → ¬ A1 q → H1[q]? = H[q]?) → va_S A0 H0 H1 locs1 → W p l e R s m args below meth c H1 locs1 (cells + mc) (slots + ms) Q (F0 m (pc + 3) ls (.long r :: rest))) : W p l e R s m args below meth c H locs cells slots Q (F0 m pc ls st0) := by
  intro T hT X
  rcases hr T hT X with ⟨v, st₀, t, T', L, h0, X', hL, e1, e2, ⟨⟨r, u, hv, hp, hb⟩, hF⟩, st⟩ | ⟨q, st₀, t, T', L, E, ce, h0, X', hL, e1, e2, ⟨u, hp, hb, hF⟩, hce, hcv, hcl, st⟩
  · cases hv
    obtain ⟨k1, k2, k3⟩ := vx_keep h0 e1 hS hA hf hL hF
    obtain ⟨t2, a1, b1⟩ := kk r u t T'.heap (locs ++ L) e1.symm (by rw [← e2]; exact X'.warmed.alike) hp hb k1 k2 k3 T' rfl X'
    exact ⟨t2, st t2 a1, b1⟩
  · obtain ⟨k1, k2, k3⟩ := vx_keep h0 e1 hS hAX hf hL hF
    obtain ⟨t2, a1, b1⟩ := kx E ce q u t T'.heap (locs ++ L) e1.symm (by rw [← e2]; exact X'.warmed.alike) hp hb k1 k2 k3 (by rw [e1]; exact hce) hcv hcl T' rfl X'
    exact ⟨t2, st.trans a1, b1⟩
theorem vx_callf {S SX : Type} {post : UInt32 → S → Prop} {px : SX → Prop} {B : S → State → Prop} {BX : String → SX → State → Prop} {AX : Nat → Prop} (hr : vx_Run p l e R s m args below meth c H locs cells slots mc ms (F0 m pc ls st0) rest (va_Qf post B A1 a) (vx_X px BX AX) free) (hS : va_S A0 H0 H locs) (hA : ∀ q, q < H.size → A1 q → A0 q) (hf : ∀ q, free q → A0 q) (hAX : ∀ q, q < H.size → AX q → A0 q)
    (kx : ∀ (E : String) (ce : Cell) (q9 : Addr) (u : SX) (t : State) (H1 : Heap) (locs1 : List Loc), t.heap = H1 → s.vm.Alike t.vm → px u → BX E u t → H.size ≤ H1.size → (∀ q : Nat, q < H.size → ¬ AX q → H1[q]? = H[q]?) → va_S A0 H0 H1 locs1 → H1[q9]? = some ce → ce.vm = .none → s.vm.findClass E = some ce.cls → vx_W p l e R s m args below meth c H1 locs1 (cells + mc) (slots + ms) Q (F0 m pc ls rest) q9)
    (kk : ∀ (r : UInt32) (u : S) (t : State) (H1 : Heap) (locs1 : List Loc), t.heap = H1 → s.vm.Alike t.vm → post r u → B u t → H.size ≤ H1.size → (∀ q : Nat, q < H.size → ¬ A1 q → H1[q]? = H[q]?) → va_S A0 H0 H1 locs1 → W p l e R s m args below meth c H1 locs1 (cells + mc) (slots + ms) Q (F0 m (pc + 3) ls (.float r :: rest))) : W p l e R s m args below meth c H locs cells slots Q (F0 m pc ls st0) := by
  intro T hT X
  rcases hr T hT X with ⟨v, st₀, t, T', L, h0, X', hL, e1, e2, ⟨⟨r, u, hv, hp, hb⟩, hF⟩, st⟩ | ⟨q, st₀, t, T', L, E, ce, h0, X', hL, e1, e2, ⟨u, hp, hb, hF⟩, hce, hcv, hcl, st⟩
  · cases hv
    obtain ⟨k1, k2, k3⟩ := vx_keep h0 e1 hS hA hf hL hF
    obtain ⟨t2, a1, b1⟩ := kk r u t T'.heap (locs ++ L) e1.symm (by rw [← e2]; exact X'.warmed.alike) hp hb k1 k2 k3 T' rfl X'
    exact ⟨t2, st t2 a1, b1⟩
  · obtain ⟨k1, k2, k3⟩ := vx_keep h0 e1 hS hAX hf hL hF
    obtain ⟨t2, a1, b1⟩ := kx E ce q u t T'.heap (locs ++ L) e1.symm (by rw [← e2]; exact X'.warmed.alike) hp hb k1 k2 k3 (by rw [e1]; exact hce) hcv hcl T' rfl X'
    exact ⟨t2, st.trans a1, b1⟩
theorem vx_calld {S SX : Type} {post : UInt64 → S → Prop} {px : SX → Prop} {B : S → State → Prop} {BX : String → SX → State → Prop} {AX : Nat → Prop} (hr : vx_Run p l e R s m args below meth c H locs cells slots mc ms (F0 m pc ls st0) rest (va_Qd post B A1 a) (vx_X px BX AX) free) (hS : va_S A0 H0 H locs) (hA : ∀ q, q < H.size → A1 q → A0 q) (hf : ∀ q, free q → A0 q) (hAX : ∀ q, q < H.size → AX q → A0 q)
    (kx : ∀ (E : String) (ce : Cell) (q9 : Addr) (u : SX) (t : State) (H1 : Heap) (locs1 : List Loc), t.heap = H1 → s.vm.Alike t.vm → px u → BX E u t → H.size ≤ H1.size → (∀ q : Nat, q < H.size → ¬ AX q → H1[q]? = H[q]?) → va_S A0 H0 H1 locs1 → H1[q9]? = some ce → ce.vm = .none → s.vm.findClass E = some ce.cls → vx_W p l e R s m args below meth c H1 locs1 (cells + mc) (slots + ms) Q (F0 m pc ls rest) q9)
    (kk : ∀ (r : UInt64) (u : S) (t : State) (H1 : Heap) (locs1 : List Loc), t.heap = H1 → s.vm.Alike t.vm → post r u → B u t → H.size ≤ H1.size → (∀ q : Nat, q < H.size → ¬ A1 q → H1[q]? = H[q]?) → va_S A0 H0 H1 locs1 → W p l e R s m args below meth c H1 locs1 (cells + mc) (slots + ms) Q (F0 m (pc + 3) ls (.double r :: rest))) : W p l e R s m args below meth c H locs cells slots Q (F0 m pc ls st0) := by
  intro T hT X
  rcases hr T hT X with ⟨v, st₀, t, T', L, h0, X', hL, e1, e2, ⟨⟨r, u, hv, hp, hb⟩, hF⟩, st⟩ | ⟨q, st₀, t, T', L, E, ce, h0, X', hL, e1, e2, ⟨u, hp, hb, hF⟩, hce, hcv, hcl, st⟩
  · cases hv
    obtain ⟨k1, k2, k3⟩ := vx_keep h0 e1 hS hA hf hL hF
    obtain ⟨t2, a1, b1⟩ := kk r u t T'.heap (locs ++ L) e1.symm (by rw [← e2]; exact X'.warmed.alike) hp hb k1 k2 k3 T' rfl X'
    exact ⟨t2, st t2 a1, b1⟩
  · obtain ⟨k1, k2, k3⟩ := vx_keep h0 e1 hS hAX hf hL hF
    obtain ⟨t2, a1, b1⟩ := kx E ce q u t T'.heap (locs ++ L) e1.symm (by rw [← e2]; exact X'.warmed.alike) hp hb k1 k2 k3 (by rw [e1]; exact hce) hcv hcl T' rfl X'
    exact ⟨t2, st.trans a1, b1⟩
theorem vx_callv {S SX : Type} {post : S → Prop} {px : SX → Prop} {B : S → State → Prop} {BX : String → SX → State → Prop} {AX : Nat → Prop} (hr : vx_Run p l e R s m args below meth c H locs cells slots mc ms (F0 m pc ls st0) rest (va_Qv post B A1 a) (vx_X px BX AX) free) (hS : va_S A0 H0 H locs) (hA : ∀ q, q < H.size → A1 q → A0 q) (hf : ∀ q, free q → A0 q) (hAX : ∀ q, q < H.size → AX q → A0 q)
    (kx : ∀ (E : String) (ce : Cell) (q9 : Addr) (u : SX) (t : State) (H1 : Heap) (locs1 : List Loc), t.heap = H1 → s.vm.Alike t.vm → px u → BX E u t → H.size ≤ H1.size → (∀ q : Nat, q < H.size → ¬ AX q → H1[q]? = H[q]?) → va_S A0 H0 H1 locs1 → H1[q9]? = some ce → ce.vm = .none → s.vm.findClass E = some ce.cls → vx_W p l e R s m args below meth c H1 locs1 (cells + mc) (slots + ms) Q (F0 m pc ls rest) q9)
    (kk : ∀ (u : S) (t : State) (H1 : Heap) (locs1 : List Loc), t.heap = H1 → s.vm.Alike t.vm → post u → B u t → H.size ≤ H1.size → (∀ q : Nat, q < H.size → ¬ A1 q → H1[q]? = H[q]?) → va_S A0 H0 H1 locs1 → W p l e R s m args below meth c H1 locs1 (cells + mc) (slots + ms) Q (F0 m (pc + 3) ls (rest))) : W p l e R s m args below meth c H locs cells slots Q (F0 m pc ls st0) := by
  intro T hT X
  rcases hr T hT X with ⟨v, st₀, t, T', L, h0, X', hL, e1, e2, ⟨⟨u, hv, hp, hb⟩, hF⟩, st⟩ | ⟨q, st₀, t, T', L, E, ce, h0, X', hL, e1, e2, ⟨u, hp, hb, hF⟩, hce, hcv, hcl, st⟩
  · cases hv
    obtain ⟨k1, k2, k3⟩ := vx_keep h0 e1 hS hA hf hL hF
    obtain ⟨t2, a1, b1⟩ := kk u t T'.heap (locs ++ L) e1.symm (by rw [← e2]; exact X'.warmed.alike) hp hb k1 k2 k3 T' rfl X'
    exact ⟨t2, st t2 a1, b1⟩
  · obtain ⟨k1, k2, k3⟩ := vx_keep h0 e1 hS hAX hf hL hF
    obtain ⟨t2, a1, b1⟩ := kx E ce q u t T'.heap (locs ++ L) e1.symm (by rw [← e2]; exact X'.warmed.alike) hp hb k1 k2 k3 (by rw [e1]; exact hce) hcv hcl T' rfl X'
    exact ⟨t2, st.trans a1, b1⟩
/-- caught by the row x of this method's table; the rows ahead don't take it -/
theorem vx_catch {own name : String} {E : String} {ce : Cell} {q : Addr} (hown : s.vm.findClass own = some m.cls) (pre : List ExceptionTableEntry) (x : ExceptionTableEntry) (suf : List ExceptionTableEntry) (hsplit : c.exceptionTable.toList = pre ++ x :: suf)
    (hpass : ∀ z ∈ pre, covers z pc = false ∨ (z.catchType ≠ 0 ∧ ∃ nm : String, (Cond.classLink own z.catchType nm).before args s = true ∧ va_Nc E nm s)) (hx : covers x pc = true) (h0 : x.catchType ≠ 0)
    (hlink : (Cond.classLink own x.catchType name).before args s = true) (hcast : (Cond.castable E name).before args s = true) (hcell : H[q]? = some ce) (hv : ce.vm = .none) (hcl : s.vm.findClass E = some ce.cls)
    (kk : W p l e R s m args below meth c H locs cells slots Q (F0 m x.handlerPc ls [.ref q])) : vx_W p l e R s m args below meth c H locs cells slots Q (F0 m pc ls rest) q := by
  intro T hT X
  have hpl : e.platform.magicAccessors = ({} : Platform).magicAccessors := by rw [X.admits.platform]
  obtain ⟨c3, c4, hc3, hc4, hasg⟩ := Cond.castable_spec hcast
  cases Option.some.inj (hc3.symm.trans hcl)
  obtain ⟨c5, hc5, hcl5⟩ := Cond.classLink_spec hown hlink e.platform hpl
  cases Option.some.inj (hc4.symm.trans hc5)
  obtain ⟨vm', X', st⟩ := X.thenCaughtThrough q (g := F0 m pc ls rest) rfl (Steps.refl _) (by rw [hT]; exact hcell) (by rw [hv]; rfl) (by obtain ⟨k9, h9, -⟩ := Vm.findClass_spec hcl; exact ⟨k9, h9⟩) pre x suf hsplit
    (fun z hz => by
      rcases hpass z hz with h | ⟨hz0, nm, hl1, hn1⟩
      · exact Or.inl h
      · obtain ⟨c6, hc6, hcl6⟩ := Cond.classLink_spec hown hl1 e.platform hpl
        obtain ⟨a8, b8, h1, h2, h3⟩ := hn1
        cases Option.some.inj (h1.symm.trans hcl)
        cases Option.some.inj (h2.symm.trans hc6)
        exact Or.inr ⟨hz0, _, hcl6, h3⟩) hx (Or.inr ⟨h0, c4, hcl5, hasg⟩)
  obtain ⟨t, a1, b1⟩ := kk (T.setVm vm') hT X'
  exact ⟨t, st.trans a1, b1⟩
end Rows
section Ends
variable {p : Program} {l : Launch} {e : Env} {R : Room} {s : State} {m : MethodId} {args : Array Value} {below : List Frame} {meth : Method} {c : Code} {H : Heap} {locs : List Loc} {cells slots : Nat} {Q : State → Prop}
variable {mc ms : Nat} {free : Addr → Prop} {A0 A1 : Nat → Prop} {H0 : Heap} {a : Array Value} {ls : Array Slot} {st0 rest : List Value}
variable {Qc : Array Value → State → Outcome → State → Prop} {XC : String → State → State → Prop}
/-- what a body that may throw owes at its end -/
def vx_MQ (below : List Frame) (Qc : Array Value → State → Outcome → State → Prop) (XC : String → State → State → Prop) (a : Array Value) (s : State) (mc ms : Nat) (free : Addr → Prop) : State → Prop := fun t =>
  ∃ o, t.status = .running ∧ Ended t below o ∧ vx_Q Qc XC mc ms free a s o t
theorem vx_ret {g : JFrame} {mc ms : Nat} (k : W p l e R s m args below meth c H locs cells slots (MQ below Qc args s mc ms free) g) : W p l e R s m args below meth c H locs cells slots (vx_MQ below Qc XC args s mc ms free) g := by
  intro T hT X
  obtain ⟨t, a1, o, b1, b2, b3, b4⟩ := k T hT X
  exact ⟨t, a1, o, b1, b2, Or.inl ⟨b3, b4⟩⟩
/-- not caught here: it goes on to the caller -/
theorem vx_widen {g : JFrame} {q : Addr} {k n : Nat} (h1 : cells ≤ k) (h2 : slots ≤ n) (kk : vx_W p l e R s m args below meth c H locs k n Q g q) : vx_W p l e R s m args below meth c H locs cells slots Q g q := fun T hT X => kk T hT (stand_widen X h1 h2)
theorem vx_out {pc : Nat} {E : String} {ce : Cell} {q : Addr} {mc ms : Nat} (hout : ∀ x ∈ c.exceptionTable.toList, covers x pc = false) (hlocks : meth.locks = false) (hcell : H[q]? = some ce) (hv : ce.vm = .none) (hcl : s.vm.findClass E = some ce.cls)
    (hx : ∀ t : State, t.heap = H → s.vm.Alike t.vm → XC E s t) (hf : ∀ z ∈ locs, free z.base) (hc : cells ≤ mc) (hs : slots ≤ ms) :
    vx_W p l e R s m args below meth c H locs cells slots (vx_MQ below Qc XC args s mc ms free) (F0 m pc ls rest) q := by
  intro T hT X
  obtain ⟨st1, hrun, hend, hW, hsm⟩ := X.leaveThrown q (g := F0 m pc ls rest) rfl rfl rfl hout hlocks
  have hcell9 : (T.setFrames (.throwing q :: below)).heap[q]? = some ce := by
    show T.heap[q]? = some ce
    rw [hT]; exact hcell
  exact ⟨_, st1, .threw q, hrun, hend, Or.inr ⟨q, rfl, E, ce, locs, hx _ hT hW.alike, hcell9, hv, hcl, hW, hsm.mono hc hs, hf⟩⟩
theorem vx_frame {U : State} {k n : Nat} (h : s.sameButNew ({ U with vm := s.vm } : State) locs k n) : s.heap.size ≤ U.heap.size ∧ ∀ q : Nat, q < s.heap.size → (∀ z ∈ locs, z.base ≠ q) → U.heap[q]? = s.heap[q]? := by
  obtain ⟨-, h2, -, -, -, h6⟩ := h
  refine ⟨h2, fun q hq hz => ?_⟩
  obtain ⟨c9, e1, e2, e3, e4⟩ := h6 q _ (Array.getElem?_eq_getElem hq)
  have hs : c9.slots = (s.heap[q]).slots := Array.ext_getElem? fun i => e4 i fun hm => hz _ hm rfl
  have h9 : c9 = s.heap[q] := by
    rw [hs] at e2
    exact e2
  have e5 : U.heap[q]? = some c9 := e1
  rw [e5, h9, Array.getElem?_eq_getElem hq]
/-- the words of a throw but the four that speak of the heap -/
def vx_no (w : Cond) : Bool := decide (w ≠ .isRef (.static Bundle.tN "UNASSIGNED_STACK" Bundle.steD)) && decide (w ≠ .isRef (.static Bundle.tN "SUPPRESSED_SENTINEL" Bundle.listD)) && decide (w ≠ .laysStatic Bundle.tN "UNASSIGNED_STACK" Bundle.steD) && decide (w ≠ .laysStatic Bundle.tN "SUPPRESSED_SENTINEL" Bundle.listD)
def vx_at0 (own : String) (ic : Nat) (X : String) (names : List String) : List Cond := (Bundle.ownAtoms0 own ic X names).filter vx_no
def vx_atS (own : String) (ic : Nat) (X : String) (names : List String) : List Cond := (Bundle.ownAtoms own ic X names).filter vx_no
/-- a word that the tables alone decide, or a good one -/
def vx_ot (w : Cond) : Bool := w.onTables || goodWord w
theorem vx_ot_at {args a' : Array Value} {s U : State} {w : Cond} (hW : s.WarmedH U.vm) (hvm : s.vm = U.vm) (hg : vx_ot w = true) (h : w.before args s = true) : w.before a' U = true := by
  simp only [vx_ot, Bool.or_eq_true] at hg
  rcases hg with hg | hg
  · exact va_tabs hg hvm h
  · exact word_at hW (good_of_word hg) h
/-- a list's words: the good ones out of the method's own list, the others by premises of their own -/
theorem vx_hat {args : Array Value} {s : State} {L B : List Cond} (h1 : ∀ w ∈ L.filter goodWord, w.before args s = true) (h2 : ∀ w ∈ L.filter (fun w => !goodWord w), w ∈ B) (h3 : ∀ w ∈ B, w.before args s = true) : ∀ w ∈ L, w.before args s = true := by
  intro w hw
  by_cases g : goodWord w = true
  · exact h1 w (List.mem_filter.mpr ⟨hw, g⟩)
  · refine h3 w (h2 w (List.mem_filter.mpr ⟨hw, ?_⟩))
    show (!goodWord w) = true
    cases hgw : goodWord w
    · rfl
    · exact absurd hgw g
theorem vx_c {args : Array Value} {s : State} {w : Cond} {B : List Cond} (h : w.before args s = true) (t : ∀ w ∈ B, w.before args s = true) : ∀ w' ∈ w :: B, w'.before args s = true := fun w' h' => (List.mem_cons.mp h').elim (fun e => by rw [e]; exact h) (t w')
theorem vx_n {args : Array Value} {s : State} : ∀ w ∈ ([] : List Cond), w.before args s = true := fun _ h => nomatch h
theorem vx_own {args : Array Value} {s : State} {L : List Cond} (h1 : ∀ w ∈ L.filter vx_no, w.before args s = true)
    (hU : (Cond.isRef (.static Bundle.tN "UNASSIGNED_STACK" Bundle.steD)).before args s = true) (hN : (Cond.isRef (.static Bundle.tN "SUPPRESSED_SENTINEL" Bundle.listD)).before args s = true)
    (lU : (Cond.laysStatic Bundle.tN "UNASSIGNED_STACK" Bundle.steD).before args s = true) (lN : (Cond.laysStatic Bundle.tN "SUPPRESSED_SENTINEL" Bundle.listD).before args s = true) : ∀ w ∈ L, w.before args s = true := by
  intro w hw
  by_cases e1 : w = .isRef (.static Bundle.tN "UNASSIGNED_STACK" Bundle.steD)
  · rw [e1]; exact hU
  · by_cases e2 : w = .isRef (.static Bundle.tN "SUPPRESSED_SENTINEL" Bundle.listD)
    · rw [e2]; exact hN
    · by_cases e3 : w = .laysStatic Bundle.tN "UNASSIGNED_STACK" Bundle.steD
      · rw [e3]; exact lU
      · by_cases e4 : w = .laysStatic Bundle.tN "SUPPRESSED_SENTINEL" Bundle.listD
        · rw [e4]; exact lN
        · exact h1 w (List.mem_filter.mpr ⟨hw, by unfold vx_no; rw [decide_eq_true e1, decide_eq_true e2, decide_eq_true e3, decide_eq_true e4]; rfl⟩)
/-- where a static field lies, its class's statics cell in H -/
def vx_L (C n d : String) (A : Nat → Prop) (U : State) (H : Heap) : Prop := ∃ (c : ClassId) (k : Class) (i : Nat) (f : Field) (a : Nat) (cell : Cell), U.vm.findClass C = some c ∧ U.fieldFound? C n d = some (c, k, i, f) ∧ f.isStatic = true ∧ k.statics = some a ∧ H[a]? = some cell ∧ cell.vm.isStatics = true ∧ cell.cls = c ∧ f.slot < cell.slots.size ∧ k.staticTypes[f.slot]? = some f.type ∧ ¬ A a
theorem vx_L.moved {C n d : String} {A : Nat → Prop} {u U : State} {H : Heap} (hvm : u.vm.Alike U.vm) (h : vx_L C n d A u H) : vx_L C n d A U H := by
  obtain ⟨c, k, i, f, a, cell, h1, h2, h3, h4, h5, h6, h7, h8, h9, h10⟩ := h
  obtain ⟨k', hi', he⟩ := State.fieldFound?_setVm hvm h2
  exact ⟨c, k', i, f, a, cell, by rw [hvm.findClass]; exact h1, hi', h3, by rw [he]; exact h4, h5, h6, h7, h8, by rw [he]; exact h9, h10⟩
theorem vx_L.kept {C n d : String} {A : Nat → Prop} {U : State} {H H1 : Heap} (h : vx_L C n d A U H) (hq : ∀ a : Nat, a < H.size → ¬ A a → H1[a]? = H[a]?) : vx_L C n d A U H1 := by
  obtain ⟨c, k, i, f, a, cell, h1, h2, h3, h4, h5, h6, h7, h8, h9, h10⟩ := h
  exact ⟨c, k, i, f, a, cell, h1, h2, h3, h4, by rw [hq a (Array.getElem?_eq_some_iff.mp h5).1 h10]; exact h5, h6, h7, h8, h9, h10⟩
theorem vx_L.narrow {C n d : String} {A B : Nat → Prop} {U : State} {H : Heap} (h : vx_L C n d A U H) (hAB : ∀ q, B q → A q) : vx_L C n d B U H := by
  obtain ⟨c, k, i, f, a, cell, h1, h2, h3, h4, h5, h6, h7, h8, h9, h10⟩ := h
  exact ⟨c, k, i, f, a, cell, h1, h2, h3, h4, h5, h6, h7, h8, h9, fun z => h10 (hAB _ z)⟩
theorem vx_L.word {C n d : String} {A : Nat → Prop} {s : State} {args : Array Value} (h : vx_L C n d A s s.heap) : (Cond.laysStatic C n d).before args s = true := by
  obtain ⟨c, k, i, f, a, cell, h1, h2, h3, h4, h5, h6, h7, h8, h9, -⟩ := h
  show (Cond.laysStatic C n d).holds args s none s [] = true
  exact Cond.laysStatic_of h1 h2 h3 h4 h5 h6 h7 h8 h9
/-- .. and what it holds: null or some reference -/
def vx_Zq (C n d : String) (A : Nat → Prop) (U : State) (H : Heap) : Prop := va_Zq C n d A U H ∧ vx_L C n d A U H
theorem vx_Zq.moved {C n d : String} {A : Nat → Prop} {u U : State} {H : Heap} (hvm : u.vm.Alike U.vm) (h : vx_Zq C n d A u H) : vx_Zq C n d A U H := ⟨va_Zq.moved hvm h.1, vx_L.moved hvm h.2⟩
theorem vx_Zq.kept {C n d : String} {A : Nat → Prop} {U : State} {H H1 : Heap} (h : vx_Zq C n d A U H) (hq : ∀ a : Nat, a < H.size → ¬ A a → H1[a]? = H[a]?) : vx_Zq C n d A U H1 := ⟨va_Zq.kept h.1 hq, vx_L.kept h.2 hq⟩
theorem vx_Zq.narrow {C n d : String} {A B : Nat → Prop} {U : State} {H : Heap} (h : vx_Zq C n d A U H) (hAB : ∀ q, B q → A q) : vx_Zq C n d B U H := ⟨va_Zq.narrow h.1 hAB, vx_L.narrow h.2 hAB⟩
theorem vx_Zqof {args : Array Value} {s : State} {C n d : String} {A : Nat → Prop} (hl : (Cond.laysStatic C n d).before args s = true) (hini : (Cond.initialized C).before args s = true) (h : (Cond.isRef (.static C n d)).before args s = true) (hA : ∀ a : Nat, a < s.heap.size → ¬ A a) : vx_Zq C n d A s s.heap := by
  refine ⟨va_Zqof hl hini h hA, ?_⟩
  obtain ⟨c, k, i, f, a, cell, h1, h2, h3, h4, h5, h6, h7, h8, h9⟩ := Cond.laysStatic_spec hl
  exact ⟨c, k, i, f, a, cell, h1, h2, h3, h4, h5, h6, h7, h8, h9, hA a (Array.getElem?_eq_some_iff.mp h5).1⟩
theorem vx_isRef {C n d : String} {v : Value} {A : Nat → Prop} {s : State} {args : Array Value} (h : va_Z C n d v A s s.heap) (hv : v.isRef = true) : (Cond.isRef (.static C n d)).before args s = true := by
  obtain ⟨cf, kf, fi, f, a, cell, h1, h2, h3, h4, h5, h6, h7, -⟩ := h
  have he : (Term.static C n d).eval args s none [] s = some v := by
    simp [Term.eval, State.fieldNamed?, h1, h2, h4, h5, h6, h7]
  simp only [Cond.before, Cond.holds, Cond.value, he]
  cases v <;> simp_all [Value.isRef]
theorem vx_isRefq {C n d : String} {A : Nat → Prop} {s : State} {args : Array Value} (h : va_Zq C n d A s s.heap) : (Cond.isRef (.static C n d)).before args s = true := by
  rcases h with h | ⟨t, h⟩
  · exact vx_isRef h rfl
  · exact vx_isRef h rfl
/-- the same frame, seen from here: as if the method were called anew in this heap -/
theorem vx_rebase {T : State} (X : Stand p l e R s m args below meth c T locs cells slots) {R' : Room} (hf : R'.frames ≤ R.frames) (hl : R'.locals ≤ R.locals) (hc : cells + R'.cells ≤ R.cells) (hs : slots + R'.slots ≤ R.slots) :
    Stand p l e R' ((T.setVm s.vm).setFrames (.invoking m args :: below)) m args below meth c T [] 0 0 := by
  have htop : (T.setVm s.vm).topJava?.isSome := X.here.top
  have hF : ((T.setVm s.vm).setFrames (.invoking m args :: below)).frames = .invoking m args :: below := State.frames_setFrames _ (State.cur_lt_of_top htop)
  obtain ⟨g₀, hg0⟩ := Option.isSome_iff_exists.mp htop
  obtain ⟨r, hr⟩ := State.topJava?_eq_some.mp hg0
  have hl9 : e.platform.stackLimits (T.setVm s.vm).me = e.platform.stackLimits s.me := X.limits
  have hb9 : (T.setVm s.vm).me.stackBytes = s.me.stackBytes := X.bytes
  refine ⟨X.admits, X.cas, X.clock, hF, ?_, X.hears, X.method, X.code, X.here, X.tail, X.warmed, ?_, ?_, ?_⟩
  · have h := X.room
    have hU : ((T.setVm s.vm).setFrames (.invoking m args :: below)).localsInUse = s.localsInUse := by
      rw [State.localsInUse_invoking hF (meth := meth) (c := c) X.method X.code, State.localsInUse_invoking X.frames X.method X.code]
    simp only [State.hasRoom, Bool.and_eq_true, decide_eq_true_eq] at h ⊢
    obtain ⟨⟨⟨⟨h1, h2, h3, h4, h5, h6⟩, h7⟩, h8⟩, h9⟩ := h
    rw [X.frames, List.length_cons] at h2 h3
    have q1 := X.heapSize
    have q2 := X.used
    simp only [hF, hU, List.length_cons, State.stackLimits_setFrames, State.stackBytes_setFrames, hl9, hb9]
    refine ⟨⟨⟨⟨by omega, by omega, by omega, by omega, by omega, h6⟩, ?_⟩, ?_⟩, X.book⟩
    · show T.heap.size + R'.cells ≤ e.platform.maxCells
      omega
    · show T.slotsUsed + R'.slots ≤ e.platform.maxSlots
      omega
  · rw [State.stackLimits_setFrames]; rfl
  · rw [State.stackBytes_setFrames]; rfl
  · refine ⟨?_, Nat.le_refl _, Nat.le_refl _, ?_, ?_, fun a c9 h9 => ⟨c9, h9, rfl, rfl, fun _ _ => rfl⟩⟩
    · obtain ⟨t, ht, -⟩ := State.frames_cons hr
      show T.setVm s.vm = { ((T.setVm s.vm).setFrames (.invoking m args :: below)).setFrames (T.setVm s.vm).frames with heap := T.heap, slotsUsed := T.slotsUsed }
      rw [State.setFrames_setFrames, State.setFrames_self ht]
      rfl
    · show T.slotsUsed = T.slotsUsed + ((T.heap.toList.drop T.heap.size).map (·.slots.size)).sum
      rw [List.drop_eq_nil_of_le (Nat.le_of_eq Array.length_toList)]
      rfl
    · show ((T.heap.toList.drop T.heap.size).map (·.slots.size)).sum ≤ 0
      rw [List.drop_eq_nil_of_le (Nat.le_of_eq Array.length_toList)]
      exact Nat.le_refl _
/-- 'throw new E()': new; dup; invokespecial; athrow -/
theorem vx_throw0 {cc : ByteArray} {pc : Nat} (hexec : p.tables.exec = Jvm.exec) (hb : c.code = cc) (hl : l.stackTraces = false) {own cls : String} {names : List String} {ik ic mc ms : Nat} {A : Nat → Prop}
    (hown : s.vm.findClass own = some m.cls) (hcls : Bundle.fit cls = true) (hnames : ∀ n ∈ names, Bundle.fit n = true)
    (hk : (Cond.classLink own ik cls).before args s = true) (hini : (Cond.initialized cls).before args s = true) (hat : ∀ w ∈ vx_at0 own ic cls names, w.before args s = true)
    (hgood : ∀ w ∈ Cond.classLink own ik cls :: Cond.initialized cls :: vx_at0 own ic cls names, vx_ot w = true)
    (hU : vx_Zq Bundle.tN "UNASSIGNED_STACK" Bundle.steD A s s.heap) (hN : vx_Zq Bundle.tN "SUPPRESSED_SENTINEL" Bundle.listD A s s.heap) (hS : va_S A s.heap H locs) (hsize : ls.size = c.maxLocals)
    (d0 : decode cc pc = .ok (.new ik, 3)) (d3 : decode cc (pc + 3) = .ok (.dup, 1)) (d4 : decode cc (pc + 4) = .ok (.invokespecial ic, 3)) (d7 : decode cc (pc + 7) = .ok (.athrow, 1))
    (hout : ∀ x ∈ c.exceptionTable.toList, covers x (pc + 7) = false)
    (hRframes : names.length + 3 < R.frames) (hRlocals : (rest.map fun v => v.category).sum + (13 * (names.length + 1) + 42) ≤ R.locals) (hRcells : cells + 1 ≤ R.cells) (hRslots : slots + 6 ≤ R.slots) (hlocks : meth.locks = false)
    (hx : ∀ t : State, s.vm.Alike t.vm → H.size ≤ t.heap.size → (∀ q : Nat, q < H.size → t.heap[q]? = H[q]?) → XC cls s t)
    (hf : ∀ z ∈ locs, free z.base) (hc : cells + 1 ≤ mc) (hs : slots + 6 ≤ ms) :
    W p l e R s m args below meth c H locs cells slots (vx_MQ below Qc XC args s mc ms free) (F0 m pc ls rest) := by
  intro T hT X
  have htr : e.platform.stackTraces = false := (show e.platform.stackTraces = l.stackTraces by rw [X.admits.platform]).trans hl
  have Y := vx_rebase X (R' := { frames := R.frames, locals := R.locals, cells := 1, slots := 6 }) (Nat.le_refl _) (Nat.le_refl _) hRcells hRslots
  obtain ⟨s', hA⟩ : ∃ z, z = (T.setVm s.vm).setFrames (.invoking m args :: below) := ⟨_, rfl⟩
  rw [← hA] at Y
  have hvm : s'.vm = s.vm := by rw [hA]; rfl
  have hhp : s'.heap = H := by rw [hA]; exact hT
  have hW0 : s.WarmedH s'.vm := by rw [hvm]; exact State.WarmedH.refl s
  have hat' : ∀ w ∈ vx_at0 own ic cls names, w.before args s' = true := fun w hw => vx_ot_at hW0 hvm.symm (hgood w (List.mem_cons_of_mem _ (List.mem_cons_of_mem _ hw))) (hat w hw)
  have hk' : (Cond.classLink own ik cls).before args s' = true := vx_ot_at hW0 hvm.symm (hgood _ List.mem_cons_self) hk
  have hini' : (Cond.initialized cls).before args s' = true := vx_ot_at hW0 hvm.symm (hgood _ (List.mem_cons_of_mem _ List.mem_cons_self)) hini
  have hU' : vx_Zq Bundle.tN "UNASSIGNED_STACK" Bundle.steD A s' s'.heap := by rw [hhp]; exact vx_Zq.moved hW0.alike (hU.kept hS.2.1)
  have hN' : vx_Zq Bundle.tN "SUPPRESSED_SENTINEL" Bundle.listD A s' s'.heap := by rw [hhp]; exact vx_Zq.moved hW0.alike (hN.kept hS.2.1)
  have h : ∀ w ∈ Bundle.ownAtoms0 own ic cls names, w.before args s' = true := vx_own hat' (vx_isRefq hU'.1) (vx_isRefq hN'.1) hU'.2.word hN'.2.word
  have hown' : s'.vm.findClass own = some m.cls := by rw [hvm]; exact hown
  have hins : (Cond.instantiable cls 6).before args s' = true := h _ (by simp [Bundle.ownAtoms0])
  obtain ⟨vm₁, cX, kX, hfX, hkX, -, -, X₁, st1⟩ := Y.newCold hexec (own := own) (C := cls) (index := ik) (n := 6) hown' hk' hins hini'
    (g := F0 m pc ls rest) rfl (by rw [hb]; exact d0) (Nat.le_refl _) (Nat.le_refl _)
  generalize hT1 : (T.setVm vm₁).pushCell { cls := cX, slots := kX.instanceTypes.map defaultValue, vm := .none } = T1 at X₁ st1
  have hcat : (Value.ref T.heap.size).category = 1 := rfl
  have hcellA : T1.heap[T.heap.size]? = some (freshCell cX kX) := by rw [← hT1]; exact State.heap_pushCell_size _ _
  have d3' : decode c.code (pc + 3) = .ok (.dup, 1) := by rw [hb]; exact d3
  obtain ⟨U, hsteps, hrun, hend, hW, hsame, ce, hce, hO⟩ := X₁.ctorThrow0 hexec htr (own := own) (cls := cls) (names := names) (ic := ic) hown' hcls hnames h (fun x hx => nomatch hx) hfX hkX hcellA (by rw [hhp, hT]; exact Nat.le_refl _)
    (g := { method := m, pc := pc + 4, locals := ls, stack := .ref T.heap.size :: .ref T.heap.size :: rest, locked := none }) rfl hsize rfl rfl (rest := rest) rfl
    (by rw [hb]; exact d4) (by rw [hb]; exact d7) hout hRframes (by simp only [List.map_cons, List.sum_cons, hcat]; omega) hlocks
  obtain ⟨f1, f2⟩ := vx_frame hsame
  rw [hhp] at f1 f2
  have hWs : s.WarmedH U.vm := State.WarmedH.trans hW0 hW
  have hcl : s.vm.findClass cls = some ce.cls := by
    have h9 := hO.cls
    rw [hvm] at h9
    exact h9
  have hall : s.sameButNew ({ U with vm := s.vm } : State) locs mc ms := by
    subst hA
    obtain ⟨e1, e2⟩ := hsame
    rw [State.setFrames_setFrames] at e1
    have h2 : (T.setVm s.vm).sameButNew ({ U with vm := s.vm } : State) [] (0 + 1) (0 + 6) := ⟨e1, e2⟩
    have h3 := X.same.trans h2
    rw [List.append_nil] at h3
    exact h3.mono hc hs
  refine ⟨U, ?_, .threw T.heap.size, hrun, hend, Or.inr ⟨T.heap.size, rfl, cls, ce, locs, hx U hWs.alike f1 (fun q hq => f2 q hq (fun z hz => nomatch hz)), hce, hO.vm, hcl, hWs, hall, hf⟩⟩
  refine st1 _ ?_
  show Steps p.tables e below (T1.setTop { method := m, pc := pc + 3, locals := ls, stack := .ref T.heap.size :: rest, locked := none }) _
  jvm_step X₁.here [X₁.here.top, hexec, d3', Value.category]
  exact hsteps
/-- 'throw new E("text")': new; dup; ldc; invokespecial; athrow -/
theorem vx_throwS {cc : ByteArray} {pc : Nat} (hexec : p.tables.exec = Jvm.exec) (hb : c.code = cc) (hl : l.stackTraces = false) {own cls text : String} {names : List String} {ik is ic mc ms sa : Nat} {A : Nat → Prop}
    (hown : s.vm.findClass own = some m.cls) (hcls : Bundle.fit cls = true) (hnames : ∀ n ∈ names, Bundle.fit n = true)
    (hk : (Cond.classLink own ik cls).before args s = true) (hini : (Cond.initialized cls).before args s = true) (hstr : vk_R own is text sa s) (hat : ∀ w ∈ vx_atS own ic cls names, w.before args s = true)
    (hgood : ∀ w ∈ Cond.classLink own ik cls :: Cond.initialized cls :: vx_atS own ic cls names, vx_ot w = true)
    (hU : vx_Zq Bundle.tN "UNASSIGNED_STACK" Bundle.steD A s s.heap) (hN : vx_Zq Bundle.tN "SUPPRESSED_SENTINEL" Bundle.listD A s s.heap) (hS : va_S A s.heap H locs) (hsize : ls.size = c.maxLocals)
    (d0 : decode cc pc = .ok (.new ik, 3)) (d3 : decode cc (pc + 3) = .ok (.dup, 1)) (d4 : decode cc (pc + 4) = .ok (.ldc is, 2)) (d6 : decode cc (pc + 6) = .ok (.invokespecial ic, 3)) (d9 : decode cc (pc + 9) = .ok (.athrow, 1))
    (hout : ∀ x ∈ c.exceptionTable.toList, covers x (pc + 9) = false)
    (hRframes : names.length + 3 < R.frames) (hRlocals : (rest.map fun v => v.category).sum + (13 * (names.length + 1) + 43) ≤ R.locals) (hRcells : cells + 1 ≤ R.cells) (hRslots : slots + 6 ≤ R.slots) (hlocks : meth.locks = false)
    (hx : ∀ t : State, s.vm.Alike t.vm → H.size ≤ t.heap.size → (∀ q : Nat, q < H.size → t.heap[q]? = H[q]?) → XC cls s t)
    (hf : ∀ z ∈ locs, free z.base) (hc : cells + 1 ≤ mc) (hs : slots + 6 ≤ ms) :
    W p l e R s m args below meth c H locs cells slots (vx_MQ below Qc XC args s mc ms free) (F0 m pc ls rest) := by
  intro T hT X
  have htr : e.platform.stackTraces = false := (show e.platform.stackTraces = l.stackTraces by rw [X.admits.platform]).trans hl
  have Y := vx_rebase X (R' := { frames := R.frames, locals := R.locals, cells := 1, slots := 6 }) (Nat.le_refl _) (Nat.le_refl _) hRcells hRslots
  obtain ⟨s', hA⟩ : ∃ z, z = (T.setVm s.vm).setFrames (.invoking m args :: below) := ⟨_, rfl⟩
  rw [← hA] at Y
  have hvm : s'.vm = s.vm := by rw [hA]; rfl
  have hhp : s'.heap = H := by rw [hA]; exact hT
  have hW0 : s.WarmedH s'.vm := by rw [hvm]; exact State.WarmedH.refl s
  have hat' : ∀ w ∈ vx_atS own ic cls names, w.before args s' = true := fun w hw => vx_ot_at hW0 hvm.symm (hgood w (List.mem_cons_of_mem _ (List.mem_cons_of_mem _ hw))) (hat w hw)
  have hk' : (Cond.classLink own ik cls).before args s' = true := vx_ot_at hW0 hvm.symm (hgood _ List.mem_cons_self) hk
  have hini' : (Cond.initialized cls).before args s' = true := vx_ot_at hW0 hvm.symm (hgood _ (List.mem_cons_of_mem _ List.mem_cons_self)) hini
  have hU' : vx_Zq Bundle.tN "UNASSIGNED_STACK" Bundle.steD A s' s'.heap := by rw [hhp]; exact vx_Zq.moved hW0.alike (hU.kept hS.2.1)
  have hN' : vx_Zq Bundle.tN "SUPPRESSED_SENTINEL" Bundle.listD A s' s'.heap := by rw [hhp]; exact vx_Zq.moved hW0.alike (hN.kept hS.2.1)
  have h : ∀ w ∈ Bundle.ownAtoms own ic cls names, w.before args s' = true := vx_own hat' (vx_isRefq hU'.1) (vx_isRefq hN'.1) hU'.2.word hN'.2.word
  have hown' : s'.vm.findClass own = some m.cls := by rw [hvm]; exact hown
  have hins : (Cond.instantiable cls 6).before args s' = true := h _ (by simp [Bundle.ownAtoms])
  obtain ⟨vm₁, cX, kX, hfX, hkX, -, -, X₁, st1⟩ := Y.newCold hexec (own := own) (C := cls) (index := ik) (n := 6) hown' hk' hins hini'
    (g := F0 m pc ls rest) rfl (by rw [hb]; exact d0) (Nat.le_refl _) (Nat.le_refl _)
  generalize hT1 : (T.setVm vm₁).pushCell { cls := cX, slots := kX.instanceTypes.map defaultValue, vm := .none } = T1 at X₁ st1
  have hcat : (Value.ref T.heap.size).category = 1 := rfl
  have hcellA : T1.heap[T.heap.size]? = some (freshCell cX kX) := by rw [← hT1]; exact State.heap_pushCell_size _ _
  have d3' : decode c.code (pc + 3) = .ok (.dup, 1) := by rw [hb]; exact d3
  have d4' : decode c.code (pc + 4) = .ok (.ldc is, 2) := by rw [hb]; exact d4
  have hstr' : vk_R own is text sa s' := vk_R.warm hW0 hstr
  obtain ⟨U, hsteps, hrun, hend, hW, hsame, ce, hce, hO⟩ := X₁.ctorThrowS hexec htr (own := own) (cls := cls) (names := names) (ic := ic) hown' hcls hnames h (fun x hx => nomatch hx) hfX hkX hcellA (by rw [hhp, hT]; exact Nat.le_refl _) (msg := .ref sa) rfl
    (g := { method := m, pc := pc + 6, locals := ls, stack := .ref sa :: .ref T.heap.size :: .ref T.heap.size :: rest, locked := none }) rfl hsize rfl rfl (rest := rest) rfl
    (by rw [hb]; exact d6) (by rw [hb]; exact d9) hout hRframes (by simp only [List.map_cons, List.sum_cons, hcat]; omega) hlocks
  obtain ⟨f1, f2⟩ := vx_frame hsame
  rw [hhp] at f1 f2
  have hWs : s.WarmedH U.vm := State.WarmedH.trans hW0 hW
  have hcl : s.vm.findClass cls = some ce.cls := by
    have h9 := hO.cls
    rw [hvm] at h9
    exact h9
  have hall : s.sameButNew ({ U with vm := s.vm } : State) locs mc ms := by
    subst hA
    obtain ⟨e1, e2⟩ := hsame
    rw [State.setFrames_setFrames] at e1
    have h2 : (T.setVm s.vm).sameButNew ({ U with vm := s.vm } : State) [] (0 + 1) (0 + 6) := ⟨e1, e2⟩
    have h3 := X.same.trans h2
    rw [List.append_nil] at h3
    exact h3.mono hc hs
  refine ⟨U, ?_, .threw T.heap.size, hrun, hend, Or.inr ⟨T.heap.size, rfl, cls, ce, locs, hx U hWs.alike f1 (fun q hq => f2 q hq (fun z hz => nomatch hz)), hce, hO.vm, hcl, hWs, hall, hf⟩⟩
  refine st1 _ ?_
  show Steps p.tables e below (T1.setTop { method := m, pc := pc + 3, locals := ls, stack := .ref T.heap.size :: rest, locked := none }) _
  jvm_step X₁.here [X₁.here.top, hexec, d3', Value.category]
  exact X₁.ldcString hexec (own := own) (text := text) (index := is) (a := sa) hown' hstr'.1 hstr'.2
    (g := { method := m, pc := pc + 4, locals := ls, stack := .ref T.heap.size :: .ref T.heap.size :: rest, locked := none }) rfl d4' _ hsteps
/-- 'throw new E("text")', the text by a wide index -/
theorem vx_throwSW {cc : ByteArray} {pc : Nat} (hexec : p.tables.exec = Jvm.exec) (hb : c.code = cc) (hl : l.stackTraces = false) {own cls text : String} {names : List String} {ik is ic mc ms sa : Nat} {A : Nat → Prop}
    (hown : s.vm.findClass own = some m.cls) (hcls : Bundle.fit cls = true) (hnames : ∀ n ∈ names, Bundle.fit n = true)
    (hk : (Cond.classLink own ik cls).before args s = true) (hini : (Cond.initialized cls).before args s = true) (hstr : vk_R own is text sa s) (hat : ∀ w ∈ vx_atS own ic cls names, w.before args s = true)
    (hgood : ∀ w ∈ Cond.classLink own ik cls :: Cond.initialized cls :: vx_atS own ic cls names, vx_ot w = true)
    (hU : vx_Zq Bundle.tN "UNASSIGNED_STACK" Bundle.steD A s s.heap) (hN : vx_Zq Bundle.tN "SUPPRESSED_SENTINEL" Bundle.listD A s s.heap) (hS : va_S A s.heap H locs) (hsize : ls.size = c.maxLocals)
    (d0 : decode cc pc = .ok (.new ik, 3)) (d3 : decode cc (pc + 3) = .ok (.dup, 1)) (d4 : decode cc (pc + 4) = .ok (.ldc_w is, 3)) (d7 : decode cc (pc + 7) = .ok (.invokespecial ic, 3)) (d10 : decode cc (pc + 10) = .ok (.athrow, 1))
    (hout : ∀ x ∈ c.exceptionTable.toList, covers x (pc + 10) = false)
    (hRframes : names.length + 3 < R.frames) (hRlocals : (rest.map fun v => v.category).sum + (13 * (names.length + 1) + 43) ≤ R.locals) (hRcells : cells + 1 ≤ R.cells) (hRslots : slots + 6 ≤ R.slots) (hlocks : meth.locks = false)
    (hx : ∀ t : State, s.vm.Alike t.vm → H.size ≤ t.heap.size → (∀ q : Nat, q < H.size → t.heap[q]? = H[q]?) → XC cls s t)
    (hf : ∀ z ∈ locs, free z.base) (hc : cells + 1 ≤ mc) (hs : slots + 6 ≤ ms) :
    W p l e R s m args below meth c H locs cells slots (vx_MQ below Qc XC args s mc ms free) (F0 m pc ls rest) := by
  intro T hT X
  have htr : e.platform.stackTraces = false := (show e.platform.stackTraces = l.stackTraces by rw [X.admits.platform]).trans hl
  have Y := vx_rebase X (R' := { frames := R.frames, locals := R.locals, cells := 1, slots := 6 }) (Nat.le_refl _) (Nat.le_refl _) hRcells hRslots
  obtain ⟨s', hA⟩ : ∃ z, z = (T.setVm s.vm).setFrames (.invoking m args :: below) := ⟨_, rfl⟩
  rw [← hA] at Y
  have hvm : s'.vm = s.vm := by rw [hA]; rfl
  have hhp : s'.heap = H := by rw [hA]; exact hT
  have hW0 : s.WarmedH s'.vm := by rw [hvm]; exact State.WarmedH.refl s
  have hat' : ∀ w ∈ vx_atS own ic cls names, w.before args s' = true := fun w hw => vx_ot_at hW0 hvm.symm (hgood w (List.mem_cons_of_mem _ (List.mem_cons_of_mem _ hw))) (hat w hw)
  have hk' : (Cond.classLink own ik cls).before args s' = true := vx_ot_at hW0 hvm.symm (hgood _ List.mem_cons_self) hk
  have hini' : (Cond.initialized cls).before args s' = true := vx_ot_at hW0 hvm.symm (hgood _ (List.mem_cons_of_mem _ List.mem_cons_self)) hini
  have hU' : vx_Zq Bundle.tN "UNASSIGNED_STACK" Bundle.steD A s' s'.heap := by rw [hhp]; exact vx_Zq.moved hW0.alike (hU.kept hS.2.1)
  have hN' : vx_Zq Bundle.tN "SUPPRESSED_SENTINEL" Bundle.listD A s' s'.heap := by rw [hhp]; exact vx_Zq.moved hW0.alike (hN.kept hS.2.1)
  have h : ∀ w ∈ Bundle.ownAtoms own ic cls names, w.before args s' = true := vx_own hat' (vx_isRefq hU'.1) (vx_isRefq hN'.1) hU'.2.word hN'.2.word
  have hown' : s'.vm.findClass own = some m.cls := by rw [hvm]; exact hown
  have hins : (Cond.instantiable cls 6).before args s' = true := h _ (by simp [Bundle.ownAtoms])
  obtain ⟨vm₁, cX, kX, hfX, hkX, -, -, X₁, st1⟩ := Y.newCold hexec (own := own) (C := cls) (index := ik) (n := 6) hown' hk' hins hini'
    (g := F0 m pc ls rest) rfl (by rw [hb]; exact d0) (Nat.le_refl _) (Nat.le_refl _)
  generalize hT1 : (T.setVm vm₁).pushCell { cls := cX, slots := kX.instanceTypes.map defaultValue, vm := .none } = T1 at X₁ st1
  have hcat : (Value.ref T.heap.size).category = 1 := rfl
  have hcellA : T1.heap[T.heap.size]? = some (freshCell cX kX) := by rw [← hT1]; exact State.heap_pushCell_size _ _
  have d3' : decode c.code (pc + 3) = .ok (.dup, 1) := by rw [hb]; exact d3
  have d4' : decode c.code (pc + 4) = .ok (.ldc_w is, 3) := by rw [hb]; exact d4
  have hstr' : vk_R own is text sa s' := vk_R.warm hW0 hstr
  obtain ⟨U, hsteps, hrun, hend, hW, hsame, ce, hce, hO⟩ := X₁.ctorThrowS hexec htr (own := own) (cls := cls) (names := names) (ic := ic) hown' hcls hnames h (fun x hx => nomatch hx) hfX hkX hcellA (by rw [hhp, hT]; exact Nat.le_refl _) (msg := .ref sa) rfl
    (g := { method := m, pc := pc + 7, locals := ls, stack := .ref sa :: .ref T.heap.size :: .ref T.heap.size :: rest, locked := none }) rfl hsize rfl rfl (rest := rest) rfl
    (by rw [hb]; exact d7) (by rw [hb]; exact d10) hout hRframes (by simp only [List.map_cons, List.sum_cons, hcat]; omega) hlocks
  obtain ⟨f1, f2⟩ := vx_frame hsame
  rw [hhp] at f1 f2
  have hWs : s.WarmedH U.vm := State.WarmedH.trans hW0 hW
  have hcl : s.vm.findClass cls = some ce.cls := by
    have h9 := hO.cls
    rw [hvm] at h9
    exact h9
  have hall : s.sameButNew ({ U with vm := s.vm } : State) locs mc ms := by
    subst hA
    obtain ⟨e1, e2⟩ := hsame
    rw [State.setFrames_setFrames] at e1
    have h2 : (T.setVm s.vm).sameButNew ({ U with vm := s.vm } : State) [] (0 + 1) (0 + 6) := ⟨e1, e2⟩
    have h3 := X.same.trans h2
    rw [List.append_nil] at h3
    exact h3.mono hc hs
  refine ⟨U, ?_, .threw T.heap.size, hrun, hend, Or.inr ⟨T.heap.size, rfl, cls, ce, locs, hx U hWs.alike f1 (fun q hq => f2 q hq (fun z hz => nomatch hz)), hce, hO.vm, hcl, hWs, hall, hf⟩⟩
  refine st1 _ ?_
  show Steps p.tables e below (T1.setTop { method := m, pc := pc + 3, locals := ls, stack := .ref T.heap.size :: rest, locked := none }) _
  jvm_step X₁.here [X₁.here.top, hexec, d3', Value.category]
  exact X₁.ldcStringW hexec (own := own) (text := text) (index := is) (a := sa) hown' hstr'.1 hstr'.2
    (g := { method := m, pc := pc + 4, locals := ls, stack := .ref T.heap.size :: .ref T.heap.size :: rest, locked := none }) rfl d4' _ hsteps
end Ends
section Bodies
variable {l : Launch}
theorem vx_ofW {y : MethodName} {ws ws' : List Cond} {rm : Room} {Pc : Array Value → State → Prop} {Qc : Array Value → State → Outcome → State → Prop} {XC : String → State → State → Prop} {mc ms : Nat} {free : Addr → Prop} {cc : ByteArray} {maxL : Nat} {ret : Option FieldType}
    (hy : plainName y.cls = true) (hw : ws = Cond.code y cc maxL ret :: ws')
    (body : ∀ p e s m args below meth c s₁, BodyLoose p l y (headSpec ws rm) cc maxL ret e s m args below meth c s₁ → c.maxLocals = maxL → (∀ x ∈ c.exceptionTable.toList, False) → Pc args s →
      W p l e (headSpec ws rm).room s m args below meth c s.heap [] 0 0 (vx_MQ below Qc XC args s mc ms free) (entryFrame m args maxL)) : vx_Met l y ws rm Pc Qc XC mc ms free := by
  refine MetFree.of_bodyS (code := cc) (maxLocals := maxL) (ret := ret) hy ?_ ?_
  · intro args s m h hn
    obtain ⟨meth, c, h1, h2, h3, h4, h5, h6, -, -⟩ := Cond.code_spec hn (atoms_spec (ws := ws) h _ (by rw [hw]; exact List.mem_cons_self))
    exact ⟨meth, c, h1, h2, h3, h4, h5, h6⟩
  · intro p e s m args below meth c s₁ B hml hP _
    have hh0 : s₁.heap = s.heap := by rw [B.state]; rfl
    have ht : ∀ x ∈ c.exceptionTable.toList, False := by
      obtain ⟨meth9, c9, h1, h2, -, -, -, -, h7, -⟩ := Cond.code_spec B.named (atoms_spec (ws := ws) B.pre _ (by rw [hw]; exact List.mem_cons_self))
      cases Option.some.inj (h1.symm.trans B.method)
      cases Option.some.inj (h2.symm.trans (Stand.of_body B).code)
      intro x hx
      rw [Array.isEmpty_iff.mp h7] at hx
      cases hx
    obtain ⟨t, a1, o, b1, b2, b3⟩ := body p e s m args below meth c s₁ B hml ht hP s₁ hh0 (Stand.of_body B)
    exact ⟨t, o, a1, b1, b2, b3⟩
/-- the table of a body with handlers -/
theorem vx_table {p : Program} {x y : MethodName} {S : Spec} {cc bytes : ByteArray} {maxL maxL' : Nat} {ret ret' : Option FieldType} {e : Env} {s s₁ : State} {m : MethodId} {args : Array Value} {below : List Frame} {meth : Method} {c : Code} {hh : List (Nat × Nat × Nat × Nat)}
    (B : BodyLoose p l y S cc maxL ret e s m args below meth c s₁) (h : (Cond.codeWith y bytes maxL' ret' hh).before args s = true) : c.exceptionTable.toList = tableOf hh := by
  obtain ⟨m9, meth9, c9, hn9, h1, h2, -, -, h6, -⟩ := Cond.codeWith_spec h
  cases Option.some.inj (hn9.symm.trans B.named)
  cases Option.some.inj (h1.symm.trans B.method)
  cases Option.some.inj (h2.symm.trans (Stand.of_body B).code)
  rw [← h6, table_eq]
end Bodies
end VXA
/-! ===== END ===== -/
/-! ===== BEGIN a static call of a method with an exception table ===== -/
section VXS
variable {p : Program} {l : Launch} {e : Env} {R : Room} {s : State} {m : MethodId} {args : Array Value} {below : List Frame} {meth : Method} {c : Code} {T : State} {H : Heap} {locs : List Loc} {cells slots : Nat}
abbrev vx_CSW (R : Room) (s : State) (args : Array Value) (own : String) (index : Nat) (y : MethodName) (bytes : ByteArray) (maxL : Nat) (ret : Option FieldType) (hh : List (Nat × Nat × Nat × Nat)) (ws : List Cond) (rm : Room) (mc ms n : Nat) : Prop :=
  (rm.cells = mc ∧ rm.slots = ms ∧ rm.frames + 1 ≤ R.frames ∧ 8 + (maxL + 11) + rm.locals ≤ R.locals ∧ (∀ w ∈ ws, ∀ (a' : Array Value) (U : State), s.WarmedH U.vm → w.before a' U = true) ∧ Cond.codeWith y bytes maxL ret hh ∈ ws) ∧
  (Cond.codeWith y bytes maxL ret hh).before args s = true ∧ (Cond.initialized y.cls).before args s = true ∧ (y.cls ≠ "java/lang/invoke/MethodHandle" ∧ y.cls ≠ "java/lang/invoke/VarHandle") ∧
  (∀ sig, parseMethodDescriptor y.desc = some sig → n = sig.parameters.length) ∧ (Cond.methodLink own index y).before args s = true ∧ (Cond.static y).before args s = true
theorem vx_cwSW {own : String} {index maxL mc ms : Nat} {y : MethodName} {bytes : ByteArray} {ret : Option FieldType} {hh : List (Nat × Nat × Nat × Nat)} {Ts ws ws' : List Cond} {rm : Room} (n : Nat) (ht : ∀ w ∈ Ts, w.before args s = true) (hT : GoodIn Ts (va_wsS own index y ws)) (hw : ws = Cond.codeWith y bytes maxL ret hh :: ws') (hrc : rm.cells = mc) (hrs : rm.slots = ms)
    (hd : y.cls ≠ "java/lang/invoke/MethodHandle" ∧ y.cls ≠ "java/lang/invoke/VarHandle" ∧ (parseMethodDescriptor y.desc).map (fun d => d.parameters.length) = some n) (hR : rm.frames + 1 ≤ R.frames ∧ 8 + (maxL + 11) + rm.locals ≤ R.locals) :
    vx_CSW R s args own index y bytes maxL ret hh ws rm mc ms n := by
  have ok : ∀ w ∈ va_wsS own index y ws, w.before args s = true := fun w h => ht w (hT w h).1
  have hG : GoodIn Ts ws := fun w h => hT w (by unfold va_wsS; exact List.mem_append_right _ h)
  have hc : Cond.codeWith y bytes maxL ret hh ∈ ws := by rw [hw]; exact List.mem_cons_self
  refine ⟨⟨hrc, hrs, hR.1, hR.2, pay_in ht hG, hc⟩, ht _ (hG _ hc).1, ok _ (by simp [va_wsS]), ⟨hd.1, hd.2.1⟩, fun sig h => ?_, ok _ (by simp [va_wsS]), ok _ (by simp [va_wsS])⟩
  have h2 := hd.2.2
  rw [h] at h2
  exact (Option.some.inj h2).symm
theorem vx_callSW (X : Stand p l e R s m args below meth c T locs cells slots) (hexec : p.tables.exec = Jvm.exec) {own : String} {index : Nat} {y : MethodName} {bytes : ByteArray} {maxL : Nat} {ret : Option FieldType} {hh : List (Nat × Nat × Nat × Nat)}
    (hown : s.vm.findClass own = some m.cls) (hlink : (Cond.methodLink own index y).before args s = true) (hstat : (Cond.static y).before args s = true) (hinit : (Cond.initialized y.cls).before args s = true)
    (hcode : (Cond.codeWith y bytes maxL ret hh).before args s = true) (hy : y.cls ≠ "java/lang/invoke/MethodHandle" ∧ y.cls ≠ "java/lang/invoke/VarHandle")
    {W9 : Nat} {Pre : Pt → Array Value → Prop} {Post : Pt → Array Value → Option Value → Pt → Prop} (hK : Back l R p e below s args y 3 W9 Pre Post)
    {g : JFrame} (hg : g.method = m) (hsize : g.locals.size = c.maxLocals) {argsL rest : List Value} (hlen : ∀ sig, parseMethodDescriptor y.desc = some sig → argsL.length = sig.parameters.length)
    (hstack : g.stack = argsL.reverse ++ rest) (hW : 2 * g.monitorRoom + (rest.map fun v => v.category).sum ≤ W9) (hdg : decode c.code g.pc = .ok (.invokestatic index, 3))
    (hpre : ∀ vm₁, s.WarmedH vm₁ → Pre ⟨T.setVm vm₁, locs, cells, slots⟩ argsL.toArray) :
    ∃ (v : Option Value) (vm₁ : Vm) (B : Pt), s.WarmedH vm₁ ∧ Stand p l e R s m args below meth c B.U B.locs B.cells B.slots ∧ Post ⟨T.setVm vm₁, locs, cells, slots⟩ argsL.toArray v B ∧
      ∀ target, Steps p.tables e below (B.U.setTop { g with pc := g.pc + 3, stack := v.toList ++ rest }) target → Steps p.tables e below (T.setTop g) target := by
  obtain ⟨mk, methM, cM, hnamed, hmethM, -, -, -, -, -, -, hsigM⟩ := Cond.codeWith_spec hcode
  have hstatic : methM.isStatic = true := Cond.static_spec hnamed hmethM hstat
  obtain ⟨kP, hkP, -⟩ := className_of_methodNamed hnamed
  have hinitP : kP.init = .initialized := Cond.initialized_spec (findClass_of_methodNamed hnamed) hkP hinit
  obtain ⟨vm₁, X₁, hstep₁⟩ := X.invokestatic hexec hown hlink hnamed hmethM hstatic hkP hinitP hy (g := g) hg (argsL := argsL) (rest := rest) (hlen _ hsigM) hstack hdg
  obtain ⟨v, B, X', hpost, hsteps⟩ := hK m meth c ⟨T.setVm vm₁, locs, cells, slots⟩ { g with stack := rest } (.invokestatic index) mk argsL.toArray X₁ hg hsize hdg hW (X₁.named hnamed) (hpre vm₁ X₁.warmed)
  exact ⟨v, vm₁, B, X₁.warmed, X', hpost, fun target h => hstep₁ _ fun acts => by rw [doInvoke_state]; exact hsteps.trans h⟩
theorem vx_runSW {y : MethodName} {bytes cc : ByteArray} {maxL nL mc ms n index : Nat} {ret : Option FieldType} {hh : List (Nat × Nat × Nat × Nat)} {ws : List Cond} {rm : Room} {Pc : Array Value → State → Prop} {Qc : Array Value → State → Outcome → State → Prop} {free : Addr → Prop} {Ts : List Cond} {own : String} {As rest : List Value} {g : JFrame}
    (S : CallFix p m c cc nL s args Ts own) (hM : Met l y ws rm Pc Qc mc ms free) (cw : vx_CSW R s args own index y bytes maxL ret hh ws rm mc ms n) (hp : PreS s H Pc As)
    (hg : g.method = m) (hn : As.length = n) (hsize : g.locals.size = nL) (hstack : g.stack = As.reverse ++ rest) (hW : 2 * g.monitorRoom + (rest.map fun v => v.category).sum ≤ 8) (hdg : decode cc g.pc = .ok (.invokestatic index, 3)) (hf : cells + mc ≤ R.cells ∧ slots + ms ≤ R.slots) :
    va_Run p l e R s m args below meth c H locs cells slots mc ms g rest (Qc As.toArray) (free) := by
  obtain ⟨⟨hrc, hrs, hfr, hlo, hws, hcw⟩, hcode, hini, hy, hlen, hl, hstt⟩ := cw
  have hK : Back l R p e below s args y 3 8 (PreOf R mc ms Pc) (PostOf Qc mc ms free) := va_backW (hh := hh) (bytes := bytes) (maxL := maxL) (ret := ret) hM hp.1 hrc hrs hfr hlo hws hcw (fun a' U hW => word_at hW (Or.inl (by first | rfl | simp [Cond.onTables, Cond.keeps, Cond.steady])) hini)
  obtain ⟨hx, hb, hml, ho, -⟩ := S
  intro T hT X
  obtain ⟨v, vm₁, ⟨U', l2, c2, s2⟩, hW₁, X', ⟨g', mk, t, L, e1, e2, hq, h1, hL, h2, h3⟩, st⟩ := vx_callSW X hx (hh := hh) (bytes := bytes) (maxL := maxL) (ret := ret) ho hl hstt hini hcode hy hK hg (hsize.trans hml.symm) (argsL := As) (rest := rest) (fun sig h => hn.trans (hlen sig h)) hstack hW (by rw [hb]; exact hdg)
    (fun vm₁ hW₁ => ⟨hf.1, hf.2, hp.2 (T.setVm vm₁) hT hW₁⟩)
  dsimp only [Pt.U, Pt.locs, Pt.cells, Pt.slots] at X' e1 e2 h1 h2 h3 st
  subst h1; subst h2; subst h3
  exact ⟨v, (T.setVm vm₁).calling g' mk As.toArray, t, U', L, hT, X', hL, e1, e2, hq, st⟩
/-- not caught here, past rows that name other classes: it goes on to the caller -/
theorem vx_outP {p : Program} {l : Launch} {e : Env} {R : Room} {s : State} {m : MethodId} {args : Array Value} {below : List Frame} {meth : Method} {c : Code} {H : Heap} {locs : List Loc} {cells slots : Nat} {free : Addr → Prop} {ls : Array Slot} {rest : List Value} {Qc : Array Value → State → Outcome → State → Prop} {XC : String → State → State → Prop}
    {pc : Nat} {own E : String} {ce : Cell} {q : Addr} {mc ms : Nat} (hown : s.vm.findClass own = some m.cls) (hlocks : meth.locks = false)
    (hpass : ∀ z ∈ c.exceptionTable.toList, covers z pc = false ∨ (z.catchType ≠ 0 ∧ ∃ nm : String, (Cond.classLink own z.catchType nm).before args s = true ∧ va_Nc E nm s)) (hcell : H[q]? = some ce) (hv : ce.vm = .none) (hcl : s.vm.findClass E = some ce.cls)
    (hx : ∀ t : State, t.heap = H → s.vm.Alike t.vm → XC E s t) (hf : ∀ z ∈ locs, free z.base) (hc : cells ≤ mc) (hs : slots ≤ ms) :
    vx_W p l e R s m args below meth c H locs cells slots (vx_MQ below Qc XC args s mc ms free) (F0 m pc ls rest) q := by
  intro T hT X
  have hpl : e.platform.magicAccessors = ({} : Platform).magicAccessors := by rw [X.admits.platform]
  obtain ⟨vm', hW', X', st⟩ := X.outThrough hlocks q (g := F0 m pc ls rest) rfl rfl rfl (cell := ce) (by rw [hT]; exact hcell) (by rw [hv]; rfl)
    (by obtain ⟨k9, h9, -⟩ := Vm.findClass_spec hcl; exact ⟨k9, h9⟩) (fun z hz => by
      rcases hpass z hz with h | ⟨hz0, nm, hl1, hn1⟩
      · exact Or.inl h
      · obtain ⟨c6, hc6, hcl6⟩ := Cond.classLink_spec hown hl1 e.platform hpl
        obtain ⟨a8, b8, h1, h2, h3⟩ := hn1
        cases Option.some.inj (h1.symm.trans hcl)
        cases Option.some.inj (h2.symm.trans hc6)
        exact Or.inr ⟨hz0, _, hcl6, h3⟩)
  obtain ⟨g₀, hfr⟩ := X'.frames_eq
  have hcell9 : ((T.setVm vm').setFrames (.throwing q :: below)).heap[q]? = some ce := by
    show T.heap[q]? = some ce
    rw [hT]; exact hcell
  have hend : Ended ((T.setVm vm').setFrames (.throwing q :: below)) below (.threw q) := State.frames_setFrames _ (State.cur_lt_of_frames hfr)
  refine ⟨(T.setVm vm').setFrames (.throwing q :: below), ?_, .threw q, X'.here.running, hend, Or.inr ⟨q, rfl, E, ce, locs, hx _ hT (X'.ends _).1.alike, hcell9, hv, hcl, (X'.ends _).1, (X'.ends _).2.mono hc hs, hf⟩⟩
  rw [X.pushThrowing_eq]
  exact st
/-- a thing of a world lies in the heap -/
theorem vx_lt {D : va_G} {cl : List vw_C} {ws : va_W} {H1 : Heap} (h : va_P D cl ws H1) {k : Nat} {q : Nat × va_E} (hk : ws[k]? = some q) : q.1 < H1.size := (h k q hk).lt
end VXS
/-! ===== END ===== -/
/-! ===== BEGIN methods with a table of their own: called by a name, returning or throwing ===== -/
section VXH
/-! vx_backW, vx_callVX, vx_callSX, vx_callVW, vx_runVW, vx_runVX, vx_runSX, vx_ofWH follow the same proofs as their sisters above (Free/Laws.lean, Shelf42/LK1.lean); vx_outP calls Shelf42/NT130.lean (outThrough). -/
section
variable {l : Launch} {R : Room} {p : Program} {e : Env} {below : List Frame} {s : State} {sargs : Array Value} {y : MethodName} {len W9 : Nat}
theorem vx_backW {ws : List Cond} {rm : Room} {Pc : Array Value → State → Prop} {Qc : Array Value → State → Outcome → State → Prop} {XC : String → State → State → Prop} {mc ms : Nat} {free : Addr → Prop} {bytes : ByteArray} {maxL : Nat} {ret : Option FieldType} {hh : List (Nat × Nat × Nat × Nat)}
    (hM : vx_Met l y ws rm Pc Qc XC mc ms free) (hblind : FrameBlind Pc) (hrc : rm.cells = mc) (hrs : rm.slots = ms)
    (hframes : rm.frames + 1 ≤ R.frames) (hlocals : W9 + (maxL + 11) + rm.locals ≤ R.locals)
    (hws : ∀ w ∈ ws, ∀ a' U, s.WarmedH U.vm → w.before a' U = true) (hcode : Cond.codeWith y bytes maxL ret hh ∈ ws) (hinit : ∀ a' U, s.WarmedH U.vm → (Cond.initialized y.cls).before a' U = true) :
    vx_Back l R p e below s sargs y len W9 (PreOf R mc ms Pc) (PostOf Qc mc ms free) (vx_Post XC mc ms free) := by
  intro m meth c A g ig mk a X hg hsize hdg hW hn hp
  have h1 : (headSpec ws rm).pre.before a A.U = true := atoms_intro fun w hw => hws w hw _ _ X.warmed
  have h2 : (Cond.codeWith y bytes maxL ret hh).before a A.U = true := hws _ hcode _ _ X.warmed
  have h3 : (Cond.initialized y.cls).before a A.U = true := hinit _ _ X.warmed
  have h4 : A.cells + (headSpec ws rm).room.cells ≤ R.cells := by rw [show (headSpec ws rm).room.cells = mc from hrc]; exact hp.1
  have h5 : A.slots + (headSpec ws rm).room.slots ≤ R.slots := by rw [show (headSpec ws rm).room.slots = ms from hrs]; exact hp.2.1
  have hPc : Pc a (A.U.calling g mk a) := hblind _ _ _ _ hp.2.2
  obtain ⟨U, Ls, c0, s0⟩ := A
  dsimp only [Pt.U, Pt.locs, Pt.cells, Pt.slots] at h1 h2 h3 h4 h5 X hn hPc ⊢
  obtain ⟨m9, methY, cY, hn9, hmY, hcY, -, hlY, -⟩ := Cond.codeWith_spec h2
  cases Option.some.inj (hn9.symm.trans hn)
  obtain ⟨kY, hkY, -⟩ := className_of_methodNamed hn
  have hinitY : kY.init = .initialized := Cond.initialized_spec (findClass_of_methodNamed hn) hkY h3
  have h : At U g.method c below := by rw [hg]; exact X.here
  have hlocals9 : W9 + (maxL + 11) + (headSpec ws rm).room.locals ≤ R.locals := hlocals
  have happ : (headSpec ws rm).appliesLoose y e.platform (U.calling g mk a) = true :=
    Spec.appliesLoose_calling (g := g) h hdg hn hkY hinitY
      (X.room_calling (g := g) (R' := (headSpec ws rm).room) hsize hmY hcY hframes (by rw [hlY]; omega) h4 h5) h1
  obtain ⟨mid, hmid⟩ := h.above
  have hfr : (U.setTop g).frames = (.java g :: mid) ++ below := by rw [State.frames_setTop' g h.top, hmid]; rfl
  obtain ⟨o, s₂, hsteps, -, hend, hq⟩ := Steps.callFree hM p X.admits X.cas X.clock (acts := []) hfr happ hPc trivial
  have hq' : vx_Q Qc XC mc ms free a (U.calling g mk a) o s₂ := hq
  rw [State.frames_setTop' g h.top] at hend
  obtain ⟨g₀, hg0⟩ := Option.isSome_iff_exists.mp h.top
  obtain ⟨r, hr⟩ := State.topJava?_eq_some.mp hg0
  have hr' : (({ U with heap := s₂.heap, slotsUsed := s₂.slotsUsed } : State).setVm s₂.vm).frames = .java g₀ :: r := hr
  rcases hq' with ⟨hqc, L, hfe, hL⟩ | ⟨q, rfl, E, ce, L, hx, hce, hcv, hcl, hW₂, hsm, hL⟩
  · obtain ⟨⟨v, rfl⟩, hW₂, e2, q2, q3, q4, q5, q6⟩ := id hfe
    have e3 : s₂ = ({ (U.calling g mk a).setFrames s₂.frames with heap := s₂.heap, slotsUsed := s₂.slotsUsed } : State).setVm s₂.vm := by
      have : s₂ = ({ s₂ with vm := (U.calling g mk a).vm } : State).setVm s₂.vm := rfl
      rw [e2] at this
      exact this
    obtain ⟨c₂, i₂, len₂, hc₂, hd₂, hf₂⟩ := hend
    have hW' : U.WarmedH s₂.vm := hW₂
    have hcc : c₂ = c := by
      have h1 : s₂.code? g.method = U.code? g.method := by
        rw [State.code?_eq, State.code?_eq, hW'.alike.method?]
      exact Option.some.inj (hc₂.symm.trans (h1.trans h.code))
    subst hcc
    have hlen : len₂ = len := by rw [hdg] at hd₂; cases hd₂; rfl
    subst hlen
    have hs₂ : s₂ = (({ U with heap := s₂.heap, slotsUsed := s₂.slotsUsed } : State).setVm s₂.vm).setTop { g with pc := g.pc + len₂, stack := v.toList ++ g.stack } := by
      refine e3.trans ?_
      rw [hf₂, State.calling_eq h.top, State.setFrames_setFrames, State.setTop_of_frames _ hr', hr]
      rfl
    have hsame : U.sameButNew ({ U with heap := s₂.heap, slotsUsed := s₂.slotsUsed } : State) L mc ms := by
      refine ⟨?_, q2, q3, q4, q5, q6⟩
      obtain ⟨t, ht, -⟩ := State.frames_cons hr
      show ({ U with heap := s₂.heap, slotsUsed := s₂.slotsUsed } : State) = { U.setFrames U.frames with heap := s₂.heap, slotsUsed := s₂.slotsUsed }
      rw [State.setFrames_self ht]
    subst hg
    refine Or.inl ⟨v, ⟨(({ U with heap := s₂.heap, slotsUsed := s₂.slotsUsed } : State).setVm s₂.vm), Ls ++ L, c0 + mc, s0 + ms⟩,
      ⟨X.admits, X.cas, X.clock, X.frames, X.room, X.hears, X.method, X.code, (X.here.setHeapUsed s₂.heap s₂.slotsUsed).setVm hW'.alike, X.tail, State.WarmedH.trans X.warmed hW', X.limits, X.bytes, X.same.trans (hsame.setVm s.vm)⟩,
      ⟨g, mk, s₂, L, rfl, rfl, hqc, rfl, hL, rfl, rfl⟩, ?_⟩
    show Steps p.tables e below _ ((({ U with heap := s₂.heap, slotsUsed := s₂.slotsUsed } : State).setVm s₂.vm).setTop { g with pc := g.pc + len₂, stack := v.toList ++ g.stack })
    rw [← hs₂]
    exact hsteps
  · obtain ⟨e2, q2, q3, q4, q5, q6⟩ := id hsm
    have e3 : s₂ = ({ (U.calling g mk a).setFrames s₂.frames with heap := s₂.heap, slotsUsed := s₂.slotsUsed } : State).setVm s₂.vm := by
      have : s₂ = ({ s₂ with vm := (U.calling g mk a).vm } : State).setVm s₂.vm := rfl
      rw [e2] at this
      exact this
    have hf₂ : s₂.frames = .throwing q :: .java g :: U.frames.tail := hend
    have hW' : U.WarmedH s₂.vm := hW₂
    have hs₂ : s₂ = ((({ U with heap := s₂.heap, slotsUsed := s₂.slotsUsed } : State).setVm s₂.vm).setTop g).pushFrame (.throwing q) := by
      refine e3.trans ?_
      rw [hf₂, State.calling_eq h.top, State.setFrames_setFrames, State.pushFrame, State.frames_setTop _ hr', State.setTop_of_frames _ hr', State.setFrames_setFrames, hr]
      rfl
    have hsame : U.sameButNew ({ U with heap := s₂.heap, slotsUsed := s₂.slotsUsed } : State) L mc ms := by
      refine ⟨?_, q2, q3, q4, q5, q6⟩
      obtain ⟨t, ht, -⟩ := State.frames_cons hr
      show ({ U with heap := s₂.heap, slotsUsed := s₂.slotsUsed } : State) = { U.setFrames U.frames with heap := s₂.heap, slotsUsed := s₂.slotsUsed }
      rw [State.setFrames_self ht]
    subst hg
    refine Or.inr ⟨q, ⟨(({ U with heap := s₂.heap, slotsUsed := s₂.slotsUsed } : State).setVm s₂.vm), Ls ++ L, c0 + mc, s0 + ms⟩,
      ⟨X.admits, X.cas, X.clock, X.frames, X.room, X.hears, X.method, X.code, (X.here.setHeapUsed s₂.heap s₂.slotsUsed).setVm hW'.alike, X.tail, State.WarmedH.trans X.warmed hW', X.limits, X.bytes, X.same.trans (hsame.setVm s.vm)⟩,
      ⟨g, mk, s₂, L, E, ce, rfl, rfl, hx, hce, hcv, hcl, rfl, hL, rfl, rfl⟩, ?_⟩
    show Steps p.tables e below _ (((({ U with heap := s₂.heap, slotsUsed := s₂.slotsUsed } : State).setVm s₂.vm).setTop g).pushFrame (.throwing q))
    rw [← hs₂]
    exact hsteps
end
variable {p : Program} {l : Launch} {e : Env} {R : Room} {s : State} {m : MethodId} {args : Array Value} {below : List Frame} {meth : Method} {c : Code} {T : State} {H : Heap} {locs : List Loc} {cells slots : Nat}
theorem vx_callVX (X : Stand p l e R s m args below meth c T locs cells slots) (hexec : p.tables.exec = Jvm.exec) {own C : String} {index : Nat} {y : MethodName} {bytes : ByteArray} {maxL : Nat} {ret : Option FieldType} {hh : List (Nat × Nat × Nat × Nat)}
    (hown : s.vm.findClass own = some m.cls) (hlink : (Cond.methodLink own index y).before args s = true) (hinst : (Cond.instanceMethod y).before args s = true) (hsel : (Cond.selects C y y).before args s = true)
    (hcode : (Cond.codeWith y bytes maxL ret hh).before args s = true) (hy : y.cls ≠ "java/lang/invoke/MethodHandle" ∧ y.cls ≠ "java/lang/invoke/VarHandle")
    {W9 : Nat} {Pre : Pt → Array Value → Prop} {Post : Pt → Array Value → Option Value → Pt → Prop} {PostX : Pt → Array Value → Addr → Pt → Prop} (hK : vx_Back l R p e below s args y 3 W9 Pre Post PostX)
    {b : Addr} {cellB : Cell} (hcell : T.heap[b]? = some cellB) (hobj : cellB.vm.isStatics = false) (hcls : s.vm.findClass C = some cellB.cls)
    {g : JFrame} (hg : g.method = m) (hsize : g.locals.size = c.maxLocals) {argsL rest : List Value} (hlen : ∀ sig, parseMethodDescriptor y.desc = some sig → argsL.length = sig.parameters.length)
    (hstack : g.stack = argsL.reverse ++ .ref b :: rest) (hW : 2 * g.monitorRoom + (rest.map fun v => v.category).sum ≤ W9) (hdg : decode c.code g.pc = .ok (.invokevirtual index, 3))
    (hpre : ∀ vm₁, s.WarmedH vm₁ → Pre ⟨T.setVm vm₁, locs, cells, slots⟩ (Value.ref b :: argsL).toArray) :
    (∃ (v : Option Value) (vm₁ : Vm) (B : Pt), s.WarmedH vm₁ ∧ Stand p l e R s m args below meth c B.U B.locs B.cells B.slots ∧ Post ⟨T.setVm vm₁, locs, cells, slots⟩ (Value.ref b :: argsL).toArray v B ∧
      ∀ target, Steps p.tables e below (B.U.setTop { g with pc := g.pc + 3, stack := v.toList ++ rest }) target → Steps p.tables e below (T.setTop g) target) ∨
    (∃ (q : Addr) (vm₁ : Vm) (B : Pt), s.WarmedH vm₁ ∧ Stand p l e R s m args below meth c B.U B.locs B.cells B.slots ∧ PostX ⟨T.setVm vm₁, locs, cells, slots⟩ (Value.ref b :: argsL).toArray q B ∧
      Steps p.tables e below (T.setTop g) ((B.U.setTop { g with stack := rest }).pushFrame (.throwing q))) := by
  obtain ⟨mk, methM, hnamed, hmethM, hstM, habM⟩ := Cond.instanceMethod_spec hinst
  obtain ⟨m8, methM', cM, hn8, hmethM', -, -, -, -, -, -, hsigM⟩ := Cond.codeWith_spec hcode
  cases Option.some.inj (hn8.symm.trans hnamed)
  cases hmethM.symm.trans hmethM'
  obtain ⟨c2, r2, m2, q1, q2, q3, q4, kP, hkP, hkPi⟩ := Cond.selects_spec hsel
  cases hcls.symm.trans q1
  cases (State.methodFound?_of_named hnamed hy).symm.trans q2
  cases hnamed.symm.trans q3
  have hselP : selectMethod e.platform s.vm cellB.cls mk = .method mk := by rw [Launch.admits_selectMethod X.admits]; exact q4
  obtain ⟨vm₁, X₁, hstep₁⟩ := X.invokevirtual hexec hown hlink hnamed hmethM hstM hkP hkPi hy (a := b) (cell := cellB) hcell
    (fun z h => by rw [h] at hobj; cases hobj) hselP hmethM habM hkP hkPi (g := g) hg (argsL := argsL) (rest := rest) (hlen _ hsigM) hstack hdg
  rcases hK m meth c ⟨T.setVm vm₁, locs, cells, slots⟩ { g with stack := rest } (.invokevirtual index) mk (Value.ref b :: argsL).toArray X₁ hg hsize hdg hW (X₁.named hnamed) (hpre vm₁ X₁.warmed) with ⟨v, B, X', hpost, hsteps⟩ | ⟨q, B, X', hpost, hsteps⟩
  · exact Or.inl ⟨v, vm₁, B, X₁.warmed, X', hpost, fun target h => hstep₁ _ fun acts => by rw [doInvoke_state]; exact hsteps.trans h⟩
  · exact Or.inr ⟨q, vm₁, B, X₁.warmed, X', hpost, hstep₁ _ fun acts => by rw [doInvoke_state]; exact hsteps⟩
theorem vx_callSX (X : Stand p l e R s m args below meth c T locs cells slots) (hexec : p.tables.exec = Jvm.exec) {own : String} {index : Nat} {y : MethodName} {bytes : ByteArray} {maxL : Nat} {ret : Option FieldType} {hh : List (Nat × Nat × Nat × Nat)}
    (hown : s.vm.findClass own = some m.cls) (hlink : (Cond.methodLink own index y).before args s = true) (hstat : (Cond.static y).before args s = true) (hinit : (Cond.initialized y.cls).before args s = true)
    (hcode : (Cond.codeWith y bytes maxL ret hh).before args s = true) (hy : y.cls ≠ "java/lang/invoke/MethodHandle" ∧ y.cls ≠ "java/lang/invoke/VarHandle")
    {W9 : Nat} {Pre : Pt → Array Value → Prop} {Post : Pt → Array Value → Option Value → Pt → Prop} {PostX : Pt → Array Value → Addr → Pt → Prop} (hK : vx_Back l R p e below s args y 3 W9 Pre Post PostX)
    {g : JFrame} (hg : g.method = m) (hsize : g.locals.size = c.maxLocals) {argsL rest : List Value} (hlen : ∀ sig, parseMethodDescriptor y.desc = some sig → argsL.length = sig.parameters.length)
    (hstack : g.stack = argsL.reverse ++ rest) (hW : 2 * g.monitorRoom + (rest.map fun v => v.category).sum ≤ W9) (hdg : decode c.code g.pc = .ok (.invokestatic index, 3))
    (hpre : ∀ vm₁, s.WarmedH vm₁ → Pre ⟨T.setVm vm₁, locs, cells, slots⟩ argsL.toArray) :
    (∃ (v : Option Value) (vm₁ : Vm) (B : Pt), s.WarmedH vm₁ ∧ Stand p l e R s m args below meth c B.U B.locs B.cells B.slots ∧ Post ⟨T.setVm vm₁, locs, cells, slots⟩ argsL.toArray v B ∧
      ∀ target, Steps p.tables e below (B.U.setTop { g with pc := g.pc + 3, stack := v.toList ++ rest }) target → Steps p.tables e below (T.setTop g) target) ∨
    (∃ (q : Addr) (vm₁ : Vm) (B : Pt), s.WarmedH vm₁ ∧ Stand p l e R s m args below meth c B.U B.locs B.cells B.slots ∧ PostX ⟨T.setVm vm₁, locs, cells, slots⟩ argsL.toArray q B ∧
      Steps p.tables e below (T.setTop g) ((B.U.setTop { g with stack := rest }).pushFrame (.throwing q))) := by
  obtain ⟨mk, methM, cM, hnamed, hmethM, -, -, -, -, -, -, hsigM⟩ := Cond.codeWith_spec hcode
  have hstatic : methM.isStatic = true := Cond.static_spec hnamed hmethM hstat
  obtain ⟨kP, hkP, -⟩ := className_of_methodNamed hnamed
  have hinitP : kP.init = .initialized := Cond.initialized_spec (findClass_of_methodNamed hnamed) hkP hinit
  obtain ⟨vm₁, X₁, hstep₁⟩ := X.invokestatic hexec hown hlink hnamed hmethM hstatic hkP hinitP hy (g := g) hg (argsL := argsL) (rest := rest) (hlen _ hsigM) hstack hdg
  rcases hK m meth c ⟨T.setVm vm₁, locs, cells, slots⟩ { g with stack := rest } (.invokestatic index) mk argsL.toArray X₁ hg hsize hdg hW (X₁.named hnamed) (hpre vm₁ X₁.warmed) with ⟨v, B, X', hpost, hsteps⟩ | ⟨q, B, X', hpost, hsteps⟩
  · exact Or.inl ⟨v, vm₁, B, X₁.warmed, X', hpost, fun target h => hstep₁ _ fun acts => by rw [doInvoke_state]; exact hsteps.trans h⟩
  · exact Or.inr ⟨q, vm₁, B, X₁.warmed, X', hpost, hstep₁ _ fun acts => by rw [doInvoke_state]; exact hsteps⟩
theorem vx_callVW (X : Stand p l e R s m args below meth c T locs cells slots) (hexec : p.tables.exec = Jvm.exec) {own C : String} {index : Nat} {y : MethodName} {bytes : ByteArray} {maxL : Nat} {ret : Option FieldType} {hh : List (Nat × Nat × Nat × Nat)}
    (hown : s.vm.findClass own = some m.cls) (hlink : (Cond.methodLink own index y).before args s = true) (hinst : (Cond.instanceMethod y).before args s = true) (hsel : (Cond.selects C y y).before args s = true)
    (hcode : (Cond.codeWith y bytes maxL ret hh).before args s = true) (hy : y.cls ≠ "java/lang/invoke/MethodHandle" ∧ y.cls ≠ "java/lang/invoke/VarHandle")
    {W9 : Nat} {Pre : Pt → Array Value → Prop} {Post : Pt → Array Value → Option Value → Pt → Prop} (hK : Back l R p e below s args y 3 W9 Pre Post)
    {b : Addr} {cellB : Cell} (hcell : T.heap[b]? = some cellB) (hobj : cellB.vm.isStatics = false) (hcls : s.vm.findClass C = some cellB.cls)
    {g : JFrame} (hg : g.method = m) (hsize : g.locals.size = c.maxLocals) {argsL rest : List Value} (hlen : ∀ sig, parseMethodDescriptor y.desc = some sig → argsL.length = sig.parameters.length)
    (hstack : g.stack = argsL.reverse ++ .ref b :: rest) (hW : 2 * g.monitorRoom + (rest.map fun v => v.category).sum ≤ W9) (hdg : decode c.code g.pc = .ok (.invokevirtual index, 3))
    (hpre : ∀ vm₁, s.WarmedH vm₁ → Pre ⟨T.setVm vm₁, locs, cells, slots⟩ (Value.ref b :: argsL).toArray) :
    ∃ (v : Option Value) (vm₁ : Vm) (B : Pt), s.WarmedH vm₁ ∧ Stand p l e R s m args below meth c B.U B.locs B.cells B.slots ∧ Post ⟨T.setVm vm₁, locs, cells, slots⟩ (Value.ref b :: argsL).toArray v B ∧
      ∀ target, Steps p.tables e below (B.U.setTop { g with pc := g.pc + 3, stack := v.toList ++ rest }) target → Steps p.tables e below (T.setTop g) target := by
  obtain ⟨mk, methM, hnamed, hmethM, hstM, habM⟩ := Cond.instanceMethod_spec hinst
  obtain ⟨m8, methM', cM, hn8, hmethM', -, -, -, -, -, -, hsigM⟩ := Cond.codeWith_spec hcode
  cases Option.some.inj (hn8.symm.trans hnamed)
  cases hmethM.symm.trans hmethM'
  obtain ⟨c2, r2, m2, q1, q2, q3, q4, kP, hkP, hkPi⟩ := Cond.selects_spec hsel
  cases hcls.symm.trans q1
  cases (State.methodFound?_of_named hnamed hy).symm.trans q2
  cases hnamed.symm.trans q3
  have hselP : selectMethod e.platform s.vm cellB.cls mk = .method mk := by rw [Launch.admits_selectMethod X.admits]; exact q4
  obtain ⟨vm₁, X₁, hstep₁⟩ := X.invokevirtual hexec hown hlink hnamed hmethM hstM hkP hkPi hy (a := b) (cell := cellB) hcell
    (fun z h => by rw [h] at hobj; cases hobj) hselP hmethM habM hkP hkPi (g := g) hg (argsL := argsL) (rest := rest) (hlen _ hsigM) hstack hdg
  obtain ⟨v, B, X', hpost, hsteps⟩ := hK m meth c ⟨T.setVm vm₁, locs, cells, slots⟩ { g with stack := rest } (.invokevirtual index) mk (Value.ref b :: argsL).toArray X₁ hg hsize hdg hW (X₁.named hnamed) (hpre vm₁ X₁.warmed)
  exact ⟨v, vm₁, B, X₁.warmed, X', hpost, fun target h => hstep₁ _ fun acts => by rw [doInvoke_state]; exact hsteps.trans h⟩
abbrev vx_CVW (R : Room) (s : State) (args : Array Value) (own C : String) (index : Nat) (y : MethodName) (bytes : ByteArray) (maxL : Nat) (ret : Option FieldType) (hh : List (Nat × Nat × Nat × Nat)) (ws : List Cond) (rm : Room) (mc ms n : Nat) : Prop :=
  (rm.cells = mc ∧ rm.slots = ms ∧ rm.frames + 1 ≤ R.frames ∧ 8 + (maxL + 11) + rm.locals ≤ R.locals ∧ (∀ w ∈ ws, ∀ (a' : Array Value) (U : State), s.WarmedH U.vm → w.before a' U = true) ∧ Cond.codeWith y bytes maxL ret hh ∈ ws) ∧
  (Cond.codeWith y bytes maxL ret hh).before args s = true ∧ (Cond.initialized y.cls).before args s = true ∧ (y.cls ≠ "java/lang/invoke/MethodHandle" ∧ y.cls ≠ "java/lang/invoke/VarHandle") ∧
  (∀ sig, parseMethodDescriptor y.desc = some sig → n = sig.parameters.length) ∧ (Cond.methodLink own index y).before args s = true ∧ (Cond.instanceMethod y).before args s = true ∧ (Cond.selects C y y).before args s = true
theorem vx_cwVW {own C : String} {index maxL mc ms : Nat} {y : MethodName} {bytes : ByteArray} {ret : Option FieldType} {hh : List (Nat × Nat × Nat × Nat)} {Ts ws ws' : List Cond} {rm : Room} (n : Nat) (ht : ∀ w ∈ Ts, w.before args s = true) (hT : GoodIn Ts (wsV own index C y ws)) (hw : ws = Cond.codeWith y bytes maxL ret hh :: ws') (hrc : rm.cells = mc) (hrs : rm.slots = ms)
    (hd : y.cls = C ∧ y.cls ≠ "java/lang/invoke/MethodHandle" ∧ y.cls ≠ "java/lang/invoke/VarHandle" ∧ (parseMethodDescriptor y.desc).map (fun d => d.parameters.length) = some n) (hR : rm.frames + 1 ≤ R.frames ∧ 8 + (maxL + 11) + rm.locals ≤ R.locals) :
    vx_CVW R s args own C index y bytes maxL ret hh ws rm mc ms n := by
  obtain ⟨hC, hd⟩ := hd
  subst hC
  have ok : ∀ w ∈ wsV own index y.cls y ws, w.before args s = true := fun w h => ht w (hT w h).1
  have hG : GoodIn Ts ws := fun w h => hT w (by unfold wsV; exact List.mem_append_right _ h)
  have hc : Cond.codeWith y bytes maxL ret hh ∈ ws := by rw [hw]; exact List.mem_cons_self
  refine ⟨⟨hrc, hrs, hR.1, hR.2, pay_in ht hG, hc⟩, ht _ (hG _ hc).1, ok _ (by simp [wsV]), ⟨hd.1, hd.2.1⟩, fun sig h => ?_, ok _ (by simp [wsV]), ok _ (by simp [wsV]), ok _ (by simp [wsV])⟩
  have h2 := hd.2.2
  rw [h] at h2
  exact (Option.some.inj h2).symm
theorem vx_runVW {y : MethodName} {bytes cc : ByteArray} {maxL nL mc ms n index : Nat} {ret : Option FieldType} {hh : List (Nat × Nat × Nat × Nat)} {ws : List Cond} {rm : Room} {Pc : Array Value → State → Prop} {Qc : Array Value → State → Outcome → State → Prop} {free : Addr → Prop} {Ts : List Cond} {own C : String} {b : Addr} {As rest : List Value} {g : JFrame}
    (S : CallFix p m c cc nL s args Ts own) (hM : Met l y ws rm Pc Qc mc ms free) (cw : vx_CVW R s args own C index y bytes maxL ret hh ws rm mc ms n) (hp : PreV s H C b Pc As)
    (hg : g.method = m) (hn : As.length = n) (hsize : g.locals.size = nL) (hstack : g.stack = As.reverse ++ .ref b :: rest) (hW : 2 * g.monitorRoom + (rest.map fun v => v.category).sum ≤ 8) (hdg : decode cc g.pc = .ok (.invokevirtual index, 3)) (hf : cells + mc ≤ R.cells ∧ slots + ms ≤ R.slots) :
    va_Run p l e R s m args below meth c H locs cells slots mc ms g rest (Qc (Value.ref b :: As).toArray) free := by
  obtain ⟨⟨hrc, hrs, hfr, hlo, hws, hcw⟩, hcode, hini, hy, hlen, hl, hin, hse⟩ := cw
  have hK : Back l R p e below s args y 3 8 (PreOf R mc ms Pc) (PostOf Qc mc ms free) := va_backW (hh := hh) (bytes := bytes) (maxL := maxL) (ret := ret) hM hp.1 hrc hrs hfr hlo hws hcw (fun a' U hW => word_at hW (Or.inl (by first | rfl | simp [Cond.onTables, Cond.keeps, Cond.steady])) hini)
  obtain ⟨hx, hb, hml, ho, -⟩ := S
  obtain ⟨-, ⟨cellB, hcB, hoB, hclB⟩, hPc⟩ := hp
  intro T hT X
  obtain ⟨v, vm₁, ⟨U', l2, c2, s2⟩, hW₁, X', ⟨g', mk, t, L, e1, e2, hq, h1, hL, h2, h3⟩, st⟩ := vx_callVW X hx (C := C) (hh := hh) (bytes := bytes) (maxL := maxL) (ret := ret) ho hl hin hse hcode hy hK (by rw [hT]; exact hcB) hoB hclB hg (hsize.trans hml.symm) (argsL := As) (rest := rest) (fun sig h => hn.trans (hlen sig h)) hstack hW (by rw [hb]; exact hdg)
    (fun vm₁ hW₁ => ⟨hf.1, hf.2, hPc (T.setVm vm₁) hT hW₁⟩)
  dsimp only [Pt.U, Pt.locs, Pt.cells, Pt.slots] at X' e1 e2 h1 h2 h3 st
  subst h1; subst h2; subst h3
  exact ⟨v, (T.setVm vm₁).calling g' mk (Value.ref b :: As).toArray, t, U', L, hT, X', hL, e1, e2, hq, st⟩
section
variable {y : MethodName} {bytes cc : ByteArray} {maxL nL mc ms n index : Nat} {ret : Option FieldType} {ws : List Cond} {rm : Room} {Pc : Array Value → State → Prop} {Qc : Array Value → State → Outcome → State → Prop} {XC : String → State → State → Prop} {free : Addr → Prop} {Ts : List Cond} {own C : String} {b : Addr} {As rest : List Value} {g : JFrame}
theorem vx_runVX {hh : List (Nat × Nat × Nat × Nat)} (S : CallFix p m c cc nL s args Ts own) (hM : vx_Met l y ws rm Pc Qc XC mc ms free) (cw : vx_CVW R s args own C index y bytes maxL ret hh ws rm mc ms n) (hp : PreV s H C b Pc As)
    (hg : g.method = m) (hn : As.length = n) (hsize : g.locals.size = nL) (hstack : g.stack = As.reverse ++ .ref b :: rest) (hW : 2 * g.monitorRoom + (rest.map fun v => v.category).sum ≤ 8) (hdg : decode cc g.pc = .ok (.invokevirtual index, 3)) (hf : cells + mc ≤ R.cells ∧ slots + ms ≤ R.slots) :
    vx_Run p l e R s m args below meth c H locs cells slots mc ms g rest (Qc (Value.ref b :: As).toArray) XC free := by
  obtain ⟨⟨hrc, hrs, hfr, hlo, hws, hcw⟩, hcode, hini, hy, hlen, hl, hin, hse⟩ := cw
  have hK : vx_Back l R p e below s args y 3 8 (PreOf R mc ms Pc) (PostOf Qc mc ms free) (vx_Post XC mc ms free) := vx_backW (hh := hh) (bytes := bytes) (maxL := maxL) (ret := ret) hM hp.1 hrc hrs hfr hlo hws hcw (fun a' U hW => word_at hW (Or.inl (by first | rfl | simp [Cond.onTables, Cond.keeps, Cond.steady])) hini)
  obtain ⟨hx, hb, hml, ho, -⟩ := S
  obtain ⟨-, ⟨cellB, hcB, hoB, hclB⟩, hPc⟩ := hp
  intro T hT X
  rcases vx_callVX X hx (C := C) (hh := hh) (bytes := bytes) (maxL := maxL) (ret := ret) ho hl hin hse hcode hy hK (by rw [hT]; exact hcB) hoB hclB hg (hsize.trans hml.symm) (argsL := As) (rest := rest) (fun sig h => hn.trans (hlen sig h)) hstack hW (by rw [hb]; exact hdg)
    (fun vm₁ hW₁ => ⟨hf.1, hf.2, hPc (T.setVm vm₁) hT hW₁⟩) with ⟨v, vm₁, ⟨U', l2, c2, s2⟩, hW₁, X', ⟨g', mk, t, L, e1, e2, hq, h1, hL, h2, h3⟩, st⟩ | ⟨q, vm₁, ⟨U', l2, c2, s2⟩, hW₁, X', ⟨g', mk, t, L, E, ce, e1, e2, hq, hce, hcv, hcl, h1, hL, h2, h3⟩, st⟩
  · dsimp only [Pt.U, Pt.locs, Pt.cells, Pt.slots] at X' e1 e2 h1 h2 h3 st
    subst h1; subst h2; subst h3
    exact Or.inl ⟨v, (T.setVm vm₁).calling g' mk (Value.ref b :: As).toArray, t, U', L, hT, X', hL, e1, e2, hq, st⟩
  · dsimp only [Pt.U, Pt.locs, Pt.cells, Pt.slots] at X' e1 e2 h1 h2 h3 st hcl
    subst h1; subst h2; subst h3
    exact Or.inr ⟨q, (T.setVm vm₁).calling g' mk (Value.ref b :: As).toArray, t, U', L, E, ce, hT, X', hL, e1, e2, hq, hce, hcv, vx_cls hW₁ hcl, st⟩
theorem vx_runSX {hh : List (Nat × Nat × Nat × Nat)} (S : CallFix p m c cc nL s args Ts own) (hM : vx_Met l y ws rm Pc Qc XC mc ms free) (cw : vx_CSW R s args own index y bytes maxL ret hh ws rm mc ms n) (hp : PreS s H Pc As)
    (hg : g.method = m) (hn : As.length = n) (hsize : g.locals.size = nL) (hstack : g.stack = As.reverse ++ rest) (hW : 2 * g.monitorRoom + (rest.map fun v => v.category).sum ≤ 8) (hdg : decode cc g.pc = .ok (.invokestatic index, 3)) (hf : cells + mc ≤ R.cells ∧ slots + ms ≤ R.slots) :
    vx_Run p l e R s m args below meth c H locs cells slots mc ms g rest (Qc As.toArray) XC free := by
  obtain ⟨⟨hrc, hrs, hfr, hlo, hws, hcw⟩, hcode, hini, hy, hlen, hl, hstt⟩ := cw
  have hK : vx_Back l R p e below s args y 3 8 (PreOf R mc ms Pc) (PostOf Qc mc ms free) (vx_Post XC mc ms free) := vx_backW (hh := hh) (bytes := bytes) (maxL := maxL) (ret := ret) hM hp.1 hrc hrs hfr hlo hws hcw (fun a' U hW => word_at hW (Or.inl (by first | rfl | simp [Cond.onTables, Cond.keeps, Cond.steady])) hini)
  obtain ⟨hx, hb, hml, ho, -⟩ := S
  intro T hT X
  rcases vx_callSX X hx (hh := hh) (bytes := bytes) (maxL := maxL) (ret := ret) ho hl hstt hini hcode hy hK hg (hsize.trans hml.symm) (argsL := As) (rest := rest) (fun sig h => hn.trans (hlen sig h)) hstack hW (by rw [hb]; exact hdg)
    (fun vm₁ hW₁ => ⟨hf.1, hf.2, hp.2 (T.setVm vm₁) hT hW₁⟩) with ⟨v, vm₁, ⟨U', l2, c2, s2⟩, hW₁, X', ⟨g', mk, t, L, e1, e2, hq, h1, hL, h2, h3⟩, st⟩ | ⟨q, vm₁, ⟨U', l2, c2, s2⟩, hW₁, X', ⟨g', mk, t, L, E, ce, e1, e2, hq, hce, hcv, hcl, h1, hL, h2, h3⟩, st⟩
  · dsimp only [Pt.U, Pt.locs, Pt.cells, Pt.slots] at X' e1 e2 h1 h2 h3 st
    subst h1; subst h2; subst h3
    exact Or.inl ⟨v, (T.setVm vm₁).calling g' mk As.toArray, t, U', L, hT, X', hL, e1, e2, hq, st⟩
  · dsimp only [Pt.U, Pt.locs, Pt.cells, Pt.slots] at X' e1 e2 h1 h2 h3 st hcl
    subst h1; subst h2; subst h3
    exact Or.inr ⟨q, (T.setVm vm₁).calling g' mk As.toArray, t, U', L, E, ce, hT, X', hL, e1, e2, hq, hce, hcv, vx_cls hW₁ hcl, st⟩
end
end VXH
theorem vx_ofWH {l : Launch} {y : MethodName} {ws ws' : List Cond} {rm : Room} {Pc : Array Value → State → Prop} {Qc : Array Value → State → Outcome → State → Prop} {XC : String → State → State → Prop} {mc ms : Nat} {free : Addr → Prop} {cc : ByteArray} {maxL : Nat} {ret : Option FieldType} {hh : List (Nat × Nat × Nat × Nat)}
    (hy : plainName y.cls = true) (hw : ws = Cond.codeWith y cc maxL ret hh :: ws')
    (body : ∀ p e s m args below meth c s₁, BodyLoose p l y (headSpec ws rm) cc maxL ret e s m args below meth c s₁ → c.maxLocals = maxL → Pc args s →
      W p l e (headSpec ws rm).room s m args below meth c s.heap [] 0 0 (vx_MQ below Qc XC args s mc ms free) (entryFrame m args maxL)) : vx_Met l y ws rm Pc Qc XC mc ms free := by
  refine MetFree.of_bodyS (code := cc) (maxLocals := maxL) (ret := ret) hy ?_ ?_
  · intro args s m h hn
    obtain ⟨m9, meth, c, hn9, h1, h2, h3, h4, -, h5, h6, -⟩ := Cond.codeWith_spec (atoms_spec (ws := ws) h _ (by rw [hw]; exact List.mem_cons_self))
    cases hn.symm.trans hn9
    exact ⟨meth, c, h1, h2, h3, h4, h5, h6⟩
  · intro p e s m args below meth c s₁ B hml hP _
    have hh0 : s₁.heap = s.heap := by rw [B.state]; rfl
    obtain ⟨t, a1, o, b1, b2, b3⟩ := body p e s m args below meth c s₁ B hml hP s₁ hh0 (Stand.of_body B)
    exact ⟨t, o, a1, b1, b2, b3⟩
/-! ===== END ===== -/
end
section
/-! ===== BEGIN printed: names, fields, word lists, decode rows ===== -/
def RX0 : String := "Stemspan$CodeBook"
def TX0 : u_T := fun k => match k with
  | 0 => ("Stemspan$CodeBook", "codes", "[LStemspan$Row;", true)
  | 1 => ("Stemspan$CodeBook", "written", "[LStemspan$Row;", true)
  | _ => ("Stemspan$CodeBook", "nothing", "LStemspan$Row;", true)
def tyX0 : Nat → FieldType := fun k => match k with
  | 0 => .array (.object "Stemspan$Row")
  | 1 => .array (.object "Stemspan$Row")
  | _ => .object "Stemspan$Row"
abbrev wsX00 : List Cond := u_ws RX0 TX0 3
theorem nmX0 : ∀ a, a < 3 → ∀ b, b < 3 → a ≠ b → (TX0 a).2.1 ≠ (TX0 b).2.1 := by decide +kernel
theorem tyX0_ok : ∀ k, k < 3 → parseFieldDescriptor (TX0 k).2.2.1 = some (tyX0 k) := by decide +kernel
abbrev cX0_init : ByteArray := prog_2_method_1_code
def yX0_init : MethodName := ⟨RX0, "<init>", "()V"⟩
abbrev cX0_codeOf : ByteArray := prog_2_method_2_code
def yX0_codeOf : MethodName := ⟨RX0, "codeOf", "(C)LStemspan$Row;"⟩
abbrev cX0_isOrderly : ByteArray := prog_2_method_3_code
def yX0_isOrderly : MethodName := ⟨RX0, "isOrderly", "()Z"⟩
abbrev cX0_sizeWritten : ByteArray := prog_2_method_4_code
def yX0_sizeWritten : MethodName := ⟨RX0, "sizeWritten", "(LStemspan$Row;)I"⟩
abbrev cX0_writeInto : ByteArray := prog_2_method_5_code
def yX0_writeInto : MethodName := ⟨RX0, "writeInto", "(LStemspan$Row;LStemspan$Row;)V"⟩
abbrev cX0_mostWritten : ByteArray := prog_2_method_6_code
def yX0_mostWritten : MethodName := ⟨RX0, "mostWritten", "(LStemspan$WordList;)I"⟩
abbrev cX0_writeWords : ByteArray := prog_2_method_7_code
def yX0_writeWords : MethodName := ⟨RX0, "writeWords", "(LStemspan$WordList;)V"⟩
abbrev cX0_writtenAt : ByteArray := prog_2_method_8_code
def yX0_writtenAt : MethodName := ⟨RX0, "writtenAt", "(I)LStemspan$Row;"⟩
abbrev cX0_readInto : ByteArray := prog_2_method_9_code
def yX0_readInto : MethodName := ⟨RX0, "readInto", "(LStemspan$Row;LStemspan$Row;)Z"⟩
abbrev cX0_signRead : ByteArray := prog_2_method_10_code
def yX0_signRead : MethodName := ⟨RX0, "signRead", "(LStemspan$Row;I)C"⟩
def RX1 : String := "Stemspan$Cutter"
def TX1 : u_T := fun k => match k with
  | 0 => ("Stemspan$Cutter", "fits", "[I", true)
  | 1 => ("Stemspan$Cutter", "ways", "[J", true)
  | 2 => ("Stemspan$Cutter", "least", "[I", true)
  | _ => ("Stemspan$Cutter", "size", "I", false)
def tyX1 : Nat → FieldType := fun k => match k with
  | 0 => .array .int
  | 1 => .array .long
  | 2 => .array .int
  | _ => .int
abbrev wsX10 : List Cond := u_ws RX1 TX1 4
theorem nmX1 : ∀ a, a < 4 → ∀ b, b < 4 → a ≠ b → (TX1 a).2.1 ≠ (TX1 b).2.1 := by decide +kernel
theorem tyX1_ok : ∀ k, k < 4 → parseFieldDescriptor (TX1 k).2.2.1 = some (tyX1 k) := by decide +kernel
abbrev cX1_init : ByteArray := prog_3_method_1_code
def yX1_init : MethodName := ⟨RX1, "<init>", "()V"⟩
abbrev cX1_look : ByteArray := prog_3_method_2_code
def yX1_look : MethodName := ⟨RX1, "look", "(LStemspan$Row;LStemspan$WordList;)V"⟩
abbrev cX1_fitsAt : ByteArray := prog_3_method_3_code
def yX1_fitsAt : MethodName := ⟨RX1, "fitsAt", "(II)Z"⟩
abbrev cX1_longestFit : ByteArray := prog_3_method_4_code
def yX1_longestFit : MethodName := ⟨RX1, "longestFit", "(I)I"⟩
abbrev cX1_countLongest : ByteArray := prog_3_method_5_code
def yX1_countLongest : MethodName := ⟨RX1, "countLongest", "()I"⟩
abbrev cX1_sizeOfLongest : ByteArray := prog_3_method_6_code
def yX1_sizeOfLongest : MethodName := ⟨RX1, "sizeOfLongest", "(I)I"⟩
abbrev cX1_countWays : ByteArray := prog_3_method_7_code
def yX1_countWays : MethodName := ⟨RX1, "countWays", "(I)J"⟩
abbrev cX1_leastPieces : ByteArray := prog_3_method_8_code
def yX1_leastPieces : MethodName := ⟨RX1, "leastPieces", "()I"⟩
abbrev cX1_lesser : ByteArray := prog_3_method_9_code
def yX1_lesser : MethodName := ⟨RX1, "lesser", "(II)I"⟩
def RX2 : String := "Stemspan$Row"
def TX2 : u_T := fun k => match k with
  | 0 => ("Stemspan$Row", "signs", "[C", true)
  | _ => ("Stemspan$Row", "length", "I", false)
def tyX2 : Nat → FieldType := fun k => match k with
  | 0 => .array .char
  | _ => .int
abbrev wsX20 : List Cond := u_ws RX2 TX2 2
theorem nmX2 : ∀ a, a < 2 → ∀ b, b < 2 → a ≠ b → (TX2 a).2.1 ≠ (TX2 b).2.1 := by decide +kernel
theorem tyX2_ok : ∀ k, k < 2 → parseFieldDescriptor (TX2 k).2.2.1 = some (tyX2 k) := by decide +kernel
abbrev cX2_init : ByteArray := prog_4_method_1_code
def yX2_init : MethodName := ⟨RX2, "<init>", "(I)V"⟩
abbrev cX2_size : ByteArray := prog_4_method_2_code
def yX2_size : MethodName := ⟨RX2, "size", "()I"⟩
abbrev cX2_at : ByteArray := prog_4_method_3_code
def yX2_at : MethodName := ⟨RX2, "at", "(I)C"⟩
abbrev cX2_clear : ByteArray := prog_4_method_4_code
def yX2_clear : MethodName := ⟨RX2, "clear", "()V"⟩
abbrev cX2_append : ByteArray := prog_4_method_5_code
def yX2_append : MethodName := ⟨RX2, "append", "(C)V"⟩
abbrev cX2_appendAll : ByteArray := prog_4_method_6_code
def yX2_appendAll : MethodName := ⟨RX2, "appendAll", "(LStemspan$Row;)V"⟩
abbrev cX2_insert : ByteArray := prog_4_method_7_code
def yX2_insert : MethodName := ⟨RX2, "insert", "(IC)V"⟩
abbrev cX2_removePart : ByteArray := prog_4_method_8_code
def yX2_removePart : MethodName := ⟨RX2, "removePart", "(II)V"⟩
abbrev cX2_reverse : ByteArray := prog_4_method_9_code
def yX2_reverse : MethodName := ⟨RX2, "reverse", "()Z"⟩
abbrev cX2_become : ByteArray := prog_4_method_10_code
def yX2_become : MethodName := ⟨RX2, "become", "(LStemspan$Row;)V"⟩
abbrev cX2_becomePart : ByteArray := prog_4_method_11_code
def yX2_becomePart : MethodName := ⟨RX2, "becomePart", "(LStemspan$Row;II)V"⟩
abbrev cX2_common : ByteArray := prog_4_method_12_code
def yX2_common : MethodName := ⟨RX2, "common", "(LStemspan$Row;)I"⟩
abbrev cX2_compareWith : ByteArray := prog_4_method_13_code
def yX2_compareWith : MethodName := ⟨RX2, "compareWith", "(LStemspan$Row;)I"⟩
abbrev cX2_beginsWith : ByteArray := prog_4_method_14_code
def yX2_beginsWith : MethodName := ⟨RX2, "beginsWith", "(LStemspan$Row;)Z"⟩
abbrev cX2_hasAt : ByteArray := prog_4_method_15_code
def yX2_hasAt : MethodName := ⟨RX2, "hasAt", "(ILStemspan$Row;)Z"⟩
abbrev cX2_addTo : ByteArray := prog_4_method_16_code
def yX2_addTo : MethodName := ⟨RX2, "addTo", "(J)J"⟩
def RX3 : String := "Stemspan$Theorem"
def TX3 : u_T := fun k => match k with
  | 0 => ("Stemspan$Theorem", "part", "LStemspan$Row;", true)
  | _ => ("Stemspan$Theorem", "both", "LStemspan$Row;", true)
def tyX3 : Nat → FieldType := fun k => match k with
  | 0 => .object "Stemspan$Row"
  | _ => .object "Stemspan$Row"
abbrev wsX30 : List Cond := u_ws RX3 TX3 2
theorem nmX3 : ∀ a, a < 2 → ∀ b, b < 2 → a ≠ b → (TX3 a).2.1 ≠ (TX3 b).2.1 := by decide +kernel
theorem tyX3_ok : ∀ k, k < 2 → parseFieldDescriptor (TX3 k).2.2.1 = some (tyX3 k) := by decide +kernel
abbrev cX3_init : ByteArray := prog_5_method_1_code
def yX3_init : MethodName := ⟨RX3, "<init>", "()V"⟩
abbrev cX3_beginningsHold : ByteArray := prog_5_method_2_code
def yX3_beginningsHold : MethodName := ⟨RX3, "beginningsHold", "(LStemspan$Row;LStemspan$WordList;)Z"⟩
abbrev cX3_standTogether : ByteArray := prog_5_method_3_code
def yX3_standTogether : MethodName := ⟨RX3, "standTogether", "(LStemspan$WordList;)Z"⟩
abbrev cX3_longestHolds : ByteArray := prog_5_method_4_code
def yX3_longestHolds : MethodName := ⟨RX3, "longestHolds", "(LStemspan$Row;LStemspan$WordList;)Z"⟩
abbrev cX3_longestByOrder : ByteArray := prog_5_method_5_code
def yX3_longestByOrder : MethodName := ⟨RX3, "longestByOrder", "(LStemspan$WordList;)I"⟩
abbrev cX3_commonHolds : ByteArray := prog_5_method_6_code
def yX3_commonHolds : MethodName := ⟨RX3, "commonHolds", "(LStemspan$Row;LStemspan$WordList;)Z"⟩
abbrev cX3_twinsHold : ByteArray := prog_5_method_7_code
def yX3_twinsHold : MethodName := ⟨RX3, "twinsHold", "(LStemspan$WordList;)Z"⟩
abbrev cX3_cutsHold : ByteArray := prog_5_method_8_code
def yX3_cutsHold : MethodName := ⟨RX3, "cutsHold", "(LStemspan$Row;LStemspan$Cutter;)Z"⟩
abbrev cX3_fewestHolds : ByteArray := prog_5_method_9_code
def yX3_fewestHolds : MethodName := ⟨RX3, "fewestHolds", "(LStemspan$WordList;LStemspan$Cutter;)Z"⟩
abbrev cX3_endsAreWords : ByteArray := prog_5_method_10_code
def yX3_endsAreWords : MethodName := ⟨RX3, "endsAreWords", "(LStemspan$WordList;)Z"⟩
abbrev cX3_codesHold : ByteArray := prog_5_method_11_code
def yX3_codesHold : MethodName := ⟨RX3, "codesHold", "(LStemspan$WordList;LStemspan$CodeBook;)Z"⟩
abbrev cX3_keepsOrder : ByteArray := prog_5_method_12_code
def yX3_keepsOrder : MethodName := ⟨RX3, "keepsOrder", "(IILStemspan$WordList;LStemspan$CodeBook;)Z"⟩
def RX4 : String := "Stemspan$WordList"
def TX4 : u_T := fun k => match k with
  | 0 => ("Stemspan$WordList", "rows", "[LStemspan$Row;", true)
  | 1 => ("Stemspan$WordList", "numbers", "[I", true)
  | 2 => ("Stemspan$WordList", "nothing", "LStemspan$Row;", true)
  | _ => ("Stemspan$WordList", "count", "I", false)
def tyX4 : Nat → FieldType := fun k => match k with
  | 0 => .array (.object "Stemspan$Row")
  | 1 => .array .int
  | 2 => .object "Stemspan$Row"
  | _ => .int
abbrev wsX40 : List Cond := u_ws RX4 TX4 4
theorem nmX4 : ∀ a, a < 4 → ∀ b, b < 4 → a ≠ b → (TX4 a).2.1 ≠ (TX4 b).2.1 := by decide +kernel
theorem tyX4_ok : ∀ k, k < 4 → parseFieldDescriptor (TX4 k).2.2.1 = some (tyX4 k) := by decide +kernel
abbrev cX4_init : ByteArray := prog_6_method_1_code
def yX4_init : MethodName := ⟨RX4, "<init>", "()V"⟩
abbrev cX4_size : ByteArray := prog_6_method_2_code
def yX4_size : MethodName := ⟨RX4, "size", "()I"⟩
abbrev cX4_rowAt : ByteArray := prog_6_method_3_code
def yX4_rowAt : MethodName := ⟨RX4, "rowAt", "(I)LStemspan$Row;"⟩
abbrev cX4_numberAt : ByteArray := prog_6_method_4_code
def yX4_numberAt : MethodName := ⟨RX4, "numberAt", "(I)I"⟩
abbrev cX4_setNumber : ByteArray := prog_6_method_5_code
def yX4_setNumber : MethodName := ⟨RX4, "setNumber", "(II)V"⟩
abbrev cX4_countLess : ByteArray := prog_6_method_6_code
def yX4_countLess : MethodName := ⟨RX4, "countLess", "(LStemspan$Row;)I"⟩
abbrev cX4_countNotGreater : ByteArray := prog_6_method_7_code
def yX4_countNotGreater : MethodName := ⟨RX4, "countNotGreater", "(LStemspan$Row;)I"⟩
abbrev cX4_rankOf : ByteArray := prog_6_method_8_code
def yX4_rankOf : MethodName := ⟨RX4, "rankOf", "(LStemspan$Row;)I"⟩
abbrev cX4_insert : ByteArray := prog_6_method_9_code
def yX4_insert : MethodName := ⟨RX4, "insert", "(LStemspan$Row;I)V"⟩
abbrev cX4_remove : ByteArray := prog_6_method_10_code
def yX4_remove : MethodName := ⟨RX4, "remove", "(I)V"⟩
abbrev cX4_countBegun : ByteArray := prog_6_method_11_code
def yX4_countBegun : MethodName := ⟨RX4, "countBegun", "(LStemspan$Row;)I"⟩
abbrev cX4_rankBegun : ByteArray := prog_6_method_12_code
def yX4_rankBegun : MethodName := ⟨RX4, "rankBegun", "(LStemspan$Row;I)I"⟩
abbrev cX4_sumBegun : ByteArray := prog_6_method_13_code
def yX4_sumBegun : MethodName := ⟨RX4, "sumBegun", "(LStemspan$Row;)I"⟩
abbrev cX4_removeBegun : ByteArray := prog_6_method_14_code
def yX4_removeBegun : MethodName := ⟨RX4, "removeBegun", "(LStemspan$Row;)I"⟩
abbrev cX4_longestAt : ByteArray := prog_6_method_15_code
def yX4_longestAt : MethodName := ⟨RX4, "longestAt", "(LStemspan$Row;I)I"⟩
abbrev cX4_mostCommon : ByteArray := prog_6_method_16_code
def yX4_mostCommon : MethodName := ⟨RX4, "mostCommon", "(LStemspan$Row;)I"⟩
abbrev cX4_mostCommonOfTwo : ByteArray := prog_6_method_17_code
def yX4_mostCommonOfTwo : MethodName := ⟨RX4, "mostCommonOfTwo", "()I"⟩
def RX5 : String := "Stemspan"
def TX5 : u_T := fun k => match k with
  | 0 => ("Stemspan", "text", "LStemspan$Row;", true)
  | 1 => ("Stemspan", "spare", "LStemspan$Row;", true)
  | 2 => ("Stemspan", "list", "LStemspan$WordList;", true)
  | 3 => ("Stemspan", "book", "LStemspan$CodeBook;", true)
  | 4 => ("Stemspan", "cutter", "LStemspan$Cutter;", true)
  | _ => ("Stemspan", "theorem", "LStemspan$Theorem;", true)
def tyX5 : Nat → FieldType := fun k => match k with
  | 0 => .object "Stemspan$Row"
  | 1 => .object "Stemspan$Row"
  | 2 => .object "Stemspan$WordList"
  | 3 => .object "Stemspan$CodeBook"
  | 4 => .object "Stemspan$Cutter"
  | _ => .object "Stemspan$Theorem"
abbrev wsX50 : List Cond := u_ws RX5 TX5 6
theorem nmX5 : ∀ a, a < 6 → ∀ b, b < 6 → a ≠ b → (TX5 a).2.1 ≠ (TX5 b).2.1 := by decide +kernel
theorem tyX5_ok : ∀ k, k < 6 → parseFieldDescriptor (TX5 k).2.2.1 = some (tyX5 k) := by decide +kernel
abbrev cX5_init : ByteArray := prog_1_method_1_code
def yX5_init : MethodName := ⟨RX5, "<init>", "()V"⟩
abbrev cX5_type : ByteArray := prog_1_method_2_code
def yX5_type : MethodName := ⟨RX5, "type", "(C)I"⟩
abbrev cX5_typeMore : ByteArray := prog_1_method_3_code
def yX5_typeMore : MethodName := ⟨RX5, "typeMore", "(II)I"⟩
abbrev cX5_typeAt : ByteArray := prog_1_method_4_code
def yX5_typeAt : MethodName := ⟨RX5, "typeAt", "(IC)I"⟩
abbrev cX5_drop : ByteArray := prog_1_method_5_code
def yX5_drop : MethodName := ⟨RX5, "drop", "()I"⟩
abbrev cX5_clip : ByteArray := prog_1_method_6_code
def yX5_clip : MethodName := ⟨RX5, "clip", "(II)I"⟩
abbrev cX5_wipe : ByteArray := prog_1_method_7_code
def yX5_wipe : MethodName := ⟨RX5, "wipe", "()I"⟩
abbrev cX5_turn : ByteArray := prog_1_method_8_code
def yX5_turn : MethodName := ⟨RX5, "turn", "()Z"⟩
abbrev cX5_signAt : ByteArray := prog_1_method_9_code
def yX5_signAt : MethodName := ⟨RX5, "signAt", "(I)C"⟩
abbrev cX5_put : ByteArray := prog_1_method_10_code
def yX5_put : MethodName := ⟨RX5, "put", "(I)I"⟩
abbrev cX5_take : ByteArray := prog_1_method_11_code
def yX5_take : MethodName := ⟨RX5, "take", "()I"⟩
abbrev cX5_number : ByteArray := prog_1_method_12_code
def yX5_number : MethodName := ⟨RX5, "number", "()I"⟩
abbrev cX5_words : ByteArray := prog_1_method_13_code
def yX5_words : MethodName := ⟨RX5, "words", "()I"⟩
abbrev cX5_rank : ByteArray := prog_1_method_14_code
def yX5_rank : MethodName := ⟨RX5, "rank", "()I"⟩
abbrev cX5_word : ByteArray := prog_1_method_15_code
def yX5_word : MethodName := ⟨RX5, "word", "(I)I"⟩
abbrev cX5_near : ByteArray := prog_1_method_16_code
def yX5_near : MethodName := ⟨RX5, "near", "(C)I"⟩
abbrev cX5_begun : ByteArray := prog_1_method_17_code
def yX5_begun : MethodName := ⟨RX5, "begun", "()I"⟩
abbrev cX5_begunAt : ByteArray := prog_1_method_18_code
def yX5_begunAt : MethodName := ⟨RX5, "begunAt", "(I)I"⟩
abbrev cX5_sum : ByteArray := prog_1_method_19_code
def yX5_sum : MethodName := ⟨RX5, "sum", "()I"⟩
abbrev cX5_gone : ByteArray := prog_1_method_20_code
def yX5_gone : MethodName := ⟨RX5, "gone", "()I"⟩
abbrev cX5_longest : ByteArray := prog_1_method_21_code
def yX5_longest : MethodName := ⟨RX5, "longest", "(I)I"⟩
abbrev cX5_shared : ByteArray := prog_1_method_22_code
def yX5_shared : MethodName := ⟨RX5, "shared", "()I"⟩
abbrev cX5_twin : ByteArray := prog_1_method_23_code
def yX5_twin : MethodName := ⟨RX5, "twin", "()I"⟩
abbrev cX5_pieces : ByteArray := prog_1_method_24_code
def yX5_pieces : MethodName := ⟨RX5, "pieces", "()I"⟩
abbrev cX5_piece : ByteArray := prog_1_method_25_code
def yX5_piece : MethodName := ⟨RX5, "piece", "(I)I"⟩
abbrev cX5_cuts : ByteArray := prog_1_method_26_code
def yX5_cuts : MethodName := ⟨RX5, "cuts", "()J"⟩
abbrev cX5_fewest : ByteArray := prog_1_method_27_code
def yX5_fewest : MethodName := ⟨RX5, "fewest", "()I"⟩
abbrev cX5_code : ByteArray := prog_1_method_28_code
def yX5_code : MethodName := ⟨RX5, "code", "(C)I"⟩
abbrev cX5_write : ByteArray := prog_1_method_29_code
def yX5_write : MethodName := ⟨RX5, "write", "()I"⟩
abbrev cX5_read : ByteArray := prog_1_method_30_code
def yX5_read : MethodName := ⟨RX5, "read", "()I"⟩
abbrev cX5_writeAll : ByteArray := prog_1_method_31_code
def yX5_writeAll : MethodName := ⟨RX5, "writeAll", "()I"⟩
abbrev cX5_isTrue : ByteArray := prog_1_method_32_code
def yX5_isTrue : MethodName := ⟨RX5, "isTrue", "()Z"⟩
abbrev cX5_checksum : ByteArray := prog_1_method_33_code
def yX5_checksum : MethodName := ⟨RX5, "checksum", "()J"⟩
abbrev cX5_rankNear : ByteArray := prog_1_method_34_code
def yX5_rankNear : MethodName := ⟨RX5, "rankNear", "(C)I"⟩
abbrev cX5_isSign : ByteArray := prog_1_method_35_code
def yX5_isSign : MethodName := ⟨RX5, "isSign", "(C)Z"⟩
abbrev cX5_signOf : ByteArray := prog_1_method_36_code
def yX5_signOf : MethodName := ⟨RX5, "signOf", "(I)C"⟩
def RX6 : String := "StemspanModel"
def TX6 : u_T := fun k => match k with
  | 0 => ("StemspanModel", "code", "I", false)
  | 1 => ("StemspanModel", "text", "[C", true)
  | 2 => ("StemspanModel", "word", "[C", true)
  | 3 => ("StemspanModel", "codes", "[C", true)
  | 4 => ("StemspanModel", "made", "[C", true)
  | 5 => ("StemspanModel", "wordLength", "[I", true)
  | 6 => ("StemspanModel", "number", "[I", true)
  | 7 => ("StemspanModel", "codeLength", "[I", true)
  | 8 => ("StemspanModel", "length", "I", false)
  | 9 => ("StemspanModel", "many", "I", false)
  | 10 => ("StemspanModel", "order", "[I", true)
  | 11 => ("StemspanModel", "ranks", "[I", true)
  | 12 => ("StemspanModel", "waysFrom", "[J", true)
  | _ => ("StemspanModel", "fewestFrom", "[I", true)
def tyX6 : Nat → FieldType := fun k => match k with
  | 0 => .int
  | 1 => .array .char
  | 2 => .array .char
  | 3 => .array .char
  | 4 => .array .char
  | 5 => .array .int
  | 6 => .array .int
  | 7 => .array .int
  | 8 => .int
  | 9 => .int
  | 10 => .array .int
  | 11 => .array .int
  | 12 => .array .long
  | _ => .array .int
abbrev wsX60 : List Cond := u_ws RX6 TX6 14
theorem nmX6 : ∀ a, a < 14 → ∀ b, b < 14 → a ≠ b → (TX6 a).2.1 ≠ (TX6 b).2.1 := by decide +kernel
theorem tyX6_ok : ∀ k, k < 14 → parseFieldDescriptor (TX6 k).2.2.1 = some (tyX6 k) := by decide +kernel
abbrev cX6_thrown : ByteArray := prog_8_method_1_code
def yX6_thrown : MethodName := ⟨RX6, "thrown", "()I"⟩
abbrev cX6_fails : ByteArray := prog_8_method_2_code
def yX6_fails : MethodName := ⟨RX6, "fails", "(I)Z"⟩
abbrev cX6_in : ByteArray := prog_8_method_3_code
def yX6_in : MethodName := ⟨RX6, "in", "(III)Z"⟩
abbrev cX6_init : ByteArray := prog_8_method_4_code
def yX6_init : MethodName := ⟨RX6, "<init>", "()V"⟩
abbrev cX6_isSign : ByteArray := prog_8_method_5_code
def yX6_isSign : MethodName := ⟨RX6, "isSign", "(C)Z"⟩
abbrev cX6_like : ByteArray := prog_8_method_6_code
def yX6_like : MethodName := ⟨RX6, "like", "(II)I"⟩
abbrev cX6_likeWords : ByteArray := prog_8_method_7_code
def yX6_likeWords : MethodName := ⟨RX6, "likeWords", "(II)I"⟩
abbrev cX6_beside : ByteArray := prog_8_method_8_code
def yX6_beside : MethodName := ⟨RX6, "beside", "(I)I"⟩
abbrev cX6_isLess : ByteArray := prog_8_method_9_code
def yX6_isLess : MethodName := ⟨RX6, "isLess", "(II)Z"⟩
abbrev cX6_isBegun : ByteArray := prog_8_method_10_code
def yX6_isBegun : MethodName := ⟨RX6, "isBegun", "(I)Z"⟩
abbrev cX6_own : ByteArray := prog_8_method_11_code
def yX6_own : MethodName := ⟨RX6, "own", "()I"⟩
abbrev cX6_rankOf : ByteArray := prog_8_method_12_code
def yX6_rankOf : MethodName := ⟨RX6, "rankOf", "(I)I"⟩
abbrev cX6_orders : ByteArray := prog_8_method_13_code
def yX6_orders : MethodName := ⟨RX6, "orders", "()V"⟩
abbrev cX6_becomes : ByteArray := prog_8_method_14_code
def yX6_becomes : MethodName := ⟨RX6, "becomes", "(I)V"⟩
abbrev cX6_goes : ByteArray := prog_8_method_15_code
def yX6_goes : MethodName := ⟨RX6, "goes", "(I)V"⟩
abbrev cX6_type : ByteArray := prog_8_method_16_code
def yX6_type : MethodName := ⟨RX6, "type", "(C)I"⟩
abbrev cX6_typeMore : ByteArray := prog_8_method_17_code
def yX6_typeMore : MethodName := ⟨RX6, "typeMore", "(II)I"⟩
abbrev cX6_typeAt : ByteArray := prog_8_method_18_code
def yX6_typeAt : MethodName := ⟨RX6, "typeAt", "(IC)I"⟩
abbrev cX6_drop : ByteArray := prog_8_method_19_code
def yX6_drop : MethodName := ⟨RX6, "drop", "()I"⟩
abbrev cX6_clip : ByteArray := prog_8_method_20_code
def yX6_clip : MethodName := ⟨RX6, "clip", "(II)I"⟩
abbrev cX6_wipe : ByteArray := prog_8_method_21_code
def yX6_wipe : MethodName := ⟨RX6, "wipe", "()I"⟩
abbrev cX6_turn : ByteArray := prog_8_method_22_code
def yX6_turn : MethodName := ⟨RX6, "turn", "()Z"⟩
abbrev cX6_signAt : ByteArray := prog_8_method_23_code
def yX6_signAt : MethodName := ⟨RX6, "signAt", "(I)C"⟩
abbrev cX6_put : ByteArray := prog_8_method_24_code
def yX6_put : MethodName := ⟨RX6, "put", "(I)I"⟩
abbrev cX6_take : ByteArray := prog_8_method_25_code
def yX6_take : MethodName := ⟨RX6, "take", "()I"⟩
abbrev cX6_number : ByteArray := prog_8_method_26_code
def yX6_number : MethodName := ⟨RX6, "number", "()I"⟩
abbrev cX6_words : ByteArray := prog_8_method_27_code
def yX6_words : MethodName := ⟨RX6, "words", "()I"⟩
abbrev cX6_rank : ByteArray := prog_8_method_28_code
def yX6_rank : MethodName := ⟨RX6, "rank", "()I"⟩
abbrev cX6_word : ByteArray := prog_8_method_29_code
def yX6_word : MethodName := ⟨RX6, "word", "(I)I"⟩
abbrev cX6_near : ByteArray := prog_8_method_30_code
def yX6_near : MethodName := ⟨RX6, "near", "(C)I"⟩
abbrev cX6_begun : ByteArray := prog_8_method_31_code
def yX6_begun : MethodName := ⟨RX6, "begun", "()I"⟩
abbrev cX6_begunAt : ByteArray := prog_8_method_32_code
def yX6_begunAt : MethodName := ⟨RX6, "begunAt", "(I)I"⟩
abbrev cX6_sum : ByteArray := prog_8_method_33_code
def yX6_sum : MethodName := ⟨RX6, "sum", "()I"⟩
abbrev cX6_gone : ByteArray := prog_8_method_34_code
def yX6_gone : MethodName := ⟨RX6, "gone", "()I"⟩
abbrev cX6_longestAt : ByteArray := prog_8_method_35_code
def yX6_longestAt : MethodName := ⟨RX6, "longestAt", "(I)I"⟩
abbrev cX6_longest : ByteArray := prog_8_method_36_code
def yX6_longest : MethodName := ⟨RX6, "longest", "(I)I"⟩
abbrev cX6_shared : ByteArray := prog_8_method_37_code
def yX6_shared : MethodName := ⟨RX6, "shared", "()I"⟩
abbrev cX6_twin : ByteArray := prog_8_method_38_code
def yX6_twin : MethodName := ⟨RX6, "twin", "()I"⟩
abbrev cX6_pieces : ByteArray := prog_8_method_39_code
def yX6_pieces : MethodName := ⟨RX6, "pieces", "()I"⟩
abbrev cX6_piece : ByteArray := prog_8_method_40_code
def yX6_piece : MethodName := ⟨RX6, "piece", "(I)I"⟩
abbrev cX6_cutsAll : ByteArray := prog_8_method_41_code
def yX6_cutsAll : MethodName := ⟨RX6, "cutsAll", "()V"⟩
abbrev cX6_cuts : ByteArray := prog_8_method_42_code
def yX6_cuts : MethodName := ⟨RX6, "cuts", "()J"⟩
abbrev cX6_fewest : ByteArray := prog_8_method_43_code
def yX6_fewest : MethodName := ⟨RX6, "fewest", "()I"⟩
abbrev cX6_code : ByteArray := prog_8_method_44_code
def yX6_code : MethodName := ⟨RX6, "code", "(C)I"⟩
abbrev cX6_isAhead : ByteArray := prog_8_method_45_code
def yX6_isAhead : MethodName := ⟨RX6, "isAhead", "(II)Z"⟩
abbrev cX6_areOrderly : ByteArray := prog_8_method_46_code
def yX6_areOrderly : MethodName := ⟨RX6, "areOrderly", "()Z"⟩
abbrev cX6_puts : ByteArray := prog_8_method_47_code
def yX6_puts : MethodName := ⟨RX6, "puts", "(IC)I"⟩
abbrev cX6_write : ByteArray := prog_8_method_48_code
def yX6_write : MethodName := ⟨RX6, "write", "()I"⟩
abbrev cX6_codeAt : ByteArray := prog_8_method_49_code
def yX6_codeAt : MethodName := ⟨RX6, "codeAt", "(I)I"⟩
abbrev cX6_read : ByteArray := prog_8_method_50_code
def yX6_read : MethodName := ⟨RX6, "read", "()I"⟩
abbrev cX6_written : ByteArray := prog_8_method_51_code
def yX6_written : MethodName := ⟨RX6, "written", "(I)I"⟩
abbrev cX6_writeAll : ByteArray := prog_8_method_52_code
def yX6_writeAll : MethodName := ⟨RX6, "writeAll", "()I"⟩
abbrev cX6_isSideBySide : ByteArray := prog_8_method_53_code
def yX6_isSideBySide : MethodName := ⟨RX6, "isSideBySide", "(I)Z"⟩
abbrev cX6_areTwins : ByteArray := prog_8_method_54_code
def yX6_areTwins : MethodName := ⟨RX6, "areTwins", "()Z"⟩
abbrev cX6_isTrue : ByteArray := prog_8_method_55_code
def yX6_isTrue : MethodName := ⟨RX6, "isTrue", "()Z"⟩
abbrev cX6_checksum : ByteArray := prog_8_method_56_code
def yX6_checksum : MethodName := ⟨RX6, "checksum", "()J"⟩
def RJx145de : String := "java/io/Serializable"
def TJx145de : u_T := fun k => match k with
  | _ => ("", "", "", false)
def tyJx145de : Nat → FieldType := fun k => match k with
  | _ => .int
abbrev wsJx145de0 : List Cond := u_ws RJx145de TJx145de 0
theorem nmJx145de : ∀ a, a < 0 → ∀ b, b < 0 → a ≠ b → (TJx145de a).2.1 ≠ (TJx145de b).2.1 := by decide +kernel
theorem tyJx145de_ok : ∀ k, k < 0 → parseFieldDescriptor (TJx145de k).2.2.1 = some (tyJx145de k) := by decide +kernel
def RJ9 : String := "java/lang/Math"
def TJ9 : u_T := fun k => match k with
  | _ => ("", "", "", false)
def tyJ9 : Nat → FieldType := fun k => match k with
  | _ => .int
abbrev wsJ90 : List Cond := u_ws RJ9 TJ9 0
theorem nmJ9 : ∀ a, a < 0 → ∀ b, b < 0 → a ≠ b → (TJ9 a).2.1 ≠ (TJ9 b).2.1 := by decide +kernel
theorem tyJ9_ok : ∀ k, k < 0 → parseFieldDescriptor (TJ9 k).2.2.1 = some (tyJ9 k) := by decide +kernel
abbrev cJ9_max_7cf53 : ByteArray := prog_14_method_65_code
def yJ9_max_7cf53 : MethodName := ⟨RJ9, "max", "(II)I"⟩
abbrev cJ9_min_7cf53 : ByteArray := prog_14_method_69_code
def yJ9_min_7cf53 : MethodName := ⟨RJ9, "min", "(II)I"⟩
def RJ0 : String := "java/lang/String"
def TJ0 : u_T := fun k => match k with
  | _ => ("", "", "", false)
def tyJ0 : Nat → FieldType := fun k => match k with
  | _ => .int
abbrev wsJ00 : List Cond := u_ws RJ0 TJ0 0
theorem nmJ0 : ∀ a, a < 0 → ∀ b, b < 0 → a ≠ b → (TJ0 a).2.1 ≠ (TJ0 b).2.1 := by decide +kernel
theorem tyJ0_ok : ∀ k, k < 0 → parseFieldDescriptor (TJ0 k).2.2.1 = some (tyJ0 k) := by decide +kernel
def RL : String := "StemspanLaw"
abbrev cL_type : ByteArray := method_3_code
def yL_type : MethodName := ⟨RL, "type", "(LStemspan;C[J)I"⟩
abbrev cL_typeMore : ByteArray := method_4_code
def yL_typeMore : MethodName := ⟨RL, "typeMore", "(LStemspan;II[J)I"⟩
abbrev cL_typeAt : ByteArray := method_5_code
def yL_typeAt : MethodName := ⟨RL, "typeAt", "(LStemspan;IC[J)I"⟩
abbrev cL_drop : ByteArray := method_6_code
def yL_drop : MethodName := ⟨RL, "drop", "(LStemspan;[J)I"⟩
abbrev cL_clip : ByteArray := method_7_code
def yL_clip : MethodName := ⟨RL, "clip", "(LStemspan;II[J)I"⟩
abbrev cL_signAt : ByteArray := method_8_code
def yL_signAt : MethodName := ⟨RL, "signAt", "(LStemspan;I[J)I"⟩
abbrev cL_put : ByteArray := method_9_code
def yL_put : MethodName := ⟨RL, "put", "(LStemspan;I[J)I"⟩
abbrev cL_take : ByteArray := method_10_code
def yL_take : MethodName := ⟨RL, "take", "(LStemspan;[J)I"⟩
abbrev cL_number : ByteArray := method_11_code
def yL_number : MethodName := ⟨RL, "number", "(LStemspan;[J)I"⟩
abbrev cL_word : ByteArray := method_12_code
def yL_word : MethodName := ⟨RL, "word", "(LStemspan;I[J)I"⟩
abbrev cL_near : ByteArray := method_13_code
def yL_near : MethodName := ⟨RL, "near", "(LStemspan;C[J)I"⟩
abbrev cL_begunAt : ByteArray := method_14_code
def yL_begunAt : MethodName := ⟨RL, "begunAt", "(LStemspan;I[J)I"⟩
abbrev cL_longest : ByteArray := method_15_code
def yL_longest : MethodName := ⟨RL, "longest", "(LStemspan;I[J)I"⟩
abbrev cL_twin : ByteArray := method_16_code
def yL_twin : MethodName := ⟨RL, "twin", "(LStemspan;[J)I"⟩
abbrev cL_piece : ByteArray := method_17_code
def yL_piece : MethodName := ⟨RL, "piece", "(LStemspan;I[J)I"⟩
abbrev cL_code : ByteArray := method_18_code
def yL_code : MethodName := ⟨RL, "code", "(LStemspan;C[J)I"⟩
abbrev cL_write : ByteArray := method_19_code
def yL_write : MethodName := ⟨RL, "write", "(LStemspan;[J)I"⟩
abbrev cL_read : ByteArray := method_20_code
def yL_read : MethodName := ⟨RL, "read", "(LStemspan;[J)I"⟩
abbrev cL_writeAll : ByteArray := method_21_code
def yL_writeAll : MethodName := ⟨RL, "writeAll", "(LStemspan;[J)I"⟩
abbrev cL_law : ByteArray := code
def yL_law : MethodName := ⟨RL, "law", "([I)Z"⟩
def wsX2_init : List Cond := .code yX2_init cX2_init 2 none :: ([.methodLink RX2 3 objectInit, .instanceMethod objectInit, .code objectInit ⟨#[0xb1]⟩ 1 none, .methodLink RX2 9 Lib.Math.max.name, .static Lib.Math.max.name, .initialized "java/lang/Math", .code Lib.Math.max.name Lib.Math.max.code 2 (some .int), .arrayClass .char, .fieldLink RX2 15 "Stemspan$Row" "signs" "[C", .fieldLink RX2 21 "Stemspan$Row" "length" "I"] ++ wsX20)
def wsX5_signOf : List Cond := .code yX5_signOf cX5_signOf 1 (some .char) :: ([])
def wsX2_append : List Cond := .code yX2_append cX2_append 2 none :: ([.fieldLink RX2 21 "Stemspan$Row" "length" "I", .fieldLink RX2 15 "Stemspan$Row" "signs" "[C"] ++ wsX20)
def wsX0_init_r1 : List Cond := [Cond.methodLink RX0 3 objectInit, Cond.instanceMethod objectInit, Cond.code objectInit ⟨#[0xb1]⟩ 1 none, Cond.classLink RX0 9 RX2, Cond.fieldLink RX0 11 "Stemspan$CodeBook" "codes" "[LStemspan$Row;", Cond.instantiable RX2 2, Cond.initialized RX2, Cond.fieldLink RX0 28 "Stemspan$CodeBook" "written" "[LStemspan$Row;", Cond.fieldLink RX0 31 "Stemspan$CodeBook" "nothing" "LStemspan$Row;", Cond.methodLink RX0 17 yX2_init, Cond.instanceMethod yX2_init, Cond.code yX2_init cX2_init 2 none, Cond.methodLink RX2 3 objectInit, Cond.methodLink RX2 9 Lib.Math.max.name, Cond.static Lib.Math.max.name, Cond.initialized "java/lang/Math", Cond.code Lib.Math.max.name Lib.Math.max.code 2 (some .int), Cond.arrayClass .char, Cond.fieldLink RX2 15 "Stemspan$Row" "signs" "[C", Cond.fieldLink RX2 21 "Stemspan$Row" "length" "I", Cond.static yX5_signOf, Cond.initialized RX5, Cond.code yX5_signOf cX5_signOf 1 (some .char), Cond.methodLink RX0 24 yX2_append]
def wsX0_init_r2 : List Cond := [Cond.instanceMethod yX2_append, Cond.selects RX2 yX2_append yX2_append, Cond.code yX2_append cX2_append 2 none]
def wsX0_init : List Cond := .code yX0_init cX0_init 2 none :: ((wsX0_init_r1 ++ wsX0_init_r2) ++ wsX00 ++ wsX20)
def wsX5_isSign : List Cond := .code yX5_isSign cX5_isSign 1 (some .boolean) :: ([])
def wsX0_codeOf : List Cond := .code yX0_codeOf cX0_codeOf 2 (some (.object "Stemspan$Row")) :: ([.fieldLink RX0 11 "Stemspan$CodeBook" "codes" "[LStemspan$Row;", .fieldLink RX0 31 "Stemspan$CodeBook" "nothing" "LStemspan$Row;", .static yX5_isSign, .initialized RX5, .code yX5_isSign cX5_isSign 1 (some .boolean)] ++ wsX00)
def wsX2_common : List Cond := .code yX2_common cX2_common 3 (some .int) :: ([.fieldLink RX2 21 "Stemspan$Row" "length" "I", .fieldLink RX2 15 "Stemspan$Row" "signs" "[C"] ++ wsX20)
def wsX2_compareWith : List Cond := .code yX2_compareWith cX2_compareWith 3 (some .int) :: ([.fieldLink RX2 21 "Stemspan$Row" "length" "I", .fieldLink RX2 15 "Stemspan$Row" "signs" "[C", .methodLink RX2 40 yX2_common, .instanceMethod yX2_common, .selects RX2 yX2_common yX2_common, .initialized RX2, .code yX2_common cX2_common 3 (some .int)] ++ wsX20)
def wsX2_hasAt : List Cond := .code yX2_hasAt cX2_hasAt 4 (some .boolean) :: ([.fieldLink RX2 21 "Stemspan$Row" "length" "I", .fieldLink RX2 15 "Stemspan$Row" "signs" "[C"] ++ wsX20)
def wsX2_beginsWith : List Cond := .code yX2_beginsWith cX2_beginsWith 2 (some .boolean) :: ([.methodLink RX2 44 yX2_hasAt, .instanceMethod yX2_hasAt, .selects RX2 yX2_hasAt yX2_hasAt, .initialized RX2, .code yX2_hasAt cX2_hasAt 4 (some .boolean), .fieldLink RX2 21 "Stemspan$Row" "length" "I", .fieldLink RX2 15 "Stemspan$Row" "signs" "[C"] ++ wsX20)
def wsX0_isOrderly : List Cond := .code yX0_isOrderly cX0_isOrderly 3 (some .boolean) :: ([.fieldLink RX0 11 "Stemspan$CodeBook" "codes" "[LStemspan$Row;", .methodLink RX0 39 yX2_compareWith, .instanceMethod yX2_compareWith, .selects RX2 yX2_compareWith yX2_compareWith, .initialized RX2, .code yX2_compareWith cX2_compareWith 3 (some .int), .fieldLink RX2 21 "Stemspan$Row" "length" "I", .fieldLink RX2 15 "Stemspan$Row" "signs" "[C", .methodLink RX2 40 yX2_common, .instanceMethod yX2_common, .selects RX2 yX2_common yX2_common, .code yX2_common cX2_common 3 (some .int), .methodLink RX0 43 yX2_beginsWith, .instanceMethod yX2_beginsWith, .selects RX2 yX2_beginsWith yX2_beginsWith, .code yX2_beginsWith cX2_beginsWith 2 (some .boolean), .methodLink RX2 44 yX2_hasAt, .instanceMethod yX2_hasAt, .selects RX2 yX2_hasAt yX2_hasAt, .code yX2_hasAt cX2_hasAt 4 (some .boolean)] ++ wsX00 ++ wsX20)
def wsX2_size : List Cond := .code yX2_size cX2_size 1 (some .int) :: ([.fieldLink RX2 21 "Stemspan$Row" "length" "I"] ++ wsX20)
def wsX2_at : List Cond := .code yX2_at cX2_at 2 (some .char) :: ([.fieldLink RX2 21 "Stemspan$Row" "length" "I", .fieldLink RX2 15 "Stemspan$Row" "signs" "[C"] ++ wsX20)
def wsX0_sizeWritten : List Cond := .code yX0_sizeWritten cX0_sizeWritten 4 (some .int) :: ([.methodLink RX0 47 yX2_size, .instanceMethod yX2_size, .selects RX2 yX2_size yX2_size, .initialized RX2, .code yX2_size cX2_size 1 (some .int), .fieldLink RX2 21 "Stemspan$Row" "length" "I", .methodLink RX0 51 yX2_at, .instanceMethod yX2_at, .selects RX2 yX2_at yX2_at, .code yX2_at cX2_at 2 (some .char), .fieldLink RX2 15 "Stemspan$Row" "signs" "[C", .methodLink RX0 54 yX0_codeOf, .instanceMethod yX0_codeOf, .selects RX0 yX0_codeOf yX0_codeOf, .initialized RX0, .code yX0_codeOf cX0_codeOf 2 (some (.object "Stemspan$Row")), .fieldLink RX0 11 "Stemspan$CodeBook" "codes" "[LStemspan$Row;", .fieldLink RX0 31 "Stemspan$CodeBook" "nothing" "LStemspan$Row;", .static yX5_isSign, .initialized RX5, .code yX5_isSign cX5_isSign 1 (some .boolean)] ++ wsX20 ++ wsX00)
def wsX2_clear : List Cond := .code yX2_clear cX2_clear 1 none :: ([.fieldLink RX2 21 "Stemspan$Row" "length" "I"] ++ wsX20)
def wsX2_appendAll : List Cond := .code yX2_appendAll cX2_appendAll 3 none :: ([.fieldLink RX2 21 "Stemspan$Row" "length" "I", .fieldLink RX2 15 "Stemspan$Row" "signs" "[C", .methodLink RX2 25 yX2_append, .instanceMethod yX2_append, .selects RX2 yX2_append yX2_append, .initialized RX2, .code yX2_append cX2_append 2 none] ++ wsX20)
def wsX0_writeInto_r1 : List Cond := [Cond.methodLink RX0 58 yX2_clear, Cond.instanceMethod yX2_clear, Cond.selects RX2 yX2_clear yX2_clear, Cond.initialized RX2, Cond.code yX2_clear cX2_clear 1 none, Cond.fieldLink RX2 21 "Stemspan$Row" "length" "I", Cond.methodLink RX0 47 yX2_size, Cond.instanceMethod yX2_size, Cond.selects RX2 yX2_size yX2_size, Cond.code yX2_size cX2_size 1 (some .int), Cond.methodLink RX0 51 yX2_at, Cond.instanceMethod yX2_at, Cond.selects RX2 yX2_at yX2_at, Cond.code yX2_at cX2_at 2 (some .char), Cond.fieldLink RX2 15 "Stemspan$Row" "signs" "[C", Cond.methodLink RX0 54 yX0_codeOf, Cond.instanceMethod yX0_codeOf, Cond.selects RX0 yX0_codeOf yX0_codeOf, Cond.initialized RX0, Cond.code yX0_codeOf cX0_codeOf 2 (some (.object "Stemspan$Row")), Cond.fieldLink RX0 11 "Stemspan$CodeBook" "codes" "[LStemspan$Row;", Cond.fieldLink RX0 31 "Stemspan$CodeBook" "nothing" "LStemspan$Row;", Cond.static yX5_isSign, Cond.initialized RX5]
def wsX0_writeInto_r2 : List Cond := [Cond.code yX5_isSign cX5_isSign 1 (some .boolean), Cond.methodLink RX0 61 yX2_appendAll, Cond.instanceMethod yX2_appendAll, Cond.selects RX2 yX2_appendAll yX2_appendAll, Cond.code yX2_appendAll cX2_appendAll 3 none, Cond.methodLink RX2 25 yX2_append, Cond.instanceMethod yX2_append, Cond.selects RX2 yX2_append yX2_append, Cond.code yX2_append cX2_append 2 none]
def wsX0_writeInto : List Cond := .code yX0_writeInto cX0_writeInto 4 none :: ((wsX0_writeInto_r1 ++ wsX0_writeInto_r2) ++ wsX20 ++ wsX00)
def wsX4_size : List Cond := .code yX4_size cX4_size 1 (some .int) :: ([.fieldLink RX4 28 "Stemspan$WordList" "count" "I"] ++ wsX40)
def wsX4_rowAt : List Cond := .code yX4_rowAt cX4_rowAt 2 (some (.object "Stemspan$Row")) :: ([.fieldLink RX4 28 "Stemspan$WordList" "count" "I", .fieldLink RX4 11 "Stemspan$WordList" "rows" "[LStemspan$Row;", .fieldLink RX4 24 "Stemspan$WordList" "nothing" "LStemspan$Row;"] ++ wsX40)
def wsX0_mostWritten_r1 : List Cond := [Cond.methodLink RX0 75 Lib.Math.max.name, Cond.static Lib.Math.max.name, Cond.initialized "java/lang/Math", Cond.code Lib.Math.max.name Lib.Math.max.code 2 (some .int), Cond.methodLink RX0 65 yX4_size, Cond.instanceMethod yX4_size, Cond.selects RX4 yX4_size yX4_size, Cond.initialized RX4, Cond.code yX4_size cX4_size 1 (some .int), Cond.fieldLink RX4 28 "Stemspan$WordList" "count" "I", Cond.methodLink RX0 68 yX4_rowAt, Cond.instanceMethod yX4_rowAt, Cond.selects RX4 yX4_rowAt yX4_rowAt, Cond.code yX4_rowAt cX4_rowAt 2 (some (.object "Stemspan$Row")), Cond.fieldLink RX4 11 "Stemspan$WordList" "rows" "[LStemspan$Row;", Cond.fieldLink RX4 24 "Stemspan$WordList" "nothing" "LStemspan$Row;", Cond.methodLink RX0 72 yX0_sizeWritten, Cond.instanceMethod yX0_sizeWritten, Cond.selects RX0 yX0_sizeWritten yX0_sizeWritten, Cond.initialized RX0, Cond.code yX0_sizeWritten cX0_sizeWritten 4 (some .int), Cond.methodLink RX0 47 yX2_size, Cond.instanceMethod yX2_size, Cond.selects RX2 yX2_size yX2_size]
def wsX0_mostWritten_r2 : List Cond := [Cond.initialized RX2, Cond.code yX2_size cX2_size 1 (some .int), Cond.fieldLink RX2 21 "Stemspan$Row" "length" "I", Cond.methodLink RX0 51 yX2_at, Cond.instanceMethod yX2_at, Cond.selects RX2 yX2_at yX2_at, Cond.code yX2_at cX2_at 2 (some .char), Cond.fieldLink RX2 15 "Stemspan$Row" "signs" "[C", Cond.methodLink RX0 54 yX0_codeOf, Cond.instanceMethod yX0_codeOf, Cond.selects RX0 yX0_codeOf yX0_codeOf, Cond.code yX0_codeOf cX0_codeOf 2 (some (.object "Stemspan$Row")), Cond.fieldLink RX0 11 "Stemspan$CodeBook" "codes" "[LStemspan$Row;", Cond.fieldLink RX0 31 "Stemspan$CodeBook" "nothing" "LStemspan$Row;", Cond.static yX5_isSign, Cond.initialized RX5, Cond.code yX5_isSign cX5_isSign 1 (some .boolean)]
def wsX0_mostWritten : List Cond := .code yX0_mostWritten cX0_mostWritten 4 (some .int) :: ((wsX0_mostWritten_r1 ++ wsX0_mostWritten_r2) ++ wsX40 ++ wsX20 ++ wsX00)
def wsX0_writtenAt : List Cond := .code yX0_writtenAt cX0_writtenAt 2 (some (.object "Stemspan$Row")) :: ([.fieldLink RX0 28 "Stemspan$CodeBook" "written" "[LStemspan$Row;", .fieldLink RX0 31 "Stemspan$CodeBook" "nothing" "LStemspan$Row;"] ++ wsX00)
def wsX0_writeWords_r1 : List Cond := [Cond.methodLink RX0 65 yX4_size, Cond.instanceMethod yX4_size, Cond.selects RX4 yX4_size yX4_size, Cond.initialized RX4, Cond.code yX4_size cX4_size 1 (some .int), Cond.fieldLink RX4 28 "Stemspan$WordList" "count" "I", Cond.methodLink RX0 68 yX4_rowAt, Cond.instanceMethod yX4_rowAt, Cond.selects RX4 yX4_rowAt yX4_rowAt, Cond.code yX4_rowAt cX4_rowAt 2 (some (.object "Stemspan$Row")), Cond.fieldLink RX4 11 "Stemspan$WordList" "rows" "[LStemspan$Row;", Cond.fieldLink RX4 24 "Stemspan$WordList" "nothing" "LStemspan$Row;", Cond.methodLink RX0 81 yX0_writtenAt, Cond.instanceMethod yX0_writtenAt, Cond.selects RX0 yX0_writtenAt yX0_writtenAt, Cond.initialized RX0, Cond.code yX0_writtenAt cX0_writtenAt 2 (some (.object "Stemspan$Row")), Cond.fieldLink RX0 28 "Stemspan$CodeBook" "written" "[LStemspan$Row;", Cond.fieldLink RX0 31 "Stemspan$CodeBook" "nothing" "LStemspan$Row;", Cond.methodLink RX0 84 yX0_writeInto, Cond.instanceMethod yX0_writeInto, Cond.selects RX0 yX0_writeInto yX0_writeInto, Cond.code yX0_writeInto cX0_writeInto 4 none, Cond.methodLink RX0 58 yX2_clear]
def wsX0_writeWords_r2 : List Cond := [Cond.instanceMethod yX2_clear, Cond.selects RX2 yX2_clear yX2_clear, Cond.initialized RX2, Cond.code yX2_clear cX2_clear 1 none, Cond.fieldLink RX2 21 "Stemspan$Row" "length" "I", Cond.methodLink RX0 47 yX2_size, Cond.instanceMethod yX2_size, Cond.selects RX2 yX2_size yX2_size, Cond.code yX2_size cX2_size 1 (some .int), Cond.methodLink RX0 51 yX2_at, Cond.instanceMethod yX2_at, Cond.selects RX2 yX2_at yX2_at, Cond.code yX2_at cX2_at 2 (some .char), Cond.fieldLink RX2 15 "Stemspan$Row" "signs" "[C", Cond.methodLink RX0 54 yX0_codeOf, Cond.instanceMethod yX0_codeOf, Cond.selects RX0 yX0_codeOf yX0_codeOf, Cond.code yX0_codeOf cX0_codeOf 2 (some (.object "Stemspan$Row")), Cond.fieldLink RX0 11 "Stemspan$CodeBook" "codes" "[LStemspan$Row;", Cond.static yX5_isSign, Cond.initialized RX5, Cond.code yX5_isSign cX5_isSign 1 (some .boolean), Cond.methodLink RX0 61 yX2_appendAll, Cond.instanceMethod yX2_appendAll]
def wsX0_writeWords_r3 : List Cond := [Cond.selects RX2 yX2_appendAll yX2_appendAll, Cond.code yX2_appendAll cX2_appendAll 3 none, Cond.methodLink RX2 25 yX2_append, Cond.instanceMethod yX2_append, Cond.selects RX2 yX2_append yX2_append, Cond.code yX2_append cX2_append 2 none]
def wsX0_writeWords : List Cond := .code yX0_writeWords cX0_writeWords 3 none :: ((wsX0_writeWords_r1 ++ (wsX0_writeWords_r2 ++ wsX0_writeWords_r3)) ++ wsX40 ++ wsX00 ++ wsX20)
def wsX0_signRead : List Cond := .code yX0_signRead cX0_signRead 4 (some .char) :: ([.fieldLink RX0 11 "Stemspan$CodeBook" "codes" "[LStemspan$Row;", .methodLink RX0 92 yX2_hasAt, .instanceMethod yX2_hasAt, .selects RX2 yX2_hasAt yX2_hasAt, .initialized RX2, .code yX2_hasAt cX2_hasAt 4 (some .boolean), .fieldLink RX2 21 "Stemspan$Row" "length" "I", .fieldLink RX2 15 "Stemspan$Row" "signs" "[C", .static yX5_signOf, .initialized RX5, .code yX5_signOf cX5_signOf 1 (some .char)] ++ wsX00 ++ wsX20)
def wsX0_readInto_r1 : List Cond := [Cond.methodLink RX0 58 yX2_clear, Cond.instanceMethod yX2_clear, Cond.selects RX2 yX2_clear yX2_clear, Cond.initialized RX2, Cond.code yX2_clear cX2_clear 1 none, Cond.fieldLink RX2 21 "Stemspan$Row" "length" "I", Cond.methodLink RX0 47 yX2_size, Cond.instanceMethod yX2_size, Cond.selects RX2 yX2_size yX2_size, Cond.code yX2_size cX2_size 1 (some .int), Cond.methodLink RX0 88 yX0_signRead, Cond.instanceMethod yX0_signRead, Cond.selects RX0 yX0_signRead yX0_signRead, Cond.initialized RX0, Cond.code yX0_signRead cX0_signRead 4 (some .char), Cond.fieldLink RX0 11 "Stemspan$CodeBook" "codes" "[LStemspan$Row;", Cond.methodLink RX0 92 yX2_hasAt, Cond.instanceMethod yX2_hasAt, Cond.selects RX2 yX2_hasAt yX2_hasAt, Cond.code yX2_hasAt cX2_hasAt 4 (some .boolean), Cond.fieldLink RX2 15 "Stemspan$Row" "signs" "[C", Cond.static yX5_signOf, Cond.initialized RX5, Cond.code yX5_signOf cX5_signOf 1 (some .char)]
def wsX0_readInto_r2 : List Cond := [Cond.methodLink RX0 24 yX2_append, Cond.instanceMethod yX2_append, Cond.selects RX2 yX2_append yX2_append, Cond.code yX2_append cX2_append 2 none, Cond.methodLink RX0 54 yX0_codeOf, Cond.instanceMethod yX0_codeOf, Cond.selects RX0 yX0_codeOf yX0_codeOf, Cond.code yX0_codeOf cX0_codeOf 2 (some (.object "Stemspan$Row")), Cond.fieldLink RX0 31 "Stemspan$CodeBook" "nothing" "LStemspan$Row;", Cond.static yX5_isSign, Cond.code yX5_isSign cX5_isSign 1 (some .boolean)]
def wsX0_readInto : List Cond := .code yX0_readInto cX0_readInto 6 (some .boolean) :: ((wsX0_readInto_r1 ++ wsX0_readInto_r2) ++ wsX20 ++ wsX00)
def wsX1_init : List Cond := .code yX1_init cX1_init 1 none :: ([.methodLink RX1 3 objectInit, .instanceMethod objectInit, .code objectInit ⟨#[0xb1]⟩ 1 none, .arrayClass .int, .fieldLink RX1 9 "Stemspan$Cutter" "fits" "[I", .arrayClass .long, .fieldLink RX1 15 "Stemspan$Cutter" "ways" "[J", .fieldLink RX1 19 "Stemspan$Cutter" "least" "[I", .fieldLink RX1 22 "Stemspan$Cutter" "size" "I"] ++ wsX10)
def wsX1_look_r1 : List Cond := [Cond.methodLink RX1 31 Lib.Math.min.name, Cond.static Lib.Math.min.name, Cond.initialized "java/lang/Math", Cond.code Lib.Math.min.name Lib.Math.min.code 2 (some .int), Cond.fieldLink RX1 22 "Stemspan$Cutter" "size" "I", Cond.fieldLink RX1 9 "Stemspan$Cutter" "fits" "[I", Cond.methodLink RX1 26 yX2_size, Cond.instanceMethod yX2_size, Cond.selects RX2 yX2_size yX2_size, Cond.initialized RX2, Cond.code yX2_size cX2_size 1 (some .int), Cond.fieldLink RX2 21 "Stemspan$Row" "length" "I", Cond.methodLink RX1 37 yX4_size, Cond.instanceMethod yX4_size, Cond.selects RX4 yX4_size yX4_size, Cond.initialized RX4, Cond.code yX4_size cX4_size 1 (some .int), Cond.fieldLink RX4 28 "Stemspan$WordList" "count" "I", Cond.methodLink RX1 40 yX4_rowAt, Cond.instanceMethod yX4_rowAt, Cond.selects RX4 yX4_rowAt yX4_rowAt, Cond.code yX4_rowAt cX4_rowAt 2 (some (.object "Stemspan$Row")), Cond.fieldLink RX4 11 "Stemspan$WordList" "rows" "[LStemspan$Row;", Cond.fieldLink RX4 24 "Stemspan$WordList" "nothing" "LStemspan$Row;"]
def wsX1_look_r2 : List Cond := [Cond.methodLink RX1 44 yX2_hasAt, Cond.instanceMethod yX2_hasAt, Cond.selects RX2 yX2_hasAt yX2_hasAt, Cond.code yX2_hasAt cX2_hasAt 4 (some .boolean), Cond.fieldLink RX2 15 "Stemspan$Row" "signs" "[C"]
def wsX1_look : List Cond := .code yX1_look cX1_look 5 none :: ((wsX1_look_r1 ++ wsX1_look_r2) ++ wsX10 ++ wsX20 ++ wsX40)
def wsX1_fitsAt : List Cond := .code yX1_fitsAt cX1_fitsAt 3 (some .boolean) :: ([.fieldLink RX1 22 "Stemspan$Cutter" "size" "I", .fieldLink RX1 9 "Stemspan$Cutter" "fits" "[I"] ++ wsX10)
def wsX1_longestFit : List Cond := .code yX1_longestFit cX1_longestFit 3 (some .int) :: ([.methodLink RX1 48 yX1_fitsAt, .instanceMethod yX1_fitsAt, .selects RX1 yX1_fitsAt yX1_fitsAt, .initialized RX1, .code yX1_fitsAt cX1_fitsAt 3 (some .boolean), .fieldLink RX1 22 "Stemspan$Cutter" "size" "I", .fieldLink RX1 9 "Stemspan$Cutter" "fits" "[I"] ++ wsX10)
def wsX1_countLongest : List Cond := .code yX1_countLongest cX1_countLongest 3 (some .int) :: ([.fieldLink RX1 22 "Stemspan$Cutter" "size" "I", .methodLink RX1 52 yX1_longestFit, .instanceMethod yX1_longestFit, .selects RX1 yX1_longestFit yX1_longestFit, .initialized RX1, .code yX1_longestFit cX1_longestFit 3 (some .int), .methodLink RX1 48 yX1_fitsAt, .instanceMethod yX1_fitsAt, .selects RX1 yX1_fitsAt yX1_fitsAt, .code yX1_fitsAt cX1_fitsAt 3 (some .boolean), .fieldLink RX1 9 "Stemspan$Cutter" "fits" "[I"] ++ wsX10)
def wsX1_sizeOfLongest : List Cond := .code yX1_sizeOfLongest cX1_sizeOfLongest 4 (some .int) :: ([.fieldLink RX1 22 "Stemspan$Cutter" "size" "I", .methodLink RX1 52 yX1_longestFit, .instanceMethod yX1_longestFit, .selects RX1 yX1_longestFit yX1_longestFit, .initialized RX1, .code yX1_longestFit cX1_longestFit 3 (some .int), .methodLink RX1 48 yX1_fitsAt, .instanceMethod yX1_fitsAt, .selects RX1 yX1_fitsAt yX1_fitsAt, .code yX1_fitsAt cX1_fitsAt 3 (some .boolean), .fieldLink RX1 9 "Stemspan$Cutter" "fits" "[I"] ++ wsX10)
def wsX1_countWays : List Cond := .code yX1_countWays cX1_countWays 4 (some .long) :: ([.fieldLink RX1 22 "Stemspan$Cutter" "size" "I", .fieldLink RX1 15 "Stemspan$Cutter" "ways" "[J", .methodLink RX1 48 yX1_fitsAt, .instanceMethod yX1_fitsAt, .selects RX1 yX1_fitsAt yX1_fitsAt, .initialized RX1, .code yX1_fitsAt cX1_fitsAt 3 (some .boolean), .fieldLink RX1 9 "Stemspan$Cutter" "fits" "[I"] ++ wsX10)
def wsX1_lesser : List Cond := .code yX1_lesser cX1_lesser 2 (some .int) :: ([.methodLink RX1 31 Lib.Math.min.name, .static Lib.Math.min.name, .initialized "java/lang/Math", .code Lib.Math.min.name Lib.Math.min.code 2 (some .int)])
def wsX1_leastPieces : List Cond := .code yX1_leastPieces cX1_leastPieces 3 (some .int) :: ([.fieldLink RX1 19 "Stemspan$Cutter" "least" "[I", .fieldLink RX1 22 "Stemspan$Cutter" "size" "I", .methodLink RX1 48 yX1_fitsAt, .instanceMethod yX1_fitsAt, .selects RX1 yX1_fitsAt yX1_fitsAt, .initialized RX1, .code yX1_fitsAt cX1_fitsAt 3 (some .boolean), .fieldLink RX1 9 "Stemspan$Cutter" "fits" "[I", .methodLink RX1 56 yX1_lesser, .static yX1_lesser, .code yX1_lesser cX1_lesser 2 (some .int), .methodLink RX1 31 Lib.Math.min.name, .static Lib.Math.min.name, .initialized "java/lang/Math", .code Lib.Math.min.name Lib.Math.min.code 2 (some .int)] ++ wsX10)
def wsX2_insert : List Cond := .code yX2_insert cX2_insert 4 none :: ([.fieldLink RX2 21 "Stemspan$Row" "length" "I", .fieldLink RX2 15 "Stemspan$Row" "signs" "[C"] ++ wsX20)
def wsX2_removePart : List Cond := .code yX2_removePart cX2_removePart 5 none :: ([.fieldLink RX2 21 "Stemspan$Row" "length" "I", .fieldLink RX2 15 "Stemspan$Row" "signs" "[C"] ++ wsX20)
def wsX2_reverse : List Cond := .code yX2_reverse cX2_reverse 5 (some .boolean) :: ([.fieldLink RX2 21 "Stemspan$Row" "length" "I", .fieldLink RX2 15 "Stemspan$Row" "signs" "[C"] ++ wsX20)
def wsX2_becomePart : List Cond := .code yX2_becomePart cX2_becomePart 5 none :: ([.methodLink RX2 33 yX2_clear, .instanceMethod yX2_clear, .selects RX2 yX2_clear yX2_clear, .initialized RX2, .code yX2_clear cX2_clear 1 none, .fieldLink RX2 21 "Stemspan$Row" "length" "I", .methodLink RX2 36 yX2_at, .instanceMethod yX2_at, .selects RX2 yX2_at yX2_at, .code yX2_at cX2_at 2 (some .char), .fieldLink RX2 15 "Stemspan$Row" "signs" "[C", .methodLink RX2 25 yX2_append, .instanceMethod yX2_append, .selects RX2 yX2_append yX2_append, .code yX2_append cX2_append 2 none] ++ wsX20)
def wsX2_become : List Cond := .code yX2_become cX2_become 2 none :: ([.fieldLink RX2 21 "Stemspan$Row" "length" "I", .methodLink RX2 29 yX2_becomePart, .instanceMethod yX2_becomePart, .selects RX2 yX2_becomePart yX2_becomePart, .initialized RX2, .code yX2_becomePart cX2_becomePart 5 none, .methodLink RX2 33 yX2_clear, .instanceMethod yX2_clear, .selects RX2 yX2_clear yX2_clear, .code yX2_clear cX2_clear 1 none, .methodLink RX2 36 yX2_at, .instanceMethod yX2_at, .selects RX2 yX2_at yX2_at, .code yX2_at cX2_at 2 (some .char), .fieldLink RX2 15 "Stemspan$Row" "signs" "[C", .methodLink RX2 25 yX2_append, .instanceMethod yX2_append, .selects RX2 yX2_append yX2_append, .code yX2_append cX2_append 2 none] ++ wsX20)
def wsX2_addTo : List Cond := .code yX2_addTo cX2_addTo 6 (some .long) :: ([.fieldLink RX2 21 "Stemspan$Row" "length" "I", .constantLong RX2 48 (31), .fieldLink RX2 15 "Stemspan$Row" "signs" "[C"] ++ wsX20)
def wsX3_init : List Cond := .code yX3_init cX3_init 1 none :: ([.methodLink RX3 3 objectInit, .instanceMethod objectInit, .code objectInit ⟨#[0xb1]⟩ 1 none, .classLink RX3 9 RX2, .instantiable RX2 2, .initialized RX2, .fieldLink RX3 14 "Stemspan$Theorem" "part" "LStemspan$Row;", .fieldLink RX3 20 "Stemspan$Theorem" "both" "LStemspan$Row;", .methodLink RX3 11 yX2_init, .instanceMethod yX2_init, .code yX2_init cX2_init 2 none, .methodLink RX2 3 objectInit, .methodLink RX2 9 Lib.Math.max.name, .static Lib.Math.max.name, .initialized "java/lang/Math", .code Lib.Math.max.name Lib.Math.max.code 2 (some .int), .arrayClass .char, .fieldLink RX2 15 "Stemspan$Row" "signs" "[C", .fieldLink RX2 21 "Stemspan$Row" "length" "I"] ++ wsX20 ++ wsX30)
def wsX4_countLess : List Cond := .code yX4_countLess cX4_countLess 3 (some .int) :: ([.fieldLink RX4 28 "Stemspan$WordList" "count" "I", .methodLink RX4 32 yX4_rowAt, .instanceMethod yX4_rowAt, .selects RX4 yX4_rowAt yX4_rowAt, .initialized RX4, .code yX4_rowAt cX4_rowAt 2 (some (.object "Stemspan$Row")), .fieldLink RX4 11 "Stemspan$WordList" "rows" "[LStemspan$Row;", .fieldLink RX4 24 "Stemspan$WordList" "nothing" "LStemspan$Row;", .methodLink RX4 36 yX2_compareWith, .instanceMethod yX2_compareWith, .selects RX2 yX2_compareWith yX2_compareWith, .initialized RX2, .code yX2_compareWith cX2_compareWith 3 (some .int), .fieldLink RX2 21 "Stemspan$Row" "length" "I", .fieldLink RX2 15 "Stemspan$Row" "signs" "[C", .methodLink RX2 40 yX2_common, .instanceMethod yX2_common, .selects RX2 yX2_common yX2_common, .code yX2_common cX2_common 3 (some .int)] ++ wsX40 ++ wsX20)
def wsX4_countBegun : List Cond := .code yX4_countBegun cX4_countBegun 4 (some .int) :: ([.fieldLink RX4 28 "Stemspan$WordList" "count" "I", .methodLink RX4 32 yX4_rowAt, .instanceMethod yX4_rowAt, .selects RX4 yX4_rowAt yX4_rowAt, .initialized RX4, .code yX4_rowAt cX4_rowAt 2 (some (.object "Stemspan$Row")), .fieldLink RX4 11 "Stemspan$WordList" "rows" "[LStemspan$Row;", .fieldLink RX4 24 "Stemspan$WordList" "nothing" "LStemspan$Row;", .methodLink RX4 47 yX2_beginsWith, .instanceMethod yX2_beginsWith, .selects RX2 yX2_beginsWith yX2_beginsWith, .initialized RX2, .code yX2_beginsWith cX2_beginsWith 2 (some .boolean), .methodLink RX2 44 yX2_hasAt, .instanceMethod yX2_hasAt, .selects RX2 yX2_hasAt yX2_hasAt, .code yX2_hasAt cX2_hasAt 4 (some .boolean), .fieldLink RX2 21 "Stemspan$Row" "length" "I", .fieldLink RX2 15 "Stemspan$Row" "signs" "[C"] ++ wsX40 ++ wsX20)
def wsX3_standTogether_r1 : List Cond := [Cond.fieldLink RX3 14 "Stemspan$Theorem" "part" "LStemspan$Row;", Cond.methodLink RX3 41 yX4_countLess, Cond.instanceMethod yX4_countLess, Cond.selects RX4 yX4_countLess yX4_countLess, Cond.initialized RX4, Cond.code yX4_countLess cX4_countLess 3 (some .int), Cond.fieldLink RX4 28 "Stemspan$WordList" "count" "I", Cond.methodLink RX4 32 yX4_rowAt, Cond.instanceMethod yX4_rowAt, Cond.selects RX4 yX4_rowAt yX4_rowAt, Cond.code yX4_rowAt cX4_rowAt 2 (some (.object "Stemspan$Row")), Cond.fieldLink RX4 11 "Stemspan$WordList" "rows" "[LStemspan$Row;", Cond.fieldLink RX4 24 "Stemspan$WordList" "nothing" "LStemspan$Row;", Cond.methodLink RX4 36 yX2_compareWith, Cond.instanceMethod yX2_compareWith, Cond.selects RX2 yX2_compareWith yX2_compareWith, Cond.initialized RX2, Cond.code yX2_compareWith cX2_compareWith 3 (some .int), Cond.fieldLink RX2 21 "Stemspan$Row" "length" "I", Cond.fieldLink RX2 15 "Stemspan$Row" "signs" "[C", Cond.methodLink RX2 40 yX2_common, Cond.instanceMethod yX2_common, Cond.selects RX2 yX2_common yX2_common, Cond.code yX2_common cX2_common 3 (some .int)]
def wsX3_standTogether_r2 : List Cond := [Cond.methodLink RX3 47 yX4_countBegun, Cond.instanceMethod yX4_countBegun, Cond.selects RX4 yX4_countBegun yX4_countBegun, Cond.code yX4_countBegun cX4_countBegun 4 (some .int), Cond.methodLink RX4 47 yX2_beginsWith, Cond.instanceMethod yX2_beginsWith, Cond.selects RX2 yX2_beginsWith yX2_beginsWith, Cond.code yX2_beginsWith cX2_beginsWith 2 (some .boolean), Cond.methodLink RX2 44 yX2_hasAt, Cond.instanceMethod yX2_hasAt, Cond.selects RX2 yX2_hasAt yX2_hasAt, Cond.code yX2_hasAt cX2_hasAt 4 (some .boolean), Cond.methodLink RX3 50 yX4_size, Cond.instanceMethod yX4_size, Cond.selects RX4 yX4_size yX4_size, Cond.code yX4_size cX4_size 1 (some .int), Cond.methodLink RX3 51 yX4_rowAt, Cond.methodLink RX3 55 yX2_beginsWith]
def wsX3_standTogether : List Cond := .code yX3_standTogether cX3_standTogether 6 (some .boolean) :: ((wsX3_standTogether_r1 ++ wsX3_standTogether_r2) ++ wsX30 ++ wsX40 ++ wsX20)
def wsX3_beginningsHold_r1 : List Cond := [Cond.methodLink RX3 27 Lib.Math.min.name, Cond.static Lib.Math.min.name, Cond.initialized "java/lang/Math", Cond.code Lib.Math.min.name Lib.Math.min.code 2 (some .int), Cond.fieldLink RX3 14 "Stemspan$Theorem" "part" "LStemspan$Row;", Cond.methodLink RX3 23 yX2_size, Cond.instanceMethod yX2_size, Cond.selects RX2 yX2_size yX2_size, Cond.initialized RX2, Cond.code yX2_size cX2_size 1 (some .int), Cond.fieldLink RX2 21 "Stemspan$Row" "length" "I", Cond.methodLink RX3 33 yX2_becomePart, Cond.instanceMethod yX2_becomePart, Cond.selects RX2 yX2_becomePart yX2_becomePart, Cond.code yX2_becomePart cX2_becomePart 5 none, Cond.methodLink RX2 33 yX2_clear, Cond.instanceMethod yX2_clear, Cond.selects RX2 yX2_clear yX2_clear, Cond.code yX2_clear cX2_clear 1 none, Cond.methodLink RX2 36 yX2_at, Cond.instanceMethod yX2_at, Cond.selects RX2 yX2_at yX2_at, Cond.code yX2_at cX2_at 2 (some .char), Cond.fieldLink RX2 15 "Stemspan$Row" "signs" "[C"]
def wsX3_beginningsHold_r2 : List Cond := [Cond.methodLink RX2 25 yX2_append, Cond.instanceMethod yX2_append, Cond.selects RX2 yX2_append yX2_append, Cond.code yX2_append cX2_append 2 none, Cond.methodLink RX3 37 yX3_standTogether, Cond.instanceMethod yX3_standTogether, Cond.selects RX3 yX3_standTogether yX3_standTogether, Cond.initialized RX3, Cond.code yX3_standTogether cX3_standTogether 6 (some .boolean), Cond.methodLink RX3 41 yX4_countLess, Cond.instanceMethod yX4_countLess, Cond.selects RX4 yX4_countLess yX4_countLess, Cond.initialized RX4, Cond.code yX4_countLess cX4_countLess 3 (some .int), Cond.fieldLink RX4 28 "Stemspan$WordList" "count" "I", Cond.methodLink RX4 32 yX4_rowAt, Cond.instanceMethod yX4_rowAt, Cond.selects RX4 yX4_rowAt yX4_rowAt, Cond.code yX4_rowAt cX4_rowAt 2 (some (.object "Stemspan$Row")), Cond.fieldLink RX4 11 "Stemspan$WordList" "rows" "[LStemspan$Row;", Cond.fieldLink RX4 24 "Stemspan$WordList" "nothing" "LStemspan$Row;", Cond.methodLink RX4 36 yX2_compareWith, Cond.instanceMethod yX2_compareWith, Cond.selects RX2 yX2_compareWith yX2_compareWith]
def wsX3_beginningsHold_r3 : List Cond := [Cond.code yX2_compareWith cX2_compareWith 3 (some .int), Cond.methodLink RX2 40 yX2_common, Cond.instanceMethod yX2_common, Cond.selects RX2 yX2_common yX2_common, Cond.code yX2_common cX2_common 3 (some .int), Cond.methodLink RX3 47 yX4_countBegun, Cond.instanceMethod yX4_countBegun, Cond.selects RX4 yX4_countBegun yX4_countBegun, Cond.code yX4_countBegun cX4_countBegun 4 (some .int), Cond.methodLink RX4 47 yX2_beginsWith, Cond.instanceMethod yX2_beginsWith, Cond.selects RX2 yX2_beginsWith yX2_beginsWith, Cond.code yX2_beginsWith cX2_beginsWith 2 (some .boolean), Cond.methodLink RX2 44 yX2_hasAt, Cond.instanceMethod yX2_hasAt, Cond.selects RX2 yX2_hasAt yX2_hasAt, Cond.code yX2_hasAt cX2_hasAt 4 (some .boolean), Cond.methodLink RX3 50 yX4_size, Cond.instanceMethod yX4_size, Cond.selects RX4 yX4_size yX4_size, Cond.code yX4_size cX4_size 1 (some .int), Cond.methodLink RX3 51 yX4_rowAt, Cond.methodLink RX3 55 yX2_beginsWith]
def wsX3_beginningsHold : List Cond := .code yX3_beginningsHold cX3_beginningsHold 5 (some .boolean) :: ((wsX3_beginningsHold_r1 ++ (wsX3_beginningsHold_r2 ++ wsX3_beginningsHold_r3)) ++ wsX30 ++ wsX20 ++ wsX40)
def wsX4_longestAt : List Cond := .code yX4_longestAt cX4_longestAt 5 (some .int) :: ([.fieldLink RX4 28 "Stemspan$WordList" "count" "I", .methodLink RX4 66 Lib.Math.max.name, .static Lib.Math.max.name, .initialized "java/lang/Math", .code Lib.Math.max.name Lib.Math.max.code 2 (some .int), .methodLink RX4 32 yX4_rowAt, .instanceMethod yX4_rowAt, .selects RX4 yX4_rowAt yX4_rowAt, .initialized RX4, .code yX4_rowAt cX4_rowAt 2 (some (.object "Stemspan$Row")), .fieldLink RX4 11 "Stemspan$WordList" "rows" "[LStemspan$Row;", .fieldLink RX4 24 "Stemspan$WordList" "nothing" "LStemspan$Row;", .methodLink RX4 58 yX2_hasAt, .instanceMethod yX2_hasAt, .selects RX2 yX2_hasAt yX2_hasAt, .initialized RX2, .code yX2_hasAt cX2_hasAt 4 (some .boolean), .fieldLink RX2 21 "Stemspan$Row" "length" "I", .fieldLink RX2 15 "Stemspan$Row" "signs" "[C", .methodLink RX4 62 yX2_size, .instanceMethod yX2_size, .selects RX2 yX2_size yX2_size, .code yX2_size cX2_size 1 (some .int)] ++ wsX40 ++ wsX20)
def wsX4_countNotGreater : List Cond := .code yX4_countNotGreater cX4_countNotGreater 3 (some .int) :: ([.fieldLink RX4 28 "Stemspan$WordList" "count" "I", .methodLink RX4 32 yX4_rowAt, .instanceMethod yX4_rowAt, .selects RX4 yX4_rowAt yX4_rowAt, .initialized RX4, .code yX4_rowAt cX4_rowAt 2 (some (.object "Stemspan$Row")), .fieldLink RX4 11 "Stemspan$WordList" "rows" "[LStemspan$Row;", .fieldLink RX4 24 "Stemspan$WordList" "nothing" "LStemspan$Row;", .methodLink RX4 36 yX2_compareWith, .instanceMethod yX2_compareWith, .selects RX2 yX2_compareWith yX2_compareWith, .initialized RX2, .code yX2_compareWith cX2_compareWith 3 (some .int), .fieldLink RX2 21 "Stemspan$Row" "length" "I", .fieldLink RX2 15 "Stemspan$Row" "signs" "[C", .methodLink RX2 40 yX2_common, .instanceMethod yX2_common, .selects RX2 yX2_common yX2_common, .code yX2_common cX2_common 3 (some .int)] ++ wsX40 ++ wsX20)
def wsX3_longestByOrder_r1 : List Cond := [Cond.fieldLink RX3 14 "Stemspan$Theorem" "part" "LStemspan$Row;", Cond.fieldLink RX3 20 "Stemspan$Theorem" "both" "LStemspan$Row;", Cond.methodLink RX3 67 yX4_countNotGreater, Cond.instanceMethod yX4_countNotGreater, Cond.selects RX4 yX4_countNotGreater yX4_countNotGreater, Cond.initialized RX4, Cond.code yX4_countNotGreater cX4_countNotGreater 3 (some .int), Cond.fieldLink RX4 28 "Stemspan$WordList" "count" "I", Cond.methodLink RX4 32 yX4_rowAt, Cond.instanceMethod yX4_rowAt, Cond.selects RX4 yX4_rowAt yX4_rowAt, Cond.code yX4_rowAt cX4_rowAt 2 (some (.object "Stemspan$Row")), Cond.fieldLink RX4 11 "Stemspan$WordList" "rows" "[LStemspan$Row;", Cond.fieldLink RX4 24 "Stemspan$WordList" "nothing" "LStemspan$Row;", Cond.methodLink RX4 36 yX2_compareWith, Cond.instanceMethod yX2_compareWith, Cond.selects RX2 yX2_compareWith yX2_compareWith, Cond.initialized RX2, Cond.code yX2_compareWith cX2_compareWith 3 (some .int), Cond.fieldLink RX2 21 "Stemspan$Row" "length" "I", Cond.fieldLink RX2 15 "Stemspan$Row" "signs" "[C", Cond.methodLink RX2 40 yX2_common, Cond.instanceMethod yX2_common, Cond.selects RX2 yX2_common yX2_common]
def wsX3_longestByOrder_r2 : List Cond := [Cond.code yX2_common cX2_common 3 (some .int), Cond.methodLink RX3 51 yX4_rowAt, Cond.methodLink RX3 55 yX2_beginsWith, Cond.instanceMethod yX2_beginsWith, Cond.selects RX2 yX2_beginsWith yX2_beginsWith, Cond.code yX2_beginsWith cX2_beginsWith 2 (some .boolean), Cond.methodLink RX2 44 yX2_hasAt, Cond.instanceMethod yX2_hasAt, Cond.selects RX2 yX2_hasAt yX2_hasAt, Cond.code yX2_hasAt cX2_hasAt 4 (some .boolean), Cond.methodLink RX3 23 yX2_size, Cond.instanceMethod yX2_size, Cond.selects RX2 yX2_size yX2_size, Cond.code yX2_size cX2_size 1 (some .int), Cond.methodLink RX3 70 yX2_common, Cond.methodLink RX3 33 yX2_becomePart, Cond.instanceMethod yX2_becomePart, Cond.selects RX2 yX2_becomePart yX2_becomePart, Cond.code yX2_becomePart cX2_becomePart 5 none, Cond.methodLink RX2 33 yX2_clear, Cond.instanceMethod yX2_clear, Cond.selects RX2 yX2_clear yX2_clear, Cond.code yX2_clear cX2_clear 1 none, Cond.methodLink RX2 36 yX2_at]
def wsX3_longestByOrder_r3 : List Cond := [Cond.instanceMethod yX2_at, Cond.selects RX2 yX2_at yX2_at, Cond.code yX2_at cX2_at 2 (some .char), Cond.methodLink RX2 25 yX2_append, Cond.instanceMethod yX2_append, Cond.selects RX2 yX2_append yX2_append, Cond.code yX2_append cX2_append 2 none, Cond.methodLink RX3 59 yX4_longestAt, Cond.instanceMethod yX4_longestAt, Cond.selects RX4 yX4_longestAt yX4_longestAt, Cond.code yX4_longestAt cX4_longestAt 5 (some .int), Cond.methodLink RX4 66 Lib.Math.max.name, Cond.static Lib.Math.max.name, Cond.initialized "java/lang/Math", Cond.code Lib.Math.max.name Lib.Math.max.code 2 (some .int), Cond.methodLink RX4 58 yX2_hasAt, Cond.methodLink RX4 62 yX2_size]
def wsX3_longestByOrder : List Cond := .code yX3_longestByOrder cX3_longestByOrder 4 (some .int) :: ((wsX3_longestByOrder_r1 ++ (wsX3_longestByOrder_r2 ++ wsX3_longestByOrder_r3)) ++ wsX30 ++ wsX40 ++ wsX20)
def wsX3_longestHolds_r1 : List Cond := [Cond.fieldLink RX3 14 "Stemspan$Theorem" "part" "LStemspan$Row;", Cond.methodLink RX3 23 yX2_size, Cond.instanceMethod yX2_size, Cond.selects RX2 yX2_size yX2_size, Cond.initialized RX2, Cond.code yX2_size cX2_size 1 (some .int), Cond.fieldLink RX2 21 "Stemspan$Row" "length" "I", Cond.methodLink RX3 33 yX2_becomePart, Cond.instanceMethod yX2_becomePart, Cond.selects RX2 yX2_becomePart yX2_becomePart, Cond.code yX2_becomePart cX2_becomePart 5 none, Cond.methodLink RX2 33 yX2_clear, Cond.instanceMethod yX2_clear, Cond.selects RX2 yX2_clear yX2_clear, Cond.code yX2_clear cX2_clear 1 none, Cond.methodLink RX2 36 yX2_at, Cond.instanceMethod yX2_at, Cond.selects RX2 yX2_at yX2_at, Cond.code yX2_at cX2_at 2 (some .char), Cond.fieldLink RX2 15 "Stemspan$Row" "signs" "[C", Cond.methodLink RX2 25 yX2_append, Cond.instanceMethod yX2_append, Cond.selects RX2 yX2_append yX2_append, Cond.code yX2_append cX2_append 2 none]
def wsX3_longestHolds_r2 : List Cond := [Cond.methodLink RX3 59 yX4_longestAt, Cond.instanceMethod yX4_longestAt, Cond.selects RX4 yX4_longestAt yX4_longestAt, Cond.initialized RX4, Cond.code yX4_longestAt cX4_longestAt 5 (some .int), Cond.fieldLink RX4 28 "Stemspan$WordList" "count" "I", Cond.methodLink RX4 66 Lib.Math.max.name, Cond.static Lib.Math.max.name, Cond.initialized "java/lang/Math", Cond.code Lib.Math.max.name Lib.Math.max.code 2 (some .int), Cond.methodLink RX4 32 yX4_rowAt, Cond.instanceMethod yX4_rowAt, Cond.selects RX4 yX4_rowAt yX4_rowAt, Cond.code yX4_rowAt cX4_rowAt 2 (some (.object "Stemspan$Row")), Cond.fieldLink RX4 11 "Stemspan$WordList" "rows" "[LStemspan$Row;", Cond.fieldLink RX4 24 "Stemspan$WordList" "nothing" "LStemspan$Row;", Cond.methodLink RX4 58 yX2_hasAt, Cond.instanceMethod yX2_hasAt, Cond.selects RX2 yX2_hasAt yX2_hasAt, Cond.code yX2_hasAt cX2_hasAt 4 (some .boolean), Cond.methodLink RX4 62 yX2_size, Cond.methodLink RX3 63 yX3_longestByOrder, Cond.instanceMethod yX3_longestByOrder, Cond.selects RX3 yX3_longestByOrder yX3_longestByOrder]
def wsX3_longestHolds_r3 : List Cond := [Cond.initialized RX3, Cond.code yX3_longestByOrder cX3_longestByOrder 4 (some .int), Cond.fieldLink RX3 20 "Stemspan$Theorem" "both" "LStemspan$Row;", Cond.methodLink RX3 67 yX4_countNotGreater, Cond.instanceMethod yX4_countNotGreater, Cond.selects RX4 yX4_countNotGreater yX4_countNotGreater, Cond.code yX4_countNotGreater cX4_countNotGreater 3 (some .int), Cond.methodLink RX4 36 yX2_compareWith, Cond.instanceMethod yX2_compareWith, Cond.selects RX2 yX2_compareWith yX2_compareWith, Cond.code yX2_compareWith cX2_compareWith 3 (some .int), Cond.methodLink RX2 40 yX2_common, Cond.instanceMethod yX2_common, Cond.selects RX2 yX2_common yX2_common, Cond.code yX2_common cX2_common 3 (some .int), Cond.methodLink RX3 51 yX4_rowAt, Cond.methodLink RX3 55 yX2_beginsWith, Cond.instanceMethod yX2_beginsWith, Cond.selects RX2 yX2_beginsWith yX2_beginsWith, Cond.code yX2_beginsWith cX2_beginsWith 2 (some .boolean), Cond.methodLink RX2 44 yX2_hasAt, Cond.methodLink RX3 70 yX2_common]
def wsX3_longestHolds : List Cond := .code yX3_longestHolds cX3_longestHolds 4 (some .boolean) :: ((wsX3_longestHolds_r1 ++ (wsX3_longestHolds_r2 ++ wsX3_longestHolds_r3)) ++ wsX30 ++ wsX20 ++ wsX40)
def wsX4_mostCommon : List Cond := .code yX4_mostCommon cX4_mostCommon 4 (some .int) :: ([.fieldLink RX4 28 "Stemspan$WordList" "count" "I", .methodLink RX4 66 Lib.Math.max.name, .static Lib.Math.max.name, .initialized "java/lang/Math", .code Lib.Math.max.name Lib.Math.max.code 2 (some .int), .methodLink RX4 32 yX4_rowAt, .instanceMethod yX4_rowAt, .selects RX4 yX4_rowAt yX4_rowAt, .initialized RX4, .code yX4_rowAt cX4_rowAt 2 (some (.object "Stemspan$Row")), .fieldLink RX4 11 "Stemspan$WordList" "rows" "[LStemspan$Row;", .fieldLink RX4 24 "Stemspan$WordList" "nothing" "LStemspan$Row;", .methodLink RX4 72 yX2_common, .instanceMethod yX2_common, .selects RX2 yX2_common yX2_common, .initialized RX2, .code yX2_common cX2_common 3 (some .int), .fieldLink RX2 21 "Stemspan$Row" "length" "I", .fieldLink RX2 15 "Stemspan$Row" "signs" "[C"] ++ wsX40 ++ wsX20)
def wsX3_commonHolds_r1 : List Cond := [Cond.methodLink RX3 76 Lib.Math.max.name, Cond.static Lib.Math.max.name, Cond.initialized "java/lang/Math", Cond.code Lib.Math.max.name Lib.Math.max.code 2 (some .int), Cond.methodLink RX3 67 yX4_countNotGreater, Cond.instanceMethod yX4_countNotGreater, Cond.selects RX4 yX4_countNotGreater yX4_countNotGreater, Cond.initialized RX4, Cond.code yX4_countNotGreater cX4_countNotGreater 3 (some .int), Cond.fieldLink RX4 28 "Stemspan$WordList" "count" "I", Cond.methodLink RX4 32 yX4_rowAt, Cond.instanceMethod yX4_rowAt, Cond.selects RX4 yX4_rowAt yX4_rowAt, Cond.code yX4_rowAt cX4_rowAt 2 (some (.object "Stemspan$Row")), Cond.fieldLink RX4 11 "Stemspan$WordList" "rows" "[LStemspan$Row;", Cond.fieldLink RX4 24 "Stemspan$WordList" "nothing" "LStemspan$Row;", Cond.methodLink RX4 36 yX2_compareWith, Cond.instanceMethod yX2_compareWith, Cond.selects RX2 yX2_compareWith yX2_compareWith, Cond.initialized RX2, Cond.code yX2_compareWith cX2_compareWith 3 (some .int), Cond.fieldLink RX2 21 "Stemspan$Row" "length" "I", Cond.fieldLink RX2 15 "Stemspan$Row" "signs" "[C", Cond.methodLink RX2 40 yX2_common]
def wsX3_commonHolds_r2 : List Cond := [Cond.instanceMethod yX2_common, Cond.selects RX2 yX2_common yX2_common, Cond.code yX2_common cX2_common 3 (some .int), Cond.methodLink RX3 51 yX4_rowAt, Cond.methodLink RX3 70 yX2_common, Cond.methodLink RX3 41 yX4_countLess, Cond.instanceMethod yX4_countLess, Cond.selects RX4 yX4_countLess yX4_countLess, Cond.code yX4_countLess cX4_countLess 3 (some .int), Cond.methodLink RX3 73 yX4_mostCommon, Cond.instanceMethod yX4_mostCommon, Cond.selects RX4 yX4_mostCommon yX4_mostCommon, Cond.code yX4_mostCommon cX4_mostCommon 4 (some .int), Cond.methodLink RX4 66 Lib.Math.max.name, Cond.methodLink RX4 72 yX2_common]
def wsX3_commonHolds : List Cond := .code yX3_commonHolds cX3_commonHolds 5 (some .boolean) :: ((wsX3_commonHolds_r1 ++ wsX3_commonHolds_r2) ++ wsX40 ++ wsX20)
def wsX4_mostCommonOfTwo : List Cond := .code yX4_mostCommonOfTwo cX4_mostCommonOfTwo 4 (some .int) :: ([.fieldLink RX4 28 "Stemspan$WordList" "count" "I", .methodLink RX4 66 Lib.Math.max.name, .static Lib.Math.max.name, .initialized "java/lang/Math", .code Lib.Math.max.name Lib.Math.max.code 2 (some .int), .methodLink RX4 32 yX4_rowAt, .instanceMethod yX4_rowAt, .selects RX4 yX4_rowAt yX4_rowAt, .initialized RX4, .code yX4_rowAt cX4_rowAt 2 (some (.object "Stemspan$Row")), .fieldLink RX4 11 "Stemspan$WordList" "rows" "[LStemspan$Row;", .fieldLink RX4 24 "Stemspan$WordList" "nothing" "LStemspan$Row;", .methodLink RX4 72 yX2_common, .instanceMethod yX2_common, .selects RX2 yX2_common yX2_common, .initialized RX2, .code yX2_common cX2_common 3 (some .int), .fieldLink RX2 21 "Stemspan$Row" "length" "I", .fieldLink RX2 15 "Stemspan$Row" "signs" "[C"] ++ wsX40 ++ wsX20)
def wsX3_twinsHold_r1 : List Cond := [Cond.methodLink RX3 76 Lib.Math.max.name, Cond.static Lib.Math.max.name, Cond.initialized "java/lang/Math", Cond.code Lib.Math.max.name Lib.Math.max.code 2 (some .int), Cond.methodLink RX3 50 yX4_size, Cond.instanceMethod yX4_size, Cond.selects RX4 yX4_size yX4_size, Cond.initialized RX4, Cond.code yX4_size cX4_size 1 (some .int), Cond.fieldLink RX4 28 "Stemspan$WordList" "count" "I", Cond.methodLink RX3 51 yX4_rowAt, Cond.instanceMethod yX4_rowAt, Cond.selects RX4 yX4_rowAt yX4_rowAt, Cond.code yX4_rowAt cX4_rowAt 2 (some (.object "Stemspan$Row")), Cond.fieldLink RX4 11 "Stemspan$WordList" "rows" "[LStemspan$Row;", Cond.fieldLink RX4 24 "Stemspan$WordList" "nothing" "LStemspan$Row;", Cond.methodLink RX3 70 yX2_common, Cond.instanceMethod yX2_common, Cond.selects RX2 yX2_common yX2_common, Cond.initialized RX2, Cond.code yX2_common cX2_common 3 (some .int), Cond.fieldLink RX2 21 "Stemspan$Row" "length" "I", Cond.fieldLink RX2 15 "Stemspan$Row" "signs" "[C", Cond.methodLink RX3 79 yX4_mostCommonOfTwo]
def wsX3_twinsHold_r2 : List Cond := [Cond.instanceMethod yX4_mostCommonOfTwo, Cond.selects RX4 yX4_mostCommonOfTwo yX4_mostCommonOfTwo, Cond.code yX4_mostCommonOfTwo cX4_mostCommonOfTwo 4 (some .int), Cond.methodLink RX4 66 Lib.Math.max.name, Cond.methodLink RX4 32 yX4_rowAt, Cond.methodLink RX4 72 yX2_common]
def wsX3_twinsHold : List Cond := .code yX3_twinsHold cX3_twinsHold 4 (some .boolean) :: ((wsX3_twinsHold_r1 ++ wsX3_twinsHold_r2) ++ wsX40 ++ wsX20)
def wsX3_cutsHold : List Cond := .code yX3_cutsHold cX3_cutsHold 6 (some .boolean) :: ([.methodLink RX3 23 yX2_size, .instanceMethod yX2_size, .selects RX2 yX2_size yX2_size, .initialized RX2, .code yX2_size cX2_size 1 (some .int), .fieldLink RX2 21 "Stemspan$Row" "length" "I", .methodLink RX3 82 yX1_fitsAt, .instanceMethod yX1_fitsAt, .selects RX1 yX1_fitsAt yX1_fitsAt, .initialized RX1, .code yX1_fitsAt cX1_fitsAt 3 (some .boolean), .fieldLink RX1 22 "Stemspan$Cutter" "size" "I", .fieldLink RX1 9 "Stemspan$Cutter" "fits" "[I", .methodLink RX3 88 yX1_countWays, .instanceMethod yX1_countWays, .selects RX1 yX1_countWays yX1_countWays, .code yX1_countWays cX1_countWays 4 (some .long), .fieldLink RX1 15 "Stemspan$Cutter" "ways" "[J", .methodLink RX1 48 yX1_fitsAt] ++ wsX20 ++ wsX10)
def wsX4_rankOf : List Cond := .code yX4_rankOf cX4_rankOf 3 (some .int) :: ([.fieldLink RX4 28 "Stemspan$WordList" "count" "I", .methodLink RX4 40 yX4_countLess, .instanceMethod yX4_countLess, .selects RX4 yX4_countLess yX4_countLess, .initialized RX4, .code yX4_countLess cX4_countLess 3 (some .int), .methodLink RX4 32 yX4_rowAt, .instanceMethod yX4_rowAt, .selects RX4 yX4_rowAt yX4_rowAt, .code yX4_rowAt cX4_rowAt 2 (some (.object "Stemspan$Row")), .fieldLink RX4 11 "Stemspan$WordList" "rows" "[LStemspan$Row;", .fieldLink RX4 24 "Stemspan$WordList" "nothing" "LStemspan$Row;", .methodLink RX4 36 yX2_compareWith, .instanceMethod yX2_compareWith, .selects RX2 yX2_compareWith yX2_compareWith, .initialized RX2, .code yX2_compareWith cX2_compareWith 3 (some .int), .fieldLink RX2 21 "Stemspan$Row" "length" "I", .fieldLink RX2 15 "Stemspan$Row" "signs" "[C", .methodLink RX2 40 yX2_common, .instanceMethod yX2_common, .selects RX2 yX2_common yX2_common, .code yX2_common cX2_common 3 (some .int)] ++ wsX40 ++ wsX20)
def wsX3_endsAreWords_r1 : List Cond := [Cond.fieldLink RX3 14 "Stemspan$Theorem" "part" "LStemspan$Row;", Cond.methodLink RX3 50 yX4_size, Cond.instanceMethod yX4_size, Cond.selects RX4 yX4_size yX4_size, Cond.initialized RX4, Cond.code yX4_size cX4_size 1 (some .int), Cond.fieldLink RX4 28 "Stemspan$WordList" "count" "I", Cond.methodLink RX3 51 yX4_rowAt, Cond.instanceMethod yX4_rowAt, Cond.selects RX4 yX4_rowAt yX4_rowAt, Cond.code yX4_rowAt cX4_rowAt 2 (some (.object "Stemspan$Row")), Cond.fieldLink RX4 11 "Stemspan$WordList" "rows" "[LStemspan$Row;", Cond.fieldLink RX4 24 "Stemspan$WordList" "nothing" "LStemspan$Row;", Cond.methodLink RX3 23 yX2_size, Cond.instanceMethod yX2_size, Cond.selects RX2 yX2_size yX2_size, Cond.initialized RX2, Cond.code yX2_size cX2_size 1 (some .int), Cond.fieldLink RX2 21 "Stemspan$Row" "length" "I", Cond.methodLink RX3 33 yX2_becomePart, Cond.instanceMethod yX2_becomePart, Cond.selects RX2 yX2_becomePart yX2_becomePart, Cond.code yX2_becomePart cX2_becomePart 5 none, Cond.methodLink RX2 33 yX2_clear]
def wsX3_endsAreWords_r2 : List Cond := [Cond.instanceMethod yX2_clear, Cond.selects RX2 yX2_clear yX2_clear, Cond.code yX2_clear cX2_clear 1 none, Cond.methodLink RX2 36 yX2_at, Cond.instanceMethod yX2_at, Cond.selects RX2 yX2_at yX2_at, Cond.code yX2_at cX2_at 2 (some .char), Cond.fieldLink RX2 15 "Stemspan$Row" "signs" "[C", Cond.methodLink RX2 25 yX2_append, Cond.instanceMethod yX2_append, Cond.selects RX2 yX2_append yX2_append, Cond.code yX2_append cX2_append 2 none, Cond.methodLink RX3 101 yX4_rankOf, Cond.instanceMethod yX4_rankOf, Cond.selects RX4 yX4_rankOf yX4_rankOf, Cond.code yX4_rankOf cX4_rankOf 3 (some .int), Cond.methodLink RX4 40 yX4_countLess, Cond.instanceMethod yX4_countLess, Cond.selects RX4 yX4_countLess yX4_countLess, Cond.code yX4_countLess cX4_countLess 3 (some .int), Cond.methodLink RX4 32 yX4_rowAt, Cond.methodLink RX4 36 yX2_compareWith, Cond.instanceMethod yX2_compareWith, Cond.selects RX2 yX2_compareWith yX2_compareWith]
def wsX3_endsAreWords_r3 : List Cond := [Cond.code yX2_compareWith cX2_compareWith 3 (some .int), Cond.methodLink RX2 40 yX2_common, Cond.instanceMethod yX2_common, Cond.selects RX2 yX2_common yX2_common, Cond.code yX2_common cX2_common 3 (some .int)]
def wsX3_endsAreWords : List Cond := .code yX3_endsAreWords cX3_endsAreWords 5 (some .boolean) :: ((wsX3_endsAreWords_r1 ++ (wsX3_endsAreWords_r2 ++ wsX3_endsAreWords_r3)) ++ wsX30 ++ wsX40 ++ wsX20)
def wsX3_fewestHolds_r1 : List Cond := [Cond.methodLink RX3 92 yX1_leastPieces, Cond.instanceMethod yX1_leastPieces, Cond.selects RX1 yX1_leastPieces yX1_leastPieces, Cond.initialized RX1, Cond.code yX1_leastPieces cX1_leastPieces 3 (some .int), Cond.fieldLink RX1 19 "Stemspan$Cutter" "least" "[I", Cond.fieldLink RX1 22 "Stemspan$Cutter" "size" "I", Cond.methodLink RX1 48 yX1_fitsAt, Cond.instanceMethod yX1_fitsAt, Cond.selects RX1 yX1_fitsAt yX1_fitsAt, Cond.code yX1_fitsAt cX1_fitsAt 3 (some .boolean), Cond.fieldLink RX1 9 "Stemspan$Cutter" "fits" "[I", Cond.methodLink RX1 56 yX1_lesser, Cond.static yX1_lesser, Cond.code yX1_lesser cX1_lesser 2 (some .int), Cond.methodLink RX1 31 Lib.Math.min.name, Cond.static Lib.Math.min.name, Cond.initialized "java/lang/Math", Cond.code Lib.Math.min.name Lib.Math.min.code 2 (some .int), Cond.methodLink RX3 95 yX1_countLongest, Cond.instanceMethod yX1_countLongest, Cond.selects RX1 yX1_countLongest yX1_countLongest, Cond.code yX1_countLongest cX1_countLongest 3 (some .int), Cond.methodLink RX1 52 yX1_longestFit]
def wsX3_fewestHolds_r2 : List Cond := [Cond.instanceMethod yX1_longestFit, Cond.selects RX1 yX1_longestFit yX1_longestFit, Cond.code yX1_longestFit cX1_longestFit 3 (some .int), Cond.methodLink RX3 98 yX3_endsAreWords, Cond.instanceMethod yX3_endsAreWords, Cond.selects RX3 yX3_endsAreWords yX3_endsAreWords, Cond.initialized RX3, Cond.code yX3_endsAreWords cX3_endsAreWords 5 (some .boolean), Cond.fieldLink RX3 14 "Stemspan$Theorem" "part" "LStemspan$Row;", Cond.methodLink RX3 50 yX4_size, Cond.instanceMethod yX4_size, Cond.selects RX4 yX4_size yX4_size, Cond.initialized RX4, Cond.code yX4_size cX4_size 1 (some .int), Cond.fieldLink RX4 28 "Stemspan$WordList" "count" "I", Cond.methodLink RX3 51 yX4_rowAt, Cond.instanceMethod yX4_rowAt, Cond.selects RX4 yX4_rowAt yX4_rowAt, Cond.code yX4_rowAt cX4_rowAt 2 (some (.object "Stemspan$Row")), Cond.fieldLink RX4 11 "Stemspan$WordList" "rows" "[LStemspan$Row;", Cond.fieldLink RX4 24 "Stemspan$WordList" "nothing" "LStemspan$Row;", Cond.methodLink RX3 23 yX2_size, Cond.instanceMethod yX2_size, Cond.selects RX2 yX2_size yX2_size]
def wsX3_fewestHolds_r3 : List Cond := [Cond.initialized RX2, Cond.code yX2_size cX2_size 1 (some .int), Cond.fieldLink RX2 21 "Stemspan$Row" "length" "I", Cond.methodLink RX3 33 yX2_becomePart, Cond.instanceMethod yX2_becomePart, Cond.selects RX2 yX2_becomePart yX2_becomePart, Cond.code yX2_becomePart cX2_becomePart 5 none, Cond.methodLink RX2 33 yX2_clear, Cond.instanceMethod yX2_clear, Cond.selects RX2 yX2_clear yX2_clear, Cond.code yX2_clear cX2_clear 1 none, Cond.methodLink RX2 36 yX2_at, Cond.instanceMethod yX2_at, Cond.selects RX2 yX2_at yX2_at, Cond.code yX2_at cX2_at 2 (some .char), Cond.fieldLink RX2 15 "Stemspan$Row" "signs" "[C", Cond.methodLink RX2 25 yX2_append, Cond.instanceMethod yX2_append, Cond.selects RX2 yX2_append yX2_append, Cond.code yX2_append cX2_append 2 none, Cond.methodLink RX3 101 yX4_rankOf, Cond.instanceMethod yX4_rankOf, Cond.selects RX4 yX4_rankOf yX4_rankOf, Cond.code yX4_rankOf cX4_rankOf 3 (some .int)]
def wsX3_fewestHolds_r4 : List Cond := [Cond.methodLink RX4 40 yX4_countLess, Cond.instanceMethod yX4_countLess, Cond.selects RX4 yX4_countLess yX4_countLess, Cond.code yX4_countLess cX4_countLess 3 (some .int), Cond.methodLink RX4 32 yX4_rowAt, Cond.methodLink RX4 36 yX2_compareWith, Cond.instanceMethod yX2_compareWith, Cond.selects RX2 yX2_compareWith yX2_compareWith, Cond.code yX2_compareWith cX2_compareWith 3 (some .int), Cond.methodLink RX2 40 yX2_common, Cond.instanceMethod yX2_common, Cond.selects RX2 yX2_common yX2_common, Cond.code yX2_common cX2_common 3 (some .int)]
def wsX3_fewestHolds : List Cond := .code yX3_fewestHolds cX3_fewestHolds 4 (some .boolean) :: ((wsX3_fewestHolds_r1 ++ (wsX3_fewestHolds_r2 ++ (wsX3_fewestHolds_r3 ++ wsX3_fewestHolds_r4))) ++ wsX10 ++ wsX30 ++ wsX40 ++ wsX20)
def wsX3_keepsOrder_r1 : List Cond := [Cond.methodLink RX3 118 yX0_writtenAt, Cond.instanceMethod yX0_writtenAt, Cond.selects RX0 yX0_writtenAt yX0_writtenAt, Cond.initialized RX0, Cond.code yX0_writtenAt cX0_writtenAt 2 (some (.object "Stemspan$Row")), Cond.fieldLink RX0 28 "Stemspan$CodeBook" "written" "[LStemspan$Row;", Cond.fieldLink RX0 31 "Stemspan$CodeBook" "nothing" "LStemspan$Row;", Cond.methodLink RX3 121 yX2_compareWith, Cond.instanceMethod yX2_compareWith, Cond.selects RX2 yX2_compareWith yX2_compareWith, Cond.initialized RX2, Cond.code yX2_compareWith cX2_compareWith 3 (some .int), Cond.fieldLink RX2 21 "Stemspan$Row" "length" "I", Cond.fieldLink RX2 15 "Stemspan$Row" "signs" "[C", Cond.methodLink RX2 40 yX2_common, Cond.instanceMethod yX2_common, Cond.selects RX2 yX2_common yX2_common, Cond.code yX2_common cX2_common 3 (some .int), Cond.methodLink RX3 55 yX2_beginsWith, Cond.instanceMethod yX2_beginsWith, Cond.selects RX2 yX2_beginsWith yX2_beginsWith, Cond.code yX2_beginsWith cX2_beginsWith 2 (some .boolean), Cond.methodLink RX2 44 yX2_hasAt, Cond.instanceMethod yX2_hasAt]
def wsX3_keepsOrder_r2 : List Cond := [Cond.selects RX2 yX2_hasAt yX2_hasAt, Cond.code yX2_hasAt cX2_hasAt 4 (some .boolean), Cond.methodLink RX3 51 yX4_rowAt, Cond.instanceMethod yX4_rowAt, Cond.selects RX4 yX4_rowAt yX4_rowAt, Cond.initialized RX4, Cond.code yX4_rowAt cX4_rowAt 2 (some (.object "Stemspan$Row")), Cond.fieldLink RX4 28 "Stemspan$WordList" "count" "I", Cond.fieldLink RX4 11 "Stemspan$WordList" "rows" "[LStemspan$Row;", Cond.fieldLink RX4 24 "Stemspan$WordList" "nothing" "LStemspan$Row;"]
def wsX3_keepsOrder : List Cond := .code yX3_keepsOrder cX3_keepsOrder 6 (some .boolean) :: ((wsX3_keepsOrder_r1 ++ wsX3_keepsOrder_r2) ++ wsX00 ++ wsX20 ++ wsX40)
def wsX3_codesHold_r1 : List Cond := [Cond.methodLink RX3 104 yX0_isOrderly, Cond.instanceMethod yX0_isOrderly, Cond.selects RX0 yX0_isOrderly yX0_isOrderly, Cond.initialized RX0, Cond.code yX0_isOrderly cX0_isOrderly 3 (some .boolean), Cond.fieldLink RX0 11 "Stemspan$CodeBook" "codes" "[LStemspan$Row;", Cond.methodLink RX0 39 yX2_compareWith, Cond.instanceMethod yX2_compareWith, Cond.selects RX2 yX2_compareWith yX2_compareWith, Cond.initialized RX2, Cond.code yX2_compareWith cX2_compareWith 3 (some .int), Cond.fieldLink RX2 21 "Stemspan$Row" "length" "I", Cond.fieldLink RX2 15 "Stemspan$Row" "signs" "[C", Cond.methodLink RX2 40 yX2_common, Cond.instanceMethod yX2_common, Cond.selects RX2 yX2_common yX2_common, Cond.code yX2_common cX2_common 3 (some .int), Cond.methodLink RX0 43 yX2_beginsWith, Cond.instanceMethod yX2_beginsWith, Cond.selects RX2 yX2_beginsWith yX2_beginsWith, Cond.code yX2_beginsWith cX2_beginsWith 2 (some .boolean), Cond.methodLink RX2 44 yX2_hasAt, Cond.instanceMethod yX2_hasAt, Cond.selects RX2 yX2_hasAt yX2_hasAt]
def wsX3_codesHold_r2 : List Cond := [Cond.code yX2_hasAt cX2_hasAt 4 (some .boolean), Cond.methodLink RX3 110 yX0_writeWords, Cond.instanceMethod yX0_writeWords, Cond.selects RX0 yX0_writeWords yX0_writeWords, Cond.code yX0_writeWords cX0_writeWords 3 none, Cond.methodLink RX0 65 yX4_size, Cond.instanceMethod yX4_size, Cond.selects RX4 yX4_size yX4_size, Cond.initialized RX4, Cond.code yX4_size cX4_size 1 (some .int), Cond.fieldLink RX4 28 "Stemspan$WordList" "count" "I", Cond.methodLink RX0 68 yX4_rowAt, Cond.instanceMethod yX4_rowAt, Cond.selects RX4 yX4_rowAt yX4_rowAt, Cond.code yX4_rowAt cX4_rowAt 2 (some (.object "Stemspan$Row")), Cond.fieldLink RX4 11 "Stemspan$WordList" "rows" "[LStemspan$Row;", Cond.fieldLink RX4 24 "Stemspan$WordList" "nothing" "LStemspan$Row;", Cond.methodLink RX0 81 yX0_writtenAt, Cond.instanceMethod yX0_writtenAt, Cond.selects RX0 yX0_writtenAt yX0_writtenAt, Cond.code yX0_writtenAt cX0_writtenAt 2 (some (.object "Stemspan$Row")), Cond.fieldLink RX0 28 "Stemspan$CodeBook" "written" "[LStemspan$Row;", Cond.fieldLink RX0 31 "Stemspan$CodeBook" "nothing" "LStemspan$Row;", Cond.methodLink RX0 84 yX0_writeInto]
def wsX3_codesHold_r3 : List Cond := [Cond.instanceMethod yX0_writeInto, Cond.selects RX0 yX0_writeInto yX0_writeInto, Cond.code yX0_writeInto cX0_writeInto 4 none, Cond.methodLink RX0 58 yX2_clear, Cond.instanceMethod yX2_clear, Cond.selects RX2 yX2_clear yX2_clear, Cond.code yX2_clear cX2_clear 1 none, Cond.methodLink RX0 47 yX2_size, Cond.instanceMethod yX2_size, Cond.selects RX2 yX2_size yX2_size, Cond.code yX2_size cX2_size 1 (some .int), Cond.methodLink RX0 51 yX2_at, Cond.instanceMethod yX2_at, Cond.selects RX2 yX2_at yX2_at, Cond.code yX2_at cX2_at 2 (some .char), Cond.methodLink RX0 54 yX0_codeOf, Cond.instanceMethod yX0_codeOf, Cond.selects RX0 yX0_codeOf yX0_codeOf, Cond.code yX0_codeOf cX0_codeOf 2 (some (.object "Stemspan$Row")), Cond.static yX5_isSign, Cond.initialized RX5, Cond.code yX5_isSign cX5_isSign 1 (some .boolean), Cond.methodLink RX0 61 yX2_appendAll, Cond.instanceMethod yX2_appendAll]
def wsX3_codesHold_r4 : List Cond := [Cond.selects RX2 yX2_appendAll yX2_appendAll, Cond.code yX2_appendAll cX2_appendAll 3 none, Cond.methodLink RX2 25 yX2_append, Cond.instanceMethod yX2_append, Cond.selects RX2 yX2_append yX2_append, Cond.code yX2_append cX2_append 2 none, Cond.methodLink RX3 50 yX4_size, Cond.methodLink RX3 114 yX3_keepsOrder, Cond.static yX3_keepsOrder, Cond.initialized RX3, Cond.code yX3_keepsOrder cX3_keepsOrder 6 (some .boolean), Cond.methodLink RX3 118 yX0_writtenAt, Cond.methodLink RX3 121 yX2_compareWith, Cond.methodLink RX3 55 yX2_beginsWith, Cond.methodLink RX3 51 yX4_rowAt]
def wsX3_codesHold : List Cond := .code yX3_codesHold cX3_codesHold 5 (some .boolean) :: ((wsX3_codesHold_r1 ++ (wsX3_codesHold_r2 ++ (wsX3_codesHold_r3 ++ wsX3_codesHold_r4))) ++ wsX00 ++ wsX20 ++ wsX40)
def wsX4_init : List Cond := .code yX4_init cX4_init 2 none :: ([.methodLink RX4 3 objectInit, .instanceMethod objectInit, .code objectInit ⟨#[0xb1]⟩ 1 none, .classLink RX4 9 RX2, .fieldLink RX4 11 "Stemspan$WordList" "rows" "[LStemspan$Row;", .instantiable RX2 2, .initialized RX2, .arrayClass .int, .fieldLink RX4 20 "Stemspan$WordList" "numbers" "[I", .fieldLink RX4 24 "Stemspan$WordList" "nothing" "LStemspan$Row;", .fieldLink RX4 28 "Stemspan$WordList" "count" "I", .methodLink RX4 17 yX2_init, .instanceMethod yX2_init, .code yX2_init cX2_init 2 none, .methodLink RX2 3 objectInit, .methodLink RX2 9 Lib.Math.max.name, .static Lib.Math.max.name, .initialized "java/lang/Math", .code Lib.Math.max.name Lib.Math.max.code 2 (some .int), .arrayClass .char, .fieldLink RX2 15 "Stemspan$Row" "signs" "[C", .fieldLink RX2 21 "Stemspan$Row" "length" "I"] ++ wsX40 ++ wsX20)
def wsX4_numberAt : List Cond := .code yX4_numberAt cX4_numberAt 2 (some .int) :: ([.fieldLink RX4 28 "Stemspan$WordList" "count" "I", .fieldLink RX4 20 "Stemspan$WordList" "numbers" "[I"] ++ wsX40)
def wsX4_setNumber : List Cond := .code yX4_setNumber cX4_setNumber 3 none :: ([.fieldLink RX4 28 "Stemspan$WordList" "count" "I", .fieldLink RX4 20 "Stemspan$WordList" "numbers" "[I"] ++ wsX40)
def wsX4_insert_r1 : List Cond := [Cond.fieldLink RX4 28 "Stemspan$WordList" "count" "I", Cond.fieldLink RX4 11 "Stemspan$WordList" "rows" "[LStemspan$Row;", Cond.fieldLink RX4 20 "Stemspan$WordList" "numbers" "[I", Cond.methodLink RX4 40 yX4_countLess, Cond.instanceMethod yX4_countLess, Cond.selects RX4 yX4_countLess yX4_countLess, Cond.initialized RX4, Cond.code yX4_countLess cX4_countLess 3 (some .int), Cond.methodLink RX4 32 yX4_rowAt, Cond.instanceMethod yX4_rowAt, Cond.selects RX4 yX4_rowAt yX4_rowAt, Cond.code yX4_rowAt cX4_rowAt 2 (some (.object "Stemspan$Row")), Cond.fieldLink RX4 24 "Stemspan$WordList" "nothing" "LStemspan$Row;", Cond.methodLink RX4 36 yX2_compareWith, Cond.instanceMethod yX2_compareWith, Cond.selects RX2 yX2_compareWith yX2_compareWith, Cond.initialized RX2, Cond.code yX2_compareWith cX2_compareWith 3 (some .int), Cond.fieldLink RX2 21 "Stemspan$Row" "length" "I", Cond.fieldLink RX2 15 "Stemspan$Row" "signs" "[C", Cond.methodLink RX2 40 yX2_common, Cond.instanceMethod yX2_common, Cond.selects RX2 yX2_common yX2_common, Cond.code yX2_common cX2_common 3 (some .int)]
def wsX4_insert_r2 : List Cond := [Cond.methodLink RX4 43 yX2_become, Cond.instanceMethod yX2_become, Cond.selects RX2 yX2_become yX2_become, Cond.code yX2_become cX2_become 2 none, Cond.methodLink RX2 29 yX2_becomePart, Cond.instanceMethod yX2_becomePart, Cond.selects RX2 yX2_becomePart yX2_becomePart, Cond.code yX2_becomePart cX2_becomePart 5 none, Cond.methodLink RX2 33 yX2_clear, Cond.instanceMethod yX2_clear, Cond.selects RX2 yX2_clear yX2_clear, Cond.code yX2_clear cX2_clear 1 none, Cond.methodLink RX2 36 yX2_at, Cond.instanceMethod yX2_at, Cond.selects RX2 yX2_at yX2_at, Cond.code yX2_at cX2_at 2 (some .char), Cond.methodLink RX2 25 yX2_append, Cond.instanceMethod yX2_append, Cond.selects RX2 yX2_append yX2_append, Cond.code yX2_append cX2_append 2 none]
def wsX4_insert : List Cond := .code yX4_insert cX4_insert 6 none :: ((wsX4_insert_r1 ++ wsX4_insert_r2) ++ wsX40 ++ wsX20)
def wsX4_remove : List Cond := .code yX4_remove cX4_remove 4 none :: ([.fieldLink RX4 28 "Stemspan$WordList" "count" "I", .fieldLink RX4 11 "Stemspan$WordList" "rows" "[LStemspan$Row;", .fieldLink RX4 20 "Stemspan$WordList" "numbers" "[I"] ++ wsX40)
def wsX4_rankBegun : List Cond := .code yX4_rankBegun cX4_rankBegun 5 (some .int) :: ([.fieldLink RX4 28 "Stemspan$WordList" "count" "I", .methodLink RX4 32 yX4_rowAt, .instanceMethod yX4_rowAt, .selects RX4 yX4_rowAt yX4_rowAt, .initialized RX4, .code yX4_rowAt cX4_rowAt 2 (some (.object "Stemspan$Row")), .fieldLink RX4 11 "Stemspan$WordList" "rows" "[LStemspan$Row;", .fieldLink RX4 24 "Stemspan$WordList" "nothing" "LStemspan$Row;", .methodLink RX4 47 yX2_beginsWith, .instanceMethod yX2_beginsWith, .selects RX2 yX2_beginsWith yX2_beginsWith, .initialized RX2, .code yX2_beginsWith cX2_beginsWith 2 (some .boolean), .methodLink RX2 44 yX2_hasAt, .instanceMethod yX2_hasAt, .selects RX2 yX2_hasAt yX2_hasAt, .code yX2_hasAt cX2_hasAt 4 (some .boolean), .fieldLink RX2 21 "Stemspan$Row" "length" "I", .fieldLink RX2 15 "Stemspan$Row" "signs" "[C"] ++ wsX40 ++ wsX20)
def wsX4_sumBegun : List Cond := .code yX4_sumBegun cX4_sumBegun 4 (some .int) :: ([.fieldLink RX4 28 "Stemspan$WordList" "count" "I", .methodLink RX4 32 yX4_rowAt, .instanceMethod yX4_rowAt, .selects RX4 yX4_rowAt yX4_rowAt, .initialized RX4, .code yX4_rowAt cX4_rowAt 2 (some (.object "Stemspan$Row")), .fieldLink RX4 11 "Stemspan$WordList" "rows" "[LStemspan$Row;", .fieldLink RX4 24 "Stemspan$WordList" "nothing" "LStemspan$Row;", .methodLink RX4 47 yX2_beginsWith, .instanceMethod yX2_beginsWith, .selects RX2 yX2_beginsWith yX2_beginsWith, .initialized RX2, .code yX2_beginsWith cX2_beginsWith 2 (some .boolean), .methodLink RX2 44 yX2_hasAt, .instanceMethod yX2_hasAt, .selects RX2 yX2_hasAt yX2_hasAt, .code yX2_hasAt cX2_hasAt 4 (some .boolean), .fieldLink RX2 21 "Stemspan$Row" "length" "I", .fieldLink RX2 15 "Stemspan$Row" "signs" "[C", .methodLink RX4 51 yX4_numberAt, .instanceMethod yX4_numberAt, .selects RX4 yX4_numberAt yX4_numberAt, .code yX4_numberAt cX4_numberAt 2 (some .int), .fieldLink RX4 20 "Stemspan$WordList" "numbers" "[I"] ++ wsX40 ++ wsX20)
def wsX4_removeBegun : List Cond := .code yX4_removeBegun cX4_removeBegun 4 (some .int) :: ([.fieldLink RX4 28 "Stemspan$WordList" "count" "I", .methodLink RX4 32 yX4_rowAt, .instanceMethod yX4_rowAt, .selects RX4 yX4_rowAt yX4_rowAt, .initialized RX4, .code yX4_rowAt cX4_rowAt 2 (some (.object "Stemspan$Row")), .fieldLink RX4 11 "Stemspan$WordList" "rows" "[LStemspan$Row;", .fieldLink RX4 24 "Stemspan$WordList" "nothing" "LStemspan$Row;", .methodLink RX4 47 yX2_beginsWith, .instanceMethod yX2_beginsWith, .selects RX2 yX2_beginsWith yX2_beginsWith, .initialized RX2, .code yX2_beginsWith cX2_beginsWith 2 (some .boolean), .methodLink RX2 44 yX2_hasAt, .instanceMethod yX2_hasAt, .selects RX2 yX2_hasAt yX2_hasAt, .code yX2_hasAt cX2_hasAt 4 (some .boolean), .fieldLink RX2 21 "Stemspan$Row" "length" "I", .fieldLink RX2 15 "Stemspan$Row" "signs" "[C", .methodLink RX4 55 yX4_remove, .instanceMethod yX4_remove, .selects RX4 yX4_remove yX4_remove, .code yX4_remove cX4_remove 4 none, .fieldLink RX4 20 "Stemspan$WordList" "numbers" "[I"] ++ wsX40 ++ wsX20)
def wsX5_init_r1 : List Cond := [Cond.methodLink RX5 1 objectInit, Cond.instanceMethod objectInit, Cond.code objectInit ⟨#[0xb1]⟩ 1 none, Cond.classLink RX5 7 RX2, Cond.instantiable RX2 2, Cond.initialized RX2, Cond.fieldLink RX5 14 "Stemspan" "text" "LStemspan$Row;", Cond.fieldLink RX5 18 "Stemspan" "spare" "LStemspan$Row;", Cond.classLink RX5 21 RX4, Cond.instantiable RX4 4, Cond.initialized RX4, Cond.fieldLink RX5 24 "Stemspan" "list" "LStemspan$WordList;", Cond.classLink RX5 28 RX0, Cond.instantiable RX0 3, Cond.initialized RX0, Cond.fieldLink RX5 31 "Stemspan" "book" "LStemspan$CodeBook;", Cond.classLink RX5 35 RX1, Cond.instantiable RX1 4, Cond.initialized RX1, Cond.fieldLink RX5 38 "Stemspan" "cutter" "LStemspan$Cutter;", Cond.classLink RX5 42 RX3, Cond.instantiable RX3 2, Cond.initialized RX3, Cond.fieldLink RX5 45 "Stemspan" "theorem" "LStemspan$Theorem;"]
def wsX5_init_r2 : List Cond := [Cond.methodLink RX5 11 yX2_init, Cond.instanceMethod yX2_init, Cond.code yX2_init cX2_init 2 none, Cond.methodLink RX2 3 objectInit, Cond.methodLink RX2 9 Lib.Math.max.name, Cond.static Lib.Math.max.name, Cond.initialized "java/lang/Math", Cond.code Lib.Math.max.name Lib.Math.max.code 2 (some .int), Cond.arrayClass .char, Cond.fieldLink RX2 15 "Stemspan$Row" "signs" "[C", Cond.fieldLink RX2 21 "Stemspan$Row" "length" "I", Cond.methodLink RX5 23 yX4_init, Cond.instanceMethod yX4_init, Cond.code yX4_init cX4_init 2 none, Cond.methodLink RX4 3 objectInit, Cond.classLink RX4 9 RX2, Cond.fieldLink RX4 11 "Stemspan$WordList" "rows" "[LStemspan$Row;", Cond.arrayClass .int, Cond.fieldLink RX4 20 "Stemspan$WordList" "numbers" "[I", Cond.fieldLink RX4 24 "Stemspan$WordList" "nothing" "LStemspan$Row;", Cond.fieldLink RX4 28 "Stemspan$WordList" "count" "I", Cond.methodLink RX4 17 yX2_init, Cond.methodLink RX5 30 yX0_init, Cond.instanceMethod yX0_init]
def wsX5_init_r3 : List Cond := [Cond.code yX0_init cX0_init 2 none, Cond.methodLink RX0 3 objectInit, Cond.classLink RX0 9 RX2, Cond.fieldLink RX0 11 "Stemspan$CodeBook" "codes" "[LStemspan$Row;", Cond.fieldLink RX0 28 "Stemspan$CodeBook" "written" "[LStemspan$Row;", Cond.fieldLink RX0 31 "Stemspan$CodeBook" "nothing" "LStemspan$Row;", Cond.methodLink RX0 17 yX2_init, Cond.static yX5_signOf, Cond.initialized RX5, Cond.code yX5_signOf cX5_signOf 1 (some .char), Cond.methodLink RX0 24 yX2_append, Cond.instanceMethod yX2_append, Cond.selects RX2 yX2_append yX2_append, Cond.code yX2_append cX2_append 2 none, Cond.methodLink RX5 37 yX1_init, Cond.instanceMethod yX1_init, Cond.code yX1_init cX1_init 1 none, Cond.methodLink RX1 3 objectInit, Cond.fieldLink RX1 9 "Stemspan$Cutter" "fits" "[I", Cond.arrayClass .long, Cond.fieldLink RX1 15 "Stemspan$Cutter" "ways" "[J", Cond.fieldLink RX1 19 "Stemspan$Cutter" "least" "[I", Cond.fieldLink RX1 22 "Stemspan$Cutter" "size" "I", Cond.methodLink RX5 44 yX3_init]
def wsX5_init_r4 : List Cond := [Cond.instanceMethod yX3_init, Cond.code yX3_init cX3_init 1 none, Cond.methodLink RX3 3 objectInit, Cond.classLink RX3 9 RX2, Cond.fieldLink RX3 14 "Stemspan$Theorem" "part" "LStemspan$Row;", Cond.fieldLink RX3 20 "Stemspan$Theorem" "both" "LStemspan$Row;", Cond.methodLink RX3 11 yX2_init]
def wsX5_init : List Cond := .code yX5_init cX5_init 1 none :: ((wsX5_init_r1 ++ (wsX5_init_r2 ++ (wsX5_init_r3 ++ wsX5_init_r4))) ++ wsX20 ++ wsX50 ++ wsX40 ++ wsX00 ++ wsX10 ++ wsX30)
def wsX5_type : List Cond := .code yX5_type cX5_type 2 (some .int) :: ([.classLink RX5 53 "java/lang/IllegalArgumentException", .initialized "java/lang/IllegalArgumentException", .classLink RX5 64 "java/lang/IllegalStateException", .initialized "java/lang/IllegalStateException", .fieldLink RX5 14 "Stemspan" "text" "LStemspan$Row;", .methodLink RX5 49 yX5_isSign, .static yX5_isSign, .initialized RX5, .code yX5_isSign cX5_isSign 1 (some .boolean), .methodLink RX5 60 yX2_size, .instanceMethod yX2_size, .selects RX2 yX2_size yX2_size, .initialized RX2, .code yX2_size cX2_size 1 (some .int), .fieldLink RX2 21 "Stemspan$Row" "length" "I", .methodLink RX5 69 yX2_append, .instanceMethod yX2_append, .selects RX2 yX2_append yX2_append, .code yX2_append cX2_append 2 none, .fieldLink RX2 15 "Stemspan$Row" "signs" "[C"] ++ wsX50 ++ wsX20 ++ (vx_atS RX5 57 "java/lang/IllegalArgumentException" ["java/lang/RuntimeException", "java/lang/Exception"]).filter goodWord ++ (vx_atS RX5 68 "java/lang/IllegalStateException" ["java/lang/RuntimeException", "java/lang/Exception"]).filter goodWord)
def wsX5_typeMore : List Cond := .code yX5_typeMore cX5_typeMore 5 (some .int) :: ([.classLink RX5 53 "java/lang/IllegalArgumentException", .initialized "java/lang/IllegalArgumentException", .classLink RX5 64 "java/lang/IllegalStateException", .initialized "java/lang/IllegalStateException", .constant RX5 73 (1679615), .fieldLink RX5 14 "Stemspan" "text" "LStemspan$Row;", .methodLink RX5 60 yX2_size, .instanceMethod yX2_size, .selects RX2 yX2_size yX2_size, .initialized RX2, .code yX2_size cX2_size 1 (some .int), .fieldLink RX2 21 "Stemspan$Row" "length" "I", .methodLink RX5 78 yX5_signOf, .static yX5_signOf, .initialized RX5, .code yX5_signOf cX5_signOf 1 (some .char), .methodLink RX5 69 yX2_append, .instanceMethod yX2_append, .selects RX2 yX2_append yX2_append, .code yX2_append cX2_append 2 none, .fieldLink RX2 15 "Stemspan$Row" "signs" "[C"] ++ wsX50 ++ wsX20 ++ (vx_atS RX5 57 "java/lang/IllegalArgumentException" ["java/lang/RuntimeException", "java/lang/Exception"]).filter goodWord ++ (vx_atS RX5 68 "java/lang/IllegalStateException" ["java/lang/RuntimeException", "java/lang/Exception"]).filter goodWord)
def wsX5_typeAt : List Cond := .code yX5_typeAt cX5_typeAt 3 (some .int) :: ([.classLink RX5 82 "java/lang/IndexOutOfBoundsException", .initialized "java/lang/IndexOutOfBoundsException", .classLink RX5 53 "java/lang/IllegalArgumentException", .initialized "java/lang/IllegalArgumentException", .classLink RX5 64 "java/lang/IllegalStateException", .initialized "java/lang/IllegalStateException", .fieldLink RX5 14 "Stemspan" "text" "LStemspan$Row;", .methodLink RX5 60 yX2_size, .instanceMethod yX2_size, .selects RX2 yX2_size yX2_size, .initialized RX2, .code yX2_size cX2_size 1 (some .int), .fieldLink RX2 21 "Stemspan$Row" "length" "I", .methodLink RX5 49 yX5_isSign, .static yX5_isSign, .initialized RX5, .code yX5_isSign cX5_isSign 1 (some .boolean), .methodLink RX5 87 yX2_insert, .instanceMethod yX2_insert, .selects RX2 yX2_insert yX2_insert, .code yX2_insert cX2_insert 4 none, .fieldLink RX2 15 "Stemspan$Row" "signs" "[C"] ++ wsX50 ++ wsX20 ++ (vx_atS RX5 86 "java/lang/IndexOutOfBoundsException" ["java/lang/RuntimeException", "java/lang/Exception"]).filter goodWord ++ (vx_atS RX5 57 "java/lang/IllegalArgumentException" ["java/lang/RuntimeException", "java/lang/Exception"]).filter goodWord ++ (vx_atS RX5 68 "java/lang/IllegalStateException" ["java/lang/RuntimeException", "java/lang/Exception"]).filter goodWord)
def wsX5_drop : List Cond := .code yX5_drop cX5_drop 1 (some .int) :: ([.classLink RX5 91 "java/util/NoSuchElementException", .initialized "java/util/NoSuchElementException", .fieldLink RX5 14 "Stemspan" "text" "LStemspan$Row;", .methodLink RX5 60 yX2_size, .instanceMethod yX2_size, .selects RX2 yX2_size yX2_size, .initialized RX2, .code yX2_size cX2_size 1 (some .int), .fieldLink RX2 21 "Stemspan$Row" "length" "I", .methodLink RX5 96 yX2_removePart, .instanceMethod yX2_removePart, .selects RX2 yX2_removePart yX2_removePart, .code yX2_removePart cX2_removePart 5 none, .fieldLink RX2 15 "Stemspan$Row" "signs" "[C"] ++ wsX50 ++ wsX20 ++ (vx_atS RX5 95 "java/util/NoSuchElementException" ["java/lang/RuntimeException", "java/lang/Exception"]).filter goodWord)
def wsX5_clip : List Cond := .code yX5_clip cX5_clip 3 (some .int) :: ([.classLink RX5 82 "java/lang/IndexOutOfBoundsException", .initialized "java/lang/IndexOutOfBoundsException", .fieldLink RX5 14 "Stemspan" "text" "LStemspan$Row;", .methodLink RX5 60 yX2_size, .instanceMethod yX2_size, .selects RX2 yX2_size yX2_size, .initialized RX2, .code yX2_size cX2_size 1 (some .int), .fieldLink RX2 21 "Stemspan$Row" "length" "I", .methodLink RX5 96 yX2_removePart, .instanceMethod yX2_removePart, .selects RX2 yX2_removePart yX2_removePart, .code yX2_removePart cX2_removePart 5 none, .fieldLink RX2 15 "Stemspan$Row" "signs" "[C"] ++ wsX50 ++ wsX20 ++ (vx_atS RX5 86 "java/lang/IndexOutOfBoundsException" ["java/lang/RuntimeException", "java/lang/Exception"]).filter goodWord)
def wsX5_wipe : List Cond := .code yX5_wipe cX5_wipe 2 (some .int) :: ([.fieldLink RX5 14 "Stemspan" "text" "LStemspan$Row;", .methodLink RX5 60 yX2_size, .instanceMethod yX2_size, .selects RX2 yX2_size yX2_size, .initialized RX2, .code yX2_size cX2_size 1 (some .int), .fieldLink RX2 21 "Stemspan$Row" "length" "I", .methodLink RX5 102 yX2_clear, .instanceMethod yX2_clear, .selects RX2 yX2_clear yX2_clear, .code yX2_clear cX2_clear 1 none] ++ wsX50 ++ wsX20)
def wsX5_turn : List Cond := .code yX5_turn cX5_turn 1 (some .boolean) :: ([.fieldLink RX5 14 "Stemspan" "text" "LStemspan$Row;", .methodLink RX5 105 yX2_reverse, .instanceMethod yX2_reverse, .selects RX2 yX2_reverse yX2_reverse, .initialized RX2, .code yX2_reverse cX2_reverse 5 (some .boolean), .fieldLink RX2 21 "Stemspan$Row" "length" "I", .fieldLink RX2 15 "Stemspan$Row" "signs" "[C"] ++ wsX50 ++ wsX20)
def wsX5_signAt : List Cond := .code yX5_signAt cX5_signAt 2 (some .char) :: ([.classLink RX5 82 "java/lang/IndexOutOfBoundsException", .initialized "java/lang/IndexOutOfBoundsException", .fieldLink RX5 14 "Stemspan" "text" "LStemspan$Row;", .methodLink RX5 60 yX2_size, .instanceMethod yX2_size, .selects RX2 yX2_size yX2_size, .initialized RX2, .code yX2_size cX2_size 1 (some .int), .fieldLink RX2 21 "Stemspan$Row" "length" "I", .methodLink RX5 109 yX2_at, .instanceMethod yX2_at, .selects RX2 yX2_at yX2_at, .code yX2_at cX2_at 2 (some .char), .fieldLink RX2 15 "Stemspan$Row" "signs" "[C"] ++ wsX50 ++ wsX20 ++ (vx_atS RX5 86 "java/lang/IndexOutOfBoundsException" ["java/lang/RuntimeException", "java/lang/Exception"]).filter goodWord)
def wsX5_put_r1 : List Cond := [Cond.classLink RX5 53 "java/lang/IllegalArgumentException", Cond.initialized "java/lang/IllegalArgumentException", Cond.classLink RX5 114 "java/lang/UnsupportedOperationException", Cond.initialized "java/lang/UnsupportedOperationException", Cond.classLink RX5 64 "java/lang/IllegalStateException", Cond.initialized "java/lang/IllegalStateException", Cond.fieldLink RX5 14 "Stemspan" "text" "LStemspan$Row;", Cond.fieldLink RX5 24 "Stemspan" "list" "LStemspan$WordList;", Cond.methodLink RX5 60 yX2_size, Cond.instanceMethod yX2_size, Cond.selects RX2 yX2_size yX2_size, Cond.initialized RX2, Cond.code yX2_size cX2_size 1 (some .int), Cond.fieldLink RX2 21 "Stemspan$Row" "length" "I", Cond.methodLink RX5 119 yX4_rankOf, Cond.instanceMethod yX4_rankOf, Cond.selects RX4 yX4_rankOf yX4_rankOf, Cond.initialized RX4, Cond.code yX4_rankOf cX4_rankOf 3 (some .int), Cond.fieldLink RX4 28 "Stemspan$WordList" "count" "I", Cond.methodLink RX4 40 yX4_countLess, Cond.instanceMethod yX4_countLess, Cond.selects RX4 yX4_countLess yX4_countLess, Cond.code yX4_countLess cX4_countLess 3 (some .int)]
def wsX5_put_r2 : List Cond := [Cond.methodLink RX4 32 yX4_rowAt, Cond.instanceMethod yX4_rowAt, Cond.selects RX4 yX4_rowAt yX4_rowAt, Cond.code yX4_rowAt cX4_rowAt 2 (some (.object "Stemspan$Row")), Cond.fieldLink RX4 11 "Stemspan$WordList" "rows" "[LStemspan$Row;", Cond.fieldLink RX4 24 "Stemspan$WordList" "nothing" "LStemspan$Row;", Cond.methodLink RX4 36 yX2_compareWith, Cond.instanceMethod yX2_compareWith, Cond.selects RX2 yX2_compareWith yX2_compareWith, Cond.code yX2_compareWith cX2_compareWith 3 (some .int), Cond.fieldLink RX2 15 "Stemspan$Row" "signs" "[C", Cond.methodLink RX2 40 yX2_common, Cond.instanceMethod yX2_common, Cond.selects RX2 yX2_common yX2_common, Cond.code yX2_common cX2_common 3 (some .int), Cond.methodLink RX5 123 yX4_size, Cond.instanceMethod yX4_size, Cond.selects RX4 yX4_size yX4_size, Cond.code yX4_size cX4_size 1 (some .int), Cond.methodLink RX5 126 yX4_insert, Cond.instanceMethod yX4_insert, Cond.selects RX4 yX4_insert yX4_insert, Cond.code yX4_insert cX4_insert 6 none, Cond.fieldLink RX4 20 "Stemspan$WordList" "numbers" "[I"]
def wsX5_put_r3 : List Cond := [Cond.methodLink RX4 43 yX2_become, Cond.instanceMethod yX2_become, Cond.selects RX2 yX2_become yX2_become, Cond.code yX2_become cX2_become 2 none, Cond.methodLink RX2 29 yX2_becomePart, Cond.instanceMethod yX2_becomePart, Cond.selects RX2 yX2_becomePart yX2_becomePart, Cond.code yX2_becomePart cX2_becomePart 5 none, Cond.methodLink RX2 33 yX2_clear, Cond.instanceMethod yX2_clear, Cond.selects RX2 yX2_clear yX2_clear, Cond.code yX2_clear cX2_clear 1 none, Cond.methodLink RX2 36 yX2_at, Cond.instanceMethod yX2_at, Cond.selects RX2 yX2_at yX2_at, Cond.code yX2_at cX2_at 2 (some .char), Cond.methodLink RX2 25 yX2_append, Cond.instanceMethod yX2_append, Cond.selects RX2 yX2_append yX2_append, Cond.code yX2_append cX2_append 2 none, Cond.methodLink RX5 129 yX4_numberAt, Cond.instanceMethod yX4_numberAt, Cond.selects RX4 yX4_numberAt yX4_numberAt, Cond.code yX4_numberAt cX4_numberAt 2 (some .int)]
def wsX5_put_r4 : List Cond := [Cond.methodLink RX5 133 yX4_setNumber, Cond.instanceMethod yX4_setNumber, Cond.selects RX4 yX4_setNumber yX4_setNumber, Cond.code yX4_setNumber cX4_setNumber 3 none]
def wsX5_put : List Cond := .code yX5_put cX5_put 4 (some .int) :: ((wsX5_put_r1 ++ (wsX5_put_r2 ++ (wsX5_put_r3 ++ wsX5_put_r4))) ++ wsX50 ++ wsX20 ++ wsX40 ++ (vx_atS RX5 57 "java/lang/IllegalArgumentException" ["java/lang/RuntimeException", "java/lang/Exception"]).filter goodWord ++ (vx_atS RX5 118 "java/lang/UnsupportedOperationException" ["java/lang/RuntimeException", "java/lang/Exception"]).filter goodWord ++ (vx_atS RX5 68 "java/lang/IllegalStateException" ["java/lang/RuntimeException", "java/lang/Exception"]).filter goodWord)
def wsX5_take_r1 : List Cond := [Cond.classLink RX5 91 "java/util/NoSuchElementException", Cond.initialized "java/util/NoSuchElementException", Cond.fieldLink RX5 24 "Stemspan" "list" "LStemspan$WordList;", Cond.fieldLink RX5 14 "Stemspan" "text" "LStemspan$Row;", Cond.methodLink RX5 119 yX4_rankOf, Cond.instanceMethod yX4_rankOf, Cond.selects RX4 yX4_rankOf yX4_rankOf, Cond.initialized RX4, Cond.code yX4_rankOf cX4_rankOf 3 (some .int), Cond.fieldLink RX4 28 "Stemspan$WordList" "count" "I", Cond.methodLink RX4 40 yX4_countLess, Cond.instanceMethod yX4_countLess, Cond.selects RX4 yX4_countLess yX4_countLess, Cond.code yX4_countLess cX4_countLess 3 (some .int), Cond.methodLink RX4 32 yX4_rowAt, Cond.instanceMethod yX4_rowAt, Cond.selects RX4 yX4_rowAt yX4_rowAt, Cond.code yX4_rowAt cX4_rowAt 2 (some (.object "Stemspan$Row")), Cond.fieldLink RX4 11 "Stemspan$WordList" "rows" "[LStemspan$Row;", Cond.fieldLink RX4 24 "Stemspan$WordList" "nothing" "LStemspan$Row;", Cond.methodLink RX4 36 yX2_compareWith, Cond.instanceMethod yX2_compareWith, Cond.selects RX2 yX2_compareWith yX2_compareWith, Cond.initialized RX2]
def wsX5_take_r2 : List Cond := [Cond.code yX2_compareWith cX2_compareWith 3 (some .int), Cond.fieldLink RX2 21 "Stemspan$Row" "length" "I", Cond.fieldLink RX2 15 "Stemspan$Row" "signs" "[C", Cond.methodLink RX2 40 yX2_common, Cond.instanceMethod yX2_common, Cond.selects RX2 yX2_common yX2_common, Cond.code yX2_common cX2_common 3 (some .int), Cond.methodLink RX5 129 yX4_numberAt, Cond.instanceMethod yX4_numberAt, Cond.selects RX4 yX4_numberAt yX4_numberAt, Cond.code yX4_numberAt cX4_numberAt 2 (some .int), Cond.fieldLink RX4 20 "Stemspan$WordList" "numbers" "[I", Cond.methodLink RX5 138 yX4_remove, Cond.instanceMethod yX4_remove, Cond.selects RX4 yX4_remove yX4_remove, Cond.code yX4_remove cX4_remove 4 none]
def wsX5_take : List Cond := .code yX5_take cX5_take 3 (some .int) :: ((wsX5_take_r1 ++ wsX5_take_r2) ++ wsX50 ++ wsX40 ++ wsX20 ++ (vx_atS RX5 95 "java/util/NoSuchElementException" ["java/lang/RuntimeException", "java/lang/Exception"]).filter goodWord)
def wsX5_number_r1 : List Cond := [Cond.classLink RX5 91 "java/util/NoSuchElementException", Cond.initialized "java/util/NoSuchElementException", Cond.fieldLink RX5 24 "Stemspan" "list" "LStemspan$WordList;", Cond.fieldLink RX5 14 "Stemspan" "text" "LStemspan$Row;", Cond.methodLink RX5 119 yX4_rankOf, Cond.instanceMethod yX4_rankOf, Cond.selects RX4 yX4_rankOf yX4_rankOf, Cond.initialized RX4, Cond.code yX4_rankOf cX4_rankOf 3 (some .int), Cond.fieldLink RX4 28 "Stemspan$WordList" "count" "I", Cond.methodLink RX4 40 yX4_countLess, Cond.instanceMethod yX4_countLess, Cond.selects RX4 yX4_countLess yX4_countLess, Cond.code yX4_countLess cX4_countLess 3 (some .int), Cond.methodLink RX4 32 yX4_rowAt, Cond.instanceMethod yX4_rowAt, Cond.selects RX4 yX4_rowAt yX4_rowAt, Cond.code yX4_rowAt cX4_rowAt 2 (some (.object "Stemspan$Row")), Cond.fieldLink RX4 11 "Stemspan$WordList" "rows" "[LStemspan$Row;", Cond.fieldLink RX4 24 "Stemspan$WordList" "nothing" "LStemspan$Row;", Cond.methodLink RX4 36 yX2_compareWith, Cond.instanceMethod yX2_compareWith, Cond.selects RX2 yX2_compareWith yX2_compareWith, Cond.initialized RX2]
def wsX5_number_r2 : List Cond := [Cond.code yX2_compareWith cX2_compareWith 3 (some .int), Cond.fieldLink RX2 21 "Stemspan$Row" "length" "I", Cond.fieldLink RX2 15 "Stemspan$Row" "signs" "[C", Cond.methodLink RX2 40 yX2_common, Cond.instanceMethod yX2_common, Cond.selects RX2 yX2_common yX2_common, Cond.code yX2_common cX2_common 3 (some .int), Cond.methodLink RX5 129 yX4_numberAt, Cond.instanceMethod yX4_numberAt, Cond.selects RX4 yX4_numberAt yX4_numberAt, Cond.code yX4_numberAt cX4_numberAt 2 (some .int), Cond.fieldLink RX4 20 "Stemspan$WordList" "numbers" "[I"]
def wsX5_number : List Cond := .code yX5_number cX5_number 2 (some .int) :: ((wsX5_number_r1 ++ wsX5_number_r2) ++ wsX50 ++ wsX40 ++ wsX20 ++ (vx_atS RX5 95 "java/util/NoSuchElementException" ["java/lang/RuntimeException", "java/lang/Exception"]).filter goodWord)
def wsX5_words : List Cond := .code yX5_words cX5_words 1 (some .int) :: ([.fieldLink RX5 24 "Stemspan" "list" "LStemspan$WordList;", .methodLink RX5 123 yX4_size, .instanceMethod yX4_size, .selects RX4 yX4_size yX4_size, .initialized RX4, .code yX4_size cX4_size 1 (some .int), .fieldLink RX4 28 "Stemspan$WordList" "count" "I"] ++ wsX50 ++ wsX40)
def wsX5_rank_r1 : List Cond := [Cond.fieldLink RX5 24 "Stemspan" "list" "LStemspan$WordList;", Cond.fieldLink RX5 14 "Stemspan" "text" "LStemspan$Row;", Cond.methodLink RX5 141 yX4_countLess, Cond.instanceMethod yX4_countLess, Cond.selects RX4 yX4_countLess yX4_countLess, Cond.initialized RX4, Cond.code yX4_countLess cX4_countLess 3 (some .int), Cond.fieldLink RX4 28 "Stemspan$WordList" "count" "I", Cond.methodLink RX4 32 yX4_rowAt, Cond.instanceMethod yX4_rowAt, Cond.selects RX4 yX4_rowAt yX4_rowAt, Cond.code yX4_rowAt cX4_rowAt 2 (some (.object "Stemspan$Row")), Cond.fieldLink RX4 11 "Stemspan$WordList" "rows" "[LStemspan$Row;", Cond.fieldLink RX4 24 "Stemspan$WordList" "nothing" "LStemspan$Row;", Cond.methodLink RX4 36 yX2_compareWith, Cond.instanceMethod yX2_compareWith, Cond.selects RX2 yX2_compareWith yX2_compareWith, Cond.initialized RX2, Cond.code yX2_compareWith cX2_compareWith 3 (some .int), Cond.fieldLink RX2 21 "Stemspan$Row" "length" "I", Cond.fieldLink RX2 15 "Stemspan$Row" "signs" "[C", Cond.methodLink RX2 40 yX2_common, Cond.instanceMethod yX2_common, Cond.selects RX2 yX2_common yX2_common]
def wsX5_rank_r2 : List Cond := [Cond.code yX2_common cX2_common 3 (some .int)]
def wsX5_rank : List Cond := .code yX5_rank cX5_rank 1 (some .int) :: ((wsX5_rank_r1 ++ wsX5_rank_r2) ++ wsX50 ++ wsX40 ++ wsX20)
def wsX5_word_r1 : List Cond := [Cond.classLink RX5 82 "java/lang/IndexOutOfBoundsException", Cond.initialized "java/lang/IndexOutOfBoundsException", Cond.fieldLink RX5 24 "Stemspan" "list" "LStemspan$WordList;", Cond.fieldLink RX5 14 "Stemspan" "text" "LStemspan$Row;", Cond.methodLink RX5 123 yX4_size, Cond.instanceMethod yX4_size, Cond.selects RX4 yX4_size yX4_size, Cond.initialized RX4, Cond.code yX4_size cX4_size 1 (some .int), Cond.fieldLink RX4 28 "Stemspan$WordList" "count" "I", Cond.methodLink RX5 146 yX4_rowAt, Cond.instanceMethod yX4_rowAt, Cond.selects RX4 yX4_rowAt yX4_rowAt, Cond.code yX4_rowAt cX4_rowAt 2 (some (.object "Stemspan$Row")), Cond.fieldLink RX4 11 "Stemspan$WordList" "rows" "[LStemspan$Row;", Cond.fieldLink RX4 24 "Stemspan$WordList" "nothing" "LStemspan$Row;", Cond.methodLink RX5 150 yX2_become, Cond.instanceMethod yX2_become, Cond.selects RX2 yX2_become yX2_become, Cond.initialized RX2, Cond.code yX2_become cX2_become 2 none, Cond.fieldLink RX2 21 "Stemspan$Row" "length" "I", Cond.methodLink RX2 29 yX2_becomePart, Cond.instanceMethod yX2_becomePart]
def wsX5_word_r2 : List Cond := [Cond.selects RX2 yX2_becomePart yX2_becomePart, Cond.code yX2_becomePart cX2_becomePart 5 none, Cond.methodLink RX2 33 yX2_clear, Cond.instanceMethod yX2_clear, Cond.selects RX2 yX2_clear yX2_clear, Cond.code yX2_clear cX2_clear 1 none, Cond.methodLink RX2 36 yX2_at, Cond.instanceMethod yX2_at, Cond.selects RX2 yX2_at yX2_at, Cond.code yX2_at cX2_at 2 (some .char), Cond.fieldLink RX2 15 "Stemspan$Row" "signs" "[C", Cond.methodLink RX2 25 yX2_append, Cond.instanceMethod yX2_append, Cond.selects RX2 yX2_append yX2_append, Cond.code yX2_append cX2_append 2 none, Cond.methodLink RX5 60 yX2_size, Cond.instanceMethod yX2_size, Cond.selects RX2 yX2_size yX2_size, Cond.code yX2_size cX2_size 1 (some .int)]
def wsX5_word : List Cond := .code yX5_word cX5_word 2 (some .int) :: ((wsX5_word_r1 ++ wsX5_word_r2) ++ wsX50 ++ wsX40 ++ wsX20 ++ (vx_atS RX5 86 "java/lang/IndexOutOfBoundsException" ["java/lang/RuntimeException", "java/lang/Exception"]).filter goodWord)
def wsX5_rankNear_r1 : List Cond := [Cond.fieldLink RX5 24 "Stemspan" "list" "LStemspan$WordList;", Cond.fieldLink RX5 14 "Stemspan" "text" "LStemspan$Row;", Cond.methodLink RX5 276 yX4_countNotGreater, Cond.instanceMethod yX4_countNotGreater, Cond.selects RX4 yX4_countNotGreater yX4_countNotGreater, Cond.initialized RX4, Cond.code yX4_countNotGreater cX4_countNotGreater 3 (some .int), Cond.fieldLink RX4 28 "Stemspan$WordList" "count" "I", Cond.methodLink RX4 32 yX4_rowAt, Cond.instanceMethod yX4_rowAt, Cond.selects RX4 yX4_rowAt yX4_rowAt, Cond.code yX4_rowAt cX4_rowAt 2 (some (.object "Stemspan$Row")), Cond.fieldLink RX4 11 "Stemspan$WordList" "rows" "[LStemspan$Row;", Cond.fieldLink RX4 24 "Stemspan$WordList" "nothing" "LStemspan$Row;", Cond.methodLink RX4 36 yX2_compareWith, Cond.instanceMethod yX2_compareWith, Cond.selects RX2 yX2_compareWith yX2_compareWith, Cond.initialized RX2, Cond.code yX2_compareWith cX2_compareWith 3 (some .int), Cond.fieldLink RX2 21 "Stemspan$Row" "length" "I", Cond.fieldLink RX2 15 "Stemspan$Row" "signs" "[C", Cond.methodLink RX2 40 yX2_common, Cond.instanceMethod yX2_common, Cond.selects RX2 yX2_common yX2_common]
def wsX5_rankNear_r2 : List Cond := [Cond.code yX2_common cX2_common 3 (some .int), Cond.methodLink RX5 141 yX4_countLess, Cond.instanceMethod yX4_countLess, Cond.selects RX4 yX4_countLess yX4_countLess, Cond.code yX4_countLess cX4_countLess 3 (some .int)]
def wsX5_rankNear : List Cond := .code yX5_rankNear cX5_rankNear 2 (some .int) :: ((wsX5_rankNear_r1 ++ wsX5_rankNear_r2) ++ wsX50 ++ wsX40 ++ wsX20)
def wsX5_near_r1 : List Cond := [Cond.classLink RX5 53 "java/lang/IllegalArgumentException", Cond.initialized "java/lang/IllegalArgumentException", Cond.classLink RX5 91 "java/util/NoSuchElementException", Cond.initialized "java/util/NoSuchElementException", Cond.fieldLink RX5 24 "Stemspan" "list" "LStemspan$WordList;", Cond.fieldLink RX5 14 "Stemspan" "text" "LStemspan$Row;", Cond.methodLink RX5 156 yX5_rankNear, Cond.instanceMethod yX5_rankNear, Cond.selects RX5 yX5_rankNear yX5_rankNear, Cond.initialized RX5, Cond.code yX5_rankNear cX5_rankNear 2 (some .int), Cond.methodLink RX5 276 yX4_countNotGreater, Cond.instanceMethod yX4_countNotGreater, Cond.selects RX4 yX4_countNotGreater yX4_countNotGreater, Cond.initialized RX4, Cond.code yX4_countNotGreater cX4_countNotGreater 3 (some .int), Cond.fieldLink RX4 28 "Stemspan$WordList" "count" "I", Cond.methodLink RX4 32 yX4_rowAt, Cond.instanceMethod yX4_rowAt, Cond.selects RX4 yX4_rowAt yX4_rowAt, Cond.code yX4_rowAt cX4_rowAt 2 (some (.object "Stemspan$Row")), Cond.fieldLink RX4 11 "Stemspan$WordList" "rows" "[LStemspan$Row;", Cond.fieldLink RX4 24 "Stemspan$WordList" "nothing" "LStemspan$Row;", Cond.methodLink RX4 36 yX2_compareWith]
def wsX5_near_r2 : List Cond := [Cond.instanceMethod yX2_compareWith, Cond.selects RX2 yX2_compareWith yX2_compareWith, Cond.initialized RX2, Cond.code yX2_compareWith cX2_compareWith 3 (some .int), Cond.fieldLink RX2 21 "Stemspan$Row" "length" "I", Cond.fieldLink RX2 15 "Stemspan$Row" "signs" "[C", Cond.methodLink RX2 40 yX2_common, Cond.instanceMethod yX2_common, Cond.selects RX2 yX2_common yX2_common, Cond.code yX2_common cX2_common 3 (some .int), Cond.methodLink RX5 141 yX4_countLess, Cond.instanceMethod yX4_countLess, Cond.selects RX4 yX4_countLess yX4_countLess, Cond.code yX4_countLess cX4_countLess 3 (some .int), Cond.methodLink RX5 123 yX4_size, Cond.instanceMethod yX4_size, Cond.selects RX4 yX4_size yX4_size, Cond.code yX4_size cX4_size 1 (some .int), Cond.methodLink RX5 146 yX4_rowAt, Cond.methodLink RX5 150 yX2_become, Cond.instanceMethod yX2_become, Cond.selects RX2 yX2_become yX2_become, Cond.code yX2_become cX2_become 2 none, Cond.methodLink RX2 29 yX2_becomePart]
def wsX5_near_r3 : List Cond := [Cond.instanceMethod yX2_becomePart, Cond.selects RX2 yX2_becomePart yX2_becomePart, Cond.code yX2_becomePart cX2_becomePart 5 none, Cond.methodLink RX2 33 yX2_clear, Cond.instanceMethod yX2_clear, Cond.selects RX2 yX2_clear yX2_clear, Cond.code yX2_clear cX2_clear 1 none, Cond.methodLink RX2 36 yX2_at, Cond.instanceMethod yX2_at, Cond.selects RX2 yX2_at yX2_at, Cond.code yX2_at cX2_at 2 (some .char), Cond.methodLink RX2 25 yX2_append, Cond.instanceMethod yX2_append, Cond.selects RX2 yX2_append yX2_append, Cond.code yX2_append cX2_append 2 none, Cond.methodLink RX5 129 yX4_numberAt, Cond.instanceMethod yX4_numberAt, Cond.selects RX4 yX4_numberAt yX4_numberAt, Cond.code yX4_numberAt cX4_numberAt 2 (some .int), Cond.fieldLink RX4 20 "Stemspan$WordList" "numbers" "[I"]
def wsX5_near : List Cond := .code yX5_near cX5_near 3 (some .int) :: ((wsX5_near_r1 ++ (wsX5_near_r2 ++ wsX5_near_r3)) ++ wsX50 ++ wsX40 ++ wsX20 ++ (vx_atS RX5 57 "java/lang/IllegalArgumentException" ["java/lang/RuntimeException", "java/lang/Exception"]).filter goodWord ++ (vx_atS RX5 95 "java/util/NoSuchElementException" ["java/lang/RuntimeException", "java/lang/Exception"]).filter goodWord)
def wsX5_begun_r1 : List Cond := [Cond.fieldLink RX5 24 "Stemspan" "list" "LStemspan$WordList;", Cond.fieldLink RX5 14 "Stemspan" "text" "LStemspan$Row;", Cond.methodLink RX5 162 yX4_countBegun, Cond.instanceMethod yX4_countBegun, Cond.selects RX4 yX4_countBegun yX4_countBegun, Cond.initialized RX4, Cond.code yX4_countBegun cX4_countBegun 4 (some .int), Cond.fieldLink RX4 28 "Stemspan$WordList" "count" "I", Cond.methodLink RX4 32 yX4_rowAt, Cond.instanceMethod yX4_rowAt, Cond.selects RX4 yX4_rowAt yX4_rowAt, Cond.code yX4_rowAt cX4_rowAt 2 (some (.object "Stemspan$Row")), Cond.fieldLink RX4 11 "Stemspan$WordList" "rows" "[LStemspan$Row;", Cond.fieldLink RX4 24 "Stemspan$WordList" "nothing" "LStemspan$Row;", Cond.methodLink RX4 47 yX2_beginsWith, Cond.instanceMethod yX2_beginsWith, Cond.selects RX2 yX2_beginsWith yX2_beginsWith, Cond.initialized RX2, Cond.code yX2_beginsWith cX2_beginsWith 2 (some .boolean), Cond.methodLink RX2 44 yX2_hasAt, Cond.instanceMethod yX2_hasAt, Cond.selects RX2 yX2_hasAt yX2_hasAt, Cond.code yX2_hasAt cX2_hasAt 4 (some .boolean), Cond.fieldLink RX2 21 "Stemspan$Row" "length" "I"]
def wsX5_begun_r2 : List Cond := [Cond.fieldLink RX2 15 "Stemspan$Row" "signs" "[C"]
def wsX5_begun : List Cond := .code yX5_begun cX5_begun 1 (some .int) :: ((wsX5_begun_r1 ++ wsX5_begun_r2) ++ wsX50 ++ wsX40 ++ wsX20)
def wsX5_begunAt_r1 : List Cond := [Cond.classLink RX5 91 "java/util/NoSuchElementException", Cond.initialized "java/util/NoSuchElementException", Cond.fieldLink RX5 24 "Stemspan" "list" "LStemspan$WordList;", Cond.fieldLink RX5 14 "Stemspan" "text" "LStemspan$Row;", Cond.methodLink RX5 165 yX4_rankBegun, Cond.instanceMethod yX4_rankBegun, Cond.selects RX4 yX4_rankBegun yX4_rankBegun, Cond.initialized RX4, Cond.code yX4_rankBegun cX4_rankBegun 5 (some .int), Cond.fieldLink RX4 28 "Stemspan$WordList" "count" "I", Cond.methodLink RX4 32 yX4_rowAt, Cond.instanceMethod yX4_rowAt, Cond.selects RX4 yX4_rowAt yX4_rowAt, Cond.code yX4_rowAt cX4_rowAt 2 (some (.object "Stemspan$Row")), Cond.fieldLink RX4 11 "Stemspan$WordList" "rows" "[LStemspan$Row;", Cond.fieldLink RX4 24 "Stemspan$WordList" "nothing" "LStemspan$Row;", Cond.methodLink RX4 47 yX2_beginsWith, Cond.instanceMethod yX2_beginsWith, Cond.selects RX2 yX2_beginsWith yX2_beginsWith, Cond.initialized RX2, Cond.code yX2_beginsWith cX2_beginsWith 2 (some .boolean), Cond.methodLink RX2 44 yX2_hasAt, Cond.instanceMethod yX2_hasAt, Cond.selects RX2 yX2_hasAt yX2_hasAt]
def wsX5_begunAt_r2 : List Cond := [Cond.code yX2_hasAt cX2_hasAt 4 (some .boolean), Cond.fieldLink RX2 21 "Stemspan$Row" "length" "I", Cond.fieldLink RX2 15 "Stemspan$Row" "signs" "[C", Cond.methodLink RX5 146 yX4_rowAt, Cond.methodLink RX5 150 yX2_become, Cond.instanceMethod yX2_become, Cond.selects RX2 yX2_become yX2_become, Cond.code yX2_become cX2_become 2 none, Cond.methodLink RX2 29 yX2_becomePart, Cond.instanceMethod yX2_becomePart, Cond.selects RX2 yX2_becomePart yX2_becomePart, Cond.code yX2_becomePart cX2_becomePart 5 none, Cond.methodLink RX2 33 yX2_clear, Cond.instanceMethod yX2_clear, Cond.selects RX2 yX2_clear yX2_clear, Cond.code yX2_clear cX2_clear 1 none, Cond.methodLink RX2 36 yX2_at, Cond.instanceMethod yX2_at, Cond.selects RX2 yX2_at yX2_at, Cond.code yX2_at cX2_at 2 (some .char), Cond.methodLink RX2 25 yX2_append, Cond.instanceMethod yX2_append, Cond.selects RX2 yX2_append yX2_append, Cond.code yX2_append cX2_append 2 none]
def wsX5_begunAt_r3 : List Cond := [Cond.methodLink RX5 129 yX4_numberAt, Cond.instanceMethod yX4_numberAt, Cond.selects RX4 yX4_numberAt yX4_numberAt, Cond.code yX4_numberAt cX4_numberAt 2 (some .int), Cond.fieldLink RX4 20 "Stemspan$WordList" "numbers" "[I"]
def wsX5_begunAt : List Cond := .code yX5_begunAt cX5_begunAt 3 (some .int) :: ((wsX5_begunAt_r1 ++ (wsX5_begunAt_r2 ++ wsX5_begunAt_r3)) ++ wsX50 ++ wsX40 ++ wsX20 ++ (vx_atS RX5 95 "java/util/NoSuchElementException" ["java/lang/RuntimeException", "java/lang/Exception"]).filter goodWord)
def wsX5_sum_r1 : List Cond := [Cond.fieldLink RX5 24 "Stemspan" "list" "LStemspan$WordList;", Cond.fieldLink RX5 14 "Stemspan" "text" "LStemspan$Row;", Cond.methodLink RX5 169 yX4_sumBegun, Cond.instanceMethod yX4_sumBegun, Cond.selects RX4 yX4_sumBegun yX4_sumBegun, Cond.initialized RX4, Cond.code yX4_sumBegun cX4_sumBegun 4 (some .int), Cond.fieldLink RX4 28 "Stemspan$WordList" "count" "I", Cond.methodLink RX4 32 yX4_rowAt, Cond.instanceMethod yX4_rowAt, Cond.selects RX4 yX4_rowAt yX4_rowAt, Cond.code yX4_rowAt cX4_rowAt 2 (some (.object "Stemspan$Row")), Cond.fieldLink RX4 11 "Stemspan$WordList" "rows" "[LStemspan$Row;", Cond.fieldLink RX4 24 "Stemspan$WordList" "nothing" "LStemspan$Row;", Cond.methodLink RX4 47 yX2_beginsWith, Cond.instanceMethod yX2_beginsWith, Cond.selects RX2 yX2_beginsWith yX2_beginsWith, Cond.initialized RX2, Cond.code yX2_beginsWith cX2_beginsWith 2 (some .boolean), Cond.methodLink RX2 44 yX2_hasAt, Cond.instanceMethod yX2_hasAt, Cond.selects RX2 yX2_hasAt yX2_hasAt, Cond.code yX2_hasAt cX2_hasAt 4 (some .boolean), Cond.fieldLink RX2 21 "Stemspan$Row" "length" "I"]
def wsX5_sum_r2 : List Cond := [Cond.fieldLink RX2 15 "Stemspan$Row" "signs" "[C", Cond.methodLink RX4 51 yX4_numberAt, Cond.instanceMethod yX4_numberAt, Cond.selects RX4 yX4_numberAt yX4_numberAt, Cond.code yX4_numberAt cX4_numberAt 2 (some .int), Cond.fieldLink RX4 20 "Stemspan$WordList" "numbers" "[I"]
def wsX5_sum : List Cond := .code yX5_sum cX5_sum 1 (some .int) :: ((wsX5_sum_r1 ++ wsX5_sum_r2) ++ wsX50 ++ wsX40 ++ wsX20)
def wsX5_gone_r1 : List Cond := [Cond.fieldLink RX5 24 "Stemspan" "list" "LStemspan$WordList;", Cond.fieldLink RX5 14 "Stemspan" "text" "LStemspan$Row;", Cond.methodLink RX5 172 yX4_removeBegun, Cond.instanceMethod yX4_removeBegun, Cond.selects RX4 yX4_removeBegun yX4_removeBegun, Cond.initialized RX4, Cond.code yX4_removeBegun cX4_removeBegun 4 (some .int), Cond.fieldLink RX4 28 "Stemspan$WordList" "count" "I", Cond.methodLink RX4 32 yX4_rowAt, Cond.instanceMethod yX4_rowAt, Cond.selects RX4 yX4_rowAt yX4_rowAt, Cond.code yX4_rowAt cX4_rowAt 2 (some (.object "Stemspan$Row")), Cond.fieldLink RX4 11 "Stemspan$WordList" "rows" "[LStemspan$Row;", Cond.fieldLink RX4 24 "Stemspan$WordList" "nothing" "LStemspan$Row;", Cond.methodLink RX4 47 yX2_beginsWith, Cond.instanceMethod yX2_beginsWith, Cond.selects RX2 yX2_beginsWith yX2_beginsWith, Cond.initialized RX2, Cond.code yX2_beginsWith cX2_beginsWith 2 (some .boolean), Cond.methodLink RX2 44 yX2_hasAt, Cond.instanceMethod yX2_hasAt, Cond.selects RX2 yX2_hasAt yX2_hasAt, Cond.code yX2_hasAt cX2_hasAt 4 (some .boolean), Cond.fieldLink RX2 21 "Stemspan$Row" "length" "I"]
def wsX5_gone_r2 : List Cond := [Cond.fieldLink RX2 15 "Stemspan$Row" "signs" "[C", Cond.methodLink RX4 55 yX4_remove, Cond.instanceMethod yX4_remove, Cond.selects RX4 yX4_remove yX4_remove, Cond.code yX4_remove cX4_remove 4 none, Cond.fieldLink RX4 20 "Stemspan$WordList" "numbers" "[I"]
def wsX5_gone : List Cond := .code yX5_gone cX5_gone 1 (some .int) :: ((wsX5_gone_r1 ++ wsX5_gone_r2) ++ wsX50 ++ wsX40 ++ wsX20)
def wsX5_longest_r1 : List Cond := [Cond.classLink RX5 82 "java/lang/IndexOutOfBoundsException", Cond.initialized "java/lang/IndexOutOfBoundsException", Cond.fieldLink RX5 14 "Stemspan" "text" "LStemspan$Row;", Cond.fieldLink RX5 24 "Stemspan" "list" "LStemspan$WordList;", Cond.methodLink RX5 60 yX2_size, Cond.instanceMethod yX2_size, Cond.selects RX2 yX2_size yX2_size, Cond.initialized RX2, Cond.code yX2_size cX2_size 1 (some .int), Cond.fieldLink RX2 21 "Stemspan$Row" "length" "I", Cond.methodLink RX5 175 yX4_longestAt, Cond.instanceMethod yX4_longestAt, Cond.selects RX4 yX4_longestAt yX4_longestAt, Cond.initialized RX4, Cond.code yX4_longestAt cX4_longestAt 5 (some .int), Cond.fieldLink RX4 28 "Stemspan$WordList" "count" "I", Cond.methodLink RX4 66 Lib.Math.max.name, Cond.static Lib.Math.max.name, Cond.initialized "java/lang/Math", Cond.code Lib.Math.max.name Lib.Math.max.code 2 (some .int), Cond.methodLink RX4 32 yX4_rowAt, Cond.instanceMethod yX4_rowAt, Cond.selects RX4 yX4_rowAt yX4_rowAt, Cond.code yX4_rowAt cX4_rowAt 2 (some (.object "Stemspan$Row"))]
def wsX5_longest_r2 : List Cond := [Cond.fieldLink RX4 11 "Stemspan$WordList" "rows" "[LStemspan$Row;", Cond.fieldLink RX4 24 "Stemspan$WordList" "nothing" "LStemspan$Row;", Cond.methodLink RX4 58 yX2_hasAt, Cond.instanceMethod yX2_hasAt, Cond.selects RX2 yX2_hasAt yX2_hasAt, Cond.code yX2_hasAt cX2_hasAt 4 (some .boolean), Cond.fieldLink RX2 15 "Stemspan$Row" "signs" "[C", Cond.methodLink RX4 62 yX2_size]
def wsX5_longest : List Cond := .code yX5_longest cX5_longest 2 (some .int) :: ((wsX5_longest_r1 ++ wsX5_longest_r2) ++ wsX50 ++ wsX20 ++ wsX40 ++ (vx_atS RX5 86 "java/lang/IndexOutOfBoundsException" ["java/lang/RuntimeException", "java/lang/Exception"]).filter goodWord)
def wsX5_shared_r1 : List Cond := [Cond.fieldLink RX5 24 "Stemspan" "list" "LStemspan$WordList;", Cond.fieldLink RX5 14 "Stemspan" "text" "LStemspan$Row;", Cond.methodLink RX5 178 yX4_mostCommon, Cond.instanceMethod yX4_mostCommon, Cond.selects RX4 yX4_mostCommon yX4_mostCommon, Cond.initialized RX4, Cond.code yX4_mostCommon cX4_mostCommon 4 (some .int), Cond.fieldLink RX4 28 "Stemspan$WordList" "count" "I", Cond.methodLink RX4 66 Lib.Math.max.name, Cond.static Lib.Math.max.name, Cond.initialized "java/lang/Math", Cond.code Lib.Math.max.name Lib.Math.max.code 2 (some .int), Cond.methodLink RX4 32 yX4_rowAt, Cond.instanceMethod yX4_rowAt, Cond.selects RX4 yX4_rowAt yX4_rowAt, Cond.code yX4_rowAt cX4_rowAt 2 (some (.object "Stemspan$Row")), Cond.fieldLink RX4 11 "Stemspan$WordList" "rows" "[LStemspan$Row;", Cond.fieldLink RX4 24 "Stemspan$WordList" "nothing" "LStemspan$Row;", Cond.methodLink RX4 72 yX2_common, Cond.instanceMethod yX2_common, Cond.selects RX2 yX2_common yX2_common, Cond.initialized RX2, Cond.code yX2_common cX2_common 3 (some .int), Cond.fieldLink RX2 21 "Stemspan$Row" "length" "I"]
def wsX5_shared_r2 : List Cond := [Cond.fieldLink RX2 15 "Stemspan$Row" "signs" "[C"]
def wsX5_shared : List Cond := .code yX5_shared cX5_shared 1 (some .int) :: ((wsX5_shared_r1 ++ wsX5_shared_r2) ++ wsX50 ++ wsX40 ++ wsX20)
def wsX5_twin_r1 : List Cond := [Cond.classLink RX5 91 "java/util/NoSuchElementException", Cond.initialized "java/util/NoSuchElementException", Cond.fieldLink RX5 24 "Stemspan" "list" "LStemspan$WordList;", Cond.methodLink RX5 123 yX4_size, Cond.instanceMethod yX4_size, Cond.selects RX4 yX4_size yX4_size, Cond.initialized RX4, Cond.code yX4_size cX4_size 1 (some .int), Cond.fieldLink RX4 28 "Stemspan$WordList" "count" "I", Cond.methodLink RX5 183 yX4_mostCommonOfTwo, Cond.instanceMethod yX4_mostCommonOfTwo, Cond.selects RX4 yX4_mostCommonOfTwo yX4_mostCommonOfTwo, Cond.code yX4_mostCommonOfTwo cX4_mostCommonOfTwo 4 (some .int), Cond.methodLink RX4 66 Lib.Math.max.name, Cond.static Lib.Math.max.name, Cond.initialized "java/lang/Math", Cond.code Lib.Math.max.name Lib.Math.max.code 2 (some .int), Cond.methodLink RX4 32 yX4_rowAt, Cond.instanceMethod yX4_rowAt, Cond.selects RX4 yX4_rowAt yX4_rowAt, Cond.code yX4_rowAt cX4_rowAt 2 (some (.object "Stemspan$Row")), Cond.fieldLink RX4 11 "Stemspan$WordList" "rows" "[LStemspan$Row;", Cond.fieldLink RX4 24 "Stemspan$WordList" "nothing" "LStemspan$Row;", Cond.methodLink RX4 72 yX2_common]
def wsX5_twin_r2 : List Cond := [Cond.instanceMethod yX2_common, Cond.selects RX2 yX2_common yX2_common, Cond.initialized RX2, Cond.code yX2_common cX2_common 3 (some .int), Cond.fieldLink RX2 21 "Stemspan$Row" "length" "I", Cond.fieldLink RX2 15 "Stemspan$Row" "signs" "[C"]
def wsX5_twin : List Cond := .code yX5_twin cX5_twin 1 (some .int) :: ((wsX5_twin_r1 ++ wsX5_twin_r2) ++ wsX50 ++ wsX40 ++ wsX20 ++ (vx_atS RX5 95 "java/util/NoSuchElementException" ["java/lang/RuntimeException", "java/lang/Exception"]).filter goodWord)
def wsX5_pieces_r1 : List Cond := [Cond.fieldLink RX5 38 "Stemspan" "cutter" "LStemspan$Cutter;", Cond.fieldLink RX5 14 "Stemspan" "text" "LStemspan$Row;", Cond.fieldLink RX5 24 "Stemspan" "list" "LStemspan$WordList;", Cond.methodLink RX5 186 yX1_look, Cond.instanceMethod yX1_look, Cond.selects RX1 yX1_look yX1_look, Cond.initialized RX1, Cond.code yX1_look cX1_look 5 none, Cond.methodLink RX1 31 Lib.Math.min.name, Cond.static Lib.Math.min.name, Cond.initialized "java/lang/Math", Cond.code Lib.Math.min.name Lib.Math.min.code 2 (some .int), Cond.fieldLink RX1 22 "Stemspan$Cutter" "size" "I", Cond.fieldLink RX1 9 "Stemspan$Cutter" "fits" "[I", Cond.methodLink RX1 26 yX2_size, Cond.instanceMethod yX2_size, Cond.selects RX2 yX2_size yX2_size, Cond.initialized RX2, Cond.code yX2_size cX2_size 1 (some .int), Cond.fieldLink RX2 21 "Stemspan$Row" "length" "I", Cond.methodLink RX1 37 yX4_size, Cond.instanceMethod yX4_size, Cond.selects RX4 yX4_size yX4_size, Cond.initialized RX4]
def wsX5_pieces_r2 : List Cond := [Cond.code yX4_size cX4_size 1 (some .int), Cond.fieldLink RX4 28 "Stemspan$WordList" "count" "I", Cond.methodLink RX1 40 yX4_rowAt, Cond.instanceMethod yX4_rowAt, Cond.selects RX4 yX4_rowAt yX4_rowAt, Cond.code yX4_rowAt cX4_rowAt 2 (some (.object "Stemspan$Row")), Cond.fieldLink RX4 11 "Stemspan$WordList" "rows" "[LStemspan$Row;", Cond.fieldLink RX4 24 "Stemspan$WordList" "nothing" "LStemspan$Row;", Cond.methodLink RX1 44 yX2_hasAt, Cond.instanceMethod yX2_hasAt, Cond.selects RX2 yX2_hasAt yX2_hasAt, Cond.code yX2_hasAt cX2_hasAt 4 (some .boolean), Cond.fieldLink RX2 15 "Stemspan$Row" "signs" "[C", Cond.methodLink RX5 190 yX1_countLongest, Cond.instanceMethod yX1_countLongest, Cond.selects RX1 yX1_countLongest yX1_countLongest, Cond.code yX1_countLongest cX1_countLongest 3 (some .int), Cond.methodLink RX1 52 yX1_longestFit, Cond.instanceMethod yX1_longestFit, Cond.selects RX1 yX1_longestFit yX1_longestFit, Cond.code yX1_longestFit cX1_longestFit 3 (some .int), Cond.methodLink RX1 48 yX1_fitsAt, Cond.instanceMethod yX1_fitsAt, Cond.selects RX1 yX1_fitsAt yX1_fitsAt]
def wsX5_pieces_r3 : List Cond := [Cond.code yX1_fitsAt cX1_fitsAt 3 (some .boolean)]
def wsX5_pieces : List Cond := .code yX5_pieces cX5_pieces 1 (some .int) :: ((wsX5_pieces_r1 ++ (wsX5_pieces_r2 ++ wsX5_pieces_r3)) ++ wsX50 ++ wsX10 ++ wsX20 ++ wsX40)
def wsX5_piece_r1 : List Cond := [Cond.classLink RX5 91 "java/util/NoSuchElementException", Cond.initialized "java/util/NoSuchElementException", Cond.fieldLink RX5 38 "Stemspan" "cutter" "LStemspan$Cutter;", Cond.fieldLink RX5 14 "Stemspan" "text" "LStemspan$Row;", Cond.fieldLink RX5 24 "Stemspan" "list" "LStemspan$WordList;", Cond.methodLink RX5 186 yX1_look, Cond.instanceMethod yX1_look, Cond.selects RX1 yX1_look yX1_look, Cond.initialized RX1, Cond.code yX1_look cX1_look 5 none, Cond.methodLink RX1 31 Lib.Math.min.name, Cond.static Lib.Math.min.name, Cond.initialized "java/lang/Math", Cond.code Lib.Math.min.name Lib.Math.min.code 2 (some .int), Cond.fieldLink RX1 22 "Stemspan$Cutter" "size" "I", Cond.fieldLink RX1 9 "Stemspan$Cutter" "fits" "[I", Cond.methodLink RX1 26 yX2_size, Cond.instanceMethod yX2_size, Cond.selects RX2 yX2_size yX2_size, Cond.initialized RX2, Cond.code yX2_size cX2_size 1 (some .int), Cond.fieldLink RX2 21 "Stemspan$Row" "length" "I", Cond.methodLink RX1 37 yX4_size, Cond.instanceMethod yX4_size]
def wsX5_piece_r2 : List Cond := [Cond.selects RX4 yX4_size yX4_size, Cond.initialized RX4, Cond.code yX4_size cX4_size 1 (some .int), Cond.fieldLink RX4 28 "Stemspan$WordList" "count" "I", Cond.methodLink RX1 40 yX4_rowAt, Cond.instanceMethod yX4_rowAt, Cond.selects RX4 yX4_rowAt yX4_rowAt, Cond.code yX4_rowAt cX4_rowAt 2 (some (.object "Stemspan$Row")), Cond.fieldLink RX4 11 "Stemspan$WordList" "rows" "[LStemspan$Row;", Cond.fieldLink RX4 24 "Stemspan$WordList" "nothing" "LStemspan$Row;", Cond.methodLink RX1 44 yX2_hasAt, Cond.instanceMethod yX2_hasAt, Cond.selects RX2 yX2_hasAt yX2_hasAt, Cond.code yX2_hasAt cX2_hasAt 4 (some .boolean), Cond.fieldLink RX2 15 "Stemspan$Row" "signs" "[C", Cond.methodLink RX5 193 yX1_sizeOfLongest, Cond.instanceMethod yX1_sizeOfLongest, Cond.selects RX1 yX1_sizeOfLongest yX1_sizeOfLongest, Cond.code yX1_sizeOfLongest cX1_sizeOfLongest 4 (some .int), Cond.methodLink RX1 52 yX1_longestFit, Cond.instanceMethod yX1_longestFit, Cond.selects RX1 yX1_longestFit yX1_longestFit, Cond.code yX1_longestFit cX1_longestFit 3 (some .int), Cond.methodLink RX1 48 yX1_fitsAt]
def wsX5_piece_r3 : List Cond := [Cond.instanceMethod yX1_fitsAt, Cond.selects RX1 yX1_fitsAt yX1_fitsAt, Cond.code yX1_fitsAt cX1_fitsAt 3 (some .boolean)]
def wsX5_piece : List Cond := .code yX5_piece cX5_piece 3 (some .int) :: ((wsX5_piece_r1 ++ (wsX5_piece_r2 ++ wsX5_piece_r3)) ++ wsX50 ++ wsX10 ++ wsX20 ++ wsX40 ++ (vx_atS RX5 95 "java/util/NoSuchElementException" ["java/lang/RuntimeException", "java/lang/Exception"]).filter goodWord)
def wsX5_cuts_r1 : List Cond := [Cond.fieldLink RX5 38 "Stemspan" "cutter" "LStemspan$Cutter;", Cond.fieldLink RX5 14 "Stemspan" "text" "LStemspan$Row;", Cond.fieldLink RX5 24 "Stemspan" "list" "LStemspan$WordList;", Cond.methodLink RX5 186 yX1_look, Cond.instanceMethod yX1_look, Cond.selects RX1 yX1_look yX1_look, Cond.initialized RX1, Cond.code yX1_look cX1_look 5 none, Cond.methodLink RX1 31 Lib.Math.min.name, Cond.static Lib.Math.min.name, Cond.initialized "java/lang/Math", Cond.code Lib.Math.min.name Lib.Math.min.code 2 (some .int), Cond.fieldLink RX1 22 "Stemspan$Cutter" "size" "I", Cond.fieldLink RX1 9 "Stemspan$Cutter" "fits" "[I", Cond.methodLink RX1 26 yX2_size, Cond.instanceMethod yX2_size, Cond.selects RX2 yX2_size yX2_size, Cond.initialized RX2, Cond.code yX2_size cX2_size 1 (some .int), Cond.fieldLink RX2 21 "Stemspan$Row" "length" "I", Cond.methodLink RX1 37 yX4_size, Cond.instanceMethod yX4_size, Cond.selects RX4 yX4_size yX4_size, Cond.initialized RX4]
def wsX5_cuts_r2 : List Cond := [Cond.code yX4_size cX4_size 1 (some .int), Cond.fieldLink RX4 28 "Stemspan$WordList" "count" "I", Cond.methodLink RX1 40 yX4_rowAt, Cond.instanceMethod yX4_rowAt, Cond.selects RX4 yX4_rowAt yX4_rowAt, Cond.code yX4_rowAt cX4_rowAt 2 (some (.object "Stemspan$Row")), Cond.fieldLink RX4 11 "Stemspan$WordList" "rows" "[LStemspan$Row;", Cond.fieldLink RX4 24 "Stemspan$WordList" "nothing" "LStemspan$Row;", Cond.methodLink RX1 44 yX2_hasAt, Cond.instanceMethod yX2_hasAt, Cond.selects RX2 yX2_hasAt yX2_hasAt, Cond.code yX2_hasAt cX2_hasAt 4 (some .boolean), Cond.fieldLink RX2 15 "Stemspan$Row" "signs" "[C", Cond.methodLink RX5 198 yX1_countWays, Cond.instanceMethod yX1_countWays, Cond.selects RX1 yX1_countWays yX1_countWays, Cond.code yX1_countWays cX1_countWays 4 (some .long), Cond.fieldLink RX1 15 "Stemspan$Cutter" "ways" "[J", Cond.methodLink RX1 48 yX1_fitsAt, Cond.instanceMethod yX1_fitsAt, Cond.selects RX1 yX1_fitsAt yX1_fitsAt, Cond.code yX1_fitsAt cX1_fitsAt 3 (some .boolean)]
def wsX5_cuts : List Cond := .code yX5_cuts cX5_cuts 1 (some .long) :: ((wsX5_cuts_r1 ++ wsX5_cuts_r2) ++ wsX50 ++ wsX10 ++ wsX20 ++ wsX40)
def wsX5_fewest_r1 : List Cond := [Cond.fieldLink RX5 38 "Stemspan" "cutter" "LStemspan$Cutter;", Cond.fieldLink RX5 14 "Stemspan" "text" "LStemspan$Row;", Cond.fieldLink RX5 24 "Stemspan" "list" "LStemspan$WordList;", Cond.methodLink RX5 186 yX1_look, Cond.instanceMethod yX1_look, Cond.selects RX1 yX1_look yX1_look, Cond.initialized RX1, Cond.code yX1_look cX1_look 5 none, Cond.methodLink RX1 31 Lib.Math.min.name, Cond.static Lib.Math.min.name, Cond.initialized "java/lang/Math", Cond.code Lib.Math.min.name Lib.Math.min.code 2 (some .int), Cond.fieldLink RX1 22 "Stemspan$Cutter" "size" "I", Cond.fieldLink RX1 9 "Stemspan$Cutter" "fits" "[I", Cond.methodLink RX1 26 yX2_size, Cond.instanceMethod yX2_size, Cond.selects RX2 yX2_size yX2_size, Cond.initialized RX2, Cond.code yX2_size cX2_size 1 (some .int), Cond.fieldLink RX2 21 "Stemspan$Row" "length" "I", Cond.methodLink RX1 37 yX4_size, Cond.instanceMethod yX4_size, Cond.selects RX4 yX4_size yX4_size, Cond.initialized RX4]
def wsX5_fewest_r2 : List Cond := [Cond.code yX4_size cX4_size 1 (some .int), Cond.fieldLink RX4 28 "Stemspan$WordList" "count" "I", Cond.methodLink RX1 40 yX4_rowAt, Cond.instanceMethod yX4_rowAt, Cond.selects RX4 yX4_rowAt yX4_rowAt, Cond.code yX4_rowAt cX4_rowAt 2 (some (.object "Stemspan$Row")), Cond.fieldLink RX4 11 "Stemspan$WordList" "rows" "[LStemspan$Row;", Cond.fieldLink RX4 24 "Stemspan$WordList" "nothing" "LStemspan$Row;", Cond.methodLink RX1 44 yX2_hasAt, Cond.instanceMethod yX2_hasAt, Cond.selects RX2 yX2_hasAt yX2_hasAt, Cond.code yX2_hasAt cX2_hasAt 4 (some .boolean), Cond.fieldLink RX2 15 "Stemspan$Row" "signs" "[C", Cond.methodLink RX5 202 yX1_leastPieces, Cond.instanceMethod yX1_leastPieces, Cond.selects RX1 yX1_leastPieces yX1_leastPieces, Cond.code yX1_leastPieces cX1_leastPieces 3 (some .int), Cond.fieldLink RX1 19 "Stemspan$Cutter" "least" "[I", Cond.methodLink RX1 48 yX1_fitsAt, Cond.instanceMethod yX1_fitsAt, Cond.selects RX1 yX1_fitsAt yX1_fitsAt, Cond.code yX1_fitsAt cX1_fitsAt 3 (some .boolean), Cond.methodLink RX1 56 yX1_lesser, Cond.static yX1_lesser]
def wsX5_fewest_r3 : List Cond := [Cond.code yX1_lesser cX1_lesser 2 (some .int)]
def wsX5_fewest : List Cond := .code yX5_fewest cX5_fewest 1 (some .int) :: ((wsX5_fewest_r1 ++ (wsX5_fewest_r2 ++ wsX5_fewest_r3)) ++ wsX50 ++ wsX10 ++ wsX20 ++ wsX40)
def wsX5_code_r1 : List Cond := [Cond.classLink RX5 53 "java/lang/IllegalArgumentException", Cond.initialized "java/lang/IllegalArgumentException", Cond.classLink RX5 114 "java/lang/UnsupportedOperationException", Cond.initialized "java/lang/UnsupportedOperationException", Cond.fieldLink RX5 14 "Stemspan" "text" "LStemspan$Row;", Cond.fieldLink RX5 31 "Stemspan" "book" "LStemspan$CodeBook;", Cond.methodLink RX5 49 yX5_isSign, Cond.static yX5_isSign, Cond.initialized RX5, Cond.code yX5_isSign cX5_isSign 1 (some .boolean), Cond.methodLink RX5 60 yX2_size, Cond.instanceMethod yX2_size, Cond.selects RX2 yX2_size yX2_size, Cond.initialized RX2, Cond.code yX2_size cX2_size 1 (some .int), Cond.fieldLink RX2 21 "Stemspan$Row" "length" "I", Cond.methodLink RX5 207 yX0_codeOf, Cond.instanceMethod yX0_codeOf, Cond.selects RX0 yX0_codeOf yX0_codeOf, Cond.initialized RX0, Cond.code yX0_codeOf cX0_codeOf 2 (some (.object "Stemspan$Row")), Cond.fieldLink RX0 11 "Stemspan$CodeBook" "codes" "[LStemspan$Row;", Cond.fieldLink RX0 31 "Stemspan$CodeBook" "nothing" "LStemspan$Row;", Cond.methodLink RX5 150 yX2_become]
def wsX5_code_r2 : List Cond := [Cond.instanceMethod yX2_become, Cond.selects RX2 yX2_become yX2_become, Cond.code yX2_become cX2_become 2 none, Cond.methodLink RX2 29 yX2_becomePart, Cond.instanceMethod yX2_becomePart, Cond.selects RX2 yX2_becomePart yX2_becomePart, Cond.code yX2_becomePart cX2_becomePart 5 none, Cond.methodLink RX2 33 yX2_clear, Cond.instanceMethod yX2_clear, Cond.selects RX2 yX2_clear yX2_clear, Cond.code yX2_clear cX2_clear 1 none, Cond.methodLink RX2 36 yX2_at, Cond.instanceMethod yX2_at, Cond.selects RX2 yX2_at yX2_at, Cond.code yX2_at cX2_at 2 (some .char), Cond.fieldLink RX2 15 "Stemspan$Row" "signs" "[C", Cond.methodLink RX2 25 yX2_append, Cond.instanceMethod yX2_append, Cond.selects RX2 yX2_append yX2_append, Cond.code yX2_append cX2_append 2 none]
def wsX5_code : List Cond := .code yX5_code cX5_code 4 (some .int) :: ((wsX5_code_r1 ++ wsX5_code_r2) ++ wsX50 ++ wsX20 ++ wsX00 ++ (vx_atS RX5 57 "java/lang/IllegalArgumentException" ["java/lang/RuntimeException", "java/lang/Exception"]).filter goodWord ++ (vx_atS RX5 118 "java/lang/UnsupportedOperationException" ["java/lang/RuntimeException", "java/lang/Exception"]).filter goodWord)
def wsX5_write_r1 : List Cond := [Cond.classLink RX5 64 "java/lang/IllegalStateException", Cond.initialized "java/lang/IllegalStateException", Cond.fieldLink RX5 31 "Stemspan" "book" "LStemspan$CodeBook;", Cond.fieldLink RX5 14 "Stemspan" "text" "LStemspan$Row;", Cond.fieldLink RX5 18 "Stemspan" "spare" "LStemspan$Row;", Cond.methodLink RX5 211 yX0_sizeWritten, Cond.instanceMethod yX0_sizeWritten, Cond.selects RX0 yX0_sizeWritten yX0_sizeWritten, Cond.initialized RX0, Cond.code yX0_sizeWritten cX0_sizeWritten 4 (some .int), Cond.methodLink RX0 47 yX2_size, Cond.instanceMethod yX2_size, Cond.selects RX2 yX2_size yX2_size, Cond.initialized RX2, Cond.code yX2_size cX2_size 1 (some .int), Cond.fieldLink RX2 21 "Stemspan$Row" "length" "I", Cond.methodLink RX0 51 yX2_at, Cond.instanceMethod yX2_at, Cond.selects RX2 yX2_at yX2_at, Cond.code yX2_at cX2_at 2 (some .char), Cond.fieldLink RX2 15 "Stemspan$Row" "signs" "[C", Cond.methodLink RX0 54 yX0_codeOf, Cond.instanceMethod yX0_codeOf, Cond.selects RX0 yX0_codeOf yX0_codeOf]
def wsX5_write_r2 : List Cond := [Cond.code yX0_codeOf cX0_codeOf 2 (some (.object "Stemspan$Row")), Cond.fieldLink RX0 11 "Stemspan$CodeBook" "codes" "[LStemspan$Row;", Cond.fieldLink RX0 31 "Stemspan$CodeBook" "nothing" "LStemspan$Row;", Cond.static yX5_isSign, Cond.initialized RX5, Cond.code yX5_isSign cX5_isSign 1 (some .boolean), Cond.methodLink RX5 214 yX0_writeInto, Cond.instanceMethod yX0_writeInto, Cond.selects RX0 yX0_writeInto yX0_writeInto, Cond.code yX0_writeInto cX0_writeInto 4 none, Cond.methodLink RX0 58 yX2_clear, Cond.instanceMethod yX2_clear, Cond.selects RX2 yX2_clear yX2_clear, Cond.code yX2_clear cX2_clear 1 none, Cond.methodLink RX0 61 yX2_appendAll, Cond.instanceMethod yX2_appendAll, Cond.selects RX2 yX2_appendAll yX2_appendAll, Cond.code yX2_appendAll cX2_appendAll 3 none, Cond.methodLink RX2 25 yX2_append, Cond.instanceMethod yX2_append, Cond.selects RX2 yX2_append yX2_append, Cond.code yX2_append cX2_append 2 none, Cond.methodLink RX5 150 yX2_become, Cond.instanceMethod yX2_become]
def wsX5_write_r3 : List Cond := [Cond.selects RX2 yX2_become yX2_become, Cond.code yX2_become cX2_become 2 none, Cond.methodLink RX2 29 yX2_becomePart, Cond.instanceMethod yX2_becomePart, Cond.selects RX2 yX2_becomePart yX2_becomePart, Cond.code yX2_becomePart cX2_becomePart 5 none, Cond.methodLink RX2 33 yX2_clear, Cond.methodLink RX2 36 yX2_at, Cond.methodLink RX5 60 yX2_size]
def wsX5_write : List Cond := .code yX5_write cX5_write 1 (some .int) :: ((wsX5_write_r1 ++ (wsX5_write_r2 ++ wsX5_write_r3)) ++ wsX50 ++ wsX20 ++ wsX00 ++ (vx_atS RX5 68 "java/lang/IllegalStateException" ["java/lang/RuntimeException", "java/lang/Exception"]).filter goodWord)
def wsX5_read_r1 : List Cond := [Cond.classLink RX5 114 "java/lang/UnsupportedOperationException", Cond.initialized "java/lang/UnsupportedOperationException", Cond.classLink RX5 91 "java/util/NoSuchElementException", Cond.initialized "java/util/NoSuchElementException", Cond.fieldLink RX5 31 "Stemspan" "book" "LStemspan$CodeBook;", Cond.fieldLink RX5 14 "Stemspan" "text" "LStemspan$Row;", Cond.fieldLink RX5 18 "Stemspan" "spare" "LStemspan$Row;", Cond.methodLink RX5 218 yX0_isOrderly, Cond.instanceMethod yX0_isOrderly, Cond.selects RX0 yX0_isOrderly yX0_isOrderly, Cond.initialized RX0, Cond.code yX0_isOrderly cX0_isOrderly 3 (some .boolean), Cond.fieldLink RX0 11 "Stemspan$CodeBook" "codes" "[LStemspan$Row;", Cond.methodLink RX0 39 yX2_compareWith, Cond.instanceMethod yX2_compareWith, Cond.selects RX2 yX2_compareWith yX2_compareWith, Cond.initialized RX2, Cond.code yX2_compareWith cX2_compareWith 3 (some .int), Cond.fieldLink RX2 21 "Stemspan$Row" "length" "I", Cond.fieldLink RX2 15 "Stemspan$Row" "signs" "[C", Cond.methodLink RX2 40 yX2_common, Cond.instanceMethod yX2_common, Cond.selects RX2 yX2_common yX2_common, Cond.code yX2_common cX2_common 3 (some .int)]
def wsX5_read_r2 : List Cond := [Cond.methodLink RX0 43 yX2_beginsWith, Cond.instanceMethod yX2_beginsWith, Cond.selects RX2 yX2_beginsWith yX2_beginsWith, Cond.code yX2_beginsWith cX2_beginsWith 2 (some .boolean), Cond.methodLink RX2 44 yX2_hasAt, Cond.instanceMethod yX2_hasAt, Cond.selects RX2 yX2_hasAt yX2_hasAt, Cond.code yX2_hasAt cX2_hasAt 4 (some .boolean), Cond.methodLink RX5 223 yX0_readInto, Cond.instanceMethod yX0_readInto, Cond.selects RX0 yX0_readInto yX0_readInto, Cond.code yX0_readInto cX0_readInto 6 (some .boolean), Cond.methodLink RX0 58 yX2_clear, Cond.instanceMethod yX2_clear, Cond.selects RX2 yX2_clear yX2_clear, Cond.code yX2_clear cX2_clear 1 none, Cond.methodLink RX0 47 yX2_size, Cond.instanceMethod yX2_size, Cond.selects RX2 yX2_size yX2_size, Cond.code yX2_size cX2_size 1 (some .int), Cond.methodLink RX0 88 yX0_signRead, Cond.instanceMethod yX0_signRead, Cond.selects RX0 yX0_signRead yX0_signRead, Cond.code yX0_signRead cX0_signRead 4 (some .char)]
def wsX5_read_r3 : List Cond := [Cond.methodLink RX0 92 yX2_hasAt, Cond.static yX5_signOf, Cond.initialized RX5, Cond.code yX5_signOf cX5_signOf 1 (some .char), Cond.methodLink RX0 24 yX2_append, Cond.instanceMethod yX2_append, Cond.selects RX2 yX2_append yX2_append, Cond.code yX2_append cX2_append 2 none, Cond.methodLink RX0 54 yX0_codeOf, Cond.instanceMethod yX0_codeOf, Cond.selects RX0 yX0_codeOf yX0_codeOf, Cond.code yX0_codeOf cX0_codeOf 2 (some (.object "Stemspan$Row")), Cond.fieldLink RX0 31 "Stemspan$CodeBook" "nothing" "LStemspan$Row;", Cond.static yX5_isSign, Cond.code yX5_isSign cX5_isSign 1 (some .boolean), Cond.methodLink RX5 150 yX2_become, Cond.instanceMethod yX2_become, Cond.selects RX2 yX2_become yX2_become, Cond.code yX2_become cX2_become 2 none, Cond.methodLink RX2 29 yX2_becomePart, Cond.instanceMethod yX2_becomePart, Cond.selects RX2 yX2_becomePart yX2_becomePart, Cond.code yX2_becomePart cX2_becomePart 5 none, Cond.methodLink RX2 33 yX2_clear]
def wsX5_read_r4 : List Cond := [Cond.methodLink RX2 36 yX2_at, Cond.instanceMethod yX2_at, Cond.selects RX2 yX2_at yX2_at, Cond.code yX2_at cX2_at 2 (some .char), Cond.methodLink RX2 25 yX2_append, Cond.methodLink RX5 60 yX2_size]
def wsX5_read : List Cond := .code yX5_read cX5_read 1 (some .int) :: ((wsX5_read_r1 ++ (wsX5_read_r2 ++ (wsX5_read_r3 ++ wsX5_read_r4))) ++ wsX50 ++ wsX00 ++ wsX20 ++ (vx_atS RX5 118 "java/lang/UnsupportedOperationException" ["java/lang/RuntimeException", "java/lang/Exception"]).filter goodWord ++ (vx_atS RX5 95 "java/util/NoSuchElementException" ["java/lang/RuntimeException", "java/lang/Exception"]).filter goodWord)
def wsX5_writeAll_r1 : List Cond := [Cond.classLink RX5 114 "java/lang/UnsupportedOperationException", Cond.initialized "java/lang/UnsupportedOperationException", Cond.classLink RX5 64 "java/lang/IllegalStateException", Cond.initialized "java/lang/IllegalStateException", Cond.fieldLink RX5 31 "Stemspan" "book" "LStemspan$CodeBook;", Cond.fieldLink RX5 24 "Stemspan" "list" "LStemspan$WordList;", Cond.methodLink RX5 218 yX0_isOrderly, Cond.instanceMethod yX0_isOrderly, Cond.selects RX0 yX0_isOrderly yX0_isOrderly, Cond.initialized RX0, Cond.code yX0_isOrderly cX0_isOrderly 3 (some .boolean), Cond.fieldLink RX0 11 "Stemspan$CodeBook" "codes" "[LStemspan$Row;", Cond.methodLink RX0 39 yX2_compareWith, Cond.instanceMethod yX2_compareWith, Cond.selects RX2 yX2_compareWith yX2_compareWith, Cond.initialized RX2, Cond.code yX2_compareWith cX2_compareWith 3 (some .int), Cond.fieldLink RX2 21 "Stemspan$Row" "length" "I", Cond.fieldLink RX2 15 "Stemspan$Row" "signs" "[C", Cond.methodLink RX2 40 yX2_common, Cond.instanceMethod yX2_common, Cond.selects RX2 yX2_common yX2_common, Cond.code yX2_common cX2_common 3 (some .int), Cond.methodLink RX0 43 yX2_beginsWith]
def wsX5_writeAll_r2 : List Cond := [Cond.instanceMethod yX2_beginsWith, Cond.selects RX2 yX2_beginsWith yX2_beginsWith, Cond.code yX2_beginsWith cX2_beginsWith 2 (some .boolean), Cond.methodLink RX2 44 yX2_hasAt, Cond.instanceMethod yX2_hasAt, Cond.selects RX2 yX2_hasAt yX2_hasAt, Cond.code yX2_hasAt cX2_hasAt 4 (some .boolean), Cond.methodLink RX5 229 yX0_mostWritten, Cond.instanceMethod yX0_mostWritten, Cond.selects RX0 yX0_mostWritten yX0_mostWritten, Cond.code yX0_mostWritten cX0_mostWritten 4 (some .int), Cond.methodLink RX0 75 Lib.Math.max.name, Cond.static Lib.Math.max.name, Cond.initialized "java/lang/Math", Cond.code Lib.Math.max.name Lib.Math.max.code 2 (some .int), Cond.methodLink RX0 65 yX4_size, Cond.instanceMethod yX4_size, Cond.selects RX4 yX4_size yX4_size, Cond.initialized RX4, Cond.code yX4_size cX4_size 1 (some .int), Cond.fieldLink RX4 28 "Stemspan$WordList" "count" "I", Cond.methodLink RX0 68 yX4_rowAt, Cond.instanceMethod yX4_rowAt, Cond.selects RX4 yX4_rowAt yX4_rowAt]
def wsX5_writeAll_r3 : List Cond := [Cond.code yX4_rowAt cX4_rowAt 2 (some (.object "Stemspan$Row")), Cond.fieldLink RX4 11 "Stemspan$WordList" "rows" "[LStemspan$Row;", Cond.fieldLink RX4 24 "Stemspan$WordList" "nothing" "LStemspan$Row;", Cond.methodLink RX0 72 yX0_sizeWritten, Cond.instanceMethod yX0_sizeWritten, Cond.selects RX0 yX0_sizeWritten yX0_sizeWritten, Cond.code yX0_sizeWritten cX0_sizeWritten 4 (some .int), Cond.methodLink RX0 47 yX2_size, Cond.instanceMethod yX2_size, Cond.selects RX2 yX2_size yX2_size, Cond.code yX2_size cX2_size 1 (some .int), Cond.methodLink RX0 51 yX2_at, Cond.instanceMethod yX2_at, Cond.selects RX2 yX2_at yX2_at, Cond.code yX2_at cX2_at 2 (some .char), Cond.methodLink RX0 54 yX0_codeOf, Cond.instanceMethod yX0_codeOf, Cond.selects RX0 yX0_codeOf yX0_codeOf, Cond.code yX0_codeOf cX0_codeOf 2 (some (.object "Stemspan$Row")), Cond.fieldLink RX0 31 "Stemspan$CodeBook" "nothing" "LStemspan$Row;", Cond.static yX5_isSign, Cond.initialized RX5, Cond.code yX5_isSign cX5_isSign 1 (some .boolean), Cond.methodLink RX5 235 yX0_writeWords]
def wsX5_writeAll_r4 : List Cond := [Cond.instanceMethod yX0_writeWords, Cond.selects RX0 yX0_writeWords yX0_writeWords, Cond.code yX0_writeWords cX0_writeWords 3 none, Cond.methodLink RX0 81 yX0_writtenAt, Cond.instanceMethod yX0_writtenAt, Cond.selects RX0 yX0_writtenAt yX0_writtenAt, Cond.code yX0_writtenAt cX0_writtenAt 2 (some (.object "Stemspan$Row")), Cond.fieldLink RX0 28 "Stemspan$CodeBook" "written" "[LStemspan$Row;", Cond.methodLink RX0 84 yX0_writeInto, Cond.instanceMethod yX0_writeInto, Cond.selects RX0 yX0_writeInto yX0_writeInto, Cond.code yX0_writeInto cX0_writeInto 4 none, Cond.methodLink RX0 58 yX2_clear, Cond.instanceMethod yX2_clear, Cond.selects RX2 yX2_clear yX2_clear, Cond.code yX2_clear cX2_clear 1 none, Cond.methodLink RX0 61 yX2_appendAll, Cond.instanceMethod yX2_appendAll, Cond.selects RX2 yX2_appendAll yX2_appendAll, Cond.code yX2_appendAll cX2_appendAll 3 none, Cond.methodLink RX2 25 yX2_append, Cond.instanceMethod yX2_append, Cond.selects RX2 yX2_append yX2_append, Cond.code yX2_append cX2_append 2 none]
def wsX5_writeAll_r5 : List Cond := [Cond.methodLink RX5 123 yX4_size, Cond.methodLink RX5 146 yX4_rowAt, Cond.methodLink RX5 239 yX0_writtenAt, Cond.methodLink RX5 60 yX2_size, Cond.methodLink RX5 150 yX2_become, Cond.instanceMethod yX2_become, Cond.selects RX2 yX2_become yX2_become, Cond.code yX2_become cX2_become 2 none, Cond.methodLink RX2 29 yX2_becomePart, Cond.instanceMethod yX2_becomePart, Cond.selects RX2 yX2_becomePart yX2_becomePart, Cond.code yX2_becomePart cX2_becomePart 5 none, Cond.methodLink RX2 33 yX2_clear, Cond.methodLink RX2 36 yX2_at]
def wsX5_writeAll : List Cond := .code yX5_writeAll cX5_writeAll 5 (some .int) :: ((wsX5_writeAll_r1 ++ (wsX5_writeAll_r2 ++ (wsX5_writeAll_r3 ++ (wsX5_writeAll_r4 ++ wsX5_writeAll_r5)))) ++ wsX50 ++ wsX00 ++ wsX20 ++ wsX40 ++ (vx_atS RX5 118 "java/lang/UnsupportedOperationException" ["java/lang/RuntimeException", "java/lang/Exception"]).filter goodWord ++ (vx_atS RX5 68 "java/lang/IllegalStateException" ["java/lang/RuntimeException", "java/lang/Exception"]).filter goodWord)
def wsX5_isTrue_r1 : List Cond := [Cond.fieldLink RX5 38 "Stemspan" "cutter" "LStemspan$Cutter;", Cond.fieldLink RX5 14 "Stemspan" "text" "LStemspan$Row;", Cond.fieldLink RX5 24 "Stemspan" "list" "LStemspan$WordList;", Cond.fieldLink RX5 45 "Stemspan" "theorem" "LStemspan$Theorem;", Cond.fieldLink RX5 31 "Stemspan" "book" "LStemspan$CodeBook;", Cond.methodLink RX5 186 yX1_look, Cond.instanceMethod yX1_look, Cond.selects RX1 yX1_look yX1_look, Cond.initialized RX1, Cond.code yX1_look cX1_look 5 none, Cond.methodLink RX1 31 Lib.Math.min.name, Cond.static Lib.Math.min.name, Cond.initialized "java/lang/Math", Cond.code Lib.Math.min.name Lib.Math.min.code 2 (some .int), Cond.fieldLink RX1 22 "Stemspan$Cutter" "size" "I", Cond.fieldLink RX1 9 "Stemspan$Cutter" "fits" "[I", Cond.methodLink RX1 26 yX2_size, Cond.instanceMethod yX2_size, Cond.selects RX2 yX2_size yX2_size, Cond.initialized RX2, Cond.code yX2_size cX2_size 1 (some .int), Cond.fieldLink RX2 21 "Stemspan$Row" "length" "I", Cond.methodLink RX1 37 yX4_size, Cond.instanceMethod yX4_size]
def wsX5_isTrue_r2 : List Cond := [Cond.selects RX4 yX4_size yX4_size, Cond.initialized RX4, Cond.code yX4_size cX4_size 1 (some .int), Cond.fieldLink RX4 28 "Stemspan$WordList" "count" "I", Cond.methodLink RX1 40 yX4_rowAt, Cond.instanceMethod yX4_rowAt, Cond.selects RX4 yX4_rowAt yX4_rowAt, Cond.code yX4_rowAt cX4_rowAt 2 (some (.object "Stemspan$Row")), Cond.fieldLink RX4 11 "Stemspan$WordList" "rows" "[LStemspan$Row;", Cond.fieldLink RX4 24 "Stemspan$WordList" "nothing" "LStemspan$Row;", Cond.methodLink RX1 44 yX2_hasAt, Cond.instanceMethod yX2_hasAt, Cond.selects RX2 yX2_hasAt yX2_hasAt, Cond.code yX2_hasAt cX2_hasAt 4 (some .boolean), Cond.fieldLink RX2 15 "Stemspan$Row" "signs" "[C", Cond.methodLink RX5 242 yX3_beginningsHold, Cond.instanceMethod yX3_beginningsHold, Cond.selects RX3 yX3_beginningsHold yX3_beginningsHold, Cond.initialized RX3, Cond.code yX3_beginningsHold cX3_beginningsHold 5 (some .boolean), Cond.methodLink RX3 27 Lib.Math.min.name, Cond.fieldLink RX3 14 "Stemspan$Theorem" "part" "LStemspan$Row;", Cond.methodLink RX3 23 yX2_size, Cond.methodLink RX3 33 yX2_becomePart]
def wsX5_isTrue_r3 : List Cond := [Cond.instanceMethod yX2_becomePart, Cond.selects RX2 yX2_becomePart yX2_becomePart, Cond.code yX2_becomePart cX2_becomePart 5 none, Cond.methodLink RX2 33 yX2_clear, Cond.instanceMethod yX2_clear, Cond.selects RX2 yX2_clear yX2_clear, Cond.code yX2_clear cX2_clear 1 none, Cond.methodLink RX2 36 yX2_at, Cond.instanceMethod yX2_at, Cond.selects RX2 yX2_at yX2_at, Cond.code yX2_at cX2_at 2 (some .char), Cond.methodLink RX2 25 yX2_append, Cond.instanceMethod yX2_append, Cond.selects RX2 yX2_append yX2_append, Cond.code yX2_append cX2_append 2 none, Cond.methodLink RX3 37 yX3_standTogether, Cond.instanceMethod yX3_standTogether, Cond.selects RX3 yX3_standTogether yX3_standTogether, Cond.code yX3_standTogether cX3_standTogether 6 (some .boolean), Cond.methodLink RX3 41 yX4_countLess, Cond.instanceMethod yX4_countLess, Cond.selects RX4 yX4_countLess yX4_countLess, Cond.code yX4_countLess cX4_countLess 3 (some .int), Cond.methodLink RX4 32 yX4_rowAt]
def wsX5_isTrue_r4 : List Cond := [Cond.methodLink RX4 36 yX2_compareWith, Cond.instanceMethod yX2_compareWith, Cond.selects RX2 yX2_compareWith yX2_compareWith, Cond.code yX2_compareWith cX2_compareWith 3 (some .int), Cond.methodLink RX2 40 yX2_common, Cond.instanceMethod yX2_common, Cond.selects RX2 yX2_common yX2_common, Cond.code yX2_common cX2_common 3 (some .int), Cond.methodLink RX3 47 yX4_countBegun, Cond.instanceMethod yX4_countBegun, Cond.selects RX4 yX4_countBegun yX4_countBegun, Cond.code yX4_countBegun cX4_countBegun 4 (some .int), Cond.methodLink RX4 47 yX2_beginsWith, Cond.instanceMethod yX2_beginsWith, Cond.selects RX2 yX2_beginsWith yX2_beginsWith, Cond.code yX2_beginsWith cX2_beginsWith 2 (some .boolean), Cond.methodLink RX2 44 yX2_hasAt, Cond.methodLink RX3 50 yX4_size, Cond.methodLink RX3 51 yX4_rowAt, Cond.methodLink RX3 55 yX2_beginsWith, Cond.methodLink RX5 246 yX3_longestHolds, Cond.instanceMethod yX3_longestHolds, Cond.selects RX3 yX3_longestHolds yX3_longestHolds, Cond.code yX3_longestHolds cX3_longestHolds 4 (some .boolean)]
def wsX5_isTrue_r5 : List Cond := [Cond.methodLink RX3 59 yX4_longestAt, Cond.instanceMethod yX4_longestAt, Cond.selects RX4 yX4_longestAt yX4_longestAt, Cond.code yX4_longestAt cX4_longestAt 5 (some .int), Cond.methodLink RX4 66 Lib.Math.max.name, Cond.static Lib.Math.max.name, Cond.code Lib.Math.max.name Lib.Math.max.code 2 (some .int), Cond.methodLink RX4 58 yX2_hasAt, Cond.methodLink RX4 62 yX2_size, Cond.methodLink RX3 63 yX3_longestByOrder, Cond.instanceMethod yX3_longestByOrder, Cond.selects RX3 yX3_longestByOrder yX3_longestByOrder, Cond.code yX3_longestByOrder cX3_longestByOrder 4 (some .int), Cond.fieldLink RX3 20 "Stemspan$Theorem" "both" "LStemspan$Row;", Cond.methodLink RX3 67 yX4_countNotGreater, Cond.instanceMethod yX4_countNotGreater, Cond.selects RX4 yX4_countNotGreater yX4_countNotGreater, Cond.code yX4_countNotGreater cX4_countNotGreater 3 (some .int), Cond.methodLink RX3 70 yX2_common, Cond.methodLink RX5 249 yX3_commonHolds, Cond.instanceMethod yX3_commonHolds, Cond.selects RX3 yX3_commonHolds yX3_commonHolds, Cond.code yX3_commonHolds cX3_commonHolds 5 (some .boolean), Cond.methodLink RX3 76 Lib.Math.max.name]
def wsX5_isTrue_r6 : List Cond := [Cond.methodLink RX3 73 yX4_mostCommon, Cond.instanceMethod yX4_mostCommon, Cond.selects RX4 yX4_mostCommon yX4_mostCommon, Cond.code yX4_mostCommon cX4_mostCommon 4 (some .int), Cond.methodLink RX4 72 yX2_common, Cond.methodLink RX5 252 yX3_twinsHold, Cond.instanceMethod yX3_twinsHold, Cond.selects RX3 yX3_twinsHold yX3_twinsHold, Cond.code yX3_twinsHold cX3_twinsHold 4 (some .boolean), Cond.methodLink RX3 79 yX4_mostCommonOfTwo, Cond.instanceMethod yX4_mostCommonOfTwo, Cond.selects RX4 yX4_mostCommonOfTwo yX4_mostCommonOfTwo, Cond.code yX4_mostCommonOfTwo cX4_mostCommonOfTwo 4 (some .int), Cond.methodLink RX5 256 yX3_cutsHold, Cond.instanceMethod yX3_cutsHold, Cond.selects RX3 yX3_cutsHold yX3_cutsHold, Cond.code yX3_cutsHold cX3_cutsHold 6 (some .boolean), Cond.methodLink RX3 82 yX1_fitsAt, Cond.instanceMethod yX1_fitsAt, Cond.selects RX1 yX1_fitsAt yX1_fitsAt, Cond.code yX1_fitsAt cX1_fitsAt 3 (some .boolean), Cond.methodLink RX3 88 yX1_countWays, Cond.instanceMethod yX1_countWays, Cond.selects RX1 yX1_countWays yX1_countWays]
def wsX5_isTrue_r7 : List Cond := [Cond.code yX1_countWays cX1_countWays 4 (some .long), Cond.fieldLink RX1 15 "Stemspan$Cutter" "ways" "[J", Cond.methodLink RX1 48 yX1_fitsAt, Cond.methodLink RX5 260 yX3_fewestHolds, Cond.instanceMethod yX3_fewestHolds, Cond.selects RX3 yX3_fewestHolds yX3_fewestHolds, Cond.code yX3_fewestHolds cX3_fewestHolds 4 (some .boolean), Cond.methodLink RX3 92 yX1_leastPieces, Cond.instanceMethod yX1_leastPieces, Cond.selects RX1 yX1_leastPieces yX1_leastPieces, Cond.code yX1_leastPieces cX1_leastPieces 3 (some .int), Cond.fieldLink RX1 19 "Stemspan$Cutter" "least" "[I", Cond.methodLink RX1 56 yX1_lesser, Cond.static yX1_lesser, Cond.code yX1_lesser cX1_lesser 2 (some .int), Cond.methodLink RX3 95 yX1_countLongest, Cond.instanceMethod yX1_countLongest, Cond.selects RX1 yX1_countLongest yX1_countLongest, Cond.code yX1_countLongest cX1_countLongest 3 (some .int), Cond.methodLink RX1 52 yX1_longestFit, Cond.instanceMethod yX1_longestFit, Cond.selects RX1 yX1_longestFit yX1_longestFit, Cond.code yX1_longestFit cX1_longestFit 3 (some .int), Cond.methodLink RX3 98 yX3_endsAreWords]
def wsX5_isTrue_r8 : List Cond := [Cond.instanceMethod yX3_endsAreWords, Cond.selects RX3 yX3_endsAreWords yX3_endsAreWords, Cond.code yX3_endsAreWords cX3_endsAreWords 5 (some .boolean), Cond.methodLink RX3 101 yX4_rankOf, Cond.instanceMethod yX4_rankOf, Cond.selects RX4 yX4_rankOf yX4_rankOf, Cond.code yX4_rankOf cX4_rankOf 3 (some .int), Cond.methodLink RX4 40 yX4_countLess, Cond.methodLink RX5 264 yX3_codesHold, Cond.instanceMethod yX3_codesHold, Cond.selects RX3 yX3_codesHold yX3_codesHold, Cond.code yX3_codesHold cX3_codesHold 5 (some .boolean), Cond.methodLink RX3 104 yX0_isOrderly, Cond.instanceMethod yX0_isOrderly, Cond.selects RX0 yX0_isOrderly yX0_isOrderly, Cond.initialized RX0, Cond.code yX0_isOrderly cX0_isOrderly 3 (some .boolean), Cond.fieldLink RX0 11 "Stemspan$CodeBook" "codes" "[LStemspan$Row;", Cond.methodLink RX0 39 yX2_compareWith, Cond.methodLink RX0 43 yX2_beginsWith, Cond.methodLink RX3 110 yX0_writeWords, Cond.instanceMethod yX0_writeWords, Cond.selects RX0 yX0_writeWords yX0_writeWords, Cond.code yX0_writeWords cX0_writeWords 3 none]
def wsX5_isTrue_r9 : List Cond := [Cond.methodLink RX0 65 yX4_size, Cond.methodLink RX0 68 yX4_rowAt, Cond.methodLink RX0 81 yX0_writtenAt, Cond.instanceMethod yX0_writtenAt, Cond.selects RX0 yX0_writtenAt yX0_writtenAt, Cond.code yX0_writtenAt cX0_writtenAt 2 (some (.object "Stemspan$Row")), Cond.fieldLink RX0 28 "Stemspan$CodeBook" "written" "[LStemspan$Row;", Cond.fieldLink RX0 31 "Stemspan$CodeBook" "nothing" "LStemspan$Row;", Cond.methodLink RX0 84 yX0_writeInto, Cond.instanceMethod yX0_writeInto, Cond.selects RX0 yX0_writeInto yX0_writeInto, Cond.code yX0_writeInto cX0_writeInto 4 none, Cond.methodLink RX0 58 yX2_clear, Cond.methodLink RX0 47 yX2_size, Cond.methodLink RX0 51 yX2_at, Cond.methodLink RX0 54 yX0_codeOf, Cond.instanceMethod yX0_codeOf, Cond.selects RX0 yX0_codeOf yX0_codeOf, Cond.code yX0_codeOf cX0_codeOf 2 (some (.object "Stemspan$Row")), Cond.static yX5_isSign, Cond.initialized RX5, Cond.code yX5_isSign cX5_isSign 1 (some .boolean), Cond.methodLink RX0 61 yX2_appendAll, Cond.instanceMethod yX2_appendAll]
def wsX5_isTrue_r10 : List Cond := [Cond.selects RX2 yX2_appendAll yX2_appendAll, Cond.code yX2_appendAll cX2_appendAll 3 none, Cond.methodLink RX3 114 yX3_keepsOrder, Cond.static yX3_keepsOrder, Cond.code yX3_keepsOrder cX3_keepsOrder 6 (some .boolean), Cond.methodLink RX3 118 yX0_writtenAt, Cond.methodLink RX3 121 yX2_compareWith]
def wsX5_isTrue : List Cond := .code yX5_isTrue cX5_isTrue 1 (some .boolean) :: ((wsX5_isTrue_r1 ++ (wsX5_isTrue_r2 ++ (wsX5_isTrue_r3 ++ (wsX5_isTrue_r4 ++ (wsX5_isTrue_r5 ++ (wsX5_isTrue_r6 ++ (wsX5_isTrue_r7 ++ (wsX5_isTrue_r8 ++ (wsX5_isTrue_r9 ++ wsX5_isTrue_r10))))))))) ++ wsX50 ++ wsX10 ++ wsX20 ++ wsX40 ++ wsX30 ++ wsX00)
def wsX5_checksum_r1 : List Cond := [Cond.fieldLink RX5 14 "Stemspan" "text" "LStemspan$Row;", Cond.constantLong RX5 268 (7), Cond.fieldLink RX5 24 "Stemspan" "list" "LStemspan$WordList;", Cond.constantLong RX5 274 (31), Cond.fieldLink RX5 31 "Stemspan" "book" "LStemspan$CodeBook;", Cond.methodLink RX5 270 yX2_addTo, Cond.instanceMethod yX2_addTo, Cond.selects RX2 yX2_addTo yX2_addTo, Cond.initialized RX2, Cond.code yX2_addTo cX2_addTo 6 (some .long), Cond.fieldLink RX2 21 "Stemspan$Row" "length" "I", Cond.constantLong RX2 48 (31), Cond.fieldLink RX2 15 "Stemspan$Row" "signs" "[C", Cond.methodLink RX5 123 yX4_size, Cond.instanceMethod yX4_size, Cond.selects RX4 yX4_size yX4_size, Cond.initialized RX4, Cond.code yX4_size cX4_size 1 (some .int), Cond.fieldLink RX4 28 "Stemspan$WordList" "count" "I", Cond.methodLink RX5 146 yX4_rowAt, Cond.instanceMethod yX4_rowAt, Cond.selects RX4 yX4_rowAt yX4_rowAt, Cond.code yX4_rowAt cX4_rowAt 2 (some (.object "Stemspan$Row")), Cond.fieldLink RX4 11 "Stemspan$WordList" "rows" "[LStemspan$Row;"]
def wsX5_checksum_r2 : List Cond := [Cond.fieldLink RX4 24 "Stemspan$WordList" "nothing" "LStemspan$Row;", Cond.methodLink RX5 129 yX4_numberAt, Cond.instanceMethod yX4_numberAt, Cond.selects RX4 yX4_numberAt yX4_numberAt, Cond.code yX4_numberAt cX4_numberAt 2 (some .int), Cond.fieldLink RX4 20 "Stemspan$WordList" "numbers" "[I", Cond.methodLink RX5 78 yX5_signOf, Cond.static yX5_signOf, Cond.initialized RX5, Cond.code yX5_signOf cX5_signOf 1 (some .char), Cond.methodLink RX5 207 yX0_codeOf, Cond.instanceMethod yX0_codeOf, Cond.selects RX0 yX0_codeOf yX0_codeOf, Cond.initialized RX0, Cond.code yX0_codeOf cX0_codeOf 2 (some (.object "Stemspan$Row")), Cond.fieldLink RX0 11 "Stemspan$CodeBook" "codes" "[LStemspan$Row;", Cond.fieldLink RX0 31 "Stemspan$CodeBook" "nothing" "LStemspan$Row;", Cond.static yX5_isSign, Cond.code yX5_isSign cX5_isSign 1 (some .boolean), Cond.methodLink RX5 60 yX2_size, Cond.instanceMethod yX2_size, Cond.selects RX2 yX2_size yX2_size, Cond.code yX2_size cX2_size 1 (some .int)]
def wsX5_checksum : List Cond := .code yX5_checksum cX5_checksum 5 (some .long) :: ((wsX5_checksum_r1 ++ wsX5_checksum_r2) ++ wsX50 ++ wsX20 ++ wsX40 ++ wsX00)
def wsX6_thrown : List Cond := .code yX6_thrown cX6_thrown 1 (some .int) :: ([.fieldLink RX6 1 "StemspanModel" "code" "I"] ++ wsX60)
def wsX6_fails : List Cond := .code yX6_fails cX6_fails 2 (some .boolean) :: ([.fieldLink RX6 1 "StemspanModel" "code" "I"] ++ wsX60)
def wsX6_in : List Cond := .code yX6_in cX6_in 3 (some .boolean) :: ([])
def wsX6_init : List Cond := .code yX6_init cX6_init 2 none :: ([.methodLink RX6 7 objectInit, .instanceMethod objectInit, .code objectInit ⟨#[0xb1]⟩ 1 none, .arrayClass .char, .fieldLink RX6 13 "StemspanModel" "text" "[C", .fieldLink RX6 17 "StemspanModel" "word" "[C", .fieldLink RX6 20 "StemspanModel" "codes" "[C", .fieldLink RX6 23 "StemspanModel" "made" "[C", .arrayClass .int, .fieldLink RX6 26 "StemspanModel" "wordLength" "[I", .fieldLink RX6 30 "StemspanModel" "number" "[I", .fieldLink RX6 33 "StemspanModel" "codeLength" "[I", .fieldLink RX6 36 "StemspanModel" "order" "[I", .fieldLink RX6 39 "StemspanModel" "ranks" "[I", .arrayClass .long, .fieldLink RX6 42 "StemspanModel" "waysFrom" "[J", .fieldLink RX6 46 "StemspanModel" "fewestFrom" "[I"] ++ wsX60)
def wsX6_isSign : List Cond := .code yX6_isSign cX6_isSign 1 (some .boolean) :: ([])
def wsX6_like : List Cond := .code yX6_like cX6_like 4 (some .int) :: ([.fieldLink RX6 26 "StemspanModel" "wordLength" "[I", .fieldLink RX6 49 "StemspanModel" "length" "I", .fieldLink RX6 17 "StemspanModel" "word" "[C", .fieldLink RX6 13 "StemspanModel" "text" "[C"] ++ wsX60)
def wsX6_likeWords : List Cond := .code yX6_likeWords cX6_likeWords 4 (some .int) :: ([.fieldLink RX6 26 "StemspanModel" "wordLength" "[I", .fieldLink RX6 17 "StemspanModel" "word" "[C"] ++ wsX60)
def wsX6_beside : List Cond := .code yX6_beside cX6_beside 3 (some .int) :: ([.fieldLink RX6 26 "StemspanModel" "wordLength" "[I", .fieldLink RX6 49 "StemspanModel" "length" "I", .fieldLink RX6 17 "StemspanModel" "word" "[C", .fieldLink RX6 13 "StemspanModel" "text" "[C", .methodLink RX6 52 yX6_like, .instanceMethod yX6_like, .selects RX6 yX6_like yX6_like, .initialized RX6, .code yX6_like cX6_like 4 (some .int)] ++ wsX60)
def wsX6_isLess : List Cond := .code yX6_isLess cX6_isLess 4 (some .boolean) :: ([.fieldLink RX6 26 "StemspanModel" "wordLength" "[I", .fieldLink RX6 17 "StemspanModel" "word" "[C", .methodLink RX6 56 yX6_likeWords, .instanceMethod yX6_likeWords, .selects RX6 yX6_likeWords yX6_likeWords, .initialized RX6, .code yX6_likeWords cX6_likeWords 4 (some .int)] ++ wsX60)
def wsX6_isBegun : List Cond := .code yX6_isBegun cX6_isBegun 2 (some .boolean) :: ([.fieldLink RX6 49 "StemspanModel" "length" "I", .methodLink RX6 52 yX6_like, .instanceMethod yX6_like, .selects RX6 yX6_like yX6_like, .initialized RX6, .code yX6_like cX6_like 4 (some .int), .fieldLink RX6 26 "StemspanModel" "wordLength" "[I", .fieldLink RX6 17 "StemspanModel" "word" "[C", .fieldLink RX6 13 "StemspanModel" "text" "[C"] ++ wsX60)
def wsX6_own : List Cond := .code yX6_own cX6_own 2 (some .int) :: ([.fieldLink RX6 59 "StemspanModel" "many" "I", .methodLink RX6 62 yX6_beside, .instanceMethod yX6_beside, .selects RX6 yX6_beside yX6_beside, .initialized RX6, .code yX6_beside cX6_beside 3 (some .int), .fieldLink RX6 26 "StemspanModel" "wordLength" "[I", .fieldLink RX6 49 "StemspanModel" "length" "I", .fieldLink RX6 17 "StemspanModel" "word" "[C", .fieldLink RX6 13 "StemspanModel" "text" "[C", .methodLink RX6 52 yX6_like, .instanceMethod yX6_like, .selects RX6 yX6_like yX6_like, .code yX6_like cX6_like 4 (some .int)] ++ wsX60)
def wsX6_rankOf : List Cond := .code yX6_rankOf cX6_rankOf 4 (some .int) :: ([.fieldLink RX6 59 "StemspanModel" "many" "I", .methodLink RX6 66 yX6_isLess, .instanceMethod yX6_isLess, .selects RX6 yX6_isLess yX6_isLess, .initialized RX6, .code yX6_isLess cX6_isLess 4 (some .boolean), .fieldLink RX6 26 "StemspanModel" "wordLength" "[I", .fieldLink RX6 17 "StemspanModel" "word" "[C", .methodLink RX6 56 yX6_likeWords, .instanceMethod yX6_likeWords, .selects RX6 yX6_likeWords yX6_likeWords, .code yX6_likeWords cX6_likeWords 4 (some .int)] ++ wsX60)
def wsX6_orders : List Cond := .code yX6_orders cX6_orders 2 none :: ([.fieldLink RX6 59 "StemspanModel" "many" "I", .fieldLink RX6 39 "StemspanModel" "ranks" "[I", .fieldLink RX6 36 "StemspanModel" "order" "[I", .methodLink RX6 70 yX6_rankOf, .instanceMethod yX6_rankOf, .selects RX6 yX6_rankOf yX6_rankOf, .initialized RX6, .code yX6_rankOf cX6_rankOf 4 (some .int), .methodLink RX6 66 yX6_isLess, .instanceMethod yX6_isLess, .selects RX6 yX6_isLess yX6_isLess, .code yX6_isLess cX6_isLess 4 (some .boolean), .fieldLink RX6 26 "StemspanModel" "wordLength" "[I", .fieldLink RX6 17 "StemspanModel" "word" "[C", .methodLink RX6 56 yX6_likeWords, .instanceMethod yX6_likeWords, .selects RX6 yX6_likeWords yX6_likeWords, .code yX6_likeWords cX6_likeWords 4 (some .int)] ++ wsX60)
def wsX6_becomes : List Cond := .code yX6_becomes cX6_becomes 3 none :: ([.fieldLink RX6 26 "StemspanModel" "wordLength" "[I", .fieldLink RX6 49 "StemspanModel" "length" "I", .fieldLink RX6 13 "StemspanModel" "text" "[C", .fieldLink RX6 17 "StemspanModel" "word" "[C"] ++ wsX60)
def wsX6_goes : List Cond := .code yX6_goes cX6_goes 3 none :: ([.fieldLink RX6 59 "StemspanModel" "many" "I", .fieldLink RX6 26 "StemspanModel" "wordLength" "[I", .fieldLink RX6 30 "StemspanModel" "number" "[I", .fieldLink RX6 17 "StemspanModel" "word" "[C"] ++ wsX60)
def wsX6_type : List Cond := .code yX6_type cX6_type 2 (some .int) :: ([.fieldLink RX6 49 "StemspanModel" "length" "I", .fieldLink RX6 13 "StemspanModel" "text" "[C", .methodLink RX6 73 yX6_isSign, .static yX6_isSign, .initialized RX6, .code yX6_isSign cX6_isSign 1 (some .boolean), .methodLink RX6 77 yX6_fails, .instanceMethod yX6_fails, .selects RX6 yX6_fails yX6_fails, .code yX6_fails cX6_fails 2 (some .boolean), .fieldLink RX6 1 "StemspanModel" "code" "I"] ++ wsX60)
def wsX6_typeMore : List Cond := .code yX6_typeMore cX6_typeMore 5 (some .int) :: ([.constant RX6 85 (1679615), .fieldLink RX6 49 "StemspanModel" "length" "I", .fieldLink RX6 13 "StemspanModel" "text" "[C", .methodLink RX6 81 yX6_in, .static yX6_in, .initialized RX6, .code yX6_in cX6_in 3 (some .boolean), .methodLink RX6 77 yX6_fails, .instanceMethod yX6_fails, .selects RX6 yX6_fails yX6_fails, .code yX6_fails cX6_fails 2 (some .boolean), .fieldLink RX6 1 "StemspanModel" "code" "I"] ++ wsX60)
def wsX6_typeAt : List Cond := .code yX6_typeAt cX6_typeAt 4 (some .int) :: ([.fieldLink RX6 49 "StemspanModel" "length" "I", .fieldLink RX6 13 "StemspanModel" "text" "[C", .methodLink RX6 81 yX6_in, .static yX6_in, .initialized RX6, .code yX6_in cX6_in 3 (some .boolean), .methodLink RX6 73 yX6_isSign, .static yX6_isSign, .code yX6_isSign cX6_isSign 1 (some .boolean), .methodLink RX6 77 yX6_fails, .instanceMethod yX6_fails, .selects RX6 yX6_fails yX6_fails, .code yX6_fails cX6_fails 2 (some .boolean), .fieldLink RX6 1 "StemspanModel" "code" "I"] ++ wsX60)
def wsX6_drop : List Cond := .code yX6_drop cX6_drop 1 (some .int) :: ([.fieldLink RX6 49 "StemspanModel" "length" "I", .methodLink RX6 77 yX6_fails, .instanceMethod yX6_fails, .selects RX6 yX6_fails yX6_fails, .initialized RX6, .code yX6_fails cX6_fails 2 (some .boolean), .fieldLink RX6 1 "StemspanModel" "code" "I"] ++ wsX60)
def wsX6_clip : List Cond := .code yX6_clip cX6_clip 4 (some .int) :: ([.fieldLink RX6 49 "StemspanModel" "length" "I", .fieldLink RX6 13 "StemspanModel" "text" "[C", .methodLink RX6 77 yX6_fails, .instanceMethod yX6_fails, .selects RX6 yX6_fails yX6_fails, .initialized RX6, .code yX6_fails cX6_fails 2 (some .boolean), .fieldLink RX6 1 "StemspanModel" "code" "I"] ++ wsX60)
def wsX6_wipe : List Cond := .code yX6_wipe cX6_wipe 2 (some .int) :: ([.fieldLink RX6 1 "StemspanModel" "code" "I", .fieldLink RX6 49 "StemspanModel" "length" "I"] ++ wsX60)
def wsX6_turn : List Cond := .code yX6_turn cX6_turn 3 (some .boolean) :: ([.fieldLink RX6 1 "StemspanModel" "code" "I", .fieldLink RX6 49 "StemspanModel" "length" "I", .fieldLink RX6 23 "StemspanModel" "made" "[C", .fieldLink RX6 13 "StemspanModel" "text" "[C"] ++ wsX60)
def wsX6_signAt : List Cond := .code yX6_signAt cX6_signAt 2 (some .char) :: ([.fieldLink RX6 49 "StemspanModel" "length" "I", .fieldLink RX6 13 "StemspanModel" "text" "[C", .methodLink RX6 81 yX6_in, .static yX6_in, .initialized RX6, .code yX6_in cX6_in 3 (some .boolean), .methodLink RX6 77 yX6_fails, .instanceMethod yX6_fails, .selects RX6 yX6_fails yX6_fails, .code yX6_fails cX6_fails 2 (some .boolean), .fieldLink RX6 1 "StemspanModel" "code" "I"] ++ wsX60)
def wsX6_put_r1 : List Cond := [Cond.fieldLink RX6 49 "StemspanModel" "length" "I", Cond.fieldLink RX6 59 "StemspanModel" "many" "I", Cond.fieldLink RX6 30 "StemspanModel" "number" "[I", Cond.fieldLink RX6 26 "StemspanModel" "wordLength" "[I", Cond.fieldLink RX6 17 "StemspanModel" "word" "[C", Cond.fieldLink RX6 13 "StemspanModel" "text" "[C", Cond.methodLink RX6 86 yX6_own, Cond.instanceMethod yX6_own, Cond.selects RX6 yX6_own yX6_own, Cond.initialized RX6, Cond.code yX6_own cX6_own 2 (some .int), Cond.methodLink RX6 62 yX6_beside, Cond.instanceMethod yX6_beside, Cond.selects RX6 yX6_beside yX6_beside, Cond.code yX6_beside cX6_beside 3 (some .int), Cond.methodLink RX6 52 yX6_like, Cond.instanceMethod yX6_like, Cond.selects RX6 yX6_like yX6_like, Cond.code yX6_like cX6_like 4 (some .int), Cond.methodLink RX6 81 yX6_in, Cond.static yX6_in, Cond.code yX6_in cX6_in 3 (some .boolean), Cond.methodLink RX6 77 yX6_fails, Cond.instanceMethod yX6_fails]
def wsX6_put_r2 : List Cond := [Cond.selects RX6 yX6_fails yX6_fails, Cond.code yX6_fails cX6_fails 2 (some .boolean), Cond.fieldLink RX6 1 "StemspanModel" "code" "I"]
def wsX6_put : List Cond := .code yX6_put cX6_put 5 (some .int) :: ((wsX6_put_r1 ++ wsX6_put_r2) ++ wsX60)
def wsX6_take_r1 : List Cond := [Cond.fieldLink RX6 30 "StemspanModel" "number" "[I", Cond.methodLink RX6 86 yX6_own, Cond.instanceMethod yX6_own, Cond.selects RX6 yX6_own yX6_own, Cond.initialized RX6, Cond.code yX6_own cX6_own 2 (some .int), Cond.fieldLink RX6 59 "StemspanModel" "many" "I", Cond.methodLink RX6 62 yX6_beside, Cond.instanceMethod yX6_beside, Cond.selects RX6 yX6_beside yX6_beside, Cond.code yX6_beside cX6_beside 3 (some .int), Cond.fieldLink RX6 26 "StemspanModel" "wordLength" "[I", Cond.fieldLink RX6 49 "StemspanModel" "length" "I", Cond.fieldLink RX6 17 "StemspanModel" "word" "[C", Cond.fieldLink RX6 13 "StemspanModel" "text" "[C", Cond.methodLink RX6 52 yX6_like, Cond.instanceMethod yX6_like, Cond.selects RX6 yX6_like yX6_like, Cond.code yX6_like cX6_like 4 (some .int), Cond.methodLink RX6 77 yX6_fails, Cond.instanceMethod yX6_fails, Cond.selects RX6 yX6_fails yX6_fails, Cond.code yX6_fails cX6_fails 2 (some .boolean), Cond.fieldLink RX6 1 "StemspanModel" "code" "I"]
def wsX6_take_r2 : List Cond := [Cond.methodLink RX6 90 yX6_goes, Cond.instanceMethod yX6_goes, Cond.selects RX6 yX6_goes yX6_goes, Cond.code yX6_goes cX6_goes 3 none]
def wsX6_take : List Cond := .code yX6_take cX6_take 3 (some .int) :: ((wsX6_take_r1 ++ wsX6_take_r2) ++ wsX60)
def wsX6_number : List Cond := .code yX6_number cX6_number 2 (some .int) :: ([.fieldLink RX6 30 "StemspanModel" "number" "[I", .methodLink RX6 86 yX6_own, .instanceMethod yX6_own, .selects RX6 yX6_own yX6_own, .initialized RX6, .code yX6_own cX6_own 2 (some .int), .fieldLink RX6 59 "StemspanModel" "many" "I", .methodLink RX6 62 yX6_beside, .instanceMethod yX6_beside, .selects RX6 yX6_beside yX6_beside, .code yX6_beside cX6_beside 3 (some .int), .fieldLink RX6 26 "StemspanModel" "wordLength" "[I", .fieldLink RX6 49 "StemspanModel" "length" "I", .fieldLink RX6 17 "StemspanModel" "word" "[C", .fieldLink RX6 13 "StemspanModel" "text" "[C", .methodLink RX6 52 yX6_like, .instanceMethod yX6_like, .selects RX6 yX6_like yX6_like, .code yX6_like cX6_like 4 (some .int), .methodLink RX6 77 yX6_fails, .instanceMethod yX6_fails, .selects RX6 yX6_fails yX6_fails, .code yX6_fails cX6_fails 2 (some .boolean), .fieldLink RX6 1 "StemspanModel" "code" "I"] ++ wsX60)
def wsX6_words : List Cond := .code yX6_words cX6_words 1 (some .int) :: ([.fieldLink RX6 1 "StemspanModel" "code" "I", .fieldLink RX6 59 "StemspanModel" "many" "I"] ++ wsX60)
def wsX6_rank : List Cond := .code yX6_rank cX6_rank 3 (some .int) :: ([.fieldLink RX6 1 "StemspanModel" "code" "I", .fieldLink RX6 59 "StemspanModel" "many" "I", .methodLink RX6 62 yX6_beside, .instanceMethod yX6_beside, .selects RX6 yX6_beside yX6_beside, .initialized RX6, .code yX6_beside cX6_beside 3 (some .int), .fieldLink RX6 26 "StemspanModel" "wordLength" "[I", .fieldLink RX6 49 "StemspanModel" "length" "I", .fieldLink RX6 17 "StemspanModel" "word" "[C", .fieldLink RX6 13 "StemspanModel" "text" "[C", .methodLink RX6 52 yX6_like, .instanceMethod yX6_like, .selects RX6 yX6_like yX6_like, .code yX6_like cX6_like 4 (some .int)] ++ wsX60)
def wsX6_word_r1 : List Cond := [Cond.fieldLink RX6 59 "StemspanModel" "many" "I", Cond.fieldLink RX6 36 "StemspanModel" "order" "[I", Cond.fieldLink RX6 49 "StemspanModel" "length" "I", Cond.methodLink RX6 81 yX6_in, Cond.static yX6_in, Cond.initialized RX6, Cond.code yX6_in cX6_in 3 (some .boolean), Cond.methodLink RX6 77 yX6_fails, Cond.instanceMethod yX6_fails, Cond.selects RX6 yX6_fails yX6_fails, Cond.code yX6_fails cX6_fails 2 (some .boolean), Cond.fieldLink RX6 1 "StemspanModel" "code" "I", Cond.methodLink RX6 94 yX6_orders, Cond.instanceMethod yX6_orders, Cond.selects RX6 yX6_orders yX6_orders, Cond.code yX6_orders cX6_orders 2 none, Cond.fieldLink RX6 39 "StemspanModel" "ranks" "[I", Cond.methodLink RX6 70 yX6_rankOf, Cond.instanceMethod yX6_rankOf, Cond.selects RX6 yX6_rankOf yX6_rankOf, Cond.code yX6_rankOf cX6_rankOf 4 (some .int), Cond.methodLink RX6 66 yX6_isLess, Cond.instanceMethod yX6_isLess, Cond.selects RX6 yX6_isLess yX6_isLess]
def wsX6_word_r2 : List Cond := [Cond.code yX6_isLess cX6_isLess 4 (some .boolean), Cond.fieldLink RX6 26 "StemspanModel" "wordLength" "[I", Cond.fieldLink RX6 17 "StemspanModel" "word" "[C", Cond.methodLink RX6 56 yX6_likeWords, Cond.instanceMethod yX6_likeWords, Cond.selects RX6 yX6_likeWords yX6_likeWords, Cond.code yX6_likeWords cX6_likeWords 4 (some .int), Cond.methodLink RX6 97 yX6_becomes, Cond.instanceMethod yX6_becomes, Cond.selects RX6 yX6_becomes yX6_becomes, Cond.code yX6_becomes cX6_becomes 3 none, Cond.fieldLink RX6 13 "StemspanModel" "text" "[C"]
def wsX6_word : List Cond := .code yX6_word cX6_word 2 (some .int) :: ((wsX6_word_r1 ++ wsX6_word_r2) ++ wsX60)
def wsX6_near_r1 : List Cond := [Cond.fieldLink RX6 59 "StemspanModel" "many" "I", Cond.fieldLink RX6 30 "StemspanModel" "number" "[I", Cond.methodLink RX6 62 yX6_beside, Cond.instanceMethod yX6_beside, Cond.selects RX6 yX6_beside yX6_beside, Cond.initialized RX6, Cond.code yX6_beside cX6_beside 3 (some .int), Cond.fieldLink RX6 26 "StemspanModel" "wordLength" "[I", Cond.fieldLink RX6 49 "StemspanModel" "length" "I", Cond.fieldLink RX6 17 "StemspanModel" "word" "[C", Cond.fieldLink RX6 13 "StemspanModel" "text" "[C", Cond.methodLink RX6 52 yX6_like, Cond.instanceMethod yX6_like, Cond.selects RX6 yX6_like yX6_like, Cond.code yX6_like cX6_like 4 (some .int), Cond.methodLink RX6 66 yX6_isLess, Cond.instanceMethod yX6_isLess, Cond.selects RX6 yX6_isLess yX6_isLess, Cond.code yX6_isLess cX6_isLess 4 (some .boolean), Cond.methodLink RX6 56 yX6_likeWords, Cond.instanceMethod yX6_likeWords, Cond.selects RX6 yX6_likeWords yX6_likeWords, Cond.code yX6_likeWords cX6_likeWords 4 (some .int), Cond.methodLink RX6 77 yX6_fails]
def wsX6_near_r2 : List Cond := [Cond.instanceMethod yX6_fails, Cond.selects RX6 yX6_fails yX6_fails, Cond.code yX6_fails cX6_fails 2 (some .boolean), Cond.fieldLink RX6 1 "StemspanModel" "code" "I", Cond.methodLink RX6 97 yX6_becomes, Cond.instanceMethod yX6_becomes, Cond.selects RX6 yX6_becomes yX6_becomes, Cond.code yX6_becomes cX6_becomes 3 none]
def wsX6_near : List Cond := .code yX6_near cX6_near 7 (some .int) :: ((wsX6_near_r1 ++ wsX6_near_r2) ++ wsX60)
def wsX6_begun : List Cond := .code yX6_begun cX6_begun 3 (some .int) :: ([.fieldLink RX6 1 "StemspanModel" "code" "I", .fieldLink RX6 59 "StemspanModel" "many" "I", .methodLink RX6 100 yX6_isBegun, .instanceMethod yX6_isBegun, .selects RX6 yX6_isBegun yX6_isBegun, .initialized RX6, .code yX6_isBegun cX6_isBegun 2 (some .boolean), .fieldLink RX6 49 "StemspanModel" "length" "I", .methodLink RX6 52 yX6_like, .instanceMethod yX6_like, .selects RX6 yX6_like yX6_like, .code yX6_like cX6_like 4 (some .int), .fieldLink RX6 26 "StemspanModel" "wordLength" "[I", .fieldLink RX6 17 "StemspanModel" "word" "[C", .fieldLink RX6 13 "StemspanModel" "text" "[C"] ++ wsX60)
def wsX6_begunAt_r1 : List Cond := [Cond.fieldLink RX6 59 "StemspanModel" "many" "I", Cond.fieldLink RX6 30 "StemspanModel" "number" "[I", Cond.methodLink RX6 100 yX6_isBegun, Cond.instanceMethod yX6_isBegun, Cond.selects RX6 yX6_isBegun yX6_isBegun, Cond.initialized RX6, Cond.code yX6_isBegun cX6_isBegun 2 (some .boolean), Cond.fieldLink RX6 49 "StemspanModel" "length" "I", Cond.methodLink RX6 52 yX6_like, Cond.instanceMethod yX6_like, Cond.selects RX6 yX6_like yX6_like, Cond.code yX6_like cX6_like 4 (some .int), Cond.fieldLink RX6 26 "StemspanModel" "wordLength" "[I", Cond.fieldLink RX6 17 "StemspanModel" "word" "[C", Cond.fieldLink RX6 13 "StemspanModel" "text" "[C", Cond.methodLink RX6 66 yX6_isLess, Cond.instanceMethod yX6_isLess, Cond.selects RX6 yX6_isLess yX6_isLess, Cond.code yX6_isLess cX6_isLess 4 (some .boolean), Cond.methodLink RX6 56 yX6_likeWords, Cond.instanceMethod yX6_likeWords, Cond.selects RX6 yX6_likeWords yX6_likeWords, Cond.code yX6_likeWords cX6_likeWords 4 (some .int), Cond.methodLink RX6 77 yX6_fails]
def wsX6_begunAt_r2 : List Cond := [Cond.instanceMethod yX6_fails, Cond.selects RX6 yX6_fails yX6_fails, Cond.code yX6_fails cX6_fails 2 (some .boolean), Cond.fieldLink RX6 1 "StemspanModel" "code" "I", Cond.methodLink RX6 97 yX6_becomes, Cond.instanceMethod yX6_becomes, Cond.selects RX6 yX6_becomes yX6_becomes, Cond.code yX6_becomes cX6_becomes 3 none]
def wsX6_begunAt : List Cond := .code yX6_begunAt cX6_begunAt 6 (some .int) :: ((wsX6_begunAt_r1 ++ wsX6_begunAt_r2) ++ wsX60)
def wsX6_sum : List Cond := .code yX6_sum cX6_sum 3 (some .int) :: ([.fieldLink RX6 1 "StemspanModel" "code" "I", .fieldLink RX6 59 "StemspanModel" "many" "I", .fieldLink RX6 30 "StemspanModel" "number" "[I", .methodLink RX6 100 yX6_isBegun, .instanceMethod yX6_isBegun, .selects RX6 yX6_isBegun yX6_isBegun, .initialized RX6, .code yX6_isBegun cX6_isBegun 2 (some .boolean), .fieldLink RX6 49 "StemspanModel" "length" "I", .methodLink RX6 52 yX6_like, .instanceMethod yX6_like, .selects RX6 yX6_like yX6_like, .code yX6_like cX6_like 4 (some .int), .fieldLink RX6 26 "StemspanModel" "wordLength" "[I", .fieldLink RX6 17 "StemspanModel" "word" "[C", .fieldLink RX6 13 "StemspanModel" "text" "[C"] ++ wsX60)
def wsX6_gone : List Cond := .code yX6_gone cX6_gone 3 (some .int) :: ([.fieldLink RX6 1 "StemspanModel" "code" "I", .fieldLink RX6 59 "StemspanModel" "many" "I", .methodLink RX6 100 yX6_isBegun, .instanceMethod yX6_isBegun, .selects RX6 yX6_isBegun yX6_isBegun, .initialized RX6, .code yX6_isBegun cX6_isBegun 2 (some .boolean), .fieldLink RX6 49 "StemspanModel" "length" "I", .methodLink RX6 52 yX6_like, .instanceMethod yX6_like, .selects RX6 yX6_like yX6_like, .code yX6_like cX6_like 4 (some .int), .fieldLink RX6 26 "StemspanModel" "wordLength" "[I", .fieldLink RX6 17 "StemspanModel" "word" "[C", .fieldLink RX6 13 "StemspanModel" "text" "[C", .methodLink RX6 90 yX6_goes, .instanceMethod yX6_goes, .selects RX6 yX6_goes yX6_goes, .code yX6_goes cX6_goes 3 none, .fieldLink RX6 30 "StemspanModel" "number" "[I"] ++ wsX60)
def wsX6_longestAt : List Cond := .code yX6_longestAt cX6_longestAt 4 (some .int) :: ([.fieldLink RX6 59 "StemspanModel" "many" "I", .fieldLink RX6 26 "StemspanModel" "wordLength" "[I", .methodLink RX6 52 yX6_like, .instanceMethod yX6_like, .selects RX6 yX6_like yX6_like, .initialized RX6, .code yX6_like cX6_like 4 (some .int), .fieldLink RX6 49 "StemspanModel" "length" "I", .fieldLink RX6 17 "StemspanModel" "word" "[C", .fieldLink RX6 13 "StemspanModel" "text" "[C"] ++ wsX60)
def wsX6_longest : List Cond := .code yX6_longest cX6_longest 2 (some .int) :: ([.fieldLink RX6 49 "StemspanModel" "length" "I", .methodLink RX6 81 yX6_in, .static yX6_in, .initialized RX6, .code yX6_in cX6_in 3 (some .boolean), .methodLink RX6 77 yX6_fails, .instanceMethod yX6_fails, .selects RX6 yX6_fails yX6_fails, .code yX6_fails cX6_fails 2 (some .boolean), .fieldLink RX6 1 "StemspanModel" "code" "I", .methodLink RX6 103 yX6_longestAt, .instanceMethod yX6_longestAt, .selects RX6 yX6_longestAt yX6_longestAt, .code yX6_longestAt cX6_longestAt 4 (some .int), .fieldLink RX6 59 "StemspanModel" "many" "I", .fieldLink RX6 26 "StemspanModel" "wordLength" "[I", .methodLink RX6 52 yX6_like, .instanceMethod yX6_like, .selects RX6 yX6_like yX6_like, .code yX6_like cX6_like 4 (some .int), .fieldLink RX6 17 "StemspanModel" "word" "[C", .fieldLink RX6 13 "StemspanModel" "text" "[C"] ++ wsX60)
def wsX6_shared : List Cond := .code yX6_shared cX6_shared 3 (some .int) :: ([.fieldLink RX6 1 "StemspanModel" "code" "I", .fieldLink RX6 59 "StemspanModel" "many" "I", .methodLink RX6 52 yX6_like, .instanceMethod yX6_like, .selects RX6 yX6_like yX6_like, .initialized RX6, .code yX6_like cX6_like 4 (some .int), .fieldLink RX6 26 "StemspanModel" "wordLength" "[I", .fieldLink RX6 49 "StemspanModel" "length" "I", .fieldLink RX6 17 "StemspanModel" "word" "[C", .fieldLink RX6 13 "StemspanModel" "text" "[C"] ++ wsX60)
def wsX6_twin : List Cond := .code yX6_twin cX6_twin 4 (some .int) :: ([.fieldLink RX6 59 "StemspanModel" "many" "I", .methodLink RX6 77 yX6_fails, .instanceMethod yX6_fails, .selects RX6 yX6_fails yX6_fails, .initialized RX6, .code yX6_fails cX6_fails 2 (some .boolean), .fieldLink RX6 1 "StemspanModel" "code" "I", .methodLink RX6 56 yX6_likeWords, .instanceMethod yX6_likeWords, .selects RX6 yX6_likeWords yX6_likeWords, .code yX6_likeWords cX6_likeWords 4 (some .int), .fieldLink RX6 26 "StemspanModel" "wordLength" "[I", .fieldLink RX6 17 "StemspanModel" "word" "[C"] ++ wsX60)
def wsX6_pieces : List Cond := .code yX6_pieces cX6_pieces 3 (some .int) :: ([.fieldLink RX6 1 "StemspanModel" "code" "I", .fieldLink RX6 49 "StemspanModel" "length" "I", .methodLink RX6 103 yX6_longestAt, .instanceMethod yX6_longestAt, .selects RX6 yX6_longestAt yX6_longestAt, .initialized RX6, .code yX6_longestAt cX6_longestAt 4 (some .int), .fieldLink RX6 59 "StemspanModel" "many" "I", .fieldLink RX6 26 "StemspanModel" "wordLength" "[I", .methodLink RX6 52 yX6_like, .instanceMethod yX6_like, .selects RX6 yX6_like yX6_like, .code yX6_like cX6_like 4 (some .int), .fieldLink RX6 17 "StemspanModel" "word" "[C", .fieldLink RX6 13 "StemspanModel" "text" "[C"] ++ wsX60)
def wsX6_piece : List Cond := .code yX6_piece cX6_piece 4 (some .int) :: ([.methodLink RX6 103 yX6_longestAt, .instanceMethod yX6_longestAt, .selects RX6 yX6_longestAt yX6_longestAt, .initialized RX6, .code yX6_longestAt cX6_longestAt 4 (some .int), .fieldLink RX6 59 "StemspanModel" "many" "I", .fieldLink RX6 26 "StemspanModel" "wordLength" "[I", .methodLink RX6 52 yX6_like, .instanceMethod yX6_like, .selects RX6 yX6_like yX6_like, .code yX6_like cX6_like 4 (some .int), .fieldLink RX6 49 "StemspanModel" "length" "I", .fieldLink RX6 17 "StemspanModel" "word" "[C", .fieldLink RX6 13 "StemspanModel" "text" "[C", .methodLink RX6 77 yX6_fails, .instanceMethod yX6_fails, .selects RX6 yX6_fails yX6_fails, .code yX6_fails cX6_fails 2 (some .boolean), .fieldLink RX6 1 "StemspanModel" "code" "I"] ++ wsX60)
def wsX6_cutsAll : List Cond := .code yX6_cutsAll cX6_cutsAll 5 none :: ([.fieldLink RX6 49 "StemspanModel" "length" "I", .fieldLink RX6 42 "StemspanModel" "waysFrom" "[J", .fieldLink RX6 46 "StemspanModel" "fewestFrom" "[I", .fieldLink RX6 59 "StemspanModel" "many" "I", .fieldLink RX6 26 "StemspanModel" "wordLength" "[I", .methodLink RX6 52 yX6_like, .instanceMethod yX6_like, .selects RX6 yX6_like yX6_like, .initialized RX6, .code yX6_like cX6_like 4 (some .int), .fieldLink RX6 17 "StemspanModel" "word" "[C", .fieldLink RX6 13 "StemspanModel" "text" "[C"] ++ wsX60)
def wsX6_cuts : List Cond := .code yX6_cuts cX6_cuts 1 (some .long) :: ([.fieldLink RX6 1 "StemspanModel" "code" "I", .fieldLink RX6 42 "StemspanModel" "waysFrom" "[J", .methodLink RX6 106 yX6_cutsAll, .instanceMethod yX6_cutsAll, .selects RX6 yX6_cutsAll yX6_cutsAll, .initialized RX6, .code yX6_cutsAll cX6_cutsAll 5 none, .fieldLink RX6 49 "StemspanModel" "length" "I", .fieldLink RX6 46 "StemspanModel" "fewestFrom" "[I", .fieldLink RX6 59 "StemspanModel" "many" "I", .fieldLink RX6 26 "StemspanModel" "wordLength" "[I", .methodLink RX6 52 yX6_like, .instanceMethod yX6_like, .selects RX6 yX6_like yX6_like, .code yX6_like cX6_like 4 (some .int), .fieldLink RX6 17 "StemspanModel" "word" "[C", .fieldLink RX6 13 "StemspanModel" "text" "[C"] ++ wsX60)
def wsX6_fewest : List Cond := .code yX6_fewest cX6_fewest 1 (some .int) :: ([.fieldLink RX6 1 "StemspanModel" "code" "I", .fieldLink RX6 46 "StemspanModel" "fewestFrom" "[I", .methodLink RX6 106 yX6_cutsAll, .instanceMethod yX6_cutsAll, .selects RX6 yX6_cutsAll yX6_cutsAll, .initialized RX6, .code yX6_cutsAll cX6_cutsAll 5 none, .fieldLink RX6 49 "StemspanModel" "length" "I", .fieldLink RX6 42 "StemspanModel" "waysFrom" "[J", .fieldLink RX6 59 "StemspanModel" "many" "I", .fieldLink RX6 26 "StemspanModel" "wordLength" "[I", .methodLink RX6 52 yX6_like, .instanceMethod yX6_like, .selects RX6 yX6_like yX6_like, .code yX6_like cX6_like 4 (some .int), .fieldLink RX6 17 "StemspanModel" "word" "[C", .fieldLink RX6 13 "StemspanModel" "text" "[C"] ++ wsX60)
def wsX6_code : List Cond := .code yX6_code cX6_code 5 (some .int) :: ([.fieldLink RX6 49 "StemspanModel" "length" "I", .fieldLink RX6 33 "StemspanModel" "codeLength" "[I", .fieldLink RX6 20 "StemspanModel" "codes" "[C", .fieldLink RX6 13 "StemspanModel" "text" "[C", .methodLink RX6 73 yX6_isSign, .static yX6_isSign, .initialized RX6, .code yX6_isSign cX6_isSign 1 (some .boolean), .methodLink RX6 81 yX6_in, .static yX6_in, .code yX6_in cX6_in 3 (some .boolean), .methodLink RX6 77 yX6_fails, .instanceMethod yX6_fails, .selects RX6 yX6_fails yX6_fails, .code yX6_fails cX6_fails 2 (some .boolean), .fieldLink RX6 1 "StemspanModel" "code" "I"] ++ wsX60)
def wsX6_isAhead : List Cond := .code yX6_isAhead cX6_isAhead 4 (some .boolean) :: ([.fieldLink RX6 33 "StemspanModel" "codeLength" "[I", .fieldLink RX6 20 "StemspanModel" "codes" "[C"] ++ wsX60)
def wsX6_areOrderly : List Cond := .code yX6_areOrderly cX6_areOrderly 3 (some .boolean) :: ([.methodLink RX6 109 yX6_isAhead, .instanceMethod yX6_isAhead, .selects RX6 yX6_isAhead yX6_isAhead, .initialized RX6, .code yX6_isAhead cX6_isAhead 4 (some .boolean), .fieldLink RX6 33 "StemspanModel" "codeLength" "[I", .fieldLink RX6 20 "StemspanModel" "codes" "[C"] ++ wsX60)
def wsX6_puts : List Cond := .code yX6_puts cX6_puts 5 (some .int) :: ([.fieldLink RX6 33 "StemspanModel" "codeLength" "[I", .fieldLink RX6 23 "StemspanModel" "made" "[C", .fieldLink RX6 20 "StemspanModel" "codes" "[C"] ++ wsX60)
def wsX6_write : List Cond := .code yX6_write cX6_write 3 (some .int) :: ([.fieldLink RX6 49 "StemspanModel" "length" "I", .fieldLink RX6 13 "StemspanModel" "text" "[C", .fieldLink RX6 23 "StemspanModel" "made" "[C", .methodLink RX6 112 yX6_puts, .instanceMethod yX6_puts, .selects RX6 yX6_puts yX6_puts, .initialized RX6, .code yX6_puts cX6_puts 5 (some .int), .fieldLink RX6 33 "StemspanModel" "codeLength" "[I", .fieldLink RX6 20 "StemspanModel" "codes" "[C", .methodLink RX6 77 yX6_fails, .instanceMethod yX6_fails, .selects RX6 yX6_fails yX6_fails, .code yX6_fails cX6_fails 2 (some .boolean), .fieldLink RX6 1 "StemspanModel" "code" "I"] ++ wsX60)
def wsX6_codeAt : List Cond := .code yX6_codeAt cX6_codeAt 4 (some .int) :: ([.fieldLink RX6 33 "StemspanModel" "codeLength" "[I", .fieldLink RX6 49 "StemspanModel" "length" "I", .fieldLink RX6 20 "StemspanModel" "codes" "[C", .fieldLink RX6 13 "StemspanModel" "text" "[C"] ++ wsX60)
def wsX6_read : List Cond := .code yX6_read cX6_read 4 (some .int) :: ([.fieldLink RX6 49 "StemspanModel" "length" "I", .fieldLink RX6 23 "StemspanModel" "made" "[C", .fieldLink RX6 33 "StemspanModel" "codeLength" "[I", .fieldLink RX6 13 "StemspanModel" "text" "[C", .methodLink RX6 116 yX6_codeAt, .instanceMethod yX6_codeAt, .selects RX6 yX6_codeAt yX6_codeAt, .initialized RX6, .code yX6_codeAt cX6_codeAt 4 (some .int), .fieldLink RX6 20 "StemspanModel" "codes" "[C", .methodLink RX6 119 yX6_areOrderly, .instanceMethod yX6_areOrderly, .selects RX6 yX6_areOrderly yX6_areOrderly, .code yX6_areOrderly cX6_areOrderly 3 (some .boolean), .methodLink RX6 109 yX6_isAhead, .instanceMethod yX6_isAhead, .selects RX6 yX6_isAhead yX6_isAhead, .code yX6_isAhead cX6_isAhead 4 (some .boolean), .methodLink RX6 77 yX6_fails, .instanceMethod yX6_fails, .selects RX6 yX6_fails yX6_fails, .code yX6_fails cX6_fails 2 (some .boolean), .fieldLink RX6 1 "StemspanModel" "code" "I"] ++ wsX60)
def wsX6_written : List Cond := .code yX6_written cX6_written 4 (some .int) :: ([.fieldLink RX6 26 "StemspanModel" "wordLength" "[I", .fieldLink RX6 17 "StemspanModel" "word" "[C", .methodLink RX6 112 yX6_puts, .instanceMethod yX6_puts, .selects RX6 yX6_puts yX6_puts, .initialized RX6, .code yX6_puts cX6_puts 5 (some .int), .fieldLink RX6 33 "StemspanModel" "codeLength" "[I", .fieldLink RX6 23 "StemspanModel" "made" "[C", .fieldLink RX6 20 "StemspanModel" "codes" "[C"] ++ wsX60)
def wsX6_writeAll_r1 : List Cond := [Cond.fieldLink RX6 59 "StemspanModel" "many" "I", Cond.fieldLink RX6 26 "StemspanModel" "wordLength" "[I", Cond.fieldLink RX6 17 "StemspanModel" "word" "[C", Cond.fieldLink RX6 23 "StemspanModel" "made" "[C", Cond.methodLink RX6 123 yX6_written, Cond.instanceMethod yX6_written, Cond.selects RX6 yX6_written yX6_written, Cond.initialized RX6, Cond.code yX6_written cX6_written 4 (some .int), Cond.methodLink RX6 112 yX6_puts, Cond.instanceMethod yX6_puts, Cond.selects RX6 yX6_puts yX6_puts, Cond.code yX6_puts cX6_puts 5 (some .int), Cond.fieldLink RX6 33 "StemspanModel" "codeLength" "[I", Cond.fieldLink RX6 20 "StemspanModel" "codes" "[C", Cond.methodLink RX6 119 yX6_areOrderly, Cond.instanceMethod yX6_areOrderly, Cond.selects RX6 yX6_areOrderly yX6_areOrderly, Cond.code yX6_areOrderly cX6_areOrderly 3 (some .boolean), Cond.methodLink RX6 109 yX6_isAhead, Cond.instanceMethod yX6_isAhead, Cond.selects RX6 yX6_isAhead yX6_isAhead, Cond.code yX6_isAhead cX6_isAhead 4 (some .boolean), Cond.methodLink RX6 77 yX6_fails]
def wsX6_writeAll_r2 : List Cond := [Cond.instanceMethod yX6_fails, Cond.selects RX6 yX6_fails yX6_fails, Cond.code yX6_fails cX6_fails 2 (some .boolean), Cond.fieldLink RX6 1 "StemspanModel" "code" "I"]
def wsX6_writeAll : List Cond := .code yX6_writeAll cX6_writeAll 6 (some .int) :: ((wsX6_writeAll_r1 ++ wsX6_writeAll_r2) ++ wsX60)
def wsX6_isSideBySide : List Cond := .code yX6_isSideBySide cX6_isSideBySide 8 (some .boolean) :: ([.fieldLink RX6 59 "StemspanModel" "many" "I", .fieldLink RX6 26 "StemspanModel" "wordLength" "[I", .fieldLink RX6 39 "StemspanModel" "ranks" "[I", .fieldLink RX6 17 "StemspanModel" "word" "[C", .fieldLink RX6 13 "StemspanModel" "text" "[C", .methodLink RX6 52 yX6_like, .instanceMethod yX6_like, .selects RX6 yX6_like yX6_like, .initialized RX6, .code yX6_like cX6_like 4 (some .int), .fieldLink RX6 49 "StemspanModel" "length" "I"] ++ wsX60)
def wsX6_areTwins : List Cond := .code yX6_areTwins cX6_areTwins 5 (some .boolean) :: ([.fieldLink RX6 59 "StemspanModel" "many" "I", .fieldLink RX6 36 "StemspanModel" "order" "[I", .methodLink RX6 56 yX6_likeWords, .instanceMethod yX6_likeWords, .selects RX6 yX6_likeWords yX6_likeWords, .initialized RX6, .code yX6_likeWords cX6_likeWords 4 (some .int), .fieldLink RX6 26 "StemspanModel" "wordLength" "[I", .fieldLink RX6 17 "StemspanModel" "word" "[C"] ++ wsX60)
def wsX6_isTrue_r1 : List Cond := [Cond.fieldLink RX6 1 "StemspanModel" "code" "I", Cond.fieldLink RX6 49 "StemspanModel" "length" "I", Cond.methodLink RX6 94 yX6_orders, Cond.instanceMethod yX6_orders, Cond.selects RX6 yX6_orders yX6_orders, Cond.initialized RX6, Cond.code yX6_orders cX6_orders 2 none, Cond.fieldLink RX6 59 "StemspanModel" "many" "I", Cond.fieldLink RX6 39 "StemspanModel" "ranks" "[I", Cond.fieldLink RX6 36 "StemspanModel" "order" "[I", Cond.methodLink RX6 70 yX6_rankOf, Cond.instanceMethod yX6_rankOf, Cond.selects RX6 yX6_rankOf yX6_rankOf, Cond.code yX6_rankOf cX6_rankOf 4 (some .int), Cond.methodLink RX6 66 yX6_isLess, Cond.instanceMethod yX6_isLess, Cond.selects RX6 yX6_isLess yX6_isLess, Cond.code yX6_isLess cX6_isLess 4 (some .boolean), Cond.fieldLink RX6 26 "StemspanModel" "wordLength" "[I", Cond.fieldLink RX6 17 "StemspanModel" "word" "[C", Cond.methodLink RX6 56 yX6_likeWords, Cond.instanceMethod yX6_likeWords, Cond.selects RX6 yX6_likeWords yX6_likeWords, Cond.code yX6_likeWords cX6_likeWords 4 (some .int)]
def wsX6_isTrue_r2 : List Cond := [Cond.methodLink RX6 126 yX6_isSideBySide, Cond.instanceMethod yX6_isSideBySide, Cond.selects RX6 yX6_isSideBySide yX6_isSideBySide, Cond.code yX6_isSideBySide cX6_isSideBySide 8 (some .boolean), Cond.fieldLink RX6 13 "StemspanModel" "text" "[C", Cond.methodLink RX6 52 yX6_like, Cond.instanceMethod yX6_like, Cond.selects RX6 yX6_like yX6_like, Cond.code yX6_like cX6_like 4 (some .int), Cond.methodLink RX6 129 yX6_areTwins, Cond.instanceMethod yX6_areTwins, Cond.selects RX6 yX6_areTwins yX6_areTwins, Cond.code yX6_areTwins cX6_areTwins 5 (some .boolean)]
def wsX6_isTrue : List Cond := .code yX6_isTrue cX6_isTrue 2 (some .boolean) :: ((wsX6_isTrue_r1 ++ wsX6_isTrue_r2) ++ wsX60)
def wsX6_checksum_r1 : List Cond := [Cond.fieldLink RX6 1 "StemspanModel" "code" "I", Cond.constantLong RX6 132 (7), Cond.fieldLink RX6 49 "StemspanModel" "length" "I", Cond.constantLong RX6 134 (31), Cond.fieldLink RX6 13 "StemspanModel" "text" "[C", Cond.fieldLink RX6 59 "StemspanModel" "many" "I", Cond.fieldLink RX6 36 "StemspanModel" "order" "[I", Cond.fieldLink RX6 26 "StemspanModel" "wordLength" "[I", Cond.fieldLink RX6 17 "StemspanModel" "word" "[C", Cond.fieldLink RX6 30 "StemspanModel" "number" "[I", Cond.fieldLink RX6 33 "StemspanModel" "codeLength" "[I", Cond.fieldLink RX6 20 "StemspanModel" "codes" "[C", Cond.methodLink RX6 94 yX6_orders, Cond.instanceMethod yX6_orders, Cond.selects RX6 yX6_orders yX6_orders, Cond.initialized RX6, Cond.code yX6_orders cX6_orders 2 none, Cond.fieldLink RX6 39 "StemspanModel" "ranks" "[I", Cond.methodLink RX6 70 yX6_rankOf, Cond.instanceMethod yX6_rankOf, Cond.selects RX6 yX6_rankOf yX6_rankOf, Cond.code yX6_rankOf cX6_rankOf 4 (some .int), Cond.methodLink RX6 66 yX6_isLess, Cond.instanceMethod yX6_isLess]
def wsX6_checksum_r2 : List Cond := [Cond.selects RX6 yX6_isLess yX6_isLess, Cond.code yX6_isLess cX6_isLess 4 (some .boolean), Cond.methodLink RX6 56 yX6_likeWords, Cond.instanceMethod yX6_likeWords, Cond.selects RX6 yX6_likeWords yX6_likeWords, Cond.code yX6_likeWords cX6_likeWords 4 (some .int)]
def wsX6_checksum : List Cond := .code yX6_checksum cX6_checksum 6 (some .long) :: ((wsX6_checksum_r1 ++ wsX6_checksum_r2) ++ wsX60)
def wsJ9_max_7cf53 : List Cond := .code yJ9_max_7cf53 cJ9_max_7cf53 2 (some .int) :: ([])
def wsJ9_min_7cf53 : List Cond := .code yJ9_min_7cf53 cJ9_min_7cf53 2 (some .int) :: ([])
def wsL_type_r1 : List Cond := [Cond.classLink RL 13 "java/lang/IllegalArgumentException", Cond.classLink RL 15 "java/lang/IllegalStateException", Cond.methodLink RL 7 yX5_type, Cond.instanceMethod yX5_type, Cond.selects RX5 yX5_type yX5_type, Cond.initialized RX5, Cond.code yX5_type cX5_type 2 (some .int), Cond.classLink RX5 53 "java/lang/IllegalArgumentException", Cond.initialized "java/lang/IllegalArgumentException", Cond.classLink RX5 64 "java/lang/IllegalStateException", Cond.initialized "java/lang/IllegalStateException", Cond.fieldLink RX5 14 "Stemspan" "text" "LStemspan$Row;", Cond.methodLink RX5 49 yX5_isSign, Cond.static yX5_isSign, Cond.code yX5_isSign cX5_isSign 1 (some .boolean), Cond.methodLink RX5 60 yX2_size, Cond.instanceMethod yX2_size, Cond.selects RX2 yX2_size yX2_size, Cond.initialized RX2, Cond.code yX2_size cX2_size 1 (some .int), Cond.fieldLink RX2 21 "Stemspan$Row" "length" "I", Cond.methodLink RX5 69 yX2_append, Cond.instanceMethod yX2_append, Cond.selects RX2 yX2_append yX2_append]
def wsL_type_r2 : List Cond := [Cond.code yX2_append cX2_append 2 none, Cond.fieldLink RX2 15 "Stemspan$Row" "signs" "[C"]
def wsL_type : List Cond := .codeWith yL_type cL_type 4 (some .int) [(0, 9, 12, 13), (0, 9, 15, 15)] :: ((wsL_type_r1 ++ wsL_type_r2) ++ wsX50 ++ wsX20 ++ (vx_atS RX5 57 "java/lang/IllegalArgumentException" ["java/lang/RuntimeException", "java/lang/Exception"]).filter goodWord ++ (vx_atS RX5 68 "java/lang/IllegalStateException" ["java/lang/RuntimeException", "java/lang/Exception"]).filter goodWord)
def wsL_typeMore_r1 : List Cond := [Cond.classLink RL 13 "java/lang/IllegalArgumentException", Cond.classLink RL 15 "java/lang/IllegalStateException", Cond.methodLink RL 17 yX5_typeMore, Cond.instanceMethod yX5_typeMore, Cond.selects RX5 yX5_typeMore yX5_typeMore, Cond.initialized RX5, Cond.code yX5_typeMore cX5_typeMore 5 (some .int), Cond.classLink RX5 53 "java/lang/IllegalArgumentException", Cond.initialized "java/lang/IllegalArgumentException", Cond.classLink RX5 64 "java/lang/IllegalStateException", Cond.initialized "java/lang/IllegalStateException", Cond.constant RX5 73 (1679615), Cond.fieldLink RX5 14 "Stemspan" "text" "LStemspan$Row;", Cond.methodLink RX5 60 yX2_size, Cond.instanceMethod yX2_size, Cond.selects RX2 yX2_size yX2_size, Cond.initialized RX2, Cond.code yX2_size cX2_size 1 (some .int), Cond.fieldLink RX2 21 "Stemspan$Row" "length" "I", Cond.methodLink RX5 78 yX5_signOf, Cond.static yX5_signOf, Cond.code yX5_signOf cX5_signOf 1 (some .char), Cond.methodLink RX5 69 yX2_append, Cond.instanceMethod yX2_append]
def wsL_typeMore_r2 : List Cond := [Cond.selects RX2 yX2_append yX2_append, Cond.code yX2_append cX2_append 2 none, Cond.fieldLink RX2 15 "Stemspan$Row" "signs" "[C"]
def wsL_typeMore : List Cond := .codeWith yL_typeMore cL_typeMore 5 (some .int) [(0, 10, 13, 13), (0, 10, 17, 15)] :: ((wsL_typeMore_r1 ++ wsL_typeMore_r2) ++ wsX50 ++ wsX20 ++ (vx_atS RX5 57 "java/lang/IllegalArgumentException" ["java/lang/RuntimeException", "java/lang/Exception"]).filter goodWord ++ (vx_atS RX5 68 "java/lang/IllegalStateException" ["java/lang/RuntimeException", "java/lang/Exception"]).filter goodWord)
def wsL_typeAt_r1 : List Cond := [Cond.classLink RL 25 "java/lang/IndexOutOfBoundsException", Cond.classLink RL 13 "java/lang/IllegalArgumentException", Cond.classLink RL 15 "java/lang/IllegalStateException", Cond.methodLink RL 21 yX5_typeAt, Cond.instanceMethod yX5_typeAt, Cond.selects RX5 yX5_typeAt yX5_typeAt, Cond.initialized RX5, Cond.code yX5_typeAt cX5_typeAt 3 (some .int), Cond.classLink RX5 82 "java/lang/IndexOutOfBoundsException", Cond.initialized "java/lang/IndexOutOfBoundsException", Cond.classLink RX5 53 "java/lang/IllegalArgumentException", Cond.initialized "java/lang/IllegalArgumentException", Cond.classLink RX5 64 "java/lang/IllegalStateException", Cond.initialized "java/lang/IllegalStateException", Cond.fieldLink RX5 14 "Stemspan" "text" "LStemspan$Row;", Cond.methodLink RX5 60 yX2_size, Cond.instanceMethod yX2_size, Cond.selects RX2 yX2_size yX2_size, Cond.initialized RX2, Cond.code yX2_size cX2_size 1 (some .int), Cond.fieldLink RX2 21 "Stemspan$Row" "length" "I", Cond.methodLink RX5 49 yX5_isSign, Cond.static yX5_isSign, Cond.code yX5_isSign cX5_isSign 1 (some .boolean)]
def wsL_typeAt_r2 : List Cond := [Cond.methodLink RX5 87 yX2_insert, Cond.instanceMethod yX2_insert, Cond.selects RX2 yX2_insert yX2_insert, Cond.code yX2_insert cX2_insert 4 none, Cond.fieldLink RX2 15 "Stemspan$Row" "signs" "[C"]
def wsL_typeAt : List Cond := .codeWith yL_typeAt cL_typeAt 5 (some .int) [(0, 10, 13, 25), (0, 10, 17, 13), (0, 10, 21, 15)] :: ((wsL_typeAt_r1 ++ wsL_typeAt_r2) ++ wsX50 ++ wsX20 ++ (vx_atS RX5 86 "java/lang/IndexOutOfBoundsException" ["java/lang/RuntimeException", "java/lang/Exception"]).filter goodWord ++ (vx_atS RX5 57 "java/lang/IllegalArgumentException" ["java/lang/RuntimeException", "java/lang/Exception"]).filter goodWord ++ (vx_atS RX5 68 "java/lang/IllegalStateException" ["java/lang/RuntimeException", "java/lang/Exception"]).filter goodWord)
def wsL_drop : List Cond := .codeWith yL_drop cL_drop 3 (some .int) [(0, 8, 11, 31)] :: ([.classLink RL 31 "java/util/NoSuchElementException", .methodLink RL 27 yX5_drop, .instanceMethod yX5_drop, .selects RX5 yX5_drop yX5_drop, .initialized RX5, .code yX5_drop cX5_drop 1 (some .int), .classLink RX5 91 "java/util/NoSuchElementException", .initialized "java/util/NoSuchElementException", .fieldLink RX5 14 "Stemspan" "text" "LStemspan$Row;", .methodLink RX5 60 yX2_size, .instanceMethod yX2_size, .selects RX2 yX2_size yX2_size, .initialized RX2, .code yX2_size cX2_size 1 (some .int), .fieldLink RX2 21 "Stemspan$Row" "length" "I", .methodLink RX5 96 yX2_removePart, .instanceMethod yX2_removePart, .selects RX2 yX2_removePart yX2_removePart, .code yX2_removePart cX2_removePart 5 none, .fieldLink RX2 15 "Stemspan$Row" "signs" "[C"] ++ wsX50 ++ wsX20 ++ (vx_atS RX5 95 "java/util/NoSuchElementException" ["java/lang/RuntimeException", "java/lang/Exception"]).filter goodWord)
def wsL_clip : List Cond := .codeWith yL_clip cL_clip 5 (some .int) [(0, 10, 13, 25)] :: ([.classLink RL 25 "java/lang/IndexOutOfBoundsException", .methodLink RL 33 yX5_clip, .instanceMethod yX5_clip, .selects RX5 yX5_clip yX5_clip, .initialized RX5, .code yX5_clip cX5_clip 3 (some .int), .classLink RX5 82 "java/lang/IndexOutOfBoundsException", .initialized "java/lang/IndexOutOfBoundsException", .fieldLink RX5 14 "Stemspan" "text" "LStemspan$Row;", .methodLink RX5 60 yX2_size, .instanceMethod yX2_size, .selects RX2 yX2_size yX2_size, .initialized RX2, .code yX2_size cX2_size 1 (some .int), .fieldLink RX2 21 "Stemspan$Row" "length" "I", .methodLink RX5 96 yX2_removePart, .instanceMethod yX2_removePart, .selects RX2 yX2_removePart yX2_removePart, .code yX2_removePart cX2_removePart 5 none, .fieldLink RX2 15 "Stemspan$Row" "signs" "[C"] ++ wsX50 ++ wsX20 ++ (vx_atS RX5 86 "java/lang/IndexOutOfBoundsException" ["java/lang/RuntimeException", "java/lang/Exception"]).filter goodWord)
def wsL_signAt : List Cond := .codeWith yL_signAt cL_signAt 4 (some .int) [(0, 9, 12, 25)] :: ([.classLink RL 25 "java/lang/IndexOutOfBoundsException", .methodLink RL 36 yX5_signAt, .instanceMethod yX5_signAt, .selects RX5 yX5_signAt yX5_signAt, .initialized RX5, .code yX5_signAt cX5_signAt 2 (some .char), .classLink RX5 82 "java/lang/IndexOutOfBoundsException", .initialized "java/lang/IndexOutOfBoundsException", .fieldLink RX5 14 "Stemspan" "text" "LStemspan$Row;", .methodLink RX5 60 yX2_size, .instanceMethod yX2_size, .selects RX2 yX2_size yX2_size, .initialized RX2, .code yX2_size cX2_size 1 (some .int), .fieldLink RX2 21 "Stemspan$Row" "length" "I", .methodLink RX5 109 yX2_at, .instanceMethod yX2_at, .selects RX2 yX2_at yX2_at, .code yX2_at cX2_at 2 (some .char), .fieldLink RX2 15 "Stemspan$Row" "signs" "[C"] ++ wsX50 ++ wsX20 ++ (vx_atS RX5 86 "java/lang/IndexOutOfBoundsException" ["java/lang/RuntimeException", "java/lang/Exception"]).filter goodWord)
def wsL_put_r1 : List Cond := [Cond.classLink RL 13 "java/lang/IllegalArgumentException", Cond.classLink RL 44 "java/lang/UnsupportedOperationException", Cond.classLink RL 15 "java/lang/IllegalStateException", Cond.methodLink RL 40 yX5_put, Cond.instanceMethod yX5_put, Cond.selects RX5 yX5_put yX5_put, Cond.initialized RX5, Cond.code yX5_put cX5_put 4 (some .int), Cond.classLink RX5 53 "java/lang/IllegalArgumentException", Cond.initialized "java/lang/IllegalArgumentException", Cond.classLink RX5 114 "java/lang/UnsupportedOperationException", Cond.initialized "java/lang/UnsupportedOperationException", Cond.classLink RX5 64 "java/lang/IllegalStateException", Cond.initialized "java/lang/IllegalStateException", Cond.fieldLink RX5 14 "Stemspan" "text" "LStemspan$Row;", Cond.fieldLink RX5 24 "Stemspan" "list" "LStemspan$WordList;", Cond.methodLink RX5 60 yX2_size, Cond.instanceMethod yX2_size, Cond.selects RX2 yX2_size yX2_size, Cond.initialized RX2, Cond.code yX2_size cX2_size 1 (some .int), Cond.fieldLink RX2 21 "Stemspan$Row" "length" "I", Cond.methodLink RX5 119 yX4_rankOf, Cond.instanceMethod yX4_rankOf]
def wsL_put_r2 : List Cond := [Cond.selects RX4 yX4_rankOf yX4_rankOf, Cond.initialized RX4, Cond.code yX4_rankOf cX4_rankOf 3 (some .int), Cond.fieldLink RX4 28 "Stemspan$WordList" "count" "I", Cond.methodLink RX4 40 yX4_countLess, Cond.instanceMethod yX4_countLess, Cond.selects RX4 yX4_countLess yX4_countLess, Cond.code yX4_countLess cX4_countLess 3 (some .int), Cond.methodLink RX4 32 yX4_rowAt, Cond.instanceMethod yX4_rowAt, Cond.selects RX4 yX4_rowAt yX4_rowAt, Cond.code yX4_rowAt cX4_rowAt 2 (some (.object "Stemspan$Row")), Cond.fieldLink RX4 11 "Stemspan$WordList" "rows" "[LStemspan$Row;", Cond.fieldLink RX4 24 "Stemspan$WordList" "nothing" "LStemspan$Row;", Cond.methodLink RX4 36 yX2_compareWith, Cond.instanceMethod yX2_compareWith, Cond.selects RX2 yX2_compareWith yX2_compareWith, Cond.code yX2_compareWith cX2_compareWith 3 (some .int), Cond.fieldLink RX2 15 "Stemspan$Row" "signs" "[C", Cond.methodLink RX2 40 yX2_common, Cond.instanceMethod yX2_common, Cond.selects RX2 yX2_common yX2_common, Cond.code yX2_common cX2_common 3 (some .int), Cond.methodLink RX5 123 yX4_size]
def wsL_put_r3 : List Cond := [Cond.instanceMethod yX4_size, Cond.selects RX4 yX4_size yX4_size, Cond.code yX4_size cX4_size 1 (some .int), Cond.methodLink RX5 126 yX4_insert, Cond.instanceMethod yX4_insert, Cond.selects RX4 yX4_insert yX4_insert, Cond.code yX4_insert cX4_insert 6 none, Cond.fieldLink RX4 20 "Stemspan$WordList" "numbers" "[I", Cond.methodLink RX4 43 yX2_become, Cond.instanceMethod yX2_become, Cond.selects RX2 yX2_become yX2_become, Cond.code yX2_become cX2_become 2 none, Cond.methodLink RX2 29 yX2_becomePart, Cond.instanceMethod yX2_becomePart, Cond.selects RX2 yX2_becomePart yX2_becomePart, Cond.code yX2_becomePart cX2_becomePart 5 none, Cond.methodLink RX2 33 yX2_clear, Cond.instanceMethod yX2_clear, Cond.selects RX2 yX2_clear yX2_clear, Cond.code yX2_clear cX2_clear 1 none, Cond.methodLink RX2 36 yX2_at, Cond.instanceMethod yX2_at, Cond.selects RX2 yX2_at yX2_at, Cond.code yX2_at cX2_at 2 (some .char)]
def wsL_put_r4 : List Cond := [Cond.methodLink RX2 25 yX2_append, Cond.instanceMethod yX2_append, Cond.selects RX2 yX2_append yX2_append, Cond.code yX2_append cX2_append 2 none, Cond.methodLink RX5 129 yX4_numberAt, Cond.instanceMethod yX4_numberAt, Cond.selects RX4 yX4_numberAt yX4_numberAt, Cond.code yX4_numberAt cX4_numberAt 2 (some .int), Cond.methodLink RX5 133 yX4_setNumber, Cond.instanceMethod yX4_setNumber, Cond.selects RX4 yX4_setNumber yX4_setNumber, Cond.code yX4_setNumber cX4_setNumber 3 none]
def wsL_put : List Cond := .codeWith yL_put cL_put 4 (some .int) [(0, 9, 12, 13), (0, 9, 15, 44), (0, 9, 18, 15)] :: ((wsL_put_r1 ++ (wsL_put_r2 ++ (wsL_put_r3 ++ wsL_put_r4))) ++ wsX50 ++ wsX20 ++ wsX40 ++ (vx_atS RX5 57 "java/lang/IllegalArgumentException" ["java/lang/RuntimeException", "java/lang/Exception"]).filter goodWord ++ (vx_atS RX5 118 "java/lang/UnsupportedOperationException" ["java/lang/RuntimeException", "java/lang/Exception"]).filter goodWord ++ (vx_atS RX5 68 "java/lang/IllegalStateException" ["java/lang/RuntimeException", "java/lang/Exception"]).filter goodWord)
def wsL_take_r1 : List Cond := [Cond.classLink RL 31 "java/util/NoSuchElementException", Cond.methodLink RL 46 yX5_take, Cond.instanceMethod yX5_take, Cond.selects RX5 yX5_take yX5_take, Cond.initialized RX5, Cond.code yX5_take cX5_take 3 (some .int), Cond.classLink RX5 91 "java/util/NoSuchElementException", Cond.initialized "java/util/NoSuchElementException", Cond.fieldLink RX5 24 "Stemspan" "list" "LStemspan$WordList;", Cond.fieldLink RX5 14 "Stemspan" "text" "LStemspan$Row;", Cond.methodLink RX5 119 yX4_rankOf, Cond.instanceMethod yX4_rankOf, Cond.selects RX4 yX4_rankOf yX4_rankOf, Cond.initialized RX4, Cond.code yX4_rankOf cX4_rankOf 3 (some .int), Cond.fieldLink RX4 28 "Stemspan$WordList" "count" "I", Cond.methodLink RX4 40 yX4_countLess, Cond.instanceMethod yX4_countLess, Cond.selects RX4 yX4_countLess yX4_countLess, Cond.code yX4_countLess cX4_countLess 3 (some .int), Cond.methodLink RX4 32 yX4_rowAt, Cond.instanceMethod yX4_rowAt, Cond.selects RX4 yX4_rowAt yX4_rowAt, Cond.code yX4_rowAt cX4_rowAt 2 (some (.object "Stemspan$Row"))]
def wsL_take_r2 : List Cond := [Cond.fieldLink RX4 11 "Stemspan$WordList" "rows" "[LStemspan$Row;", Cond.fieldLink RX4 24 "Stemspan$WordList" "nothing" "LStemspan$Row;", Cond.methodLink RX4 36 yX2_compareWith, Cond.instanceMethod yX2_compareWith, Cond.selects RX2 yX2_compareWith yX2_compareWith, Cond.initialized RX2, Cond.code yX2_compareWith cX2_compareWith 3 (some .int), Cond.fieldLink RX2 21 "Stemspan$Row" "length" "I", Cond.fieldLink RX2 15 "Stemspan$Row" "signs" "[C", Cond.methodLink RX2 40 yX2_common, Cond.instanceMethod yX2_common, Cond.selects RX2 yX2_common yX2_common, Cond.code yX2_common cX2_common 3 (some .int), Cond.methodLink RX5 129 yX4_numberAt, Cond.instanceMethod yX4_numberAt, Cond.selects RX4 yX4_numberAt yX4_numberAt, Cond.code yX4_numberAt cX4_numberAt 2 (some .int), Cond.fieldLink RX4 20 "Stemspan$WordList" "numbers" "[I", Cond.methodLink RX5 138 yX4_remove, Cond.instanceMethod yX4_remove, Cond.selects RX4 yX4_remove yX4_remove, Cond.code yX4_remove cX4_remove 4 none]
def wsL_take : List Cond := .codeWith yL_take cL_take 3 (some .int) [(0, 8, 11, 31)] :: ((wsL_take_r1 ++ wsL_take_r2) ++ wsX50 ++ wsX40 ++ wsX20 ++ (vx_atS RX5 95 "java/util/NoSuchElementException" ["java/lang/RuntimeException", "java/lang/Exception"]).filter goodWord)
def wsL_number_r1 : List Cond := [Cond.classLink RL 31 "java/util/NoSuchElementException", Cond.methodLink RL 49 yX5_number, Cond.instanceMethod yX5_number, Cond.selects RX5 yX5_number yX5_number, Cond.initialized RX5, Cond.code yX5_number cX5_number 2 (some .int), Cond.classLink RX5 91 "java/util/NoSuchElementException", Cond.initialized "java/util/NoSuchElementException", Cond.fieldLink RX5 24 "Stemspan" "list" "LStemspan$WordList;", Cond.fieldLink RX5 14 "Stemspan" "text" "LStemspan$Row;", Cond.methodLink RX5 119 yX4_rankOf, Cond.instanceMethod yX4_rankOf, Cond.selects RX4 yX4_rankOf yX4_rankOf, Cond.initialized RX4, Cond.code yX4_rankOf cX4_rankOf 3 (some .int), Cond.fieldLink RX4 28 "Stemspan$WordList" "count" "I", Cond.methodLink RX4 40 yX4_countLess, Cond.instanceMethod yX4_countLess, Cond.selects RX4 yX4_countLess yX4_countLess, Cond.code yX4_countLess cX4_countLess 3 (some .int), Cond.methodLink RX4 32 yX4_rowAt, Cond.instanceMethod yX4_rowAt, Cond.selects RX4 yX4_rowAt yX4_rowAt, Cond.code yX4_rowAt cX4_rowAt 2 (some (.object "Stemspan$Row"))]
def wsL_number_r2 : List Cond := [Cond.fieldLink RX4 11 "Stemspan$WordList" "rows" "[LStemspan$Row;", Cond.fieldLink RX4 24 "Stemspan$WordList" "nothing" "LStemspan$Row;", Cond.methodLink RX4 36 yX2_compareWith, Cond.instanceMethod yX2_compareWith, Cond.selects RX2 yX2_compareWith yX2_compareWith, Cond.initialized RX2, Cond.code yX2_compareWith cX2_compareWith 3 (some .int), Cond.fieldLink RX2 21 "Stemspan$Row" "length" "I", Cond.fieldLink RX2 15 "Stemspan$Row" "signs" "[C", Cond.methodLink RX2 40 yX2_common, Cond.instanceMethod yX2_common, Cond.selects RX2 yX2_common yX2_common, Cond.code yX2_common cX2_common 3 (some .int), Cond.methodLink RX5 129 yX4_numberAt, Cond.instanceMethod yX4_numberAt, Cond.selects RX4 yX4_numberAt yX4_numberAt, Cond.code yX4_numberAt cX4_numberAt 2 (some .int), Cond.fieldLink RX4 20 "Stemspan$WordList" "numbers" "[I"]
def wsL_number : List Cond := .codeWith yL_number cL_number 3 (some .int) [(0, 8, 11, 31)] :: ((wsL_number_r1 ++ wsL_number_r2) ++ wsX50 ++ wsX40 ++ wsX20 ++ (vx_atS RX5 95 "java/util/NoSuchElementException" ["java/lang/RuntimeException", "java/lang/Exception"]).filter goodWord)
def wsL_word_r1 : List Cond := [Cond.classLink RL 25 "java/lang/IndexOutOfBoundsException", Cond.methodLink RL 52 yX5_word, Cond.instanceMethod yX5_word, Cond.selects RX5 yX5_word yX5_word, Cond.initialized RX5, Cond.code yX5_word cX5_word 2 (some .int), Cond.classLink RX5 82 "java/lang/IndexOutOfBoundsException", Cond.initialized "java/lang/IndexOutOfBoundsException", Cond.fieldLink RX5 24 "Stemspan" "list" "LStemspan$WordList;", Cond.fieldLink RX5 14 "Stemspan" "text" "LStemspan$Row;", Cond.methodLink RX5 123 yX4_size, Cond.instanceMethod yX4_size, Cond.selects RX4 yX4_size yX4_size, Cond.initialized RX4, Cond.code yX4_size cX4_size 1 (some .int), Cond.fieldLink RX4 28 "Stemspan$WordList" "count" "I", Cond.methodLink RX5 146 yX4_rowAt, Cond.instanceMethod yX4_rowAt, Cond.selects RX4 yX4_rowAt yX4_rowAt, Cond.code yX4_rowAt cX4_rowAt 2 (some (.object "Stemspan$Row")), Cond.fieldLink RX4 11 "Stemspan$WordList" "rows" "[LStemspan$Row;", Cond.fieldLink RX4 24 "Stemspan$WordList" "nothing" "LStemspan$Row;", Cond.methodLink RX5 150 yX2_become, Cond.instanceMethod yX2_become]
def wsL_word_r2 : List Cond := [Cond.selects RX2 yX2_become yX2_become, Cond.initialized RX2, Cond.code yX2_become cX2_become 2 none, Cond.fieldLink RX2 21 "Stemspan$Row" "length" "I", Cond.methodLink RX2 29 yX2_becomePart, Cond.instanceMethod yX2_becomePart, Cond.selects RX2 yX2_becomePart yX2_becomePart, Cond.code yX2_becomePart cX2_becomePart 5 none, Cond.methodLink RX2 33 yX2_clear, Cond.instanceMethod yX2_clear, Cond.selects RX2 yX2_clear yX2_clear, Cond.code yX2_clear cX2_clear 1 none, Cond.methodLink RX2 36 yX2_at, Cond.instanceMethod yX2_at, Cond.selects RX2 yX2_at yX2_at, Cond.code yX2_at cX2_at 2 (some .char), Cond.fieldLink RX2 15 "Stemspan$Row" "signs" "[C", Cond.methodLink RX2 25 yX2_append, Cond.instanceMethod yX2_append, Cond.selects RX2 yX2_append yX2_append, Cond.code yX2_append cX2_append 2 none, Cond.methodLink RX5 60 yX2_size, Cond.instanceMethod yX2_size, Cond.selects RX2 yX2_size yX2_size]
def wsL_word_r3 : List Cond := [Cond.code yX2_size cX2_size 1 (some .int)]
def wsL_word : List Cond := .codeWith yL_word cL_word 4 (some .int) [(0, 9, 12, 25)] :: ((wsL_word_r1 ++ (wsL_word_r2 ++ wsL_word_r3)) ++ wsX50 ++ wsX40 ++ wsX20 ++ (vx_atS RX5 86 "java/lang/IndexOutOfBoundsException" ["java/lang/RuntimeException", "java/lang/Exception"]).filter goodWord)
def wsL_near_r1 : List Cond := [Cond.classLink RL 13 "java/lang/IllegalArgumentException", Cond.classLink RL 31 "java/util/NoSuchElementException", Cond.methodLink RL 55 yX5_near, Cond.instanceMethod yX5_near, Cond.selects RX5 yX5_near yX5_near, Cond.initialized RX5, Cond.code yX5_near cX5_near 3 (some .int), Cond.classLink RX5 53 "java/lang/IllegalArgumentException", Cond.initialized "java/lang/IllegalArgumentException", Cond.classLink RX5 91 "java/util/NoSuchElementException", Cond.initialized "java/util/NoSuchElementException", Cond.fieldLink RX5 24 "Stemspan" "list" "LStemspan$WordList;", Cond.fieldLink RX5 14 "Stemspan" "text" "LStemspan$Row;", Cond.methodLink RX5 156 yX5_rankNear, Cond.instanceMethod yX5_rankNear, Cond.selects RX5 yX5_rankNear yX5_rankNear, Cond.code yX5_rankNear cX5_rankNear 2 (some .int), Cond.methodLink RX5 276 yX4_countNotGreater, Cond.instanceMethod yX4_countNotGreater, Cond.selects RX4 yX4_countNotGreater yX4_countNotGreater, Cond.initialized RX4, Cond.code yX4_countNotGreater cX4_countNotGreater 3 (some .int), Cond.fieldLink RX4 28 "Stemspan$WordList" "count" "I", Cond.methodLink RX4 32 yX4_rowAt]
def wsL_near_r2 : List Cond := [Cond.instanceMethod yX4_rowAt, Cond.selects RX4 yX4_rowAt yX4_rowAt, Cond.code yX4_rowAt cX4_rowAt 2 (some (.object "Stemspan$Row")), Cond.fieldLink RX4 11 "Stemspan$WordList" "rows" "[LStemspan$Row;", Cond.fieldLink RX4 24 "Stemspan$WordList" "nothing" "LStemspan$Row;", Cond.methodLink RX4 36 yX2_compareWith, Cond.instanceMethod yX2_compareWith, Cond.selects RX2 yX2_compareWith yX2_compareWith, Cond.initialized RX2, Cond.code yX2_compareWith cX2_compareWith 3 (some .int), Cond.fieldLink RX2 21 "Stemspan$Row" "length" "I", Cond.fieldLink RX2 15 "Stemspan$Row" "signs" "[C", Cond.methodLink RX2 40 yX2_common, Cond.instanceMethod yX2_common, Cond.selects RX2 yX2_common yX2_common, Cond.code yX2_common cX2_common 3 (some .int), Cond.methodLink RX5 141 yX4_countLess, Cond.instanceMethod yX4_countLess, Cond.selects RX4 yX4_countLess yX4_countLess, Cond.code yX4_countLess cX4_countLess 3 (some .int), Cond.methodLink RX5 123 yX4_size, Cond.instanceMethod yX4_size, Cond.selects RX4 yX4_size yX4_size, Cond.code yX4_size cX4_size 1 (some .int)]
def wsL_near_r3 : List Cond := [Cond.methodLink RX5 146 yX4_rowAt, Cond.methodLink RX5 150 yX2_become, Cond.instanceMethod yX2_become, Cond.selects RX2 yX2_become yX2_become, Cond.code yX2_become cX2_become 2 none, Cond.methodLink RX2 29 yX2_becomePart, Cond.instanceMethod yX2_becomePart, Cond.selects RX2 yX2_becomePart yX2_becomePart, Cond.code yX2_becomePart cX2_becomePart 5 none, Cond.methodLink RX2 33 yX2_clear, Cond.instanceMethod yX2_clear, Cond.selects RX2 yX2_clear yX2_clear, Cond.code yX2_clear cX2_clear 1 none, Cond.methodLink RX2 36 yX2_at, Cond.instanceMethod yX2_at, Cond.selects RX2 yX2_at yX2_at, Cond.code yX2_at cX2_at 2 (some .char), Cond.methodLink RX2 25 yX2_append, Cond.instanceMethod yX2_append, Cond.selects RX2 yX2_append yX2_append, Cond.code yX2_append cX2_append 2 none, Cond.methodLink RX5 129 yX4_numberAt, Cond.instanceMethod yX4_numberAt, Cond.selects RX4 yX4_numberAt yX4_numberAt]
def wsL_near_r4 : List Cond := [Cond.code yX4_numberAt cX4_numberAt 2 (some .int), Cond.fieldLink RX4 20 "Stemspan$WordList" "numbers" "[I"]
def wsL_near : List Cond := .codeWith yL_near cL_near 4 (some .int) [(0, 9, 12, 13), (0, 9, 15, 31)] :: ((wsL_near_r1 ++ (wsL_near_r2 ++ (wsL_near_r3 ++ wsL_near_r4))) ++ wsX50 ++ wsX40 ++ wsX20 ++ (vx_atS RX5 57 "java/lang/IllegalArgumentException" ["java/lang/RuntimeException", "java/lang/Exception"]).filter goodWord ++ (vx_atS RX5 95 "java/util/NoSuchElementException" ["java/lang/RuntimeException", "java/lang/Exception"]).filter goodWord)
def wsL_begunAt_r1 : List Cond := [Cond.classLink RL 31 "java/util/NoSuchElementException", Cond.methodLink RL 58 yX5_begunAt, Cond.instanceMethod yX5_begunAt, Cond.selects RX5 yX5_begunAt yX5_begunAt, Cond.initialized RX5, Cond.code yX5_begunAt cX5_begunAt 3 (some .int), Cond.classLink RX5 91 "java/util/NoSuchElementException", Cond.initialized "java/util/NoSuchElementException", Cond.fieldLink RX5 24 "Stemspan" "list" "LStemspan$WordList;", Cond.fieldLink RX5 14 "Stemspan" "text" "LStemspan$Row;", Cond.methodLink RX5 165 yX4_rankBegun, Cond.instanceMethod yX4_rankBegun, Cond.selects RX4 yX4_rankBegun yX4_rankBegun, Cond.initialized RX4, Cond.code yX4_rankBegun cX4_rankBegun 5 (some .int), Cond.fieldLink RX4 28 "Stemspan$WordList" "count" "I", Cond.methodLink RX4 32 yX4_rowAt, Cond.instanceMethod yX4_rowAt, Cond.selects RX4 yX4_rowAt yX4_rowAt, Cond.code yX4_rowAt cX4_rowAt 2 (some (.object "Stemspan$Row")), Cond.fieldLink RX4 11 "Stemspan$WordList" "rows" "[LStemspan$Row;", Cond.fieldLink RX4 24 "Stemspan$WordList" "nothing" "LStemspan$Row;", Cond.methodLink RX4 47 yX2_beginsWith, Cond.instanceMethod yX2_beginsWith]
def wsL_begunAt_r2 : List Cond := [Cond.selects RX2 yX2_beginsWith yX2_beginsWith, Cond.initialized RX2, Cond.code yX2_beginsWith cX2_beginsWith 2 (some .boolean), Cond.methodLink RX2 44 yX2_hasAt, Cond.instanceMethod yX2_hasAt, Cond.selects RX2 yX2_hasAt yX2_hasAt, Cond.code yX2_hasAt cX2_hasAt 4 (some .boolean), Cond.fieldLink RX2 21 "Stemspan$Row" "length" "I", Cond.fieldLink RX2 15 "Stemspan$Row" "signs" "[C", Cond.methodLink RX5 146 yX4_rowAt, Cond.methodLink RX5 150 yX2_become, Cond.instanceMethod yX2_become, Cond.selects RX2 yX2_become yX2_become, Cond.code yX2_become cX2_become 2 none, Cond.methodLink RX2 29 yX2_becomePart, Cond.instanceMethod yX2_becomePart, Cond.selects RX2 yX2_becomePart yX2_becomePart, Cond.code yX2_becomePart cX2_becomePart 5 none, Cond.methodLink RX2 33 yX2_clear, Cond.instanceMethod yX2_clear, Cond.selects RX2 yX2_clear yX2_clear, Cond.code yX2_clear cX2_clear 1 none, Cond.methodLink RX2 36 yX2_at, Cond.instanceMethod yX2_at]
def wsL_begunAt_r3 : List Cond := [Cond.selects RX2 yX2_at yX2_at, Cond.code yX2_at cX2_at 2 (some .char), Cond.methodLink RX2 25 yX2_append, Cond.instanceMethod yX2_append, Cond.selects RX2 yX2_append yX2_append, Cond.code yX2_append cX2_append 2 none, Cond.methodLink RX5 129 yX4_numberAt, Cond.instanceMethod yX4_numberAt, Cond.selects RX4 yX4_numberAt yX4_numberAt, Cond.code yX4_numberAt cX4_numberAt 2 (some .int), Cond.fieldLink RX4 20 "Stemspan$WordList" "numbers" "[I"]
def wsL_begunAt : List Cond := .codeWith yL_begunAt cL_begunAt 4 (some .int) [(0, 9, 12, 31)] :: ((wsL_begunAt_r1 ++ (wsL_begunAt_r2 ++ wsL_begunAt_r3)) ++ wsX50 ++ wsX40 ++ wsX20 ++ (vx_atS RX5 95 "java/util/NoSuchElementException" ["java/lang/RuntimeException", "java/lang/Exception"]).filter goodWord)
def wsL_longest_r1 : List Cond := [Cond.classLink RL 25 "java/lang/IndexOutOfBoundsException", Cond.methodLink RL 61 yX5_longest, Cond.instanceMethod yX5_longest, Cond.selects RX5 yX5_longest yX5_longest, Cond.initialized RX5, Cond.code yX5_longest cX5_longest 2 (some .int), Cond.classLink RX5 82 "java/lang/IndexOutOfBoundsException", Cond.initialized "java/lang/IndexOutOfBoundsException", Cond.fieldLink RX5 14 "Stemspan" "text" "LStemspan$Row;", Cond.fieldLink RX5 24 "Stemspan" "list" "LStemspan$WordList;", Cond.methodLink RX5 60 yX2_size, Cond.instanceMethod yX2_size, Cond.selects RX2 yX2_size yX2_size, Cond.initialized RX2, Cond.code yX2_size cX2_size 1 (some .int), Cond.fieldLink RX2 21 "Stemspan$Row" "length" "I", Cond.methodLink RX5 175 yX4_longestAt, Cond.instanceMethod yX4_longestAt, Cond.selects RX4 yX4_longestAt yX4_longestAt, Cond.initialized RX4, Cond.code yX4_longestAt cX4_longestAt 5 (some .int), Cond.fieldLink RX4 28 "Stemspan$WordList" "count" "I", Cond.methodLink RX4 66 Lib.Math.max.name, Cond.static Lib.Math.max.name]
def wsL_longest_r2 : List Cond := [Cond.initialized "java/lang/Math", Cond.code Lib.Math.max.name Lib.Math.max.code 2 (some .int), Cond.methodLink RX4 32 yX4_rowAt, Cond.instanceMethod yX4_rowAt, Cond.selects RX4 yX4_rowAt yX4_rowAt, Cond.code yX4_rowAt cX4_rowAt 2 (some (.object "Stemspan$Row")), Cond.fieldLink RX4 11 "Stemspan$WordList" "rows" "[LStemspan$Row;", Cond.fieldLink RX4 24 "Stemspan$WordList" "nothing" "LStemspan$Row;", Cond.methodLink RX4 58 yX2_hasAt, Cond.instanceMethod yX2_hasAt, Cond.selects RX2 yX2_hasAt yX2_hasAt, Cond.code yX2_hasAt cX2_hasAt 4 (some .boolean), Cond.fieldLink RX2 15 "Stemspan$Row" "signs" "[C", Cond.methodLink RX4 62 yX2_size]
def wsL_longest : List Cond := .codeWith yL_longest cL_longest 4 (some .int) [(0, 9, 12, 25)] :: ((wsL_longest_r1 ++ wsL_longest_r2) ++ wsX50 ++ wsX20 ++ wsX40 ++ (vx_atS RX5 86 "java/lang/IndexOutOfBoundsException" ["java/lang/RuntimeException", "java/lang/Exception"]).filter goodWord)
def wsL_twin_r1 : List Cond := [Cond.classLink RL 31 "java/util/NoSuchElementException", Cond.methodLink RL 64 yX5_twin, Cond.instanceMethod yX5_twin, Cond.selects RX5 yX5_twin yX5_twin, Cond.initialized RX5, Cond.code yX5_twin cX5_twin 1 (some .int), Cond.classLink RX5 91 "java/util/NoSuchElementException", Cond.initialized "java/util/NoSuchElementException", Cond.fieldLink RX5 24 "Stemspan" "list" "LStemspan$WordList;", Cond.methodLink RX5 123 yX4_size, Cond.instanceMethod yX4_size, Cond.selects RX4 yX4_size yX4_size, Cond.initialized RX4, Cond.code yX4_size cX4_size 1 (some .int), Cond.fieldLink RX4 28 "Stemspan$WordList" "count" "I", Cond.methodLink RX5 183 yX4_mostCommonOfTwo, Cond.instanceMethod yX4_mostCommonOfTwo, Cond.selects RX4 yX4_mostCommonOfTwo yX4_mostCommonOfTwo, Cond.code yX4_mostCommonOfTwo cX4_mostCommonOfTwo 4 (some .int), Cond.methodLink RX4 66 Lib.Math.max.name, Cond.static Lib.Math.max.name, Cond.initialized "java/lang/Math", Cond.code Lib.Math.max.name Lib.Math.max.code 2 (some .int), Cond.methodLink RX4 32 yX4_rowAt]
def wsL_twin_r2 : List Cond := [Cond.instanceMethod yX4_rowAt, Cond.selects RX4 yX4_rowAt yX4_rowAt, Cond.code yX4_rowAt cX4_rowAt 2 (some (.object "Stemspan$Row")), Cond.fieldLink RX4 11 "Stemspan$WordList" "rows" "[LStemspan$Row;", Cond.fieldLink RX4 24 "Stemspan$WordList" "nothing" "LStemspan$Row;", Cond.methodLink RX4 72 yX2_common, Cond.instanceMethod yX2_common, Cond.selects RX2 yX2_common yX2_common, Cond.initialized RX2, Cond.code yX2_common cX2_common 3 (some .int), Cond.fieldLink RX2 21 "Stemspan$Row" "length" "I", Cond.fieldLink RX2 15 "Stemspan$Row" "signs" "[C"]
def wsL_twin : List Cond := .codeWith yL_twin cL_twin 3 (some .int) [(0, 8, 11, 31)] :: ((wsL_twin_r1 ++ wsL_twin_r2) ++ wsX50 ++ wsX40 ++ wsX20 ++ (vx_atS RX5 95 "java/util/NoSuchElementException" ["java/lang/RuntimeException", "java/lang/Exception"]).filter goodWord)
def wsL_piece_r1 : List Cond := [Cond.classLink RL 31 "java/util/NoSuchElementException", Cond.methodLink RL 67 yX5_piece, Cond.instanceMethod yX5_piece, Cond.selects RX5 yX5_piece yX5_piece, Cond.initialized RX5, Cond.code yX5_piece cX5_piece 3 (some .int), Cond.classLink RX5 91 "java/util/NoSuchElementException", Cond.initialized "java/util/NoSuchElementException", Cond.fieldLink RX5 38 "Stemspan" "cutter" "LStemspan$Cutter;", Cond.fieldLink RX5 14 "Stemspan" "text" "LStemspan$Row;", Cond.fieldLink RX5 24 "Stemspan" "list" "LStemspan$WordList;", Cond.methodLink RX5 186 yX1_look, Cond.instanceMethod yX1_look, Cond.selects RX1 yX1_look yX1_look, Cond.initialized RX1, Cond.code yX1_look cX1_look 5 none, Cond.methodLink RX1 31 Lib.Math.min.name, Cond.static Lib.Math.min.name, Cond.initialized "java/lang/Math", Cond.code Lib.Math.min.name Lib.Math.min.code 2 (some .int), Cond.fieldLink RX1 22 "Stemspan$Cutter" "size" "I", Cond.fieldLink RX1 9 "Stemspan$Cutter" "fits" "[I", Cond.methodLink RX1 26 yX2_size, Cond.instanceMethod yX2_size]
def wsL_piece_r2 : List Cond := [Cond.selects RX2 yX2_size yX2_size, Cond.initialized RX2, Cond.code yX2_size cX2_size 1 (some .int), Cond.fieldLink RX2 21 "Stemspan$Row" "length" "I", Cond.methodLink RX1 37 yX4_size, Cond.instanceMethod yX4_size, Cond.selects RX4 yX4_size yX4_size, Cond.initialized RX4, Cond.code yX4_size cX4_size 1 (some .int), Cond.fieldLink RX4 28 "Stemspan$WordList" "count" "I", Cond.methodLink RX1 40 yX4_rowAt, Cond.instanceMethod yX4_rowAt, Cond.selects RX4 yX4_rowAt yX4_rowAt, Cond.code yX4_rowAt cX4_rowAt 2 (some (.object "Stemspan$Row")), Cond.fieldLink RX4 11 "Stemspan$WordList" "rows" "[LStemspan$Row;", Cond.fieldLink RX4 24 "Stemspan$WordList" "nothing" "LStemspan$Row;", Cond.methodLink RX1 44 yX2_hasAt, Cond.instanceMethod yX2_hasAt, Cond.selects RX2 yX2_hasAt yX2_hasAt, Cond.code yX2_hasAt cX2_hasAt 4 (some .boolean), Cond.fieldLink RX2 15 "Stemspan$Row" "signs" "[C", Cond.methodLink RX5 193 yX1_sizeOfLongest, Cond.instanceMethod yX1_sizeOfLongest, Cond.selects RX1 yX1_sizeOfLongest yX1_sizeOfLongest]
def wsL_piece_r3 : List Cond := [Cond.code yX1_sizeOfLongest cX1_sizeOfLongest 4 (some .int), Cond.methodLink RX1 52 yX1_longestFit, Cond.instanceMethod yX1_longestFit, Cond.selects RX1 yX1_longestFit yX1_longestFit, Cond.code yX1_longestFit cX1_longestFit 3 (some .int), Cond.methodLink RX1 48 yX1_fitsAt, Cond.instanceMethod yX1_fitsAt, Cond.selects RX1 yX1_fitsAt yX1_fitsAt, Cond.code yX1_fitsAt cX1_fitsAt 3 (some .boolean)]
def wsL_piece : List Cond := .codeWith yL_piece cL_piece 4 (some .int) [(0, 9, 12, 31)] :: ((wsL_piece_r1 ++ (wsL_piece_r2 ++ wsL_piece_r3)) ++ wsX50 ++ wsX10 ++ wsX20 ++ wsX40 ++ (vx_atS RX5 95 "java/util/NoSuchElementException" ["java/lang/RuntimeException", "java/lang/Exception"]).filter goodWord)
def wsL_code_r1 : List Cond := [Cond.classLink RL 13 "java/lang/IllegalArgumentException", Cond.classLink RL 44 "java/lang/UnsupportedOperationException", Cond.methodLink RL 70 yX5_code, Cond.instanceMethod yX5_code, Cond.selects RX5 yX5_code yX5_code, Cond.initialized RX5, Cond.code yX5_code cX5_code 4 (some .int), Cond.classLink RX5 53 "java/lang/IllegalArgumentException", Cond.initialized "java/lang/IllegalArgumentException", Cond.classLink RX5 114 "java/lang/UnsupportedOperationException", Cond.initialized "java/lang/UnsupportedOperationException", Cond.fieldLink RX5 14 "Stemspan" "text" "LStemspan$Row;", Cond.fieldLink RX5 31 "Stemspan" "book" "LStemspan$CodeBook;", Cond.methodLink RX5 49 yX5_isSign, Cond.static yX5_isSign, Cond.code yX5_isSign cX5_isSign 1 (some .boolean), Cond.methodLink RX5 60 yX2_size, Cond.instanceMethod yX2_size, Cond.selects RX2 yX2_size yX2_size, Cond.initialized RX2, Cond.code yX2_size cX2_size 1 (some .int), Cond.fieldLink RX2 21 "Stemspan$Row" "length" "I", Cond.methodLink RX5 207 yX0_codeOf, Cond.instanceMethod yX0_codeOf]
def wsL_code_r2 : List Cond := [Cond.selects RX0 yX0_codeOf yX0_codeOf, Cond.initialized RX0, Cond.code yX0_codeOf cX0_codeOf 2 (some (.object "Stemspan$Row")), Cond.fieldLink RX0 11 "Stemspan$CodeBook" "codes" "[LStemspan$Row;", Cond.fieldLink RX0 31 "Stemspan$CodeBook" "nothing" "LStemspan$Row;", Cond.methodLink RX5 150 yX2_become, Cond.instanceMethod yX2_become, Cond.selects RX2 yX2_become yX2_become, Cond.code yX2_become cX2_become 2 none, Cond.methodLink RX2 29 yX2_becomePart, Cond.instanceMethod yX2_becomePart, Cond.selects RX2 yX2_becomePart yX2_becomePart, Cond.code yX2_becomePart cX2_becomePart 5 none, Cond.methodLink RX2 33 yX2_clear, Cond.instanceMethod yX2_clear, Cond.selects RX2 yX2_clear yX2_clear, Cond.code yX2_clear cX2_clear 1 none, Cond.methodLink RX2 36 yX2_at, Cond.instanceMethod yX2_at, Cond.selects RX2 yX2_at yX2_at, Cond.code yX2_at cX2_at 2 (some .char), Cond.fieldLink RX2 15 "Stemspan$Row" "signs" "[C", Cond.methodLink RX2 25 yX2_append, Cond.instanceMethod yX2_append]
def wsL_code_r3 : List Cond := [Cond.selects RX2 yX2_append yX2_append, Cond.code yX2_append cX2_append 2 none]
def wsL_code : List Cond := .codeWith yL_code cL_code 4 (some .int) [(0, 9, 12, 13), (0, 9, 15, 44)] :: ((wsL_code_r1 ++ (wsL_code_r2 ++ wsL_code_r3)) ++ wsX50 ++ wsX20 ++ wsX00 ++ (vx_atS RX5 57 "java/lang/IllegalArgumentException" ["java/lang/RuntimeException", "java/lang/Exception"]).filter goodWord ++ (vx_atS RX5 118 "java/lang/UnsupportedOperationException" ["java/lang/RuntimeException", "java/lang/Exception"]).filter goodWord)
def wsL_write_r1 : List Cond := [Cond.classLink RL 15 "java/lang/IllegalStateException", Cond.methodLink RL 73 yX5_write, Cond.instanceMethod yX5_write, Cond.selects RX5 yX5_write yX5_write, Cond.initialized RX5, Cond.code yX5_write cX5_write 1 (some .int), Cond.classLink RX5 64 "java/lang/IllegalStateException", Cond.initialized "java/lang/IllegalStateException", Cond.fieldLink RX5 31 "Stemspan" "book" "LStemspan$CodeBook;", Cond.fieldLink RX5 14 "Stemspan" "text" "LStemspan$Row;", Cond.fieldLink RX5 18 "Stemspan" "spare" "LStemspan$Row;", Cond.methodLink RX5 211 yX0_sizeWritten, Cond.instanceMethod yX0_sizeWritten, Cond.selects RX0 yX0_sizeWritten yX0_sizeWritten, Cond.initialized RX0, Cond.code yX0_sizeWritten cX0_sizeWritten 4 (some .int), Cond.methodLink RX0 47 yX2_size, Cond.instanceMethod yX2_size, Cond.selects RX2 yX2_size yX2_size, Cond.initialized RX2, Cond.code yX2_size cX2_size 1 (some .int), Cond.fieldLink RX2 21 "Stemspan$Row" "length" "I", Cond.methodLink RX0 51 yX2_at, Cond.instanceMethod yX2_at]
def wsL_write_r2 : List Cond := [Cond.selects RX2 yX2_at yX2_at, Cond.code yX2_at cX2_at 2 (some .char), Cond.fieldLink RX2 15 "Stemspan$Row" "signs" "[C", Cond.methodLink RX0 54 yX0_codeOf, Cond.instanceMethod yX0_codeOf, Cond.selects RX0 yX0_codeOf yX0_codeOf, Cond.code yX0_codeOf cX0_codeOf 2 (some (.object "Stemspan$Row")), Cond.fieldLink RX0 11 "Stemspan$CodeBook" "codes" "[LStemspan$Row;", Cond.fieldLink RX0 31 "Stemspan$CodeBook" "nothing" "LStemspan$Row;", Cond.static yX5_isSign, Cond.code yX5_isSign cX5_isSign 1 (some .boolean), Cond.methodLink RX5 214 yX0_writeInto, Cond.instanceMethod yX0_writeInto, Cond.selects RX0 yX0_writeInto yX0_writeInto, Cond.code yX0_writeInto cX0_writeInto 4 none, Cond.methodLink RX0 58 yX2_clear, Cond.instanceMethod yX2_clear, Cond.selects RX2 yX2_clear yX2_clear, Cond.code yX2_clear cX2_clear 1 none, Cond.methodLink RX0 61 yX2_appendAll, Cond.instanceMethod yX2_appendAll, Cond.selects RX2 yX2_appendAll yX2_appendAll, Cond.code yX2_appendAll cX2_appendAll 3 none, Cond.methodLink RX2 25 yX2_append]
def wsL_write_r3 : List Cond := [Cond.instanceMethod yX2_append, Cond.selects RX2 yX2_append yX2_append, Cond.code yX2_append cX2_append 2 none, Cond.methodLink RX5 150 yX2_become, Cond.instanceMethod yX2_become, Cond.selects RX2 yX2_become yX2_become, Cond.code yX2_become cX2_become 2 none, Cond.methodLink RX2 29 yX2_becomePart, Cond.instanceMethod yX2_becomePart, Cond.selects RX2 yX2_becomePart yX2_becomePart, Cond.code yX2_becomePart cX2_becomePart 5 none, Cond.methodLink RX2 33 yX2_clear, Cond.methodLink RX2 36 yX2_at, Cond.methodLink RX5 60 yX2_size]
def wsL_write : List Cond := .codeWith yL_write cL_write 3 (some .int) [(0, 8, 11, 15)] :: ((wsL_write_r1 ++ (wsL_write_r2 ++ wsL_write_r3)) ++ wsX50 ++ wsX20 ++ wsX00 ++ (vx_atS RX5 68 "java/lang/IllegalStateException" ["java/lang/RuntimeException", "java/lang/Exception"]).filter goodWord)
def wsL_read_r1 : List Cond := [Cond.classLink RL 44 "java/lang/UnsupportedOperationException", Cond.classLink RL 31 "java/util/NoSuchElementException", Cond.methodLink RL 76 yX5_read, Cond.instanceMethod yX5_read, Cond.selects RX5 yX5_read yX5_read, Cond.initialized RX5, Cond.code yX5_read cX5_read 1 (some .int), Cond.classLink RX5 114 "java/lang/UnsupportedOperationException", Cond.initialized "java/lang/UnsupportedOperationException", Cond.classLink RX5 91 "java/util/NoSuchElementException", Cond.initialized "java/util/NoSuchElementException", Cond.fieldLink RX5 31 "Stemspan" "book" "LStemspan$CodeBook;", Cond.fieldLink RX5 14 "Stemspan" "text" "LStemspan$Row;", Cond.fieldLink RX5 18 "Stemspan" "spare" "LStemspan$Row;", Cond.methodLink RX5 218 yX0_isOrderly, Cond.instanceMethod yX0_isOrderly, Cond.selects RX0 yX0_isOrderly yX0_isOrderly, Cond.initialized RX0, Cond.code yX0_isOrderly cX0_isOrderly 3 (some .boolean), Cond.fieldLink RX0 11 "Stemspan$CodeBook" "codes" "[LStemspan$Row;", Cond.methodLink RX0 39 yX2_compareWith, Cond.instanceMethod yX2_compareWith, Cond.selects RX2 yX2_compareWith yX2_compareWith, Cond.initialized RX2]
def wsL_read_r2 : List Cond := [Cond.code yX2_compareWith cX2_compareWith 3 (some .int), Cond.fieldLink RX2 21 "Stemspan$Row" "length" "I", Cond.fieldLink RX2 15 "Stemspan$Row" "signs" "[C", Cond.methodLink RX2 40 yX2_common, Cond.instanceMethod yX2_common, Cond.selects RX2 yX2_common yX2_common, Cond.code yX2_common cX2_common 3 (some .int), Cond.methodLink RX0 43 yX2_beginsWith, Cond.instanceMethod yX2_beginsWith, Cond.selects RX2 yX2_beginsWith yX2_beginsWith, Cond.code yX2_beginsWith cX2_beginsWith 2 (some .boolean), Cond.methodLink RX2 44 yX2_hasAt, Cond.instanceMethod yX2_hasAt, Cond.selects RX2 yX2_hasAt yX2_hasAt, Cond.code yX2_hasAt cX2_hasAt 4 (some .boolean), Cond.methodLink RX5 223 yX0_readInto, Cond.instanceMethod yX0_readInto, Cond.selects RX0 yX0_readInto yX0_readInto, Cond.code yX0_readInto cX0_readInto 6 (some .boolean), Cond.methodLink RX0 58 yX2_clear, Cond.instanceMethod yX2_clear, Cond.selects RX2 yX2_clear yX2_clear, Cond.code yX2_clear cX2_clear 1 none, Cond.methodLink RX0 47 yX2_size]
def wsL_read_r3 : List Cond := [Cond.instanceMethod yX2_size, Cond.selects RX2 yX2_size yX2_size, Cond.code yX2_size cX2_size 1 (some .int), Cond.methodLink RX0 88 yX0_signRead, Cond.instanceMethod yX0_signRead, Cond.selects RX0 yX0_signRead yX0_signRead, Cond.code yX0_signRead cX0_signRead 4 (some .char), Cond.methodLink RX0 92 yX2_hasAt, Cond.static yX5_signOf, Cond.code yX5_signOf cX5_signOf 1 (some .char), Cond.methodLink RX0 24 yX2_append, Cond.instanceMethod yX2_append, Cond.selects RX2 yX2_append yX2_append, Cond.code yX2_append cX2_append 2 none, Cond.methodLink RX0 54 yX0_codeOf, Cond.instanceMethod yX0_codeOf, Cond.selects RX0 yX0_codeOf yX0_codeOf, Cond.code yX0_codeOf cX0_codeOf 2 (some (.object "Stemspan$Row")), Cond.fieldLink RX0 31 "Stemspan$CodeBook" "nothing" "LStemspan$Row;", Cond.static yX5_isSign, Cond.code yX5_isSign cX5_isSign 1 (some .boolean), Cond.methodLink RX5 150 yX2_become, Cond.instanceMethod yX2_become, Cond.selects RX2 yX2_become yX2_become]
def wsL_read_r4 : List Cond := [Cond.code yX2_become cX2_become 2 none, Cond.methodLink RX2 29 yX2_becomePart, Cond.instanceMethod yX2_becomePart, Cond.selects RX2 yX2_becomePart yX2_becomePart, Cond.code yX2_becomePart cX2_becomePart 5 none, Cond.methodLink RX2 33 yX2_clear, Cond.methodLink RX2 36 yX2_at, Cond.instanceMethod yX2_at, Cond.selects RX2 yX2_at yX2_at, Cond.code yX2_at cX2_at 2 (some .char), Cond.methodLink RX2 25 yX2_append, Cond.methodLink RX5 60 yX2_size]
def wsL_read : List Cond := .codeWith yL_read cL_read 3 (some .int) [(0, 8, 11, 44), (0, 8, 14, 31)] :: ((wsL_read_r1 ++ (wsL_read_r2 ++ (wsL_read_r3 ++ wsL_read_r4))) ++ wsX50 ++ wsX00 ++ wsX20 ++ (vx_atS RX5 118 "java/lang/UnsupportedOperationException" ["java/lang/RuntimeException", "java/lang/Exception"]).filter goodWord ++ (vx_atS RX5 95 "java/util/NoSuchElementException" ["java/lang/RuntimeException", "java/lang/Exception"]).filter goodWord)
def wsL_writeAll_r1 : List Cond := [Cond.classLink RL 44 "java/lang/UnsupportedOperationException", Cond.classLink RL 15 "java/lang/IllegalStateException", Cond.methodLink RL 79 yX5_writeAll, Cond.instanceMethod yX5_writeAll, Cond.selects RX5 yX5_writeAll yX5_writeAll, Cond.initialized RX5, Cond.code yX5_writeAll cX5_writeAll 5 (some .int), Cond.classLink RX5 114 "java/lang/UnsupportedOperationException", Cond.initialized "java/lang/UnsupportedOperationException", Cond.classLink RX5 64 "java/lang/IllegalStateException", Cond.initialized "java/lang/IllegalStateException", Cond.fieldLink RX5 31 "Stemspan" "book" "LStemspan$CodeBook;", Cond.fieldLink RX5 24 "Stemspan" "list" "LStemspan$WordList;", Cond.methodLink RX5 218 yX0_isOrderly, Cond.instanceMethod yX0_isOrderly, Cond.selects RX0 yX0_isOrderly yX0_isOrderly, Cond.initialized RX0, Cond.code yX0_isOrderly cX0_isOrderly 3 (some .boolean), Cond.fieldLink RX0 11 "Stemspan$CodeBook" "codes" "[LStemspan$Row;", Cond.methodLink RX0 39 yX2_compareWith, Cond.instanceMethod yX2_compareWith, Cond.selects RX2 yX2_compareWith yX2_compareWith, Cond.initialized RX2, Cond.code yX2_compareWith cX2_compareWith 3 (some .int)]
def wsL_writeAll_r2 : List Cond := [Cond.fieldLink RX2 21 "Stemspan$Row" "length" "I", Cond.fieldLink RX2 15 "Stemspan$Row" "signs" "[C", Cond.methodLink RX2 40 yX2_common, Cond.instanceMethod yX2_common, Cond.selects RX2 yX2_common yX2_common, Cond.code yX2_common cX2_common 3 (some .int), Cond.methodLink RX0 43 yX2_beginsWith, Cond.instanceMethod yX2_beginsWith, Cond.selects RX2 yX2_beginsWith yX2_beginsWith, Cond.code yX2_beginsWith cX2_beginsWith 2 (some .boolean), Cond.methodLink RX2 44 yX2_hasAt, Cond.instanceMethod yX2_hasAt, Cond.selects RX2 yX2_hasAt yX2_hasAt, Cond.code yX2_hasAt cX2_hasAt 4 (some .boolean), Cond.methodLink RX5 229 yX0_mostWritten, Cond.instanceMethod yX0_mostWritten, Cond.selects RX0 yX0_mostWritten yX0_mostWritten, Cond.code yX0_mostWritten cX0_mostWritten 4 (some .int), Cond.methodLink RX0 75 Lib.Math.max.name, Cond.static Lib.Math.max.name, Cond.initialized "java/lang/Math", Cond.code Lib.Math.max.name Lib.Math.max.code 2 (some .int), Cond.methodLink RX0 65 yX4_size, Cond.instanceMethod yX4_size]
def wsL_writeAll_r3 : List Cond := [Cond.selects RX4 yX4_size yX4_size, Cond.initialized RX4, Cond.code yX4_size cX4_size 1 (some .int), Cond.fieldLink RX4 28 "Stemspan$WordList" "count" "I", Cond.methodLink RX0 68 yX4_rowAt, Cond.instanceMethod yX4_rowAt, Cond.selects RX4 yX4_rowAt yX4_rowAt, Cond.code yX4_rowAt cX4_rowAt 2 (some (.object "Stemspan$Row")), Cond.fieldLink RX4 11 "Stemspan$WordList" "rows" "[LStemspan$Row;", Cond.fieldLink RX4 24 "Stemspan$WordList" "nothing" "LStemspan$Row;", Cond.methodLink RX0 72 yX0_sizeWritten, Cond.instanceMethod yX0_sizeWritten, Cond.selects RX0 yX0_sizeWritten yX0_sizeWritten, Cond.code yX0_sizeWritten cX0_sizeWritten 4 (some .int), Cond.methodLink RX0 47 yX2_size, Cond.instanceMethod yX2_size, Cond.selects RX2 yX2_size yX2_size, Cond.code yX2_size cX2_size 1 (some .int), Cond.methodLink RX0 51 yX2_at, Cond.instanceMethod yX2_at, Cond.selects RX2 yX2_at yX2_at, Cond.code yX2_at cX2_at 2 (some .char), Cond.methodLink RX0 54 yX0_codeOf, Cond.instanceMethod yX0_codeOf]
def wsL_writeAll_r4 : List Cond := [Cond.selects RX0 yX0_codeOf yX0_codeOf, Cond.code yX0_codeOf cX0_codeOf 2 (some (.object "Stemspan$Row")), Cond.fieldLink RX0 31 "Stemspan$CodeBook" "nothing" "LStemspan$Row;", Cond.static yX5_isSign, Cond.code yX5_isSign cX5_isSign 1 (some .boolean), Cond.methodLink RX5 235 yX0_writeWords, Cond.instanceMethod yX0_writeWords, Cond.selects RX0 yX0_writeWords yX0_writeWords, Cond.code yX0_writeWords cX0_writeWords 3 none, Cond.methodLink RX0 81 yX0_writtenAt, Cond.instanceMethod yX0_writtenAt, Cond.selects RX0 yX0_writtenAt yX0_writtenAt, Cond.code yX0_writtenAt cX0_writtenAt 2 (some (.object "Stemspan$Row")), Cond.fieldLink RX0 28 "Stemspan$CodeBook" "written" "[LStemspan$Row;", Cond.methodLink RX0 84 yX0_writeInto, Cond.instanceMethod yX0_writeInto, Cond.selects RX0 yX0_writeInto yX0_writeInto, Cond.code yX0_writeInto cX0_writeInto 4 none, Cond.methodLink RX0 58 yX2_clear, Cond.instanceMethod yX2_clear, Cond.selects RX2 yX2_clear yX2_clear, Cond.code yX2_clear cX2_clear 1 none, Cond.methodLink RX0 61 yX2_appendAll, Cond.instanceMethod yX2_appendAll]
def wsL_writeAll_r5 : List Cond := [Cond.selects RX2 yX2_appendAll yX2_appendAll, Cond.code yX2_appendAll cX2_appendAll 3 none, Cond.methodLink RX2 25 yX2_append, Cond.instanceMethod yX2_append, Cond.selects RX2 yX2_append yX2_append, Cond.code yX2_append cX2_append 2 none, Cond.methodLink RX5 123 yX4_size, Cond.methodLink RX5 146 yX4_rowAt, Cond.methodLink RX5 239 yX0_writtenAt, Cond.methodLink RX5 60 yX2_size, Cond.methodLink RX5 150 yX2_become, Cond.instanceMethod yX2_become, Cond.selects RX2 yX2_become yX2_become, Cond.code yX2_become cX2_become 2 none, Cond.methodLink RX2 29 yX2_becomePart, Cond.instanceMethod yX2_becomePart, Cond.selects RX2 yX2_becomePart yX2_becomePart, Cond.code yX2_becomePart cX2_becomePart 5 none, Cond.methodLink RX2 33 yX2_clear, Cond.methodLink RX2 36 yX2_at]
def wsL_writeAll : List Cond := .codeWith yL_writeAll cL_writeAll 3 (some .int) [(0, 8, 11, 44), (0, 8, 14, 15)] :: ((wsL_writeAll_r1 ++ (wsL_writeAll_r2 ++ (wsL_writeAll_r3 ++ (wsL_writeAll_r4 ++ wsL_writeAll_r5)))) ++ wsX50 ++ wsX00 ++ wsX20 ++ wsX40 ++ (vx_atS RX5 118 "java/lang/UnsupportedOperationException" ["java/lang/RuntimeException", "java/lang/Exception"]).filter goodWord ++ (vx_atS RX5 68 "java/lang/IllegalStateException" ["java/lang/RuntimeException", "java/lang/Exception"]).filter goodWord)
def wsL_law0_r1 : List Cond := [Cond.classLink RL 8 RX5, Cond.instantiable RX5 6, Cond.initialized RX5, Cond.classLink RL 83 RX6, Cond.instantiable RX6 14, Cond.initialized RX6, Cond.arrayClass .long, Cond.methodLink RL 82 yX5_init, Cond.instanceMethod yX5_init, Cond.code yX5_init cX5_init 1 none, Cond.methodLink RX5 1 objectInit, Cond.instanceMethod objectInit, Cond.code objectInit ⟨#[0xb1]⟩ 1 none, Cond.classLink RX5 7 RX2, Cond.instantiable RX2 2, Cond.initialized RX2, Cond.fieldLink RX5 14 "Stemspan" "text" "LStemspan$Row;", Cond.fieldLink RX5 18 "Stemspan" "spare" "LStemspan$Row;", Cond.classLink RX5 21 RX4, Cond.instantiable RX4 4, Cond.initialized RX4, Cond.fieldLink RX5 24 "Stemspan" "list" "LStemspan$WordList;", Cond.classLink RX5 28 RX0, Cond.instantiable RX0 3]
def wsL_law0_r2 : List Cond := [Cond.initialized RX0, Cond.fieldLink RX5 31 "Stemspan" "book" "LStemspan$CodeBook;", Cond.classLink RX5 35 RX1, Cond.instantiable RX1 4, Cond.initialized RX1, Cond.fieldLink RX5 38 "Stemspan" "cutter" "LStemspan$Cutter;", Cond.classLink RX5 42 RX3, Cond.instantiable RX3 2, Cond.initialized RX3, Cond.fieldLink RX5 45 "Stemspan" "theorem" "LStemspan$Theorem;", Cond.methodLink RX5 11 yX2_init, Cond.instanceMethod yX2_init, Cond.code yX2_init cX2_init 2 none, Cond.methodLink RX2 3 objectInit, Cond.methodLink RX2 9 Lib.Math.max.name, Cond.static Lib.Math.max.name, Cond.initialized "java/lang/Math", Cond.code Lib.Math.max.name Lib.Math.max.code 2 (some .int), Cond.arrayClass .char, Cond.fieldLink RX2 15 "Stemspan$Row" "signs" "[C", Cond.fieldLink RX2 21 "Stemspan$Row" "length" "I", Cond.methodLink RX5 23 yX4_init, Cond.instanceMethod yX4_init, Cond.code yX4_init cX4_init 2 none]
def wsL_law0_r3 : List Cond := [Cond.methodLink RX4 3 objectInit, Cond.classLink RX4 9 RX2, Cond.fieldLink RX4 11 "Stemspan$WordList" "rows" "[LStemspan$Row;", Cond.arrayClass .int, Cond.fieldLink RX4 20 "Stemspan$WordList" "numbers" "[I", Cond.fieldLink RX4 24 "Stemspan$WordList" "nothing" "LStemspan$Row;", Cond.fieldLink RX4 28 "Stemspan$WordList" "count" "I", Cond.methodLink RX4 17 yX2_init, Cond.methodLink RX5 30 yX0_init, Cond.instanceMethod yX0_init, Cond.code yX0_init cX0_init 2 none, Cond.methodLink RX0 3 objectInit, Cond.classLink RX0 9 RX2, Cond.fieldLink RX0 11 "Stemspan$CodeBook" "codes" "[LStemspan$Row;", Cond.fieldLink RX0 28 "Stemspan$CodeBook" "written" "[LStemspan$Row;", Cond.fieldLink RX0 31 "Stemspan$CodeBook" "nothing" "LStemspan$Row;", Cond.methodLink RX0 17 yX2_init, Cond.static yX5_signOf, Cond.code yX5_signOf cX5_signOf 1 (some .char), Cond.methodLink RX0 24 yX2_append, Cond.instanceMethod yX2_append, Cond.selects RX2 yX2_append yX2_append, Cond.code yX2_append cX2_append 2 none, Cond.methodLink RX5 37 yX1_init]
def wsL_law0_r4 : List Cond := [Cond.instanceMethod yX1_init, Cond.code yX1_init cX1_init 1 none, Cond.methodLink RX1 3 objectInit, Cond.fieldLink RX1 9 "Stemspan$Cutter" "fits" "[I", Cond.fieldLink RX1 15 "Stemspan$Cutter" "ways" "[J", Cond.fieldLink RX1 19 "Stemspan$Cutter" "least" "[I", Cond.fieldLink RX1 22 "Stemspan$Cutter" "size" "I", Cond.methodLink RX5 44 yX3_init, Cond.instanceMethod yX3_init, Cond.code yX3_init cX3_init 1 none, Cond.methodLink RX3 3 objectInit, Cond.classLink RX3 9 RX2, Cond.fieldLink RX3 14 "Stemspan$Theorem" "part" "LStemspan$Row;", Cond.fieldLink RX3 20 "Stemspan$Theorem" "both" "LStemspan$Row;", Cond.methodLink RX3 11 yX2_init, Cond.methodLink RL 85 yX6_init, Cond.instanceMethod yX6_init, Cond.code yX6_init cX6_init 2 none, Cond.methodLink RX6 7 objectInit, Cond.fieldLink RX6 13 "StemspanModel" "text" "[C", Cond.fieldLink RX6 17 "StemspanModel" "word" "[C", Cond.fieldLink RX6 20 "StemspanModel" "codes" "[C", Cond.fieldLink RX6 23 "StemspanModel" "made" "[C", Cond.fieldLink RX6 26 "StemspanModel" "wordLength" "[I"]
def wsL_law0_r5 : List Cond := [Cond.fieldLink RX6 30 "StemspanModel" "number" "[I", Cond.fieldLink RX6 33 "StemspanModel" "codeLength" "[I", Cond.fieldLink RX6 36 "StemspanModel" "order" "[I", Cond.fieldLink RX6 39 "StemspanModel" "ranks" "[I", Cond.fieldLink RX6 42 "StemspanModel" "waysFrom" "[J", Cond.fieldLink RX6 46 "StemspanModel" "fewestFrom" "[I", Cond.methodLink RL 86 yL_type, Cond.static yL_type, Cond.initialized RL, Cond.codeWith yL_type cL_type 4 (some .int) [(0, 9, 12, 13), (0, 9, 15, 15)], Cond.classLink RL 13 "java/lang/IllegalArgumentException", Cond.classLink RL 15 "java/lang/IllegalStateException", Cond.methodLink RL 7 yX5_type, Cond.instanceMethod yX5_type, Cond.selects RX5 yX5_type yX5_type, Cond.code yX5_type cX5_type 2 (some .int), Cond.classLink RX5 53 "java/lang/IllegalArgumentException", Cond.initialized "java/lang/IllegalArgumentException", Cond.classLink RX5 64 "java/lang/IllegalStateException", Cond.initialized "java/lang/IllegalStateException", Cond.methodLink RX5 49 yX5_isSign, Cond.static yX5_isSign, Cond.code yX5_isSign cX5_isSign 1 (some .boolean), Cond.methodLink RX5 60 yX2_size]
def wsL_law0_r6 : List Cond := [Cond.instanceMethod yX2_size, Cond.selects RX2 yX2_size yX2_size, Cond.code yX2_size cX2_size 1 (some .int), Cond.methodLink RX5 69 yX2_append, Cond.methodLink RL 91 yX6_type, Cond.instanceMethod yX6_type, Cond.selects RX6 yX6_type yX6_type, Cond.code yX6_type cX6_type 2 (some .int), Cond.fieldLink RX6 49 "StemspanModel" "length" "I", Cond.methodLink RX6 73 yX6_isSign, Cond.static yX6_isSign, Cond.code yX6_isSign cX6_isSign 1 (some .boolean), Cond.methodLink RX6 77 yX6_fails, Cond.instanceMethod yX6_fails, Cond.selects RX6 yX6_fails yX6_fails, Cond.code yX6_fails cX6_fails 2 (some .boolean), Cond.fieldLink RX6 1 "StemspanModel" "code" "I", Cond.methodLink RL 92 yX6_thrown, Cond.instanceMethod yX6_thrown, Cond.selects RX6 yX6_thrown yX6_thrown, Cond.code yX6_thrown cX6_thrown 1 (some .int), Cond.methodLink RL 95 yL_typeMore, Cond.static yL_typeMore, Cond.codeWith yL_typeMore cL_typeMore 5 (some .int) [(0, 10, 13, 13), (0, 10, 17, 15)]]
def wsL_law0_r7 : List Cond := [Cond.methodLink RL 17 yX5_typeMore, Cond.instanceMethod yX5_typeMore, Cond.selects RX5 yX5_typeMore yX5_typeMore, Cond.code yX5_typeMore cX5_typeMore 5 (some .int), Cond.constant RX5 73 (1679615), Cond.methodLink RX5 78 yX5_signOf, Cond.methodLink RL 98 yX6_typeMore, Cond.instanceMethod yX6_typeMore, Cond.selects RX6 yX6_typeMore yX6_typeMore, Cond.code yX6_typeMore cX6_typeMore 5 (some .int), Cond.constant RX6 85 (1679615), Cond.methodLink RX6 81 yX6_in, Cond.static yX6_in, Cond.code yX6_in cX6_in 3 (some .boolean), Cond.methodLink RL 99 yL_typeAt, Cond.static yL_typeAt, Cond.codeWith yL_typeAt cL_typeAt 5 (some .int) [(0, 10, 13, 25), (0, 10, 17, 13), (0, 10, 21, 15)], Cond.classLink RL 25 "java/lang/IndexOutOfBoundsException", Cond.methodLink RL 21 yX5_typeAt, Cond.instanceMethod yX5_typeAt, Cond.selects RX5 yX5_typeAt yX5_typeAt, Cond.code yX5_typeAt cX5_typeAt 3 (some .int), Cond.classLink RX5 82 "java/lang/IndexOutOfBoundsException", Cond.initialized "java/lang/IndexOutOfBoundsException"]
def wsL_law0_r8 : List Cond := [Cond.methodLink RX5 87 yX2_insert, Cond.instanceMethod yX2_insert, Cond.selects RX2 yX2_insert yX2_insert, Cond.code yX2_insert cX2_insert 4 none, Cond.methodLink RL 102 yX6_typeAt, Cond.instanceMethod yX6_typeAt, Cond.selects RX6 yX6_typeAt yX6_typeAt, Cond.code yX6_typeAt cX6_typeAt 4 (some .int), Cond.methodLink RL 103 yL_drop, Cond.static yL_drop, Cond.codeWith yL_drop cL_drop 3 (some .int) [(0, 8, 11, 31)], Cond.classLink RL 31 "java/util/NoSuchElementException", Cond.methodLink RL 27 yX5_drop, Cond.instanceMethod yX5_drop, Cond.selects RX5 yX5_drop yX5_drop, Cond.code yX5_drop cX5_drop 1 (some .int), Cond.classLink RX5 91 "java/util/NoSuchElementException", Cond.initialized "java/util/NoSuchElementException", Cond.methodLink RX5 96 yX2_removePart, Cond.instanceMethod yX2_removePart, Cond.selects RX2 yX2_removePart yX2_removePart, Cond.code yX2_removePart cX2_removePart 5 none, Cond.methodLink RL 106 yX6_drop, Cond.instanceMethod yX6_drop]
def wsL_law0_r9 : List Cond := [Cond.selects RX6 yX6_drop yX6_drop, Cond.code yX6_drop cX6_drop 1 (some .int), Cond.methodLink RL 107 yL_clip, Cond.static yL_clip, Cond.codeWith yL_clip cL_clip 5 (some .int) [(0, 10, 13, 25)], Cond.methodLink RL 33 yX5_clip, Cond.instanceMethod yX5_clip, Cond.selects RX5 yX5_clip yX5_clip, Cond.code yX5_clip cX5_clip 3 (some .int), Cond.methodLink RL 109 yX6_clip, Cond.instanceMethod yX6_clip, Cond.selects RX6 yX6_clip yX6_clip, Cond.code yX6_clip cX6_clip 4 (some .int), Cond.methodLink RL 110 yX5_wipe, Cond.instanceMethod yX5_wipe, Cond.selects RX5 yX5_wipe yX5_wipe, Cond.code yX5_wipe cX5_wipe 2 (some .int), Cond.methodLink RX5 102 yX2_clear, Cond.instanceMethod yX2_clear, Cond.selects RX2 yX2_clear yX2_clear, Cond.code yX2_clear cX2_clear 1 none, Cond.methodLink RL 113 yX6_wipe, Cond.instanceMethod yX6_wipe, Cond.selects RX6 yX6_wipe yX6_wipe]
def wsL_law0_r10 : List Cond := [Cond.code yX6_wipe cX6_wipe 2 (some .int), Cond.methodLink RL 114 yX5_turn, Cond.instanceMethod yX5_turn, Cond.selects RX5 yX5_turn yX5_turn, Cond.code yX5_turn cX5_turn 1 (some .boolean), Cond.methodLink RX5 105 yX2_reverse, Cond.instanceMethod yX2_reverse, Cond.selects RX2 yX2_reverse yX2_reverse, Cond.code yX2_reverse cX2_reverse 5 (some .boolean), Cond.methodLink RL 118 yX6_turn, Cond.instanceMethod yX6_turn, Cond.selects RX6 yX6_turn yX6_turn, Cond.code yX6_turn cX6_turn 3 (some .boolean), Cond.methodLink RL 119 yL_signAt, Cond.static yL_signAt, Cond.codeWith yL_signAt cL_signAt 4 (some .int) [(0, 9, 12, 25)], Cond.methodLink RL 36 yX5_signAt, Cond.instanceMethod yX5_signAt, Cond.selects RX5 yX5_signAt yX5_signAt, Cond.code yX5_signAt cX5_signAt 2 (some .char), Cond.methodLink RX5 109 yX2_at, Cond.instanceMethod yX2_at, Cond.selects RX2 yX2_at yX2_at, Cond.code yX2_at cX2_at 2 (some .char)]
def wsL_law0_r11 : List Cond := [Cond.methodLink RL 122 yX6_signAt, Cond.instanceMethod yX6_signAt, Cond.selects RX6 yX6_signAt yX6_signAt, Cond.code yX6_signAt cX6_signAt 2 (some .char), Cond.methodLink RL 123 yL_put, Cond.static yL_put, Cond.codeWith yL_put cL_put 4 (some .int) [(0, 9, 12, 13), (0, 9, 15, 44), (0, 9, 18, 15)], Cond.classLink RL 44 "java/lang/UnsupportedOperationException", Cond.methodLink RL 40 yX5_put, Cond.instanceMethod yX5_put, Cond.selects RX5 yX5_put yX5_put, Cond.code yX5_put cX5_put 4 (some .int), Cond.classLink RX5 114 "java/lang/UnsupportedOperationException", Cond.initialized "java/lang/UnsupportedOperationException", Cond.methodLink RX5 119 yX4_rankOf, Cond.instanceMethod yX4_rankOf, Cond.selects RX4 yX4_rankOf yX4_rankOf, Cond.code yX4_rankOf cX4_rankOf 3 (some .int), Cond.methodLink RX4 40 yX4_countLess, Cond.instanceMethod yX4_countLess, Cond.selects RX4 yX4_countLess yX4_countLess, Cond.code yX4_countLess cX4_countLess 3 (some .int), Cond.methodLink RX4 32 yX4_rowAt, Cond.instanceMethod yX4_rowAt]
def wsL_law0_r12 : List Cond := [Cond.selects RX4 yX4_rowAt yX4_rowAt, Cond.code yX4_rowAt cX4_rowAt 2 (some (.object "Stemspan$Row")), Cond.methodLink RX4 36 yX2_compareWith, Cond.instanceMethod yX2_compareWith, Cond.selects RX2 yX2_compareWith yX2_compareWith, Cond.code yX2_compareWith cX2_compareWith 3 (some .int), Cond.methodLink RX2 40 yX2_common, Cond.instanceMethod yX2_common, Cond.selects RX2 yX2_common yX2_common, Cond.code yX2_common cX2_common 3 (some .int), Cond.methodLink RX5 123 yX4_size, Cond.instanceMethod yX4_size, Cond.selects RX4 yX4_size yX4_size, Cond.code yX4_size cX4_size 1 (some .int), Cond.methodLink RX5 126 yX4_insert, Cond.instanceMethod yX4_insert, Cond.selects RX4 yX4_insert yX4_insert, Cond.code yX4_insert cX4_insert 6 none, Cond.methodLink RX4 43 yX2_become, Cond.instanceMethod yX2_become, Cond.selects RX2 yX2_become yX2_become, Cond.code yX2_become cX2_become 2 none, Cond.methodLink RX2 29 yX2_becomePart, Cond.instanceMethod yX2_becomePart]
def wsL_law0_r13 : List Cond := [Cond.selects RX2 yX2_becomePart yX2_becomePart, Cond.code yX2_becomePart cX2_becomePart 5 none, Cond.methodLink RX2 33 yX2_clear, Cond.methodLink RX2 36 yX2_at, Cond.methodLink RX2 25 yX2_append, Cond.methodLink RX5 129 yX4_numberAt, Cond.instanceMethod yX4_numberAt, Cond.selects RX4 yX4_numberAt yX4_numberAt, Cond.code yX4_numberAt cX4_numberAt 2 (some .int), Cond.methodLink RX5 133 yX4_setNumber, Cond.instanceMethod yX4_setNumber, Cond.selects RX4 yX4_setNumber yX4_setNumber, Cond.code yX4_setNumber cX4_setNumber 3 none, Cond.methodLink RL 125 yX6_put, Cond.instanceMethod yX6_put, Cond.selects RX6 yX6_put yX6_put, Cond.code yX6_put cX6_put 5 (some .int), Cond.fieldLink RX6 59 "StemspanModel" "many" "I", Cond.methodLink RX6 86 yX6_own, Cond.instanceMethod yX6_own, Cond.selects RX6 yX6_own yX6_own, Cond.code yX6_own cX6_own 2 (some .int), Cond.methodLink RX6 62 yX6_beside, Cond.instanceMethod yX6_beside]
def wsL_law0_r14 : List Cond := [Cond.selects RX6 yX6_beside yX6_beside, Cond.code yX6_beside cX6_beside 3 (some .int), Cond.methodLink RX6 52 yX6_like, Cond.instanceMethod yX6_like, Cond.selects RX6 yX6_like yX6_like, Cond.code yX6_like cX6_like 4 (some .int), Cond.methodLink RL 126 yL_take, Cond.static yL_take, Cond.codeWith yL_take cL_take 3 (some .int) [(0, 8, 11, 31)], Cond.methodLink RL 46 yX5_take, Cond.instanceMethod yX5_take, Cond.selects RX5 yX5_take yX5_take, Cond.code yX5_take cX5_take 3 (some .int), Cond.methodLink RX5 138 yX4_remove, Cond.instanceMethod yX4_remove, Cond.selects RX4 yX4_remove yX4_remove, Cond.code yX4_remove cX4_remove 4 none, Cond.methodLink RL 128 yX6_take, Cond.instanceMethod yX6_take, Cond.selects RX6 yX6_take yX6_take, Cond.code yX6_take cX6_take 3 (some .int), Cond.methodLink RX6 90 yX6_goes, Cond.instanceMethod yX6_goes, Cond.selects RX6 yX6_goes yX6_goes]
def wsL_law0_r15 : List Cond := [Cond.code yX6_goes cX6_goes 3 none, Cond.methodLink RL 129 yL_number, Cond.static yL_number, Cond.codeWith yL_number cL_number 3 (some .int) [(0, 8, 11, 31)], Cond.methodLink RL 49 yX5_number, Cond.instanceMethod yX5_number, Cond.selects RX5 yX5_number yX5_number, Cond.code yX5_number cX5_number 2 (some .int), Cond.methodLink RL 131 yX6_number, Cond.instanceMethod yX6_number, Cond.selects RX6 yX6_number yX6_number, Cond.code yX6_number cX6_number 2 (some .int), Cond.methodLink RL 132 yX5_words, Cond.instanceMethod yX5_words, Cond.selects RX5 yX5_words yX5_words, Cond.code yX5_words cX5_words 1 (some .int), Cond.methodLink RL 135 yX6_words, Cond.instanceMethod yX6_words, Cond.selects RX6 yX6_words yX6_words, Cond.code yX6_words cX6_words 1 (some .int), Cond.methodLink RL 136 yX5_rank, Cond.instanceMethod yX5_rank, Cond.selects RX5 yX5_rank yX5_rank, Cond.code yX5_rank cX5_rank 1 (some .int)]
def wsL_law0_r16 : List Cond := [Cond.methodLink RX5 141 yX4_countLess, Cond.methodLink RL 139 yX6_rank, Cond.instanceMethod yX6_rank, Cond.selects RX6 yX6_rank yX6_rank, Cond.code yX6_rank cX6_rank 3 (some .int), Cond.methodLink RL 140 yL_word, Cond.static yL_word, Cond.codeWith yL_word cL_word 4 (some .int) [(0, 9, 12, 25)], Cond.methodLink RL 52 yX5_word, Cond.instanceMethod yX5_word, Cond.selects RX5 yX5_word yX5_word, Cond.code yX5_word cX5_word 2 (some .int), Cond.methodLink RX5 146 yX4_rowAt, Cond.methodLink RX5 150 yX2_become, Cond.methodLink RL 142 yX6_word, Cond.instanceMethod yX6_word, Cond.selects RX6 yX6_word yX6_word, Cond.code yX6_word cX6_word 2 (some .int), Cond.methodLink RX6 94 yX6_orders, Cond.instanceMethod yX6_orders, Cond.selects RX6 yX6_orders yX6_orders, Cond.code yX6_orders cX6_orders 2 none, Cond.methodLink RX6 70 yX6_rankOf, Cond.instanceMethod yX6_rankOf]
def wsL_law0_r17 : List Cond := [Cond.selects RX6 yX6_rankOf yX6_rankOf, Cond.code yX6_rankOf cX6_rankOf 4 (some .int), Cond.methodLink RX6 66 yX6_isLess, Cond.instanceMethod yX6_isLess, Cond.selects RX6 yX6_isLess yX6_isLess, Cond.code yX6_isLess cX6_isLess 4 (some .boolean), Cond.methodLink RX6 56 yX6_likeWords, Cond.instanceMethod yX6_likeWords, Cond.selects RX6 yX6_likeWords yX6_likeWords, Cond.code yX6_likeWords cX6_likeWords 4 (some .int), Cond.methodLink RX6 97 yX6_becomes, Cond.instanceMethod yX6_becomes, Cond.selects RX6 yX6_becomes yX6_becomes, Cond.code yX6_becomes cX6_becomes 3 none, Cond.methodLink RL 143 yL_near, Cond.static yL_near, Cond.codeWith yL_near cL_near 4 (some .int) [(0, 9, 12, 13), (0, 9, 15, 31)], Cond.methodLink RL 55 yX5_near, Cond.instanceMethod yX5_near, Cond.selects RX5 yX5_near yX5_near, Cond.code yX5_near cX5_near 3 (some .int), Cond.methodLink RX5 156 yX5_rankNear, Cond.instanceMethod yX5_rankNear, Cond.selects RX5 yX5_rankNear yX5_rankNear]
def wsL_law0_r18 : List Cond := [Cond.code yX5_rankNear cX5_rankNear 2 (some .int), Cond.methodLink RX5 276 yX4_countNotGreater, Cond.instanceMethod yX4_countNotGreater, Cond.selects RX4 yX4_countNotGreater yX4_countNotGreater, Cond.code yX4_countNotGreater cX4_countNotGreater 3 (some .int), Cond.methodLink RL 145 yX6_near, Cond.instanceMethod yX6_near, Cond.selects RX6 yX6_near yX6_near, Cond.code yX6_near cX6_near 7 (some .int), Cond.methodLink RL 146 yX5_begun, Cond.instanceMethod yX5_begun, Cond.selects RX5 yX5_begun yX5_begun, Cond.code yX5_begun cX5_begun 1 (some .int), Cond.methodLink RX5 162 yX4_countBegun, Cond.instanceMethod yX4_countBegun, Cond.selects RX4 yX4_countBegun yX4_countBegun, Cond.code yX4_countBegun cX4_countBegun 4 (some .int), Cond.methodLink RX4 47 yX2_beginsWith, Cond.instanceMethod yX2_beginsWith, Cond.selects RX2 yX2_beginsWith yX2_beginsWith, Cond.code yX2_beginsWith cX2_beginsWith 2 (some .boolean), Cond.methodLink RX2 44 yX2_hasAt, Cond.instanceMethod yX2_hasAt, Cond.selects RX2 yX2_hasAt yX2_hasAt]
def wsL_law0_r19 : List Cond := [Cond.code yX2_hasAt cX2_hasAt 4 (some .boolean), Cond.methodLink RL 149 yX6_begun, Cond.instanceMethod yX6_begun, Cond.selects RX6 yX6_begun yX6_begun, Cond.code yX6_begun cX6_begun 3 (some .int), Cond.methodLink RX6 100 yX6_isBegun, Cond.instanceMethod yX6_isBegun, Cond.selects RX6 yX6_isBegun yX6_isBegun, Cond.code yX6_isBegun cX6_isBegun 2 (some .boolean), Cond.methodLink RL 150 yL_begunAt, Cond.static yL_begunAt, Cond.codeWith yL_begunAt cL_begunAt 4 (some .int) [(0, 9, 12, 31)], Cond.methodLink RL 58 yX5_begunAt, Cond.instanceMethod yX5_begunAt, Cond.selects RX5 yX5_begunAt yX5_begunAt, Cond.code yX5_begunAt cX5_begunAt 3 (some .int), Cond.methodLink RX5 165 yX4_rankBegun, Cond.instanceMethod yX4_rankBegun, Cond.selects RX4 yX4_rankBegun yX4_rankBegun, Cond.code yX4_rankBegun cX4_rankBegun 5 (some .int), Cond.methodLink RL 152 yX6_begunAt, Cond.instanceMethod yX6_begunAt, Cond.selects RX6 yX6_begunAt yX6_begunAt, Cond.code yX6_begunAt cX6_begunAt 6 (some .int)]
def wsL_law0_r20 : List Cond := [Cond.methodLink RL 153 yX5_sum, Cond.instanceMethod yX5_sum, Cond.selects RX5 yX5_sum yX5_sum, Cond.code yX5_sum cX5_sum 1 (some .int), Cond.methodLink RX5 169 yX4_sumBegun, Cond.instanceMethod yX4_sumBegun, Cond.selects RX4 yX4_sumBegun yX4_sumBegun, Cond.code yX4_sumBegun cX4_sumBegun 4 (some .int), Cond.methodLink RX4 51 yX4_numberAt, Cond.methodLink RL 156 yX6_sum, Cond.instanceMethod yX6_sum, Cond.selects RX6 yX6_sum yX6_sum, Cond.code yX6_sum cX6_sum 3 (some .int), Cond.methodLink RL 157 yX5_gone, Cond.instanceMethod yX5_gone, Cond.selects RX5 yX5_gone yX5_gone, Cond.code yX5_gone cX5_gone 1 (some .int), Cond.methodLink RX5 172 yX4_removeBegun, Cond.instanceMethod yX4_removeBegun, Cond.selects RX4 yX4_removeBegun yX4_removeBegun, Cond.code yX4_removeBegun cX4_removeBegun 4 (some .int), Cond.methodLink RX4 55 yX4_remove, Cond.methodLink RL 160 yX6_gone, Cond.instanceMethod yX6_gone]
def wsL_law0_r21 : List Cond := [Cond.selects RX6 yX6_gone yX6_gone, Cond.code yX6_gone cX6_gone 3 (some .int), Cond.methodLink RL 161 yL_longest, Cond.static yL_longest, Cond.codeWith yL_longest cL_longest 4 (some .int) [(0, 9, 12, 25)], Cond.methodLink RL 61 yX5_longest, Cond.instanceMethod yX5_longest, Cond.selects RX5 yX5_longest yX5_longest, Cond.code yX5_longest cX5_longest 2 (some .int), Cond.methodLink RX5 175 yX4_longestAt, Cond.instanceMethod yX4_longestAt, Cond.selects RX4 yX4_longestAt yX4_longestAt, Cond.code yX4_longestAt cX4_longestAt 5 (some .int), Cond.methodLink RX4 66 Lib.Math.max.name, Cond.methodLink RX4 58 yX2_hasAt, Cond.methodLink RX4 62 yX2_size, Cond.methodLink RL 163 yX6_longest, Cond.instanceMethod yX6_longest, Cond.selects RX6 yX6_longest yX6_longest, Cond.code yX6_longest cX6_longest 2 (some .int), Cond.methodLink RX6 103 yX6_longestAt, Cond.instanceMethod yX6_longestAt, Cond.selects RX6 yX6_longestAt yX6_longestAt, Cond.code yX6_longestAt cX6_longestAt 4 (some .int)]
def wsL_law0_r22 : List Cond := [Cond.methodLink RL 164 yX5_shared, Cond.instanceMethod yX5_shared, Cond.selects RX5 yX5_shared yX5_shared, Cond.code yX5_shared cX5_shared 1 (some .int), Cond.methodLink RX5 178 yX4_mostCommon, Cond.instanceMethod yX4_mostCommon, Cond.selects RX4 yX4_mostCommon yX4_mostCommon, Cond.code yX4_mostCommon cX4_mostCommon 4 (some .int), Cond.methodLink RX4 72 yX2_common, Cond.methodLink RL 167 yX6_shared, Cond.instanceMethod yX6_shared, Cond.selects RX6 yX6_shared yX6_shared, Cond.code yX6_shared cX6_shared 3 (some .int), Cond.methodLink RL 168 yL_twin, Cond.static yL_twin, Cond.codeWith yL_twin cL_twin 3 (some .int) [(0, 8, 11, 31)], Cond.methodLink RL 64 yX5_twin, Cond.instanceMethod yX5_twin, Cond.selects RX5 yX5_twin yX5_twin, Cond.code yX5_twin cX5_twin 1 (some .int), Cond.methodLink RX5 183 yX4_mostCommonOfTwo, Cond.instanceMethod yX4_mostCommonOfTwo, Cond.selects RX4 yX4_mostCommonOfTwo yX4_mostCommonOfTwo, Cond.code yX4_mostCommonOfTwo cX4_mostCommonOfTwo 4 (some .int)]
def wsL_law0_r23 : List Cond := [Cond.methodLink RL 170 yX6_twin, Cond.instanceMethod yX6_twin, Cond.selects RX6 yX6_twin yX6_twin, Cond.code yX6_twin cX6_twin 4 (some .int), Cond.methodLink RL 171 yX5_pieces, Cond.instanceMethod yX5_pieces, Cond.selects RX5 yX5_pieces yX5_pieces, Cond.code yX5_pieces cX5_pieces 1 (some .int), Cond.methodLink RX5 186 yX1_look, Cond.instanceMethod yX1_look, Cond.selects RX1 yX1_look yX1_look, Cond.code yX1_look cX1_look 5 none, Cond.methodLink RX1 31 Lib.Math.min.name, Cond.static Lib.Math.min.name, Cond.code Lib.Math.min.name Lib.Math.min.code 2 (some .int), Cond.methodLink RX1 26 yX2_size, Cond.methodLink RX1 37 yX4_size, Cond.methodLink RX1 40 yX4_rowAt, Cond.methodLink RX1 44 yX2_hasAt, Cond.methodLink RX5 190 yX1_countLongest, Cond.instanceMethod yX1_countLongest, Cond.selects RX1 yX1_countLongest yX1_countLongest, Cond.code yX1_countLongest cX1_countLongest 3 (some .int), Cond.methodLink RX1 52 yX1_longestFit]
def wsL_law0_r24 : List Cond := [Cond.instanceMethod yX1_longestFit, Cond.selects RX1 yX1_longestFit yX1_longestFit, Cond.code yX1_longestFit cX1_longestFit 3 (some .int), Cond.methodLink RX1 48 yX1_fitsAt, Cond.instanceMethod yX1_fitsAt, Cond.selects RX1 yX1_fitsAt yX1_fitsAt, Cond.code yX1_fitsAt cX1_fitsAt 3 (some .boolean), Cond.methodLink RL 174 yX6_pieces, Cond.instanceMethod yX6_pieces, Cond.selects RX6 yX6_pieces yX6_pieces, Cond.code yX6_pieces cX6_pieces 3 (some .int), Cond.methodLink RL 175 yL_piece, Cond.static yL_piece, Cond.codeWith yL_piece cL_piece 4 (some .int) [(0, 9, 12, 31)], Cond.methodLink RL 67 yX5_piece, Cond.instanceMethod yX5_piece, Cond.selects RX5 yX5_piece yX5_piece, Cond.code yX5_piece cX5_piece 3 (some .int), Cond.methodLink RX5 193 yX1_sizeOfLongest, Cond.instanceMethod yX1_sizeOfLongest, Cond.selects RX1 yX1_sizeOfLongest yX1_sizeOfLongest, Cond.code yX1_sizeOfLongest cX1_sizeOfLongest 4 (some .int), Cond.methodLink RL 177 yX6_piece, Cond.instanceMethod yX6_piece]
def wsL_law0_r25 : List Cond := [Cond.selects RX6 yX6_piece yX6_piece, Cond.code yX6_piece cX6_piece 4 (some .int), Cond.methodLink RL 178 yX5_cuts, Cond.instanceMethod yX5_cuts, Cond.selects RX5 yX5_cuts yX5_cuts, Cond.code yX5_cuts cX5_cuts 1 (some .long), Cond.methodLink RX5 198 yX1_countWays, Cond.instanceMethod yX1_countWays, Cond.selects RX1 yX1_countWays yX1_countWays, Cond.code yX1_countWays cX1_countWays 4 (some .long), Cond.methodLink RL 182 yX6_cuts, Cond.instanceMethod yX6_cuts, Cond.selects RX6 yX6_cuts yX6_cuts, Cond.code yX6_cuts cX6_cuts 1 (some .long), Cond.methodLink RX6 106 yX6_cutsAll, Cond.instanceMethod yX6_cutsAll, Cond.selects RX6 yX6_cutsAll yX6_cutsAll, Cond.code yX6_cutsAll cX6_cutsAll 5 none, Cond.methodLink RL 183 yX5_fewest, Cond.instanceMethod yX5_fewest, Cond.selects RX5 yX5_fewest yX5_fewest, Cond.code yX5_fewest cX5_fewest 1 (some .int), Cond.methodLink RX5 202 yX1_leastPieces, Cond.instanceMethod yX1_leastPieces]
def wsL_law0_r26 : List Cond := [Cond.selects RX1 yX1_leastPieces yX1_leastPieces, Cond.code yX1_leastPieces cX1_leastPieces 3 (some .int), Cond.methodLink RX1 56 yX1_lesser, Cond.static yX1_lesser, Cond.code yX1_lesser cX1_lesser 2 (some .int), Cond.methodLink RL 186 yX6_fewest, Cond.instanceMethod yX6_fewest, Cond.selects RX6 yX6_fewest yX6_fewest, Cond.code yX6_fewest cX6_fewest 1 (some .int), Cond.methodLink RL 187 yL_code, Cond.static yL_code, Cond.codeWith yL_code cL_code 4 (some .int) [(0, 9, 12, 13), (0, 9, 15, 44)], Cond.methodLink RL 70 yX5_code, Cond.instanceMethod yX5_code, Cond.selects RX5 yX5_code yX5_code, Cond.code yX5_code cX5_code 4 (some .int), Cond.methodLink RX5 207 yX0_codeOf, Cond.instanceMethod yX0_codeOf, Cond.selects RX0 yX0_codeOf yX0_codeOf, Cond.code yX0_codeOf cX0_codeOf 2 (some (.object "Stemspan$Row")), Cond.methodLink RL 189 yX6_code, Cond.instanceMethod yX6_code, Cond.selects RX6 yX6_code yX6_code, Cond.code yX6_code cX6_code 5 (some .int)]
def wsL_law0_r27 : List Cond := [Cond.methodLink RL 190 yL_write, Cond.static yL_write, Cond.codeWith yL_write cL_write 3 (some .int) [(0, 8, 11, 15)], Cond.methodLink RL 73 yX5_write, Cond.instanceMethod yX5_write, Cond.selects RX5 yX5_write yX5_write, Cond.code yX5_write cX5_write 1 (some .int), Cond.methodLink RX5 211 yX0_sizeWritten, Cond.instanceMethod yX0_sizeWritten, Cond.selects RX0 yX0_sizeWritten yX0_sizeWritten, Cond.code yX0_sizeWritten cX0_sizeWritten 4 (some .int), Cond.methodLink RX0 47 yX2_size, Cond.methodLink RX0 51 yX2_at, Cond.methodLink RX0 54 yX0_codeOf, Cond.methodLink RX5 214 yX0_writeInto, Cond.instanceMethod yX0_writeInto, Cond.selects RX0 yX0_writeInto yX0_writeInto, Cond.code yX0_writeInto cX0_writeInto 4 none, Cond.methodLink RX0 58 yX2_clear, Cond.methodLink RX0 61 yX2_appendAll, Cond.instanceMethod yX2_appendAll, Cond.selects RX2 yX2_appendAll yX2_appendAll, Cond.code yX2_appendAll cX2_appendAll 3 none, Cond.methodLink RL 192 yX6_write]
def wsL_law0_r28 : List Cond := [Cond.instanceMethod yX6_write, Cond.selects RX6 yX6_write yX6_write, Cond.code yX6_write cX6_write 3 (some .int), Cond.methodLink RX6 112 yX6_puts, Cond.instanceMethod yX6_puts, Cond.selects RX6 yX6_puts yX6_puts, Cond.code yX6_puts cX6_puts 5 (some .int), Cond.methodLink RL 193 yL_read, Cond.static yL_read, Cond.codeWith yL_read cL_read 3 (some .int) [(0, 8, 11, 44), (0, 8, 14, 31)], Cond.methodLink RL 76 yX5_read, Cond.instanceMethod yX5_read, Cond.selects RX5 yX5_read yX5_read, Cond.code yX5_read cX5_read 1 (some .int), Cond.methodLink RX5 218 yX0_isOrderly, Cond.instanceMethod yX0_isOrderly, Cond.selects RX0 yX0_isOrderly yX0_isOrderly, Cond.code yX0_isOrderly cX0_isOrderly 3 (some .boolean), Cond.methodLink RX0 39 yX2_compareWith, Cond.methodLink RX0 43 yX2_beginsWith, Cond.methodLink RX5 223 yX0_readInto, Cond.instanceMethod yX0_readInto, Cond.selects RX0 yX0_readInto yX0_readInto, Cond.code yX0_readInto cX0_readInto 6 (some .boolean)]
def wsL_law0_r29 : List Cond := [Cond.methodLink RX0 88 yX0_signRead, Cond.instanceMethod yX0_signRead, Cond.selects RX0 yX0_signRead yX0_signRead, Cond.code yX0_signRead cX0_signRead 4 (some .char), Cond.methodLink RX0 92 yX2_hasAt, Cond.methodLink RL 195 yX6_read, Cond.instanceMethod yX6_read, Cond.selects RX6 yX6_read yX6_read, Cond.code yX6_read cX6_read 4 (some .int), Cond.methodLink RX6 116 yX6_codeAt, Cond.instanceMethod yX6_codeAt, Cond.selects RX6 yX6_codeAt yX6_codeAt, Cond.code yX6_codeAt cX6_codeAt 4 (some .int), Cond.methodLink RX6 119 yX6_areOrderly, Cond.instanceMethod yX6_areOrderly, Cond.selects RX6 yX6_areOrderly yX6_areOrderly, Cond.code yX6_areOrderly cX6_areOrderly 3 (some .boolean), Cond.methodLink RX6 109 yX6_isAhead, Cond.instanceMethod yX6_isAhead, Cond.selects RX6 yX6_isAhead yX6_isAhead, Cond.code yX6_isAhead cX6_isAhead 4 (some .boolean), Cond.methodLink RL 196 yL_writeAll, Cond.static yL_writeAll, Cond.codeWith yL_writeAll cL_writeAll 3 (some .int) [(0, 8, 11, 44), (0, 8, 14, 15)]]
def wsL_law0_r30 : List Cond := [Cond.methodLink RL 79 yX5_writeAll, Cond.instanceMethod yX5_writeAll, Cond.selects RX5 yX5_writeAll yX5_writeAll, Cond.code yX5_writeAll cX5_writeAll 5 (some .int), Cond.methodLink RX5 229 yX0_mostWritten, Cond.instanceMethod yX0_mostWritten, Cond.selects RX0 yX0_mostWritten yX0_mostWritten, Cond.code yX0_mostWritten cX0_mostWritten 4 (some .int), Cond.methodLink RX0 75 Lib.Math.max.name, Cond.methodLink RX0 65 yX4_size, Cond.methodLink RX0 68 yX4_rowAt, Cond.methodLink RX0 72 yX0_sizeWritten, Cond.methodLink RX5 235 yX0_writeWords, Cond.instanceMethod yX0_writeWords, Cond.selects RX0 yX0_writeWords yX0_writeWords, Cond.code yX0_writeWords cX0_writeWords 3 none, Cond.methodLink RX0 81 yX0_writtenAt, Cond.instanceMethod yX0_writtenAt, Cond.selects RX0 yX0_writtenAt yX0_writtenAt, Cond.code yX0_writtenAt cX0_writtenAt 2 (some (.object "Stemspan$Row")), Cond.methodLink RX0 84 yX0_writeInto, Cond.methodLink RX5 239 yX0_writtenAt, Cond.methodLink RL 198 yX6_writeAll, Cond.instanceMethod yX6_writeAll]
def wsL_law0_r31 : List Cond := [Cond.selects RX6 yX6_writeAll yX6_writeAll, Cond.code yX6_writeAll cX6_writeAll 6 (some .int), Cond.methodLink RX6 123 yX6_written, Cond.instanceMethod yX6_written, Cond.selects RX6 yX6_written yX6_written, Cond.code yX6_written cX6_written 4 (some .int), Cond.methodLink RL 199 yX5_isTrue, Cond.instanceMethod yX5_isTrue, Cond.selects RX5 yX5_isTrue yX5_isTrue, Cond.code yX5_isTrue cX5_isTrue 1 (some .boolean), Cond.methodLink RX5 242 yX3_beginningsHold, Cond.instanceMethod yX3_beginningsHold, Cond.selects RX3 yX3_beginningsHold yX3_beginningsHold, Cond.code yX3_beginningsHold cX3_beginningsHold 5 (some .boolean), Cond.methodLink RX3 27 Lib.Math.min.name, Cond.methodLink RX3 23 yX2_size, Cond.methodLink RX3 33 yX2_becomePart, Cond.methodLink RX3 37 yX3_standTogether, Cond.instanceMethod yX3_standTogether, Cond.selects RX3 yX3_standTogether yX3_standTogether, Cond.code yX3_standTogether cX3_standTogether 6 (some .boolean), Cond.methodLink RX3 41 yX4_countLess, Cond.methodLink RX3 47 yX4_countBegun, Cond.methodLink RX3 50 yX4_size]
def wsL_law0_r32 : List Cond := [Cond.methodLink RX3 51 yX4_rowAt, Cond.methodLink RX3 55 yX2_beginsWith, Cond.methodLink RX5 246 yX3_longestHolds, Cond.instanceMethod yX3_longestHolds, Cond.selects RX3 yX3_longestHolds yX3_longestHolds, Cond.code yX3_longestHolds cX3_longestHolds 4 (some .boolean), Cond.methodLink RX3 59 yX4_longestAt, Cond.methodLink RX3 63 yX3_longestByOrder, Cond.instanceMethod yX3_longestByOrder, Cond.selects RX3 yX3_longestByOrder yX3_longestByOrder, Cond.code yX3_longestByOrder cX3_longestByOrder 4 (some .int), Cond.methodLink RX3 67 yX4_countNotGreater, Cond.methodLink RX3 70 yX2_common, Cond.methodLink RX5 249 yX3_commonHolds, Cond.instanceMethod yX3_commonHolds, Cond.selects RX3 yX3_commonHolds yX3_commonHolds, Cond.code yX3_commonHolds cX3_commonHolds 5 (some .boolean), Cond.methodLink RX3 76 Lib.Math.max.name, Cond.methodLink RX3 73 yX4_mostCommon, Cond.methodLink RX5 252 yX3_twinsHold, Cond.instanceMethod yX3_twinsHold, Cond.selects RX3 yX3_twinsHold yX3_twinsHold, Cond.code yX3_twinsHold cX3_twinsHold 4 (some .boolean), Cond.methodLink RX3 79 yX4_mostCommonOfTwo]
def wsL_law0_r33 : List Cond := [Cond.methodLink RX5 256 yX3_cutsHold, Cond.instanceMethod yX3_cutsHold, Cond.selects RX3 yX3_cutsHold yX3_cutsHold, Cond.code yX3_cutsHold cX3_cutsHold 6 (some .boolean), Cond.methodLink RX3 82 yX1_fitsAt, Cond.methodLink RX3 88 yX1_countWays, Cond.methodLink RX5 260 yX3_fewestHolds, Cond.instanceMethod yX3_fewestHolds, Cond.selects RX3 yX3_fewestHolds yX3_fewestHolds, Cond.code yX3_fewestHolds cX3_fewestHolds 4 (some .boolean), Cond.methodLink RX3 92 yX1_leastPieces, Cond.methodLink RX3 95 yX1_countLongest, Cond.methodLink RX3 98 yX3_endsAreWords, Cond.instanceMethod yX3_endsAreWords, Cond.selects RX3 yX3_endsAreWords yX3_endsAreWords, Cond.code yX3_endsAreWords cX3_endsAreWords 5 (some .boolean), Cond.methodLink RX3 101 yX4_rankOf, Cond.methodLink RX5 264 yX3_codesHold, Cond.instanceMethod yX3_codesHold, Cond.selects RX3 yX3_codesHold yX3_codesHold, Cond.code yX3_codesHold cX3_codesHold 5 (some .boolean), Cond.methodLink RX3 104 yX0_isOrderly, Cond.methodLink RX3 110 yX0_writeWords, Cond.methodLink RX3 114 yX3_keepsOrder]
def wsL_law0_r34 : List Cond := [Cond.static yX3_keepsOrder, Cond.code yX3_keepsOrder cX3_keepsOrder 6 (some .boolean), Cond.methodLink RX3 118 yX0_writtenAt, Cond.methodLink RX3 121 yX2_compareWith, Cond.methodLink RL 202 yX6_isTrue, Cond.instanceMethod yX6_isTrue, Cond.selects RX6 yX6_isTrue yX6_isTrue, Cond.code yX6_isTrue cX6_isTrue 2 (some .boolean), Cond.methodLink RX6 126 yX6_isSideBySide, Cond.instanceMethod yX6_isSideBySide, Cond.selects RX6 yX6_isSideBySide yX6_isSideBySide, Cond.code yX6_isSideBySide cX6_isSideBySide 8 (some .boolean), Cond.methodLink RX6 129 yX6_areTwins, Cond.instanceMethod yX6_areTwins, Cond.selects RX6 yX6_areTwins yX6_areTwins, Cond.code yX6_areTwins cX6_areTwins 5 (some .boolean), Cond.methodLink RL 203 yX5_checksum, Cond.instanceMethod yX5_checksum, Cond.selects RX5 yX5_checksum yX5_checksum, Cond.code yX5_checksum cX5_checksum 5 (some .long), Cond.constantLong RX5 268 (7), Cond.constantLong RX5 274 (31), Cond.methodLink RX5 270 yX2_addTo, Cond.instanceMethod yX2_addTo]
def wsL_law0_r35 : List Cond := [Cond.selects RX2 yX2_addTo yX2_addTo, Cond.code yX2_addTo cX2_addTo 6 (some .long), Cond.constantLong RX2 48 (31), Cond.methodLink RL 206 yX6_checksum, Cond.instanceMethod yX6_checksum, Cond.selects RX6 yX6_checksum yX6_checksum, Cond.code yX6_checksum cX6_checksum 6 (some .long), Cond.constantLong RX6 132 (7), Cond.constantLong RX6 134 (31)]
def wsL_law0 : List Cond := (wsL_law0_r1 ++ (wsL_law0_r2 ++ (wsL_law0_r3 ++ (wsL_law0_r4 ++ (wsL_law0_r5 ++ (wsL_law0_r6 ++ (wsL_law0_r7 ++ (wsL_law0_r8 ++ (wsL_law0_r9 ++ (wsL_law0_r10 ++ (wsL_law0_r11 ++ (wsL_law0_r12 ++ (wsL_law0_r13 ++ (wsL_law0_r14 ++ (wsL_law0_r15 ++ (wsL_law0_r16 ++ (wsL_law0_r17 ++ (wsL_law0_r18 ++ (wsL_law0_r19 ++ (wsL_law0_r20 ++ (wsL_law0_r21 ++ (wsL_law0_r22 ++ (wsL_law0_r23 ++ (wsL_law0_r24 ++ (wsL_law0_r25 ++ (wsL_law0_r26 ++ (wsL_law0_r27 ++ (wsL_law0_r28 ++ (wsL_law0_r29 ++ (wsL_law0_r30 ++ (wsL_law0_r31 ++ (wsL_law0_r32 ++ (wsL_law0_r33 ++ (wsL_law0_r34 ++ wsL_law0_r35)))))))))))))))))))))))))))))))))) ++ wsX50 ++ wsX60 ++ wsX20 ++ wsX40 ++ wsX00 ++ wsX10 ++ wsX30 ++ ([] : List Cond)
def wsL_law : List Cond := wsL_law0 ++ (vx_atS RX5 57 "java/lang/IllegalArgumentException" ["java/lang/RuntimeException", "java/lang/Exception"]).filter goodWord ++ (vx_atS RX5 68 "java/lang/IllegalStateException" ["java/lang/RuntimeException", "java/lang/Exception"]).filter goodWord ++ (vx_atS RX5 86 "java/lang/IndexOutOfBoundsException" ["java/lang/RuntimeException", "java/lang/Exception"]).filter goodWord ++ (vx_atS RX5 95 "java/util/NoSuchElementException" ["java/lang/RuntimeException", "java/lang/Exception"]).filter goodWord ++ (vx_atS RX5 118 "java/lang/UnsupportedOperationException" ["java/lang/RuntimeException", "java/lang/Exception"]).filter goodWord
abbrev vwCl : List vw_C := [(RX0, TX0, 3), (RX1, TX1, 4), (RX2, TX2, 2), (RX3, TX3, 2), (RX4, TX4, 4), (RX5, TX5, 6), (RX6, TX6, 14)]
end
section
/-! THE WORLDS: all objects of a system at addresses ad 0 .. ad (N-1); what each holds is a function of the state -/
def pw (N : Nat) (ad : Nat → Nat) (ob : Nat → va_E) : va_W := (List.range N).map (fun o => (ad o, ob o))
theorem pw_get {N : Nat} {ad : Nat → Nat} {ob : Nat → va_E} {o : Nat} (h : o < N) : (pw N ad ob)[o]? = some (ad o, ob o) := by
  simp [pw, h]
theorem pw_of {N : Nat} {ad : Nat → Nat} {ob : Nat → va_E} {o : Nat} {q : Nat × va_E} (h : (pw N ad ob)[o]? = some q) : o < N ∧ q = (ad o, ob o) := by
  have hl : o < (pw N ad ob).length := (List.getElem?_eq_some_iff.mp h).1
  have hN : o < N := by simpa [pw] using hl
  rw [pw_get hN] at h
  exact ⟨hN, (Option.some.inj h).symm⟩
theorem pw_set {N : Nat} {ad : Nat → Nat} {ob : Nat → va_E} {o : Nat} {e : va_E} (h : o < N) : (pw N ad ob).set o (ad o, e) = pw N ad (va_up ob o e) := by
  refine List.ext_getElem? fun k => ?_
  rw [List.getElem?_set]
  by_cases hk : k < N
  · by_cases he : o = k
    · subst he
      have : o < (pw N ad ob).length := by simpa [pw] using h
      rw [if_pos rfl, if_pos this, pw_get hk]
      simp [va_up]
    · rw [if_neg he, pw_get hk, pw_get hk]
      simp [va_up, Ne.symm he]
  · have h1 : (pw N ad (va_up ob o e))[k]? = none := by
      rw [List.getElem?_eq_none_iff]; simp [pw]; omega
    have h2 : (pw N ad ob)[k]? = none := by
      rw [List.getElem?_eq_none_iff]; simp [pw]; omega
    rw [h1, h2, if_neg (by omega)]
theorem pw_push {N : Nat} {ad : Nat → Nat} {ob : Nat → va_E} {q : Nat} {e : va_E} : pw N ad ob ++ [(q, e)] = pw (N + 1) (va_up ad N q) (va_up ob N e) := by
  simp only [pw, List.range_succ, List.map_append, List.map_cons, List.map_nil]
  congr 1
  · refine List.map_congr_left fun o ho => ?_
    have : o < N := List.mem_range.mp ho
    simp [va_up, show o ≠ N by omega]
  · simp [va_up]
/-- the state of a system: numbers, arrays of numbers, one array of longs, one of references (as object numbers) -/
abbrev St : Type := (Nat → Int32) × (Nat → Nat → Int32) × (Nat → Int64) × (Nat → Nat)
def gI (σ : St) (k : Nat) : Int32 := σ.1 k
def gA (σ : St) (a i : Nat) : Int32 := σ.2.1 a i
def gL (σ : St) (i : Nat) : Int64 := σ.2.2.1 i
def gR (σ : St) (i : Nat) : Nat := σ.2.2.2 i
def pI (σ : St) (k : Nat) (v : Int32) : St := (fun j => if j = k then v else σ.1 j, σ.2)
def pA (σ : St) (a i : Nat) (v : Int32) : St := (σ.1, fun b => if b = a then upd (σ.2.1 b) i v else σ.2.1 b, σ.2.2)
def pL (σ : St) (i : Nat) (v : Int64) : St := (σ.1, σ.2.1, fun j => if j = i then v else σ.2.2.1 j, σ.2.2.2)
def pR (σ : St) (i : Nat) (v : Nat) : St := (σ.1, σ.2.1, σ.2.2.1, fun j => if j = i then v else σ.2.2.2 j)
theorem gI_pI (σ : St) (k j : Nat) (v : Int32) : gI (pI σ k v) j = if j = k then v else gI σ j := rfl
theorem gA_pI (σ : St) (k a i : Nat) (v : Int32) : gA (pI σ k v) a i = gA σ a i := rfl
theorem gL_pI (σ : St) (k i : Nat) (v : Int32) : gL (pI σ k v) i = gL σ i := rfl
theorem gR_pI (σ : St) (k i : Nat) (v : Int32) : gR (pI σ k v) i = gR σ i := rfl
theorem gI_pA (σ : St) (a i j : Nat) (v : Int32) : gI (pA σ a i v) j = gI σ j := rfl
theorem gA_pA (σ : St) (a i b j : Nat) (v : Int32) : gA (pA σ a i v) b j = if b = a ∧ j = i then v else gA σ b j := by
  show (if b = a then upd (σ.2.1 b) i v else σ.2.1 b) j = _
  by_cases h : b = a
  · simp [h, upd, gA]
  · simp [h, gA]
theorem gL_pA (σ : St) (a i j : Nat) (v : Int32) : gL (pA σ a i v) j = gL σ j := rfl
theorem gR_pA (σ : St) (a i j : Nat) (v : Int32) : gR (pA σ a i v) j = gR σ j := rfl
theorem gI_pL (σ : St) (i j : Nat) (v : Int64) : gI (pL σ i v) j = gI σ j := rfl
theorem gA_pL (σ : St) (i a j : Nat) (v : Int64) : gA (pL σ i v) a j = gA σ a j := rfl
theorem gL_pL (σ : St) (i j : Nat) (v : Int64) : gL (pL σ i v) j = if j = i then v else gL σ j := rfl
theorem gR_pL (σ : St) (i j : Nat) (v : Int64) : gR (pL σ i v) j = gR σ j := rfl
theorem gI_pR (σ : St) (i j v : Nat) : gI (pR σ i v) j = gI σ j := rfl
theorem gA_pR (σ : St) (i a j v : Nat) : gA (pR σ i v) a j = gA σ a j := rfl
theorem gL_pR (σ : St) (i j v : Nat) : gL (pR σ i v) j = gL σ j := rfl
theorem gR_pR (σ : St) (i j v : Nat) : gR (pR σ i v) j = if j = i then v else gR σ j := rfl
theorem gA_up {σ : St} {o i : Nat} {v : Int32} : gA (pA σ o i v) o = upd (gA σ o) i v := by
  funext j
  rw [gA_pA]
  simp [upd]
theorem gA_ne {σ : St} {o i b : Nat} {v : Int32} (h : b ≠ o) : gA (pA σ o i v) b = gA σ b := by
  funext j
  rw [gA_pA, if_neg (fun q => h q.1)]
/-- the kinds of the class's objects, in the order in which they are made -/
def kiCs : List Nat := [2, 0, 1, 0, 1, 3, 4] ++ (List.replicate 24 [0, 1]).flatten ++ [5, 0, 1, 6, 7] ++ (List.replicate 6 [0, 1]).flatten ++ [8] ++ (List.replicate 24 [0, 1]).flatten ++ [0, 1, 9, 5, 11, 5, 12, 0, 1, 0, 1]
def kiC (o : Nat) : Nat := kiCs.getD o 99
def rowB (o : Nat) : Bool := kiC o == 0
/-- how many places the array of a row, or of whole numbers, has -/
def capC (o : Nat) : Nat := if o < 7 then 24 else if o < 56 then (if o = 55 then 24 else 10) else if o < 58 then 0 else if o < 72 then 3 else if o < 121 then 30 else if o < 123 then 0 else if o < 127 then 25 else 24
def obC (ad : Nat → Nat) (ci : Nat → ClassId) (σ : St) (o : Nat) : va_E :=
  match kiC o with
  | 0 => .inr (2, [.ref (ad (o + 1)), .int (gI σ o)])
  | 1 => .inl (ci 0, capC (o - 1), .inl (gA σ (o - 1)))
  | 2 => .inr (5, [.ref (ad 1), .ref (ad 3), .ref (ad 5), .ref (ad 58), .ref (ad 123), .ref (ad 127)])
  | 3 => .inr (4, [.ref (ad 6), .ref (ad 55), .ref (ad 56), .int (gI σ o)])
  | 4 => .inl (ci 3, 24, .inr (.inr (.inr (.inr (fun i => some (ad (gR σ i)))))))
  | 5 => .inl (ci 1, capC o, .inl (gA σ o))
  | 6 => .inr (0, [.ref (ad 59), .ref (ad 72), .ref (ad 121)])
  | 7 => .inl (ci 3, 6, .inr (.inr (.inr (.inr (fun i => some (ad (60 + 2 * i)))))))
  | 8 => .inl (ci 3, 24, .inr (.inr (.inr (.inr (fun i => some (ad (73 + 2 * i)))))))
  | 9 => .inr (1, [.ref (ad 124), .ref (ad 125), .ref (ad 126), .int (gI σ o)])
  | 11 => .inl (ci 2, 25, .inr (.inl (gL σ)))
  | 12 => .inr (3, [.ref (ad 128), .ref (ad 130)])
  | _ => .inr (99, [])
def kiMs : List Nat := [2, 1, 1, 1, 1, 5, 5, 5, 5, 5, 11, 5]
def kiM (o : Nat) : Nat := kiMs.getD o 99
def capM (o : Nat) : Nat := [0, 24, 240, 18, 72, 24, 24, 6, 24, 24, 25, 25].getD o 0
def obM (ad : Nat → Nat) (ci : Nat → ClassId) (σ : St) (o : Nat) : va_E :=
  match kiM o with
  | 1 => .inl (ci 0, capM o, .inl (gA σ o))
  | 2 => .inr (6, [.int (gI σ 0), .ref (ad 1), .ref (ad 2), .ref (ad 3), .ref (ad 4), .ref (ad 5), .ref (ad 6), .ref (ad 7), .int (gI σ 1), .int (gI σ 2), .ref (ad 8), .ref (ad 9), .ref (ad 10), .ref (ad 11)])
  | 5 => .inl (ci 1, capM o, .inl (gA σ o))
  | 11 => .inl (ci 2, 25, .inr (.inl (gL σ)))
  | _ => .inr (99, [])
theorem kiC_lt {o k : Nat} (h : kiC o = k) (hk : k < 99) : o < 132 := by
  rcases Nat.lt_or_ge o 132 with q | q
  · exact q
  · have : kiCs.length = 132 := by decide +kernel
    rw [kiC, List.getD_eq_getElem?_getD, List.getElem?_eq_none_iff.mpr (by omega)] at h
    have : (99 : Nat) = k := h
    omega
theorem rowB_k {o : Nat} (h : rowB o = true) : kiC o = 0 := by simpa [rowB] using h
theorem rowB_lt {o : Nat} (h : rowB o = true) : o < 132 := kiC_lt (rowB_k h) (by decide)
theorem rowB_all : ∀ o, o < 132 → kiC o = 0 → o + 1 < 132 ∧ kiC (o + 1) = 1 ∧ o ≠ 0 := by decide +kernel
theorem rowB_1 {o : Nat} (h : rowB o = true) : o + 1 < 132 ∧ kiC (o + 1) = 1 := ⟨(rowB_all o (rowB_lt h) (rowB_k h)).1, (rowB_all o (rowB_lt h) (rowB_k h)).2.1⟩
theorem rowB_code : ∀ i, i < 6 → rowB (60 + 2 * i) = true := by decide +kernel
theorem rowB_written : ∀ i, i < 24 → rowB (73 + 2 * i) = true := by decide +kernel
theorem obC_row {ad : Nat → Nat} {ci : Nat → ClassId} {σ : St} {o : Nat} (h : rowB o = true) : obC ad ci σ o = .inr (2, [.ref (ad (o + 1)), .int (gI σ o)]) := by
  unfold obC
  rw [rowB_k h]
  rfl
theorem obC_chars {ad : Nat → Nat} {ci : Nat → ClassId} {σ : St} {o : Nat} (h : rowB o = true) : obC ad ci σ (o + 1) = .inl (ci 0, capC o, .inl (gA σ o)) := by
  unfold obC
  rw [(rowB_1 h).2]
  rfl
theorem obC_ext {ad : Nat → Nat} {ci : Nat → ClassId} {σ : St} {o : Nat} {e : va_E} {τ : St} (h1 : e = obC ad ci τ o) (h2 : ∀ k, k ≠ o → obC ad ci σ k = obC ad ci τ k) : va_up (obC ad ci σ) o e = obC ad ci τ := by
  funext k
  by_cases hk : k = o
  · subst hk
    simp [va_up, h1]
  · simp [va_up, hk, h2 k hk]
theorem kiC_3 : ∀ o, o < 132 → kiC o = 3 → o = 5 := by decide +kernel
theorem kiC_9 : ∀ o, o < 132 → kiC o = 9 → o = 123 := by decide +kernel
theorem kiC_4 : ∀ o, o < 132 → kiC o = 4 → o = 6 := by decide +kernel
theorem kiC_11 : ∀ o, o < 132 → kiC o = 11 → o = 125 := by decide +kernel
theorem kiC_5 : ∀ o, o < 132 → kiC o = 5 → o = 55 ∨ o = 124 ∨ o = 126 := by decide +kernel
theorem kiC_1 : ∀ o, o < 132 → kiC o = 1 → kiC (o - 1) = 0 ∧ o - 1 + 1 = o := by decide +kernel
theorem obC_pI {ad : Nat → Nat} {ci : Nat → ClassId} {σ : St} {o : Nat} {v : Int32} {e : va_E} (he : e = obC ad ci (pI σ o v) o) : va_up (obC ad ci σ) o e = obC ad ci (pI σ o v) := by
  refine obC_ext he fun k hk => ?_
  have h1 : gI (pI σ o v) k = gI σ k := by rw [gI_pI, if_neg hk]
  unfold obC
  rw [h1]
  rfl
theorem obC_pI_row {ad : Nat → Nat} {ci : Nat → ClassId} {σ : St} {o : Nat} {v : Int32} (h : rowB o = true) : va_up (obC ad ci σ) o (.inr (2, [.ref (ad (o + 1)), .int v])) = obC ad ci (pI σ o v) := by
  refine obC_pI ?_
  rw [obC_row h, gI_pI, if_pos rfl]
theorem obC_pI_list {ad : Nat → Nat} {ci : Nat → ClassId} {σ : St} {v : Int32} : va_up (obC ad ci σ) 5 (.inr (4, [.ref (ad 6), .ref (ad 55), .ref (ad 56), .int v])) = obC ad ci (pI σ 5 v) := obC_pI rfl
theorem obC_pI_cut {ad : Nat → Nat} {ci : Nat → ClassId} {σ : St} {v : Int32} : va_up (obC ad ci σ) 123 (.inr (1, [.ref (ad 124), .ref (ad 125), .ref (ad 126), .int v])) = obC ad ci (pI σ 123 v) := obC_pI rfl
theorem obC_pA_row {ad : Nat → Nat} {ci : Nat → ClassId} {σ : St} {o i : Nat} {v : Int32} (h : rowB o = true) : va_up (obC ad ci σ) (o + 1) (.inl (ci 0, capC o, .inl (upd (gA σ o) i v))) = obC ad ci (pA σ o i v) := by
  refine obC_ext ?_ fun k hk => ?_
  · rw [obC_chars h]
    rw [gA_up]
  · have h1 : ∀ b, b ≠ o → gA (pA σ o i v) b = gA σ b := fun b hb => gA_ne hb
    unfold obC
    split <;> try rfl
    · rename_i hk1
      have h5 := kiC_1 k (kiC_lt hk1 (by decide)) hk1
      rw [h1 (k - 1) (fun q => hk (by omega))]
    · rename_i hk1
      rw [h1 k (fun q => by rw [q, rowB_k h] at hk1; cases hk1)]
theorem obC_pA_int {ad : Nat → Nat} {ci : Nat → ClassId} {σ : St} {o i : Nat} {v : Int32} (h : kiC o = 5) : va_up (obC ad ci σ) o (.inl (ci 1, capC o, .inl (upd (gA σ o) i v))) = obC ad ci (pA σ o i v) := by
  refine obC_ext ?_ fun k hk => ?_
  · unfold obC
    rw [h]
    show _ = Sum.inl (ci 1, capC o, Sum.inl (gA (pA σ o i v) o))
    rw [gA_up]
  · have h1 : ∀ b, b ≠ o → gA (pA σ o i v) b = gA σ b := fun b hb => gA_ne hb
    unfold obC
    split <;> try rfl
    · rename_i hk1
      have h5 := kiC_1 k (kiC_lt hk1 (by decide)) hk1
      rw [h1 (k - 1) (fun q => by rw [q, h] at h5; cases h5.1)]
    · rename_i hk1
      rw [h1 k hk]
theorem obC_pL {ad : Nat → Nat} {ci : Nat → ClassId} {σ : St} {i : Nat} {v : Int64} : va_up (obC ad ci σ) 125 (.inl (ci 2, 25, .inr (.inl (vp_updL (gL σ) i v)))) = obC ad ci (pL σ i v) := by
  refine obC_ext rfl fun k hk => ?_
  unfold obC
  split <;> try rfl
  rename_i hk1
  exact absurd (kiC_11 k (kiC_lt hk1 (by decide)) hk1) hk
theorem obC_pR {ad : Nat → Nat} {ci : Nat → ClassId} {σ : St} {i v : Nat} : va_up (obC ad ci σ) 6 (.inl (ci 3, 24, .inr (.inr (.inr (.inr (va_up (fun j => some (ad (gR σ j))) i (some (ad v)))))))) = obC ad ci (pR σ i v) := by
  refine obC_ext ?_ fun k hk => ?_
  · show _ = Sum.inl (ci 3, 24, Sum.inr (Sum.inr (Sum.inr (Sum.inr (fun j => some (ad (gR (pR σ i v) j)))))))
    congr 7
    funext j
    by_cases hj : j = i
    · simp [va_up, gR_pR, hj]
    · simp [va_up, gR_pR, hj]
  · unfold obC
    split <;> try rfl
    rename_i hk1
    exact absurd (kiC_4 k (kiC_lt hk1 (by decide)) hk1) hk
/-- every place of the words' rows names a row -/
def Rok (σ : St) : Prop := ∀ i, i < 24 → rowB (gR σ i) = true
theorem Rok_pR {σ : St} (h : Rok σ) {i v : Nat} (hv : rowB v = true) : Rok (pR σ i v) := by
  intro j hj
  rw [gR_pR]
  split
  · exact hv
  · exact h j hj
theorem obM_ext {ad : Nat → Nat} {ci : Nat → ClassId} {σ : St} {o : Nat} {e : va_E} {τ : St} (h1 : e = obM ad ci τ o) (h2 : ∀ k, k ≠ o → obM ad ci σ k = obM ad ci τ k) : va_up (obM ad ci σ) o e = obM ad ci τ := by
  funext k
  by_cases hk : k = o
  · subst hk
    simp [va_up, h1]
  · simp [va_up, hk, h2 k hk]
theorem kiM_lt {o k : Nat} (h : kiM o = k) (hk : k < 99) : o < 12 := by
  rcases Nat.lt_or_ge o 12 with q | q
  · exact q
  · have : kiMs.length = 12 := by decide +kernel
    rw [kiM, List.getD_eq_getElem?_getD, List.getElem?_eq_none_iff.mpr (by omega)] at h
    have : (99 : Nat) = k := h
    omega
theorem kiM_2 : ∀ o, o < 12 → kiM o = 2 → o = 0 := by decide +kernel
theorem kiM_11 : ∀ o, o < 12 → kiM o = 11 → o = 10 := by decide +kernel
theorem obM_pI {ad : Nat → Nat} {ci : Nat → ClassId} {σ : St} {k : Nat} {v : Int32} {e : va_E} (he : e = obM ad ci (pI σ k v) 0) : va_up (obM ad ci σ) 0 e = obM ad ci (pI σ k v) := by
  refine obM_ext he fun j hj => ?_
  unfold obM
  split <;> try rfl
  rename_i hk1
  exact absurd (kiM_2 j (kiM_lt hk1 (by decide)) hk1) hj
theorem obM_pA {ad : Nat → Nat} {ci : Nat → ClassId} {σ : St} {o i : Nat} {v : Int32} {e : va_E} (he : e = obM ad ci (pA σ o i v) o) : va_up (obM ad ci σ) o e = obM ad ci (pA σ o i v) := by
  refine obM_ext he fun k hk => ?_
  have h1 : gA (pA σ o i v) k = gA σ k := gA_ne hk
  unfold obM
  rw [h1]
  rfl
theorem obM_pL {ad : Nat → Nat} {ci : Nat → ClassId} {σ : St} {i : Nat} {v : Int64} : va_up (obM ad ci σ) 10 (.inl (ci 2, 25, .inr (.inl (vp_updL (gL σ) i v)))) = obM ad ci (pL σ i v) := by
  refine obM_ext rfl fun k hk => ?_
  unfold obM
  split <;> try rfl
  rename_i hk1
  exact absurd (kiM_11 k (kiM_lt hk1 (by decide)) hk1) hk
/-- the system's cells hold ob; nothing outside A has changed since H0 -/
def Sy (D : va_G) (N : Nat) (ad : Nat → Nat) (A : Nat → Prop) (H0 : Heap) (ob : Nat → va_E) (H : Heap) (locs : List Loc) : Prop :=
  va_P D vwCl (pw N ad ob) H ∧ va_D A (pw N ad ob) ∧ va_S A H0 H locs
section SYW
variable {p : Program} {l : Launch} {e : Env} {R : Room} {s : State} {m : MethodId} {args : Array Value} {below : List Frame} {meth : Method} {c : Code} {H : Heap} {locs : List Loc} {cells slots : Nat} {Q : State → Prop}
variable {cc : ByteArray} {pc : Nat} {ls : Array Slot} {rest : List Value} {D : va_G} {N : Nat} {ad : Nat → Nat} {A : Nat → Prop} {H0 : Heap} {ob : Nat → va_E} {tys : List (ClassId × FieldType)} {Ts : List Cond}
theorem w_get (hexec : p.tables.exec = Jvm.exec) (hb : c.code = cc) {own ref C : String} {T : u_T} {N1 ci index : Nat} (hts : ∀ w ∈ Ts, w.before args s = true) (hin : ∀ w ∈ u_ws C T N1, w ∈ Ts) (hown : s.vm.findClass own = some m.cls) (hK : va_K D vwCl tys s) (hY : Sy D N ad A H0 ob H locs) {o : Nat} (ho : o < N) {fs : List Value} (he : ob o = .inr (ci, fs)) (hc : vwCl[ci]? = some (C, T, N1)) (k : Nat) (hk : k < N1) (hlink : (Cond.fieldLink own index ref (T k).2.1 (T k).2.2.1).before args s = true) (hsame : (T k).1 = ref) {v : Value} (hv : fs[k]? = some v) (hdg : decode cc pc = .ok (.getfield index, 3))
    (kk : W p l e R s m args below meth c H locs cells slots Q (F0 m (pc + 3) ls (v :: rest))) : W p l e R s m args below meth c H locs cells slots Q (F0 m pc ls (.ref (ad o) :: rest)) :=
  va_get hexec hb hts hin hown hK hY.1 o (by rw [pw_get ho, he]) hc k hk hlink (fun x h => by rw [← hsame]; exact h) hv hdg kk
theorem w_put (hexec : p.tables.exec = Jvm.exec) (hb : c.code = cc) {own ref C : String} {T : u_T} {N1 ci index : Nat} (hts : ∀ w ∈ Ts, w.before args s = true) (hin : ∀ w ∈ u_ws C T N1, w ∈ Ts) (ty0 : Nat → FieldType) (hty : ∀ k, k < N1 → parseFieldDescriptor (T k).2.2.1 = some (ty0 k)) (hnm : ∀ a, a < N1 → ∀ b, b < N1 → a ≠ b → (T a).2.1 ≠ (T b).2.1) (hown : s.vm.findClass own = some m.cls) (hK : va_K D vwCl tys s) (hY : Sy D N ad A H0 ob H locs) {o : Nat} (ho : o < N) {fs : List Value} (he : ob o = .inr (ci, fs)) (hc : vwCl[ci]? = some (C, T, N1)) (k : Nat) (hk : k < N1) (hlink : (Cond.fieldLink own index ref (T k).2.1 (T k).2.2.1).before args s = true) (hsame : (T k).1 = ref) (hfin : (T k).2.2.2 = false) (hd : parseFieldDescriptor (T k).2.2.1 = some .int) {x : Int32} (hl : k < fs.length)
    (hdg : decode cc pc = .ok (.putfield index, 3)) {ob' : Nat → va_E} (hup : va_up ob o (.inr (ci, fs.set k (.int x))) = ob') (kk : ∀ (H1 : Heap) (locs1 : List Loc), Sy D N ad A H0 ob' H1 locs1 → W p l e R s m args below meth c H1 locs1 cells slots Q (F0 m (pc + 3) ls rest)) : W p l e R s m args below meth c H locs cells slots Q (F0 m pc ls (.int x :: .ref (ad o) :: rest)) := by
  refine va_put hexec hb hts hin ty0 hty hnm hown hK hY.1 hY.2.1 hY.2.2 o (by rw [pw_get ho, he]) hc k hk hlink (fun x h => by rw [← hsame]; exact h) hfin hd rfl rfl hl hdg fun H1 locs1 h1 h2 h3 => ?_
  rw [pw_set ho, hup] at h1 h2
  exact kk H1 locs1 ⟨h1, h2, h3⟩
theorem w_cald (hexec : p.tables.exec = Jvm.exec) (hb : c.code = cc) (hK : va_K D vwCl tys s) (hY : Sy D N ad A H0 ob H locs) {o : Nat} (ho : o < N) (t0 : Nat) {cA : ClassId} {n : Nat} {f : Nat → Int32} (ha : ob o = .inl (cA, n, .inl f)) (ht : tys[t0]? = some (cA, .char)) {i : Int32} (hin : vp_in i n) (hdg : decode cc pc = .ok (.caload, 1))
    (kk : W p l e R s m args below meth c H locs cells slots Q (F0 m (pc + 1) ls (.int (f i.toNatClampNeg) :: rest))) : W p l e R s m args below meth c H locs cells slots Q (F0 m pc ls (.int i :: .ref (ad o) :: rest)) :=
  va_cald hexec hb hK hY.1 o t0 (by rw [pw_get ho, ha]) ht hin hdg kk
theorem w_iald (hexec : p.tables.exec = Jvm.exec) (hb : c.code = cc) (hK : va_K D vwCl tys s) (hY : Sy D N ad A H0 ob H locs) {o : Nat} (ho : o < N) (t0 : Nat) {cA : ClassId} {n : Nat} {f : Nat → Int32} (ha : ob o = .inl (cA, n, .inl f)) (ht : tys[t0]? = some (cA, .int)) {i : Int32} (hin : vp_in i n) (hdg : decode cc pc = .ok (.iaload, 1))
    (kk : W p l e R s m args below meth c H locs cells slots Q (F0 m (pc + 1) ls (.int (f i.toNatClampNeg) :: rest))) : W p l e R s m args below meth c H locs cells slots Q (F0 m pc ls (.int i :: .ref (ad o) :: rest)) :=
  va_iald hexec hb hK hY.1 o t0 (by rw [pw_get ho, ha]) ht hin hdg kk
theorem w_lald (hexec : p.tables.exec = Jvm.exec) (hb : c.code = cc) (hK : va_K D vwCl tys s) (hY : Sy D N ad A H0 ob H locs) {o : Nat} (ho : o < N) (t0 : Nat) {cA : ClassId} {n : Nat} {f : Nat → Int64} (ha : ob o = .inl (cA, n, .inr (.inl f))) (ht : tys[t0]? = some (cA, .long)) {i : Int32} (hin : vp_in i n) (hdg : decode cc pc = .ok (.laload, 1))
    (kk : W p l e R s m args below meth c H locs cells slots Q (F0 m (pc + 1) ls (.long (f i.toNatClampNeg) :: rest))) : W p l e R s m args below meth c H locs cells slots Q (F0 m pc ls (.int i :: .ref (ad o) :: rest)) :=
  va_lald hexec hb hK hY.1 o t0 (by rw [pw_get ho, ha]) ht hin hdg kk
theorem w_aald (hexec : p.tables.exec = Jvm.exec) (hb : c.code = cc) (hK : va_K D vwCl tys s) (hY : Sy D N ad A H0 ob H locs) {o : Nat} (ho : o < N) (t0 : Nat) {cA : ClassId} {C : String} {n : Nat} {f : Nat → Nat} (ha : ob o = .inl (cA, n, .inr (.inr (.inr (.inr (fun i => some (ad (f i)))))))) (ht : tys[t0]? = some (cA, .object C)) {i : Int32} (hin : vp_in i n) (hdg : decode cc pc = .ok (.aaload, 1))
    (kk : W p l e R s m args below meth c H locs cells slots Q (F0 m (pc + 1) ls (.ref (ad (f i.toNatClampNeg)) :: rest))) : W p l e R s m args below meth c H locs cells slots Q (F0 m pc ls (.int i :: .ref (ad o) :: rest)) :=
  va_aldq (f := fun i => some (ad (f i))) hexec hb hK hY.1 o t0 (by rw [pw_get ho, ha]) ht hin hdg kk
theorem w_cast (hexec : p.tables.exec = Jvm.exec) (hb : c.code = cc) (hK : va_K D vwCl tys s) (hY : Sy D N ad A H0 ob H locs) {o : Nat} (ho : o < N) (t0 : Nat) {cA : ClassId} {n : Nat} {f : Nat → Int32} (ha : ob o = .inl (cA, n, .inl f)) (ht : tys[t0]? = some (cA, .char)) {i x : Int32} (hin : vp_in i n) (hdg : decode cc pc = .ok (.castore, 1)) {ob' : Nat → va_E} (hup : va_up ob o (.inl (cA, n, .inl (upd f i.toNatClampNeg (vp_nar .char x)))) = ob')
    (kk : ∀ (H1 : Heap) (locs1 : List Loc), Sy D N ad A H0 ob' H1 locs1 → W p l e R s m args below meth c H1 locs1 cells slots Q (F0 m (pc + 1) ls rest)) : W p l e R s m args below meth c H locs cells slots Q (F0 m pc ls (.int x :: .int i :: .ref (ad o) :: rest)) := by
  refine va_cast hexec hb hK hY.1 hY.2.1 hY.2.2 o t0 (by rw [pw_get ho, ha]) ht hin hdg fun H1 locs1 h1 h2 h3 => ?_
  rw [pw_set ho, hup] at h1 h2
  exact kk H1 locs1 ⟨h1, h2, h3⟩
theorem w_iast (hexec : p.tables.exec = Jvm.exec) (hb : c.code = cc) (hK : va_K D vwCl tys s) (hY : Sy D N ad A H0 ob H locs) {o : Nat} (ho : o < N) (t0 : Nat) {cA : ClassId} {n : Nat} {f : Nat → Int32} (ha : ob o = .inl (cA, n, .inl f)) (ht : tys[t0]? = some (cA, .int)) {i x : Int32} (hin : vp_in i n) (hdg : decode cc pc = .ok (.iastore, 1)) {ob' : Nat → va_E} (hup : va_up ob o (.inl (cA, n, .inl (upd f i.toNatClampNeg x))) = ob')
    (kk : ∀ (H1 : Heap) (locs1 : List Loc), Sy D N ad A H0 ob' H1 locs1 → W p l e R s m args below meth c H1 locs1 cells slots Q (F0 m (pc + 1) ls rest)) : W p l e R s m args below meth c H locs cells slots Q (F0 m pc ls (.int x :: .int i :: .ref (ad o) :: rest)) := by
  refine va_iast hexec hb hK hY.1 hY.2.1 hY.2.2 o t0 (by rw [pw_get ho, ha]) ht hin hdg fun H1 locs1 h1 h2 h3 => ?_
  rw [pw_set ho, hup] at h1 h2
  exact kk H1 locs1 ⟨h1, h2, h3⟩
theorem w_last (hexec : p.tables.exec = Jvm.exec) (hb : c.code = cc) (hK : va_K D vwCl tys s) (hY : Sy D N ad A H0 ob H locs) {o : Nat} (ho : o < N) (t0 : Nat) {cA : ClassId} {n : Nat} {f : Nat → Int64} (ha : ob o = .inl (cA, n, .inr (.inl f))) (ht : tys[t0]? = some (cA, .long)) {i : Int32} {x : Int64} (hin : vp_in i n) (hdg : decode cc pc = .ok (.lastore, 1)) {ob' : Nat → va_E} (hup : va_up ob o (.inl (cA, n, .inr (.inl (vp_updL f i.toNatClampNeg x)))) = ob')
    (kk : ∀ (H1 : Heap) (locs1 : List Loc), Sy D N ad A H0 ob' H1 locs1 → W p l e R s m args below meth c H1 locs1 cells slots Q (F0 m (pc + 1) ls rest)) : W p l e R s m args below meth c H locs cells slots Q (F0 m pc ls (.long x :: .int i :: .ref (ad o) :: rest)) := by
  refine va_last hexec hb hK hY.1 hY.2.1 hY.2.2 o t0 (by rw [pw_get ho, ha]) ht hin hdg fun H1 locs1 h1 h2 h3 => ?_
  rw [pw_set ho, hup] at h1 h2
  exact kk H1 locs1 ⟨h1, h2, h3⟩
theorem w_aast (hexec : p.tables.exec = Jvm.exec) (hb : c.code = cc) (hK : va_K D vwCl tys s) (hY : Sy D N ad A H0 ob H locs) {o qk ci : Nat} (ho : o < N) (hqk : qk < N) (t0 : Nat) {cA : ClassId} {r : vw_C} {n : Nat} {vs : List Value} {f : Nat → Option Nat} (ha : ob o = .inl (cA, n, .inr (.inr (.inr (.inr f))))) (ht : tys[t0]? = some (cA, .object r.1)) (hv : ob qk = .inr (ci, vs)) (hc : vwCl[ci]? = some r) {i : Int32} (hin : vp_in i n) (hdg : decode cc pc = .ok (.aastore, 1)) {ob' : Nat → va_E} (hup : va_up ob o (.inl (cA, n, .inr (.inr (.inr (.inr (va_up f i.toNatClampNeg (some (ad qk)))))))) = ob')
    (kk : ∀ (H1 : Heap) (locs1 : List Loc), Sy D N ad A H0 ob' H1 locs1 → W p l e R s m args below meth c H1 locs1 cells slots Q (F0 m (pc + 1) ls rest)) : W p l e R s m args below meth c H locs cells slots Q (F0 m pc ls (.ref (ad qk) :: .int i :: .ref (ad o) :: rest)) := by
  refine va_astq hexec hb hK hY.1 hY.2.1 hY.2.2 o t0 qk ci (by rw [pw_get ho, ha]) ht (by rw [pw_get hqk, hv]) hc hin hdg fun H1 locs1 h1 h2 h3 => ?_
  rw [pw_set ho, hup] at h1 h2
  exact kk H1 locs1 ⟨h1, h2, h3⟩
theorem w_alen (hexec : p.tables.exec = Jvm.exec) (hb : c.code = cc) (hK : va_K D vwCl tys s) (hY : Sy D N ad A H0 ob H locs) {o : Nat} (ho : o < N) (t0 : Nat) {cA : ClassId} {x : vp_A} (ha : ob o = .inl (cA, x)) {ty : FieldType} (ht : tys[t0]? = some (cA, ty)) {v : Int32} (hv : Int32.ofNat x.1 = v) (hdg : decode cc pc = .ok (.arraylength, 1))
    (kk : W p l e R s m args below meth c H locs cells slots Q (F0 m (pc + 1) ls (.int v :: rest))) : W p l e R s m args below meth c H locs cells slots Q (F0 m pc ls (.ref (ad o) :: rest)) :=
  va_alen hexec hb hK hY.1 o t0 (by rw [pw_get ho, ha]) ht hv hdg kk
end SYW
/-- a method's start: the system's cells hold ob -/
def PreW (D : va_G) (N : Nat) (ad : Nat → Nat) (A : Nat → Prop) (tys : List (ClassId × FieldType)) (ob : Nat → va_E) : State → Prop := fun U => va_P D vwCl (pw N ad ob) U.heap ∧ va_K D vwCl tys U ∧ va_D A (pw N ad ob)
/-- a method's end -/
def PostW (D : va_G) (N : Nat) (ad : Nat → Nat) (tys : List (ClassId × FieldType)) (ob : St → Nat → va_E) (I : St → Prop) (σ : St) : State → Prop := fun t => va_P D vwCl (pw N ad (ob σ)) t.heap ∧ va_K D vwCl tys t ∧ I σ
theorem w_blind {avs : List Value} {D : va_G} {N : Nat} {ad : Nat → Nat} {A : Nat → Prop} {tys : List (ClassId × FieldType)} {ob : Nat → va_E} : FrameBlind (va_Pc avs (PreW D N ad A tys ob)) := fun a U g mk q => by
  obtain ⟨q0, qP, qK, qD⟩ := q
  exact ⟨q0, qP, va_K.moved (u := U) (U := U.calling g mk a) (Vm.Alike.refl U.vm) qK, qD⟩
section SYC
variable {p : Program} {l : Launch} {e : Env} {R : Room} {s : State} {m : MethodId} {args : Array Value} {below : List Frame} {meth : Method} {c : Code} {H : Heap} {locs : List Loc} {cells slots : Nat} {Q : State → Prop}
variable {cc bytes : ByteArray} {pc : Nat} {ls : Array Slot} {rest As : List Value} {D : va_G} {N : Nat} {ad : Nat → Nat} {A : Nat → Prop} {H0 : Heap} {ob : St → Nat → va_E} {I : St → Prop} {tys : List (ClassId × FieldType)} {Ts ws : List Cond} {own C : String} {y : MethodName} {nL maxL index n : Nat} {ret : Option FieldType} {rm : Room} {σ : St}
theorem w_preS (hK : va_K D vwCl tys s) (hY : Sy D N ad A H0 (ob σ) H locs) : PreS s H (va_Pc As (PreW D N ad A tys (ob σ))) As :=
  ⟨w_blind, fun U hU hW => ⟨rfl, by rw [hU]; exact hY.1, va_K.moved hW.alike hK, hY.2.1⟩⟩
theorem w_preV (hK : va_K D vwCl tys s) (hY : Sy D N ad A H0 (ob σ) H locs) {o ci : Nat} (ho : o < N) {fs : List Value} (he : ob σ o = .inr (ci, fs)) {r : vw_C} (hc : vwCl[ci]? = some r) (hr : r.1 = C) : PreV s H C (ad o) (va_Pc (.ref (ad o) :: As) (PreW D N ad A tys (ob σ))) As :=
  ⟨w_blind, by
    subst hr
    exact va_recv (fs := fs) hK hY.1 (ci := ci) (q0 := o) hc (by rw [pw_get ho, he]), fun U hU hW => ⟨rfl, by rw [hU]; exact hY.1, va_K.moved hW.alike hK, hY.2.1⟩⟩
theorem w_D {σ τ : St} (h : va_D A (pw N ad (ob σ))) : va_D A (pw N ad (ob τ)) := by
  refine ⟨fun i j x y hx hy e => ?_, fun k q hk => ?_⟩
  · obtain ⟨hi, rfl⟩ := pw_of hx
    obtain ⟨hj, rfl⟩ := pw_of hy
    exact h.1 i j _ _ (pw_get hi) (pw_get hj) e
  · obtain ⟨hk1, rfl⟩ := pw_of hk
    exact h.2 k (ad k, ob σ k) (pw_get hk1)
theorem w_calli {post : Int32 → St → Prop} {st0 : List Value} {a : Array Value} (hr : va_Run p l e R s m args below meth c H locs cells slots 0 0 (F0 m pc ls st0) rest (va_Qi post (PostW D N ad tys ob I) A a) A) (hY : Sy D N ad A H0 (ob σ) H locs)
    (kk : ∀ (r : Int32) (u : St) (H1 : Heap) (locs1 : List Loc), post r u → Sy D N ad A H0 (ob u) H1 locs1 → I u → W p l e R s m args below meth c H1 locs1 cells slots Q (F0 m (pc + 3) ls (.int r :: rest))) : W p l e R s m args below meth c H locs cells slots Q (F0 m pc ls st0) :=
  va_calli hr hY.2.2 (fun q _ h => h) (fun q h => h) fun r u t H1 locs1 ht _ hp hB _ _ hS => kk r u H1 locs1 hp ⟨by rw [← ht]; exact hB.1, w_D hY.2.1, hS⟩ hB.2.2
theorem w_calll {post : Int64 → St → Prop} {st0 : List Value} {a : Array Value} (hr : va_Run p l e R s m args below meth c H locs cells slots 0 0 (F0 m pc ls st0) rest (va_Ql post (PostW D N ad tys ob I) A a) A) (hY : Sy D N ad A H0 (ob σ) H locs)
    (kk : ∀ (r : Int64) (u : St) (H1 : Heap) (locs1 : List Loc), post r u → Sy D N ad A H0 (ob u) H1 locs1 → I u → W p l e R s m args below meth c H1 locs1 cells slots Q (F0 m (pc + 3) ls (.long r :: rest))) : W p l e R s m args below meth c H locs cells slots Q (F0 m pc ls st0) :=
  va_calll hr hY.2.2 (fun q _ h => h) (fun q h => h) fun r u t H1 locs1 ht _ hp hB _ _ hS => kk r u H1 locs1 hp ⟨by rw [← ht]; exact hB.1, w_D hY.2.1, hS⟩ hB.2.2
theorem w_callv {post : St → Prop} {st0 : List Value} {a : Array Value} (hr : va_Run p l e R s m args below meth c H locs cells slots 0 0 (F0 m pc ls st0) rest (va_Qv post (PostW D N ad tys ob I) A a) A) (hY : Sy D N ad A H0 (ob σ) H locs)
    (kk : ∀ (u : St) (H1 : Heap) (locs1 : List Loc), post u → Sy D N ad A H0 (ob u) H1 locs1 → I u → W p l e R s m args below meth c H1 locs1 cells slots Q (F0 m (pc + 3) ls rest)) : W p l e R s m args below meth c H locs cells slots Q (F0 m pc ls st0) :=
  va_callv hr hY.2.2 (fun q _ h => h) (fun q h => h) fun u t H1 locs1 ht _ hp hB _ _ hS => kk u H1 locs1 hp ⟨by rw [← ht]; exact hB.1, w_D hY.2.1, hS⟩ hB.2.2
/-- a method that answers a row: its object number comes with it -/
theorem w_callr {post : Nat × St → Prop} {st0 : List Value} {a : Array Value} (hr : va_Run p l e R s m args below meth c H locs cells slots 0 0 (F0 m pc ls st0) rest (va_Qr post (fun u b t => b = ad u.1 ∧ PostW D N ad tys ob I u.2 t) A a) A) (hY : Sy D N ad A H0 (ob σ) H locs)
    (kk : ∀ (r : Nat) (u : St) (H1 : Heap) (locs1 : List Loc), post (r, u) → Sy D N ad A H0 (ob u) H1 locs1 → I u → W p l e R s m args below meth c H1 locs1 cells slots Q (F0 m (pc + 3) ls (.ref (ad r) :: rest))) : W p l e R s m args below meth c H locs cells slots Q (F0 m pc ls st0) :=
  va_callr hr hY.2.2 (fun q _ h => h) (fun q h => h) fun u b t H1 locs1 ht _ hp hB _ _ hS => by
    obtain ⟨rfl, hB⟩ := hB
    exact kk u.1 u.2 H1 locs1 hp ⟨by rw [← ht]; exact hB.1, w_D hY.2.1, hS⟩ hB.2.2
/-- calls of methods that write nothing -/
theorem w_callip {post : Int32 → Prop} {st0 : List Value} {a : Array Value} (hr : va_Run p l e R s m args below meth c H locs cells slots 0 0 (F0 m pc ls st0) rest (va_Qi (fun r (_ : Unit) => post r) (fun _ => PostW D N ad tys ob I σ) A a) A) (hY : Sy D N ad A H0 (ob σ) H locs)
    (kk : ∀ (r : Int32) (H1 : Heap) (locs1 : List Loc), post r → Sy D N ad A H0 (ob σ) H1 locs1 → W p l e R s m args below meth c H1 locs1 cells slots Q (F0 m (pc + 3) ls (.int r :: rest))) : W p l e R s m args below meth c H locs cells slots Q (F0 m pc ls st0) :=
  va_calli hr hY.2.2 (fun q _ h => h) (fun q h => h) fun r u t H1 locs1 ht _ hp hB _ _ hS => kk r H1 locs1 hp ⟨by rw [← ht]; exact hB.1, hY.2.1, hS⟩
theorem w_calllp {post : Int64 → Prop} {st0 : List Value} {a : Array Value} (hr : va_Run p l e R s m args below meth c H locs cells slots 0 0 (F0 m pc ls st0) rest (va_Ql (fun r (_ : Unit) => post r) (fun _ => PostW D N ad tys ob I σ) A a) A) (hY : Sy D N ad A H0 (ob σ) H locs)
    (kk : ∀ (r : Int64) (H1 : Heap) (locs1 : List Loc), post r → Sy D N ad A H0 (ob σ) H1 locs1 → W p l e R s m args below meth c H1 locs1 cells slots Q (F0 m (pc + 3) ls (.long r :: rest))) : W p l e R s m args below meth c H locs cells slots Q (F0 m pc ls st0) :=
  va_calll hr hY.2.2 (fun q _ h => h) (fun q h => h) fun r u t H1 locs1 ht _ hp hB _ _ hS => kk r H1 locs1 hp ⟨by rw [← ht]; exact hB.1, hY.2.1, hS⟩
theorem w_callrp {post : Nat → Prop} {st0 : List Value} {a : Array Value} (hr : va_Run p l e R s m args below meth c H locs cells slots 0 0 (F0 m pc ls st0) rest (va_Qr (fun (r : Nat) => post r) (fun r b t => b = ad r ∧ PostW D N ad tys ob I σ t) A a) A) (hY : Sy D N ad A H0 (ob σ) H locs)
    (kk : ∀ (r : Nat) (H1 : Heap) (locs1 : List Loc), post r → Sy D N ad A H0 (ob σ) H1 locs1 → W p l e R s m args below meth c H1 locs1 cells slots Q (F0 m (pc + 3) ls (.ref (ad r) :: rest))) : W p l e R s m args below meth c H locs cells slots Q (F0 m pc ls st0) :=
  va_callr hr hY.2.2 (fun q _ h => h) (fun q h => h) fun u b t H1 locs1 ht _ hp hB _ _ hS => by
    obtain ⟨rfl, hB⟩ := hB
    exact kk u H1 locs1 hp ⟨by rw [← ht]; exact hB.1, hY.2.1, hS⟩
/-- the ends of a method -/
theorem w_iret {S : Type} {post : Int32 → S → Prop} {B : S → State → Prop} {r : Int32} {u : S} {v : St} (hx : p.tables.exec = Jvm.exec) (hb : c.code = cc) (hr : meth.sig.returnType = some .int) (hlocks : meth.locks = false) (hK : va_K D vwCl tys s) (hp : post r u) (hB : ∀ t, PostW D N ad tys ob I v t → B u t) (hY : Sy D N ad A s.heap (ob v) H locs) (hI : I v) (hdg : decode cc pc = .ok (.ireturn, 1)) : W p l e R s m args below meth c H locs cells slots (MQ below (va_Qi post B A) args s cells slots A) (F0 m pc ls [.int r]) :=
  W.iret hx hb hr (fun t ht hW => ⟨⟨r, u, rfl, hp, hB t ⟨by rw [ht]; exact hY.1, va_K.moved hW.alike hK, hI⟩⟩, hY.2.2.F ht⟩) hY.2.2.2.2 hdg
theorem w_zret {S : Type} {post : Int32 → S → Prop} {B : S → State → Prop} {r : Int32} {u : S} {v : St} {ty : FieldType} (hx : p.tables.exec = Jvm.exec) (hb : c.code = cc) (hr : meth.sig.returnType = some ty) (hn : narrow ty (.int r) = .int r) (hlocks : meth.locks = false) (hK : va_K D vwCl tys s) (hp : post r u) (hB : ∀ t, PostW D N ad tys ob I v t → B u t) (hY : Sy D N ad A s.heap (ob v) H locs) (hI : I v) (hdg : decode cc pc = .ok (.ireturn, 1)) : W p l e R s m args below meth c H locs cells slots (MQ below (va_Qi post B A) args s cells slots A) (F0 m pc ls [.int r]) :=
  W.zret hx hb hr hn (fun t ht hW => ⟨⟨r, u, rfl, hp, hB t ⟨by rw [ht]; exact hY.1, va_K.moved hW.alike hK, hI⟩⟩, hY.2.2.F ht⟩) hY.2.2.2.2 hdg
theorem w_lret {S : Type} {post : Int64 → S → Prop} {B : S → State → Prop} {r : Int64} {u : S} {v : St} (hx : p.tables.exec = Jvm.exec) (hb : c.code = cc) (hr : meth.sig.returnType = some .long) (hlocks : meth.locks = false) (hK : va_K D vwCl tys s) (hp : post r u) (hB : ∀ t, PostW D N ad tys ob I v t → B u t) (hY : Sy D N ad A s.heap (ob v) H locs) (hI : I v) (hdg : decode cc pc = .ok (.lreturn, 1)) : W p l e R s m args below meth c H locs cells slots (MQ below (va_Ql post B A) args s cells slots A) (F0 m pc ls [.long r]) :=
  W.lret hx hb hr (fun t ht hW => ⟨⟨r, u, rfl, hp, hB t ⟨by rw [ht]; exact hY.1, va_K.moved hW.alike hK, hI⟩⟩, hY.2.2.F ht⟩) hY.2.2.2.2 hdg
theorem w_vret {S : Type} {post : S → Prop} {B : S → State → Prop} {u : S} {v : St} (hx : p.tables.exec = Jvm.exec) (hb : c.code = cc) (hr : meth.sig.returnType = none) (hlocks : meth.locks = false) (hK : va_K D vwCl tys s) (hp : post u) (hB : ∀ t, PostW D N ad tys ob I v t → B u t) (hY : Sy D N ad A s.heap (ob v) H locs) (hI : I v) (hdg : decode cc pc = .ok (.return_, 1)) : W p l e R s m args below meth c H locs cells slots (MQ below (va_Qv post B A) args s cells slots A) (F0 m pc ls []) :=
  W.vret hx hb hr (fun t ht hW => ⟨⟨u, rfl, hp, hB t ⟨by rw [ht]; exact hY.1, va_K.moved hW.alike hK, hI⟩⟩, hY.2.2.F ht⟩) hY.2.2.2.2 hdg
theorem w_rret {post : Nat → Prop} {B : Nat → Nat → State → Prop} {r : Nat} {v : St} (hx : p.tables.exec = Jvm.exec) (hb : c.code = cc) {nm : String} (hr : meth.sig.returnType = some (.object nm)) (hlocks : meth.locks = false) (hK : va_K D vwCl tys s) (hp : post r) (hB : ∀ t, PostW D N ad tys ob I v t → B r (ad r) t) (hY : Sy D N ad A s.heap (ob v) H locs) (hI : I v) (hdg : decode cc pc = .ok (.areturn, 1)) : W p l e R s m args below meth c H locs cells slots (MQ below (va_Qr post B A) args s cells slots A) (F0 m pc ls [.ref (ad r)]) :=
  W.aret hx hb hr (Or.inl ⟨_, rfl⟩) (Or.inr ⟨_, rfl⟩) (fun t ht hW => ⟨⟨r, ad r, rfl, hp, hB t ⟨by rw [ht]; exact hY.1, va_K.moved hW.alike hK, hI⟩⟩, hY.2.2.F ht⟩) hY.2.2.2.2 hdg
end SYC
theorem vp_lt {i : Int32} {n : Nat} (h : vp_in i n) : i.toNatClampNeg < n := Nat.not_le.mp fun q => h (Or.inr q)
abbrev tyC (ci : Nat → ClassId) : List (ClassId × FieldType) := [(ci 0, .char), (ci 1, .int), (ci 2, .long), (ci 3, .object RX2)]
theorem obC_main {ad : Nat → Nat} {ci : Nat → ClassId} {σ : St} : obC ad ci σ 0 = .inr (5, [.ref (ad 1), .ref (ad 3), .ref (ad 5), .ref (ad 58), .ref (ad 123), .ref (ad 127)]) := rfl
theorem obC_list {ad : Nat → Nat} {ci : Nat → ClassId} {σ : St} : obC ad ci σ 5 = .inr (4, [.ref (ad 6), .ref (ad 55), .ref (ad 56), .int (gI σ 5)]) := rfl
theorem obC_book {ad : Nat → Nat} {ci : Nat → ClassId} {σ : St} : obC ad ci σ 58 = .inr (0, [.ref (ad 59), .ref (ad 72), .ref (ad 121)]) := rfl
theorem obC_cut {ad : Nat → Nat} {ci : Nat → ClassId} {σ : St} : obC ad ci σ 123 = .inr (1, [.ref (ad 124), .ref (ad 125), .ref (ad 126), .int (gI σ 123)]) := rfl
theorem obC_thm {ad : Nat → Nat} {ci : Nat → ClassId} {σ : St} : obC ad ci σ 127 = .inr (3, [.ref (ad 128), .ref (ad 130)]) := rfl
theorem obM_main {ad : Nat → Nat} {ci : Nat → ClassId} {σ : St} : obM ad ci σ 0 = .inr (6, [.int (gI σ 0), .ref (ad 1), .ref (ad 2), .ref (ad 3), .ref (ad 4), .ref (ad 5), .ref (ad 6), .ref (ad 7), .int (gI σ 1), .int (gI σ 2), .ref (ad 8), .ref (ad 9), .ref (ad 10), .ref (ad 11)]) := rfl
abbrev tyM (ci : Nat → ClassId) : List (ClassId × FieldType) := [(ci 0, .char), (ci 1, .int), (ci 2, .long)]
def tt (_ : St) : Prop := True
end
