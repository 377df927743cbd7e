/-! THE LAW: its world, and the calls in it -/
abbrev adM (sz : Nat) : Nat → Nat := adz (sz + 132)
def AC (sz : Nat) : Nat → Prop := fun q => (sz ≤ q ∧ q < sz + 132) ∨ sz + 145 ≤ q
def AM (sz : Nat) : Nat → Prop := fun q => sz + 132 ≤ q ∧ q < sz + 144
theorem AC_D {sz : Nat} {ob : Nat → va_E} : va_D (AC sz) (pw 132 (adz sz) ob) := by
  refine ⟨fun i j x y hx hy e => ?_, fun k q hk => ?_⟩
  · obtain ⟨hi, rfl⟩ := pw_of hx
    obtain ⟨hj, rfl⟩ := pw_of hy
    have : sz + i = sz + j := e
    omega
  · obtain ⟨hk1, rfl⟩ := pw_of hk
    refine Or.inl ⟨Nat.le_add_right _ _, ?_⟩
    show sz + k < sz + 132
    omega
theorem AM_D {sz : Nat} {ob : Nat → va_E} : va_D (AM sz) (pw 12 (adM sz) ob) := by
  refine ⟨fun i j x y hx hy e => ?_, fun k q hk => ?_⟩
  · obtain ⟨hi, rfl⟩ := pw_of hx
    obtain ⟨hj, rfl⟩ := pw_of hy
    have : sz + 132 + i = sz + 132 + j := e
    omega
  · obtain ⟨hk1, rfl⟩ := pw_of hk
    refine ⟨Nat.le_add_right _ _, ?_⟩
    show sz + 132 + k < sz + 144
    omega
theorem AC_out {sz : Nat} : ¬ AC sz (sz + 144) := by unfold AC; omega
theorem AC_M {sz o : Nat} (ho : o < 12) : ¬ AL (AC sz) (sz + 144) (adM sz o) := by
  show ¬ (((sz ≤ sz + 132 + o ∧ sz + 132 + o < sz + 132) ∨ sz + 145 ≤ sz + 132 + o) ∨ sz + 132 + o = sz + 144)
  omega
theorem AM_C {sz o : Nat} (ho : o < 132) : ¬ AM sz (adz sz o) := by
  show ¬ (sz + 132 ≤ sz + o ∧ sz + o < sz + 144)
  omega
theorem AM_out {sz : Nat} : ¬ AM sz (sz + 144) := by unfold AM; omega
theorem AC_le {sz q : Nat} (h : AC sz q) : Az sz q := by unfold AC at h; show sz ≤ q; omega
theorem AL_le {sz q : Nat} (h : AL (AC sz) (sz + 144) q) : Az sz q := by
  rcases h with h | h
  · exact AC_le h
  · show sz ≤ q; omega
theorem AM_le {sz q : Nat} (h : AM sz q) : Az sz q := by unfold AM at h; show sz ≤ q; omega
/-- the law's world: the object, the reference, the row for an answer -/
def Lw (D : va_G) (ci : Nat → ClassId) (sz : Nat) (σ τ : St) (g : Nat → Int64) (H : Heap) : Prop :=
  va_P D vwCl (pw 132 (adz sz) (obC (adz sz) ci σ)) H ∧ va_P D vwCl (pw 12 (adM sz) (obM (adM sz) ci τ)) H ∧ va_P D vwCl (wO ci (sz + 144) g) H
theorem KxM {D : va_G} {ci : Nat → ClassId} {s : State} (h : Kx D (tyC ci) s) : Kx D (tyM ci) s := ⟨h.1.sub [0, 1, 2] rfl, h.2⟩
section LAWB
variable {p : Program} {l : Launch} {e : Env} {R : Room} {s : State} {m : MethodId} {args : Array Value} {below : List Frame} {meth : Method} {c : Code} {H H0 : Heap} {locs : List Loc} {cells slots : Nat} {Q : State → Prop}
variable {cc : ByteArray} {pc sz : Nat} {ls : Array Slot} {st0 rest As : List Value} {D : va_G} {ci : Nat → ClassId} {g : Nat → Int64} {σ τ : St} {o : Res} {a : Array Value}
theorem l_wpre (hK : Kx D (tyC ci) s) (hE : Ex (AC sz) s) (hN : Nx s) (hsz : sz = s.heap.size) (hw : Lw D ci sz σ τ g H) (hS : va_S (Az sz) s.heap H locs) : PreS s H (va_Pc As (PreL D (adz sz) (AC sz) ci (sz + 144) g σ)) As :=
  ⟨l_blind, fun U hU hW => ⟨rfl, ⟨⟨by rw [hU]; exact hw.1, Kx.warm hW hK, AC_D⟩, hE.to (A0 := AC sz) hU hW fun x h1 _ => hS.2.1 x h1 (by show ¬ sz ≤ x; omega)⟩, by rw [hU]; exact hw.2.2, hN.warm hW⟩⟩
theorem l_wcall (hr : va_Run p l e R s m args below meth c H locs cells slots 1 6 (F0 m pc ls st0) rest (va_Qi (PL o) (PostL D (adz sz) ci (sz + 144)) (AL (AC sz) (sz + 144)) a) (AL (AC sz) (sz + 144))) (hw : Lw D ci sz σ τ g H) (hS : va_S (Az sz) H0 H locs)
    (kk : ∀ (H1 : Heap) (locs1 : List Loc) (u : St) (g1 : Nat → Int64), InvC u o.2.2 → Rok u → (o.1 = 0 → g1 0 = o.2.1.toInt64) → Lw D ci sz u τ g1 H1 → va_S (Az sz) H0 H1 locs1 → W p l e R s m args below meth c H1 locs1 (cells + 1) (slots + 6) Q (F0 m (pc + 3) ls (.int (nI o.1) :: rest))) :
    W p l e R s m args below meth c H locs cells slots Q (F0 m pc ls st0) :=
  va_calli hr hS (fun q _ h => AL_le h) (fun q h => AL_le h) fun r u t H1 locs1 ht _ hp hB _ hk hS1 => by
    obtain ⟨h1, h2, h3, h4⟩ := hp
    obtain ⟨h5, h6⟩ := hB
    rw [ht] at h5 h6
    subst h1
    exact kk H1 locs1 u.1 u.2 h2 h3 h4 ⟨h5, pw_kept hw.2.1 (fun o ho => AC_M ho) hk, h6⟩ hS1
theorem l_cpre (hK : Kx D (tyC ci) s) (hw : Lw D ci sz σ τ g H) : PreV s H RX5 (adz sz 0) (va_Pc (.ref (adz sz 0) :: As) (PreW D 132 (adz sz) (AC sz) (tyC ci) (obC (adz sz) ci σ))) As :=
  ⟨w_blind, va_recv (q := (RX5, TX5, 6)) (fs := [.ref (adz sz 1), .ref (adz sz 3), .ref (adz sz 5), .ref (adz sz 58), .ref (adz sz 123), .ref (adz sz 127)]) hK.1 hw.1 (ci := 5) (q0 := 0) rfl (by rw [pw_get (by omega)]; rfl), fun U hU hW => ⟨rfl, by rw [hU]; exact hw.1, Kx.warm hW hK, AC_D⟩⟩
theorem l_mpre (hK : Kx D (tyC ci) s) (hw : Lw D ci sz σ τ g H) : PreV s H RX6 (adM sz 0) (va_Pc (.ref (adM sz 0) :: As) (PreW D 12 (adM sz) (AM sz) (tyM ci) (obM (adM sz) ci τ))) As :=
  ⟨w_blind, va_recv (q := (RX6, TX6, 14)) (fs := [.int (gI τ 0), .ref (adM sz 1), .ref (adM sz 2), .ref (adM sz 3), .ref (adM sz 4), .ref (adM sz 5), .ref (adM sz 6), .ref (adM sz 7), .int (gI τ 1), .int (gI τ 2), .ref (adM sz 8), .ref (adM sz 9), .ref (adM sz 10), .ref (adM sz 11)]) (KxM hK).1 hw.2.1 (ci := 6) (q0 := 0) rfl (by rw [pw_get (by omega)]; rfl), fun U hU hW => ⟨rfl, by rw [hU]; exact hw.2.1, Kx.warm hW (KxM hK), AM_D⟩⟩
theorem l_ccalli {S : Type} (f : S → St) {post : Int32 → S → Prop} (hr : va_Run p l e R s m args below meth c H locs cells slots 0 0 (F0 m pc ls st0) rest (va_Qi post (fun u => PostW D 132 (adz sz) (tyC ci) (obC (adz sz) ci) Rok (f u)) (AC sz) a) (AC sz)) (hw : Lw D ci sz σ τ g H) (hS : va_S (Az sz) H0 H locs)
    (kk : ∀ (r : Int32) (u : S) (H1 : Heap) (locs1 : List Loc), post r u → Rok (f u) → Lw D ci sz (f u) τ g H1 → va_S (Az sz) H0 H1 locs1 → W p l e R s m args below meth c H1 locs1 cells slots Q (F0 m (pc + 3) ls (.int r :: rest))) :
    W p l e R s m args below meth c H locs cells slots Q (F0 m pc ls st0) :=
  va_calli hr hS (fun q _ h => AC_le h) (fun q h => AC_le h) fun r u t H1 locs1 ht _ hp hB _ hk hS1 => by
    obtain ⟨h5, -, h6⟩ := hB
    rw [ht] at h5
    exact kk r u H1 locs1 hp h6 ⟨h5, pw_kept hw.2.1 (fun o ho h => AC_M ho (Or.inl h)) hk, wO_kept hw.2.2 (hk _ (wO_lt hw.2.2) AC_out)⟩ hS1
theorem l_ccalll {S : Type} (f : S → St) {post : Int64 → S → Prop} (hr : va_Run p l e R s m args below meth c H locs cells slots 0 0 (F0 m pc ls st0) rest (va_Ql post (fun u => PostW D 132 (adz sz) (tyC ci) (obC (adz sz) ci) Rok (f u)) (AC sz) a) (AC sz)) (hw : Lw D ci sz σ τ g H) (hS : va_S (Az sz) H0 H locs)
    (kk : ∀ (r : Int64) (u : S) (H1 : Heap) (locs1 : List Loc), post r u → Rok (f u) → Lw D ci sz (f u) τ g H1 → va_S (Az sz) H0 H1 locs1 → W p l e R s m args below meth c H1 locs1 cells slots Q (F0 m (pc + 3) ls (.long r :: rest))) :
    W p l e R s m args below meth c H locs cells slots Q (F0 m pc ls st0) :=
  va_calll hr hS (fun q _ h => AC_le h) (fun q h => AC_le h) fun r u t H1 locs1 ht _ hp hB _ hk hS1 => by
    obtain ⟨h5, -, h6⟩ := hB
    rw [ht] at h5
    exact kk r u H1 locs1 hp h6 ⟨h5, pw_kept hw.2.1 (fun o ho h => AC_M ho (Or.inl h)) hk, wO_kept hw.2.2 (hk _ (wO_lt hw.2.2) AC_out)⟩ hS1
theorem l_mcalli {S : Type} (f : S → St) {post : Int32 → S → Prop} (hr : va_Run p l e R s m args below meth c H locs cells slots 0 0 (F0 m pc ls st0) rest (va_Qi post (fun u => PostW D 12 (adM sz) (tyM ci) (obM (adM sz) ci) tt (f u)) (AM sz) a) (AM sz)) (hw : Lw D ci sz σ τ g H) (hS : va_S (Az sz) H0 H locs)
    (kk : ∀ (r : Int32) (u : S) (H1 : Heap) (locs1 : List Loc), post r u → Lw D ci sz σ (f u) g H1 → va_S (Az sz) H0 H1 locs1 → W p l e R s m args below meth c H1 locs1 cells slots Q (F0 m (pc + 3) ls (.int r :: rest))) :
    W p l e R s m args below meth c H locs cells slots Q (F0 m pc ls st0) :=
  va_calli hr hS (fun q _ h => AM_le h) (fun q h => AM_le h) fun r u t H1 locs1 ht _ hp hB _ hk hS1 => by
    obtain ⟨h5, -, -⟩ := hB
    rw [ht] at h5
    exact kk r u H1 locs1 hp ⟨pw_kept hw.1 (fun o ho => AM_C ho) hk, h5, wO_kept hw.2.2 (hk _ (wO_lt hw.2.2) AM_out)⟩ hS1
theorem l_mcalll {S : Type} (f : S → St) {post : Int64 → S → Prop} (hr : va_Run p l e R s m args below meth c H locs cells slots 0 0 (F0 m pc ls st0) rest (va_Ql post (fun u => PostW D 12 (adM sz) (tyM ci) (obM (adM sz) ci) tt (f u)) (AM sz) a) (AM sz)) (hw : Lw D ci sz σ τ g H) (hS : va_S (Az sz) H0 H locs)
    (kk : ∀ (r : Int64) (u : S) (H1 : Heap) (locs1 : List Loc), post r u → Lw D ci sz σ (f u) g H1 → va_S (Az sz) H0 H1 locs1 → W p l e R s m args below meth c H1 locs1 cells slots Q (F0 m (pc + 3) ls (.long r :: rest))) :
    W p l e R s m args below meth c H locs cells slots Q (F0 m pc ls st0) :=
  va_calll hr hS (fun q _ h => AM_le h) (fun q h => AM_le h) fun r u t H1 locs1 ht _ hp hB _ hk hS1 => by
    obtain ⟨h5, -, -⟩ := hB
    rw [ht] at h5
    exact kk r u H1 locs1 hp ⟨pw_kept hw.1 (fun o ho => AM_C ho) hk, h5, wO_kept hw.2.2 (hk _ (wO_lt hw.2.2) AM_out)⟩ hS1
end LAWB
/-! the law's locals and what holds at each of its stops -/
abbrev Lv (b sz i : Nat) : List (Nat × Value) := [(0, .ref b), (1, .ref (adz sz 0)), (2, .ref (adM sz 0)), (3, .ref (sz + 144)), (4, .int (nI i))]
def lw_C (l : Launch) (p : Program) (s : State) (m : MethodId) (c : Code) (b L : Nat) (xs : Nat → Int32) (D : va_G) (ci : Nat → ClassId) : Prop :=
  CallFix p m c code 7 s #[Value.ref b] wsL_law RL ∧ va_X b L xs s s.heap ∧ b < s.heap.size ∧ Kx D (tyC ci) s ∧ Ex (AC s.heap.size) s ∧ Nx s ∧ L ≤ 1536 ∧ l.stackTraces = false
def Go (p : Program) (l : Launch) (e : Env) (s : State) (m : MethodId) (below : List Frame) (meth : Method) (c : Code) (b : Nat) (D : va_G) (ci : Nat → ClassId) (i cells slots : Nat) (Q : State → Prop) (pc : Nat) : Prop :=
  ∀ (H : Heap) (locs : List Loc) (σ τ : St) (g : Nat → Int64) (mm : Stt) (ls : Array Slot), Lw D ci s.heap.size σ τ g H → InvC σ mm → Rok σ → InvM τ mm → va_S (Az s.heap.size) s.heap H locs → lv_has ls 7 (Lv b s.heap.size i) → W p l e room_1 s m #[Value.ref b] below meth c H locs cells slots Q (F0 m pc ls [])
/-- what a call of the reference leaves -/
def KM (o : Res) : Int32 → St → Prop := fun r τ => InvM τ o.2.2 ∧ gI τ 0 = nI o.1 ∧ (o.1 = 0 → r = o.2.1)
theorem OutM_K (o : Res) : OutM o (KM o) := fun _ _ h1 h2 h3 => ⟨h1, h2, h3⟩
theorem x31_char (x : Int32) : ∃ q, q < 65536 ∧ (x.toUInt32 % 65536).toInt32 = nI q := ⟨_, Nat.mod_lt _ (by omega), pk_char x⟩
section LAWC
variable {p : Program} {l : Launch} {e : Env} {s : State} {m : MethodId} {below : List Frame} {meth : Method} {c : Code} {H : Heap} {locs : List Loc} {cells slots : Nat} {Q : State → Prop}
variable {pc b L i : Nat} {xs : Nat → Int32} {ls : Array Slot} {rest : List Value} {D : va_G} {ci : Nat → ClassId} {g : Nat → Int64} {σ τ : St} {o : Res} {lv : List (Nat × Value)}
/-- an int of the script -/
theorem l_arg {kz : Int} (k j0 j4 : Nat) (hC : lw_C l p s m c b L xs D ci) (hS : va_S (Az s.heap.size) s.heap H locs) (hl : lv_has ls 7 lv) (h0 : lv[j0]? = some (0, .ref b)) (h4 : lv[j4]? = some (4, .int (nI i))) (hk : i + k < L) (hkz : Int32.ofInt kz = nI k)
    (d0 : decode code pc = .ok (.aload_n 0, 1)) (d1 : decode code (pc + 1) = .ok (.iload 4, 2)) (d3 : decode code (pc + 3) = .ok (.iconst kz, 1)) (d4 : decode code (pc + 4) = .ok (.iadd, 1)) (d5 : decode code (pc + 5) = .ok (.iaload, 1))
    (kk : W p l e room_1 s m #[Value.ref b] below meth c H locs cells slots Q (F0 m (pc + 6) ls (.int (xs (i + k)) :: rest))) : W p l e room_1 s m #[Value.ref b] below meth c H locs cells slots Q (F0 m pc ls rest) := by
  obtain ⟨⟨hx, hb, -, -, -⟩, hX, hbl, -, -, -, hL, -⟩ := hC
  refine lv_aload_n hx hb d0 rfl (lv_at hl j0 h0) ?_
  refine lv_iload hx hb d1 (lv_at hl j4 h4) ?_
  refine lv_iconst (v := nI k) hx hb d3 hkz ?_
  refine lv_iadd hx hb d4 ?_
  rw [nI_add]
  refine va_sld (A := Az s.heap.size) hx hb hX hbl (Nat.not_le.mpr hbl) hS (vp_in_nI hk (by omega)) d5 ?_
  rw [nI_clamp (by omega)]
  exact kk
/-- behind both calls: the exceptions' numbers are the same, and the answers -/
theorem l_tail {r : Int32} {off : Int} (hC : lw_C l p s m c b L xs D ci) (hw : Lw D ci s.heap.size σ τ g H) (hS : va_S (Az s.heap.size) s.heap H locs) (h1 : InvC σ o.2.2) (h2 : Rok σ) (h3 : o.1 = 0 → g 0 = o.2.1.toInt64) (h4 : KM o r τ) (ho : o.1 < 4)
    (hl : lv_has ls 7 ((6, .int r) :: (5, .int (nI o.1)) :: Lv b s.heap.size i)) (hcs : cells ≤ 610757 ∧ slots ≤ 7263833)
    (d0 : decode code pc = .ok (.aload_n 2, 1)) (d1 : decode code (pc + 1) = .ok (.invokevirtual 92, 3)) (d4 : decode code (pc + 4) = .ok (.iload 5, 2)) (d6 : decode code (pc + 6) = .ok (.if_icmp .eq 5, 3)) (d11 : decode code (pc + 11) = .ok (.iload 5, 2)) (d13 : decode code (pc + 13) = .ok (.ifCond .ne 15, 3)) (d16 : decode code (pc + 16) = .ok (.aload_n 3, 1)) (d17 : decode code (pc + 17) = .ok (.iconst 0, 1)) (d18 : decode code (pc + 18) = .ok (.laload, 1)) (d19 : decode code (pc + 19) = .ok (.iload 6, 2)) (d21 : decode code (pc + 21) = .ok (.i2l, 1)) (d22 : decode code (pc + 22) = .ok (.lcmp, 1)) (d23 : decode code (pc + 23) = .ok (.ifCond .eq 5, 3)) (d28 : decode code (pc + 28) = .ok (.goto off, 3)) (hoff : ((pc + 28 : Nat) : Int) + off = ((1375 : Nat) : Int))
    (k : Go p l e s m below meth c b D ci i cells slots Q 1375) : W p l e room_1 s m #[Value.ref b] below meth c H locs cells slots Q (F0 m pc ls []) := by
  obtain ⟨C0, -, -, hK, -, -, -, -⟩ := hC
  obtain ⟨hx, hb, -, -, hts⟩ := id C0
  have hl0 : lv_has ls 7 (Lv b s.heap.size i) := lv_sub hl [2, 3, 4, 5, 6] rfl
  obtain ⟨h5, h6, h7⟩ := h4
  refine lv_aload_n hx hb d0 rfl (lv_at hl 4 rfl) ?_
  refine l_mcalli (S := Unit) (fun _ => τ) (va_runV (As := []) (rest := []) C0 (mX6_thrown l D (adM s.heap.size) ci (AM s.heap.size) τ (fun r => r = gI τ 0) trivial rfl) (cwV 0 hts gL_law_X6_thrown rfl rfl rfl ddX6_thrown ⟨Nat.le_of_ble_eq_true rfl, Nat.le_of_ble_eq_true rfl⟩) (l_mpre hK hw) rfl rfl hl.1 rfl (lv_room (Nat.le_of_ble_eq_true rfl)) d1 ⟨hcs.1, hcs.2⟩) hw hS (fun r2 _ H locs h8 hw hS => ?_)
  subst h8
  rw [h6]
  refine lv_iload hx hb d4 (lv_at hl 1 rfl) ?_
  refine lv_icmp_eq (tgt := pc + 11) hx hb d6 (by omega) (fun _ => ?_) (fun z => absurd rfl z)
  refine lv_iload hx hb d11 (lv_at hl 1 rfl) ?_
  have hend : ∀ (H : Heap) (locs : List Loc), Lw D ci s.heap.size σ τ g H → va_S (Az s.heap.size) s.heap H locs → W p l e room_1 s m #[Value.ref b] below meth c H locs cells slots Q (F0 m (pc + 28) ls []) := fun H locs hw hS =>
    lv_goto hx hb d28 hoff (k H locs σ τ g o.2.2 ls hw h1 h2 h5 hS hl0)
  refine lv_if_ne (tgt := pc + 28) hx hb d13 (by omega) (fun _ => hend H locs hw hS) (fun z => ?_)
  have hz : o.1 = 0 := by
    have := nI_toInt (n := o.1) (by omega)
    rw [z] at this
    have e0 : (0 : Int32).toInt = 0 := by decide
    omega
  refine lv_aload_n hx hb d16 rfl (lv_at hl 5 rfl) ?_
  refine lv_iconst (v := nI 0) hx hb d17 (by decide) ?_
  refine va_lald (cA := ci 2) (n := 1) (f := g) hx hb hK.1 hw.2.2 0 2 rfl rfl (vp_in_nI (by omega) (by omega)) d18 ?_
  rw [nI_clamp (by omega), h3 hz]
  refine lv_iload hx hb d19 (lv_at hl 0 rfl) ?_
  refine lv_i2l hx hb d21 rfl ?_
  rw [h7 hz]
  refine W.lcmp hx hb d22 ?_
  refine lv_if_eq (tgt := pc + 28) hx hb d23 (by omega) (fun _ => hend H locs hw hS) (fun z => absurd ((lg_cmp_eq _ _).mpr rfl) z)
end LAWC
