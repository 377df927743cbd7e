/-! THE LAW'S WRAPPERS: a call, its answer put into the law's row, or the number of its exception -/
theorem met_ofWH {l : Launch} {y : MethodName} {ws ws' : List Cond} {rm : Room} {Pc : Array Value → State → Prop} {Qc : Array Value → State → Outcome → State → Prop} {mc ms : Nat} {free : Addr → Prop} {cc : ByteArray} {maxL : Nat} {ret : Option FieldType} {hh : List (Nat × Nat × Nat × Nat)}
    (hy : plainName y.cls = true) (hw : ws = Cond.codeWith y cc maxL ret hh :: ws')
    (body : ∀ p e s m args below meth c s₁, BodyLoose p l y (headSpec ws rm) cc maxL ret e s m args below meth c s₁ → c.maxLocals = maxL → Pc args s →
      W p l e (headSpec ws rm).room s m args below meth c s.heap [] 0 0 (MQ below Qc args s mc ms free) (entryFrame m args maxL)) : Met l y ws rm Pc Qc mc ms free := by
  refine MetFree.of_bodyS (code := cc) (maxLocals := maxL) (ret := ret) hy ?_ ?_
  · intro args s m h hn
    obtain ⟨m9, meth, c, hn9, h1, h2, h3, h4, -, h5, h6, -⟩ := Cond.codeWith_spec (atoms_spec (ws := ws) h _ (by rw [hw]; exact List.mem_cons_self))
    cases hn.symm.trans hn9
    exact ⟨meth, c, h1, h2, h3, h4, h5, h6⟩
  · intro p e s m args below meth c s₁ B hml hP _
    have hh0 : s₁.heap = s.heap := by rw [B.state]; rfl
    obtain ⟨t, a1, o, b1, b2, b3⟩ := body p e s m args below meth c s₁ B hml hP s₁ hh0 (Stand.of_body B)
    exact ⟨t, o, a1, b1, b2, ⟨b3.1, b3.2⟩⟩
/-- the law's row for an answer -/
def wO (ci : Nat → ClassId) (ao : Nat) (g : Nat → Int64) : va_W := [(ao, .inl (ci 2, 1, .inr (.inl g)))]
theorem wO_of {ci : Nat → ClassId} {ao : Nat} {g : Nat → Int64} {k : Nat} {q : Nat × va_E} (h : (wO ci ao g)[k]? = some q) : k = 0 ∧ q = (ao, .inl (ci 2, 1, .inr (.inl g))) := by
  have h1 := (List.getElem?_eq_some_iff.mp h).1
  have h1 : k < 1 := h1
  have e : k = 0 := by omega
  subst e
  exact ⟨rfl, (Option.some.inj h).symm⟩
theorem wO_kept {D : va_G} {ci : Nat → ClassId} {ao : Nat} {g : Nat → Int64} {H H1 : Heap} (h : va_P D vwCl (wO ci ao g) H) (hq : H1[ao]? = H[ao]?) : va_P D vwCl (wO ci ao g) H1 := h.kept fun k q hk => by
  obtain ⟨-, rfl⟩ := wO_of hk
  exact hq
theorem wO_lt {D : va_G} {ci : Nat → ClassId} {ao : Nat} {g : Nat → Int64} {H : Heap} (h : va_P D vwCl (wO ci ao g) H) : ao < H.size := (h 0 _ rfl).lt
theorem P_left {D : va_G} {cl : List vw_C} {a b : va_W} {H : Heap} (h : va_P D cl (a ++ b) H) : va_P D cl a H := h.by (fun k => k) fun k q hk => by
  show (a ++ b)[k]? = some q
  rw [List.getElem?_append_left (List.getElem?_eq_some_iff.mp hk).1]
  exact hk
theorem P_right {D : va_G} {cl : List vw_C} {a b : va_W} {H : Heap} (h : va_P D cl (a ++ b) H) : va_P D cl b H := h.by (fun k => a.length + k) fun k q hk => by
  show (a ++ b)[a.length + k]? = some q
  rw [List.getElem?_append_right (Nat.le_add_right _ _), Nat.add_sub_cancel_left]
  exact hk
abbrev AL (A : Nat → Prop) (ao : Nat) : Nat → Prop := fun q => A q ∨ q = ao
theorem l_D {A : Nat → Prop} {ad : Nat → Nat} {ob ob' : Nat → va_E} {ci : Nat → ClassId} {ao : Nat} {g : Nat → Int64} (hD : va_D A (pw 132 ad ob)) (hao : ¬ A ao) : va_D (AL A ao) (pw 132 ad ob' ++ wO ci ao g) := by
  have h1 : va_D A (pw 132 ad ob') := z_D hD
  refine va_D.app (h1.weaken fun _ _ _ h => Or.inl h) ⟨fun i j x y hx hy _ => ?_, fun k q hk => ?_⟩ fun i j x y hx hy e => ?_
  · rw [(wO_of hx).1, (wO_of hy).1]
  · rw [(wO_of hk).2]; exact Or.inr rfl
  · have h2 := h1.2 i x hx
    rw [e, (wO_of hy).2] at h2
    exact hao h2
/-- a wrapper's start and end -/
def PreL (D : va_G) (ad : Nat → Nat) (A : Nat → Prop) (ci : Nat → ClassId) (ao : Nat) (g : Nat → Int64) (σ : St) : State → Prop := fun U => PreX D 132 ad A (tyC ci) (obC ad ci σ) U ∧ va_P D vwCl (wO ci ao g) U.heap ∧ Nx U
def PL (o : Res) (r : Int32) (u : St × (Nat → Int64)) : Prop := r = nI o.1 ∧ InvC u.1 o.2.2 ∧ Rok u.1 ∧ (o.1 = 0 → u.2 0 = o.2.1.toInt64)
def PostL (D : va_G) (ad : Nat → Nat) (ci : Nat → ClassId) (ao : Nat) (u : St × (Nat → Int64)) : State → Prop := fun t => va_P D vwCl (pw 132 ad (obC ad ci u.1)) t.heap ∧ va_P D vwCl (wO ci ao u.2) t.heap
theorem l_blind {avs : List Value} {D : va_G} {ad : Nat → Nat} {A : Nat → Prop} {ci : Nat → ClassId} {ao : Nat} {g : Nat → Int64} {σ : St} : FrameBlind (va_Pc avs (PreL D ad A ci ao g σ)) := fun a U f mk q => by
  obtain ⟨q0, qX, qO, qN⟩ := q
  have hx := x_blind (avs := avs) (D := D) (N := 132) (ad := ad) (A := A) (tys := tyC ci) (ob := obC ad ci σ) a U f mk ⟨q0, qX⟩
  exact ⟨hx.1, hx.2, qO, qN.call f mk a⟩
/-- what a call of the object's leaves, as its wrapper takes it -/
def KC (o : Res) : Int32 → St → Prop := fun r τ => o.1 = 0 ∧ r = o.2.1 ∧ InvC τ o.2.2
def XC (E : List String) (o : Res) : String → St → Prop := fun n τ => ∃ e, o.1 = e + 1 ∧ E[e]? = some n ∧ InvC τ o.2.2
theorem OutC_KX (E : List String) (o : Res) : OutC E o (KC o) (XC E o) := ⟨fun h _ hτ => ⟨h, rfl, hτ⟩, fun e _ h1 h2 _ hτ => ⟨e, h1, h2, hτ⟩⟩
section WRP
variable {p : Program} {l : Launch} {e : Env} {R : Room} {s : State} {m : MethodId} {args : Array Value} {below : List Frame} {meth : Method} {c : Code} {H : Heap} {locs : List Loc} {cells slots : Nat} {Q : State → Prop}
variable {cc : ByteArray} {pc : Nat} {ls : Array Slot} {st0 rest As : List Value} {D : va_G} {ad : Nat → Nat} {A : Nat → Prop} {ci : Nat → ClassId} {ao : Nat} {g : Nat → Int64} {σ u : St} {E : List String} {o : Res}
theorem l_preX (hK : Kx D (tyC ci) s) (hE : Ex A s) (hP : va_P D vwCl (pw 132 ad (obC ad ci σ)) s.heap) (hD : va_D A (pw 132 ad (obC ad ci σ))) : PreV s s.heap RX5 (ad 0) (va_Pc (.ref (ad 0) :: As) (PreX D 132 ad A (tyC ci) (obC ad ci σ))) As :=
  ⟨x_blind, va_recv (q := (RX5, TX5, 6)) (fs := [.ref (ad 1), .ref (ad 3), .ref (ad 5), .ref (ad 58), .ref (ad 123), .ref (ad 127)]) hK.1 hP (ci := 5) (q0 := 0) rfl (by rw [pw_get (by omega)]; rfl), fun U hU hW => ⟨rfl, ⟨by rw [hU]; exact hP, Kx.warm hW hK, hD⟩, hE.to (A0 := A) hU hW fun _ _ _ => rfl⟩⟩
theorem l_call {a : Array Value} {post : Int32 → St → Prop} (hpost : ∀ r u, post r u → KC o r u) (hr : vx_Run p l e R s m args below meth c s.heap [] 0 0 1 6 (F0 m pc ls st0) rest (va_Qi (fun r u => post r u) (PostW D 132 ad (tyC ci) (obC ad ci) Rok) A a) (PostX D 132 ad (obC ad ci) Rok (XC E o) A) A)
    (hO : va_P D vwCl (wO ci ao g) s.heap) (hao : ¬ A ao)
    (kx : ∀ (k : Nat) (n : String) (ce : Cell) (q9 : Addr) (u : St) (H1 : Heap) (locs1 : List Loc), o.1 = k + 1 → E[k]? = some n → InvC u o.2.2 → Rok u → va_P D vwCl (pw 132 ad (obC ad ci u)) H1 → va_P D vwCl (wO ci ao g) H1 → va_S (AL A ao) s.heap H1 locs1 → H1[q9]? = some ce → ce.vm = .none → s.vm.findClass n = some ce.cls → vx_W p l e R s m args below meth c H1 locs1 1 6 Q (F0 m pc ls rest) q9)
    (kk : ∀ (u : St) (H1 : Heap) (locs1 : List Loc), o.1 = 0 → InvC u o.2.2 → Rok u → va_P D vwCl (pw 132 ad (obC ad ci u)) H1 → va_P D vwCl (wO ci ao g) H1 → va_S (AL A ao) s.heap H1 locs1 → W p l e R s m args below meth c H1 locs1 1 6 Q (F0 m (pc + 3) ls (.int o.2.1 :: rest))) :
    W p l e R s m args below meth c s.heap [] 0 0 Q (F0 m pc ls st0) := by
  refine vx_calli (A0 := AL A ao) (H0 := s.heap) hr va_S.rf (fun q _ h => Or.inl h) (fun q h => Or.inl h) (fun q _ h => Or.inl h) (fun E1 ce q9 u t H1 locs1 ht _ _ hB _ hk hS hc hv hcl => ?_) (fun r u t H1 locs1 ht _ hp hB _ hk hS => ?_)
  · obtain ⟨⟨k, h1, h2, h3⟩, h4, h5⟩ := hB
    rw [ht] at h4
    exact kx k E1 ce q9 u H1 locs1 h1 h2 h3 h5 h4 (wO_kept hO (hk ao (wO_lt hO) hao)) hS hc hv hcl
  · obtain ⟨h1, h2, h3⟩ := hpost r u hp
    obtain ⟨h4, -, h5⟩ := hB
    rw [ht] at h4
    subst h2
    exact kk u H1 locs1 h1 h3 h5 h4 (wO_kept hO (hk ao (wO_lt hO) hao)) hS
theorem l_store (hx : p.tables.exec = Jvm.exec) (hb : c.code = cc) (hK : Kx D (tyC ci) s) {H0 : Heap} (hP : va_P D vwCl (pw 132 ad (obC ad ci u)) H) (hO : va_P D vwCl (wO ci ao g) H) (hD : va_D A (pw 132 ad (obC ad ci σ))) (hao : ¬ A ao) (hS : va_S (AL A ao) H0 H locs) {v : Int64} (hdg : decode cc pc = .ok (.lastore, 1))
    (kk : ∀ (H1 : Heap) (locs1 : List Loc) (g1 : Nat → Int64), g1 0 = v → va_P D vwCl (pw 132 ad (obC ad ci u)) H1 → va_P D vwCl (wO ci ao g1) H1 → va_S (AL A ao) H0 H1 locs1 → W p l e R s m args below meth c H1 locs1 cells slots Q (F0 m (pc + 1) ls rest)) :
    W p l e R s m args below meth c H locs cells slots Q (F0 m pc ls (.long v :: .int 0 :: .ref ao :: rest)) := by
  have hlen := pw_len 132 ad (obC ad ci u)
  refine va_last (cA := ci 2) (n := 1) (f := g) (A := AL A ao) (ws := pw 132 ad (obC ad ci u) ++ wO ci ao g) hx hb hK.1 (hP.app hO) (l_D hD hao) hS 132 2 ?_ rfl (vp_in_nI (n := 0) (by omega) (by omega)) hdg fun H1 locs1 h1 h2 h3 => ?_
  · rw [List.getElem?_append_right (by omega), hlen]; rfl
  · rw [List.set_append_right _ _ (by omega), hlen] at h1
    exact kk H1 locs1 (vp_updL g 0 v) (by simp [vp_updL]) (P_left h1) (P_right h1) h3
theorem l_ret (hx : p.tables.exec = Jvm.exec) (hb : c.code = cc) (hr : meth.sig.returnType = some .int) (hlocks : meth.locks = false) {r : Int32} (h1 : r = nI o.1) (h2 : InvC u o.2.2) (h3 : Rok u) (h4 : o.1 = 0 → g 0 = o.2.1.toInt64) (hP : va_P D vwCl (pw 132 ad (obC ad ci u)) H) (hO : va_P D vwCl (wO ci ao g) H) (hS : va_S (AL A ao) s.heap H locs) (hdg : decode cc pc = .ok (.ireturn, 1)) :
    W p l e R s m args below meth c H locs cells slots (MQ below (va_Qi (PL o) (PostL D ad ci ao) (AL A ao)) args s cells slots (AL A ao)) (F0 m pc ls [.int r]) :=
  W.iret hx hb hr (fun t ht _ => ⟨⟨r, (u, g), rfl, ⟨h1, h2, h3, h4⟩, by rw [ht]; exact hP, by rw [ht]; exact hO⟩, hS.F ht⟩) hS.2.2 hdg hlocks
end WRP
