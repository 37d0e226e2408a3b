/-! contracts over worlds, returns, calls -/
def q_Q (γ : q_G) (A : Nat → Prop) (Qn : Option Value → va_W → Prop) : Array Value → State → Outcome → State → Prop := fun _ st oc t => (∃ (r : Option Value) (w' : va_W), oc = .returned r ∧ Qn r w' ∧ va_P γ.2.1 CL w' t.heap ∧ va_K γ.2.1 CL (q_ty γ.2.2.1) t ∧ va_D A w') ∧ va_F A st t
def q_P (γ : q_G) (w : va_W) (sz : Nat) : State → Prop := fun U => U.heap.size = sz ∧ va_P γ.2.1 CL w U.heap ∧ va_K γ.2.1 CL (q_ty γ.2.2.1) U ∧ va_D (fun _ => True) w ∧ q_ST γ.2.2.2 (va_A w sz) U U.heap
theorem q_P_blind {γ : q_G} {av : List Value} {w : va_W} {sz : Nat} : FrameBlind (va_Pc av (q_P γ w sz)) := by
  intro a U g mk h
  obtain ⟨h0, h1, h2, h3, h4, h5⟩ := h
  exact ⟨h0, h1, h2, va_K.moved (u := U) (U := U.calling g mk a) (Vm.Alike.refl U.vm) h3, h4, q_ST.warm (u := U) (U := U.calling g mk a) (State.WarmedH.refl U) h5⟩
/-- a method that returns -/
def ctR (γ : q_G) (y : MethodName) (bc : ByteArray) (nL : Nat) (ret : Option FieldType) (rm : Room) (av : List Value) (w : va_W) (Qn : Option Value → va_W → Prop) : Prop :=
  γ.1.stackTraces = false → ∀ sz, Met γ.1 y (Cond.code y bc nL ret :: GW) rm (va_Pc av (q_P γ w sz)) (q_Q γ (va_A w sz) Qn) rm.cells rm.slots (va_A w sz)
def q_E (γ : q_G) (g : q_T) (rm : Room) (ret : Option FieldType) (Qn : Option Value → va_W → Prop) : Prop := match g with
  | ((l, _, _, _), p, e, R, s, m, args, below, meth, c, Q, A, _) => meth.sig.returnType = ret ∧ ∀ (H : Heap) (locs : List Loc) (f : JFrame), W p l e R s m args below meth c H locs rm.cells rm.slots (MQ below (q_Q γ A Qn) args s rm.cells rm.slots A) f → W p l e R s m args below meth c H locs rm.cells rm.slots Q f
def q_N (g : q_T) (nm : String) : Prop := match g with
  | ((_, _, _, _), _, _, _, _, _, _, _, meth, _, _, _, _) => meth.name = nm
theorem ctR_of {γ : q_G} {y : MethodName} {bc : ByteArray} {nL : Nat} {ret : Option FieldType} {rm : Room} {av : List Value} {w : va_W} {Qn : Option Value → va_W → Prop} (hy : plainName y.cls = true) (hne : (lg_sl av).length ≤ nL)
    (body : ∀ g, q_C γ g y.cls bc rm nL → q_E γ g rm ret Qn → q_N g y.name → V g 0 (lv_args 0 av) [] w 0 0) : ctR γ y bc nL ret rm av w Qn := by
  intro hst sz
  obtain ⟨l, D, cI, t⟩ := γ
  refine Met.ofW (cc := bc) (maxL := nL) (ret := ret) hy rfl ?_
  intro p e s m args below meth c s₁ B hml hv
  obtain ⟨rfl, hsz, hP, hK, hD0, hST⟩ := hv
  subst hsz
  have hD := hD0.self (sz := s.heap.size)
  have hl := lv_entry av (n := nL) hne
  have hts := atoms_spec (ws := Cond.code y bc nL ret :: GW) B.pre
  rw [lg_entry_eq]
  exact body ((l, D, cI, t), p, e, rm, s, m, av.toArray, below, meth, c, _, va_A w s.heap.size, nL) ⟨rfl, B.exec, B.bytes, hml, findClass_of_methodNamed B.named, fun w hw => hts w (List.mem_cons_of_mem _ hw), hK, fun q h => Or.inr h, B.notSynchronized, hST, hst, rfl, rfl⟩ ⟨B.returns, fun H locs f h => h⟩ (name_of_methodNamed B.named B.method).1 s.heap [] _ hl hP hD va_S.rf
section
variable {γ : q_G} {g : q_T} {own : String} {cc : ByteArray} {rm : Room} {nL : Nat} {pc : Nat} {lv lv' : List (Nat × Value)} {st st' rest : List Value} {w w' : va_W} {k n k' n' : Nat} {Qn : Option Value → va_W → Prop}
theorem v_iret (C : q_C γ g own cc rm nL) (E : q_E γ g rm (some .int) Qn) {v : Int32} (hk : k ≤ rm.cells) (hn : n ≤ rm.slots) (hq : Qn (some (.int v)) w) (hd : decode cc pc = .ok (.ireturn, 1)) : V g pc lv [.int v] w k n := by
  obtain ⟨⟨l, D, cI, tt⟩, p, e, R, s, m, args, below, meth, c, Q, A, nL0⟩ := g
  obtain ⟨hγ, hx, hb, hml, hown, hts, hK, hA, hlocks, hST, hst, hR, hnl⟩ := C
  subst hγ
  exact fun H locs ls hl hP hD hS => W.widen hk hn (E.2 H locs _ (W.iret hx hb E.1 (fun t ht hW => ⟨⟨_, w, rfl, hq, by rw [ht]; exact hP, va_K.moved hW.alike hK, hD⟩, hS.F ht⟩) hS.2.2 hd hlocks))
theorem v_zret (C : q_C γ g own cc rm nL) (E : q_E γ g rm (some .boolean) Qn) {v : Int32} (hv : narrow .boolean (.int v) = .int v) (hk : k ≤ rm.cells) (hn : n ≤ rm.slots) (hq : Qn (some (.int v)) w) (hd : decode cc pc = .ok (.ireturn, 1)) : V g pc lv [.int v] w k n := by
  obtain ⟨⟨l, D, cI, tt⟩, p, e, R, s, m, args, below, meth, c, Q, A, nL0⟩ := g
  obtain ⟨hγ, hx, hb, hml, hown, hts, hK, hA, hlocks, hST, hst, hR, hnl⟩ := C
  subst hγ
  exact fun H locs ls hl hP hD hS => W.widen hk hn (E.2 H locs _ (W.zret hx hb E.1 hv (fun t ht hW => ⟨⟨_, w, rfl, hq, by rw [ht]; exact hP, va_K.moved hW.alike hK, hD⟩, hS.F ht⟩) hS.2.2 hd hlocks))
theorem v_lret (C : q_C γ g own cc rm nL) (E : q_E γ g rm (some .long) Qn) {v : Int64} (hk : k ≤ rm.cells) (hn : n ≤ rm.slots) (hq : Qn (some (.long v)) w) (hd : decode cc pc = .ok (.lreturn, 1)) : V g pc lv [.long v] w k n := by
  obtain ⟨⟨l, D, cI, tt⟩, p, e, R, s, m, args, below, meth, c, Q, A, nL0⟩ := g
  obtain ⟨hγ, hx, hb, hml, hown, hts, hK, hA, hlocks, hST, hst, hR, hnl⟩ := C
  subst hγ
  exact fun H locs ls hl hP hD hS => W.widen hk hn (E.2 H locs _ (W.lret hx hb E.1 (fun t ht hW => ⟨⟨_, w, rfl, hq, by rw [ht]; exact hP, va_K.moved hW.alike hK, hD⟩, hS.F ht⟩) hS.2.2 hd hlocks))
theorem v_dret (C : q_C γ g own cc rm nL) (E : q_E γ g rm (some .double) Qn) {v : UInt64} (hk : k ≤ rm.cells) (hn : n ≤ rm.slots) (hq : Qn (some (.double v)) w) (hd : decode cc pc = .ok (.dreturn, 1)) : V g pc lv [.double v] w k n := by
  obtain ⟨⟨l, D, cI, tt⟩, p, e, R, s, m, args, below, meth, c, Q, A, nL0⟩ := g
  obtain ⟨hγ, hx, hb, hml, hown, hts, hK, hA, hlocks, hST, hst, hR, hnl⟩ := C
  subst hγ
  exact fun H locs ls hl hP hD hS => W.widen hk hn (E.2 H locs _ (W.dret hx hb E.1 (fun t ht hW => ⟨⟨_, w, rfl, hq, by rw [ht]; exact hP, va_K.moved hW.alike hK, hD⟩, hS.F ht⟩) hS.2.2 hd hlocks))
theorem v_vret (C : q_C γ g own cc rm nL) (E : q_E γ g rm none Qn) (hk : k ≤ rm.cells) (hn : n ≤ rm.slots) (hq : Qn none w) (hd : decode cc pc = .ok (.return_, 1)) : V g pc lv [] w k n := by
  obtain ⟨⟨l, D, cI, tt⟩, p, e, R, s, m, args, below, meth, c, Q, A, nL0⟩ := g
  obtain ⟨hγ, hx, hb, hml, hown, hts, hK, hA, hlocks, hST, hst, hR, hnl⟩ := C
  subst hγ
  exact fun H locs ls hl hP hD hS => W.widen hk hn (E.2 H locs _ (W.vret hx hb E.1 (fun t ht hW => ⟨⟨_, w, rfl, hq, by rw [ht]; exact hP, va_K.moved hW.alike hK, hD⟩, hS.F ht⟩) hS.2.2 hd hlocks))
end
theorem GW_good : GoodIn GW GW := fun w h => ⟨h, good_of_word (List.mem_filter.mp h).2⟩
theorem GW_cons {w : Cond} (h : w ∈ GW) : GoodIn GW (w :: GW) := fun x hx => (List.mem_cons.mp hx).elim (fun e => by rw [e]; exact GW_good w h) (fun h => GW_good x h)
section
variable {γ : q_G} {p : Program} {e : Env} {R : Room} {s : State} {m : MethodId} {args : Array Value} {below : List Frame} {meth : Method} {c : Code} {H : Heap} {locs : List Loc} {k n mc ms pc : Nat} {ls : Array Slot} {Q : State → Prop} {A : Nat → Prop} {a : Array Value} {st rest : List Value} {w wc wr : va_W} {Qn : Option Value → va_W → Prop}
theorem w_call {l : Launch} (hr : va_Run p l e R s m args below meth c H locs k n mc ms (F0 m pc ls st) rest (q_Q γ (va_A wc H.size) Qn a) (va_A wc H.size)) (hP : va_P γ.2.1 CL w H) (hD : va_D A w) (hS : va_S A s.heap H locs) (hA : ∀ q, s.heap.size ≤ q → A q)
    (isC isR : List Nat) (hC : isC.map (fun i => w[i]?) = wc.map some) (hR : isR.map (fun i => w[i]?) = wr.map some) (hn : va_nd isR = true) (hdis : ∀ i ∈ isR, i ∉ isC)
    (kk : ∀ (r : Option Value) (w1 : va_W), Qn r w1 → ∀ (H1 : Heap) (locs1 : List Loc), va_P γ.2.1 CL (wr ++ w1) H1 → va_D A (wr ++ w1) → va_S A s.heap H1 locs1 → W p l e R s m args below meth c H1 locs1 (k + mc) (n + ms) Q (F0 m (pc + 3) ls (r.toList ++ rest))) : W p l e R s m args below meth c H locs k n Q (F0 m pc ls st) := by
  have hF := va_free (wc := wc) hD hS hA isC hC
  intro T hT X
  obtain ⟨v, st₀, t, T', L, h0, X', hL, e1, e2, ⟨⟨r, w1, hv, hq, hP1, hK1, hD1⟩, hFr⟩, go⟩ := hr T hT X
  cases hv
  obtain ⟨k1, k2, k3⟩ := vx_keep h0 e1 hS (fun q _ h => hF q h) hF hL hFr
  obtain ⟨hP2, hD2⟩ := va_join hP hD isC isR hC hR hn hdis k2 hF (by rw [e1]; exact hP1) hD1
  obtain ⟨t2, a1, b1⟩ := kk v w1 hq T'.heap (locs ++ L) hP2 hD2 k3 T' rfl X'
  exact ⟨t2, go t2 a1, b1⟩
end
def q_rm (rmy rm : Room) (nLy : Nat) : Bool := decide (rmy.frames + 1 ≤ rm.frames) && decide (8 + (nLy + 11) + rmy.locals ≤ rm.locals)
def q_dis (isC isR : List Nat) : Bool := va_nd isR && isR.all (fun i => !isC.contains i)
theorem q_dis_of {isC isR : List Nat} (h : q_dis isC isR = true) : va_nd isR = true ∧ ∀ i ∈ isR, i ∉ isC := by
  simp only [q_dis, Bool.and_eq_true, List.all_eq_true] at h
  refine ⟨h.1, fun i hi hc => ?_⟩
  have := h.2 i hi
  simp [hc] at this
def q_no (y : MethodName) (np : Nat) : Prop := y.cls ≠ "java/lang/invoke/MethodHandle" ∧ y.cls ≠ "java/lang/invoke/VarHandle" ∧ (parseMethodDescriptor y.desc).map (fun d => d.parameters.length) = some np
/-- a call's words: of an instance method by its name -/
def q_LV (own : String) (idx : Nat) (Cn : String) (y : MethodName) (bc : ByteArray) (nLy : Nat) (ret : Option FieldType) (np : Nat) : Prop := Cond.methodLink own idx y ∈ GW ∧ Cond.instanceMethod y ∈ GW ∧ Cond.selects Cn y y ∈ GW ∧ Cond.initialized y.cls ∈ GW ∧ Cond.code y bc nLy ret ∈ GW ∧ q_no y np
def q_LS (own : String) (idx : Nat) (y : MethodName) (bc : ByteArray) (nLy : Nat) (ret : Option FieldType) (np : Nat) : Prop := Cond.methodLink own idx y ∈ GW ∧ Cond.static y ∈ GW ∧ Cond.initialized y.cls ∈ GW ∧ Cond.code y bc nLy ret ∈ GW ∧ q_no y np
def q_LSN (own : String) (idx : Nat) (y : MethodName) (host : String) (bc : ByteArray) (nLy : Nat) (ret : Option FieldType) (np : Nat) : Prop := Cond.methodLinkNest own idx y host ∈ NW ∧ Cond.static y ∈ GW ∧ Cond.initialized y.cls ∈ GW ∧ Cond.code y bc nLy ret ∈ GW ∧ q_no y np
def q_LI (own : String) (idx : Nat) (y : MethodName) (bc : ByteArray) (nLy : Nat) (np : Nat) : Prop := Cond.methodLink own idx y ∈ GW ∧ Cond.instanceMethod y ∈ GW ∧ Cond.initialized y.cls ∈ GW ∧ Cond.code y bc nLy none ∈ GW ∧ q_no y np ∧ y.name = "<init>"
def q_LIN (own : String) (idx : Nat) (y : MethodName) (host : String) (bc : ByteArray) (nLy : Nat) (np : Nat) : Prop := Cond.methodLinkNest own idx y host ∈ NW ∧ Cond.instanceMethod y ∈ GW ∧ Cond.initialized y.cls ∈ GW ∧ Cond.code y bc nLy none ∈ GW ∧ q_no y np ∧ y.name = "<init>"
section
variable {γ : q_G} {g : q_T} {own : String} {cc : ByteArray} {rm rmy : Room} {nL nLy np : Nat} {pc idx : Nat} {lv lv' : List (Nat × Value)} {st st' rest As : List Value} {w w' wc wr : va_W} {k n k' n' b : Nat} {Qn : Option Value → va_W → Prop} {y : MethodName} {bc : ByteArray} {ret : Option FieldType}
theorem q_pre {l : Launch} {D : va_G} {cI : ClassId × ClassId} {tt : Nat × Nat × Nat} {s : State} {A : Nat → Prop} {H : Heap} {locs : List Loc} {av : List Value} (hK : va_K D CL (q_ty cI) s) (hA : ∀ q, s.heap.size ≤ q → A q) (hST : q_ST tt A s s.heap) (hP : va_P D CL w H) (hD : va_D A w) (hS : va_S A s.heap H locs) (isC : List Nat) (hC : isC.map (fun i => w[i]?) = wc.map some) (hnd : va_nd isC = true) :
    ∀ U : State, U.heap = H → s.WarmedH U.vm → va_Pc av (q_P (l, D, cI, tt) wc H.size) av.toArray U := by
  intro U hU hW
  have hF := va_free (wc := wc) hD hS hA isC hC
  refine ⟨rfl, by rw [hU], ?_, va_K.moved hW.alike hK, (hD.sub isC hnd hC).weaken (fun _ _ _ _ => trivial), ?_⟩
  · rw [hU]; exact hP.sub isC (fm_of hC)
  · rw [hU]
    exact q_ST.warm hW ((hST.kept hS.2.1).narrow hF)
theorem v_callV (C : q_C γ g own cc rm nL) {ci : Nat} {Cn : String} {T : u_T} {N : Nat} {ty : Nat → FieldType} (K : q_K ci Cn T N ty) (L : q_LV own idx Cn y bc nLy ret np) (q0 : Nat) {fs : List Value} (hb0 : w[q0]? = some (b, .inr (ci, fs))) (hM : ctR γ y bc nLy ret rmy (.ref b :: As) wc Qn) (isC isR : List Nat) (hC : isC.map (fun i => w[i]?) = wc.map some) (hR : isR.map (fun i => w[i]?) = wr.map some)
    (hdis : q_dis isC isR = true ∧ va_nd isC = true) (hrm : q_rm rmy rm nLy = true) (hk : k + rmy.cells ≤ rm.cells) (hn : n + rmy.slots ≤ rm.slots) (hlen : As.length = np) (hst : st = As.reverse ++ .ref b :: rest) (hcat : (rest.map fun v => v.category).sum ≤ 8) (hd : decode cc pc = .ok (.invokevirtual idx, 3))
    (kk : ∀ (r : Option Value) (w1 : va_W), Qn r w1 → V g (pc + 3) lv (r.toList ++ rest) (wr ++ w1) (k + rmy.cells) (n + rmy.slots)) : V g pc lv st w k n := by
  obtain ⟨⟨l, D, cI, tt⟩, p, e, R, s, m, args, below, meth, c, Q, A, nL0⟩ := g
  obtain ⟨hγ, hx, hb, hml, hown, hts, hK, hA, hlocks, hST, hstk, hR', hnl⟩ := C
  subst hγ; subst hR'; subst hnl; subst hst
  simp only [q_rm, Bool.and_eq_true, decide_eq_true_eq] at hrm
  intro H locs ls hl hP hD hS
  exact w_call (va_runV (As := As) (rest := rest) ⟨hx, hb, hml, hown, hts⟩ (hM hstk H.size) ⟨⟨rfl, rfl, hrm.1, hrm.2, pay_in hts (GW_cons L.2.2.2.2.1), List.mem_cons_self, hts _ L.2.2.2.2.1, hts _ L.2.2.2.1, ⟨L.2.2.2.2.2.1, L.2.2.2.2.2.2.1⟩, fun sig h => by
      have h2 := L.2.2.2.2.2.2.2
      rw [h] at h2
      exact (Option.some.inj h2).symm, hts _ L.1⟩, hts _ L.2.1, hts _ L.2.2.1⟩ ⟨q_P_blind, va_recv hK hP K.1 hb0, q_pre hK hA hST hP hD hS isC hC hdis.2⟩ rfl hlen hl.1 rfl (lv_room hcat) hd ⟨hk, hn⟩) hP hD hS hA isC isR hC hR (q_dis_of hdis.1).1 (q_dis_of hdis.1).2
    (fun r w1 hq H1 locs1 hP1 hD1 hS1 => kk r w1 hq H1 locs1 ls hl hP1 hD1 hS1)
theorem v_callS (C : q_C γ g own cc rm nL) (L : q_LS own idx y bc nLy ret np) (hM : ctR γ y bc nLy ret rmy As wc Qn) (isC isR : List Nat) (hC : isC.map (fun i => w[i]?) = wc.map some) (hR : isR.map (fun i => w[i]?) = wr.map some)
    (hdis : q_dis isC isR = true ∧ va_nd isC = true) (hrm : q_rm rmy rm nLy = true) (hk : k + rmy.cells ≤ rm.cells) (hn : n + rmy.slots ≤ rm.slots) (hlen : As.length = np) (hst : st = As.reverse ++ rest) (hcat : (rest.map fun v => v.category).sum ≤ 8) (hd : decode cc pc = .ok (.invokestatic idx, 3))
    (kk : ∀ (r : Option Value) (w1 : va_W), Qn r w1 → V g (pc + 3) lv (r.toList ++ rest) (wr ++ w1) (k + rmy.cells) (n + rmy.slots)) : V g pc lv st w k n := by
  obtain ⟨⟨l, D, cI, tt⟩, p, e, R, s, m, args, below, meth, c, Q, A, nL0⟩ := g
  obtain ⟨hγ, hx, hb, hml, hown, hts, hK, hA, hlocks, hST, hstk, hR', hnl⟩ := C
  subst hγ; subst hR'; subst hnl; subst hst
  simp only [q_rm, Bool.and_eq_true, decide_eq_true_eq] at hrm
  intro H locs ls hl hP hD hS
  exact w_call (va_runS (As := As) (rest := rest) ⟨hx, hb, hml, hown, hts⟩ (hM hstk H.size) ⟨⟨rfl, rfl, hrm.1, hrm.2, pay_in hts (GW_cons L.2.2.2.1), List.mem_cons_self, hts _ L.2.2.2.1, hts _ L.2.2.1, ⟨L.2.2.2.2.1, L.2.2.2.2.2.1⟩, fun sig h => by
      have h2 := L.2.2.2.2.2.2
      rw [h] at h2
      exact (Option.some.inj h2).symm, hts _ L.1⟩, hts _ L.2.1⟩ ⟨q_P_blind, q_pre hK hA hST hP hD hS isC hC hdis.2⟩ rfl hlen hl.1 rfl (lv_room hcat) hd ⟨hk, hn⟩) hP hD hS hA isC isR hC hR (q_dis_of hdis.1).1 (q_dis_of hdis.1).2
    (fun r w1 hq H1 locs1 hP1 hD1 hS1 => kk r w1 hq H1 locs1 ls hl hP1 hD1 hS1)
theorem v_callSN (C : q_C γ g own cc rm nL) {host : String} (L : q_LSN own idx y host bc nLy ret np) (hM : ctR γ y bc nLy ret rmy As wc Qn) (isC isR : List Nat) (hC : isC.map (fun i => w[i]?) = wc.map some) (hR : isR.map (fun i => w[i]?) = wr.map some)
    (hdis : q_dis isC isR = true ∧ va_nd isC = true) (hrm : q_rm rmy rm nLy = true) (hk : k + rmy.cells ≤ rm.cells) (hn : n + rmy.slots ≤ rm.slots) (hlen : As.length = np) (hst : st = As.reverse ++ rest) (hcat : (rest.map fun v => v.category).sum ≤ 8) (hd : decode cc pc = .ok (.invokestatic idx, 3))
    (kk : ∀ (r : Option Value) (w1 : va_W), Qn r w1 → V g (pc + 3) lv (r.toList ++ rest) (wr ++ w1) (k + rmy.cells) (n + rmy.slots)) : V g pc lv st w k n := by
  obtain ⟨⟨l, D, cI, tt⟩, p, e, R, s, m, args, below, meth, c, Q, A, nL0⟩ := g
  obtain ⟨hγ, hx, hb, hml, hown, hts, hK, hA, hlocks, hST, hstk, hR', hnl⟩ := C
  subst hγ; subst hR'; subst hnl; subst hst
  simp only [q_rm, Bool.and_eq_true, decide_eq_true_eq] at hrm
  intro H locs ls hl hP hD hS
  exact w_call (va_runSN (host := host) (As := As) (rest := rest) ⟨hx, hb, hml, hown, hts⟩ (hM hstk H.size) ⟨⟨⟨rfl, rfl, hrm.1, hrm.2, pay_in hts (GW_cons L.2.2.2.1), List.mem_cons_self⟩, hts _ L.2.2.2.1, hts _ L.2.2.1, ⟨L.2.2.2.2.1, L.2.2.2.2.2.1⟩, fun sig h => by
      have h2 := L.2.2.2.2.2.2
      rw [h] at h2
      exact (Option.some.inj h2).symm, va_Nw.use rfl (hST.2.2.2.2.2.2.2.2.1 _ L.1)⟩, hts _ L.2.1, trivial⟩ ⟨q_P_blind, q_pre hK hA hST hP hD hS isC hC hdis.2⟩ rfl hlen hl.1 rfl (lv_room hcat) hd ⟨hk, hn⟩) hP hD hS hA isC isR hC hR (q_dis_of hdis.1).1 (q_dis_of hdis.1).2
    (fun r w1 hq H1 locs1 hP1 hD1 hS1 => kk r w1 hq H1 locs1 ls hl hP1 hD1 hS1)
theorem v_callI (C : q_C γ g own cc rm nL) (L : q_LI own idx y bc nLy np) (hM : ctR γ y bc nLy none rmy (.ref b :: As) wc Qn) (isC isR : List Nat) (hC : isC.map (fun i => w[i]?) = wc.map some) (hR : isR.map (fun i => w[i]?) = wr.map some)
    (hdis : q_dis isC isR = true ∧ va_nd isC = true) (hrm : q_rm rmy rm nLy = true) (hk : k + rmy.cells ≤ rm.cells) (hn : n + rmy.slots ≤ rm.slots) (hlen : As.length = np) (hst : st = As.reverse ++ .ref b :: rest) (hcat : (rest.map fun v => v.category).sum ≤ 8) (hd : decode cc pc = .ok (.invokespecial idx, 3))
    (kk : ∀ (r : Option Value) (w1 : va_W), Qn r w1 → V g (pc + 3) lv (r.toList ++ rest) (wr ++ w1) (k + rmy.cells) (n + rmy.slots)) : V g pc lv st w k n := by
  obtain ⟨⟨l, D, cI, tt⟩, p, e, R, s, m, args, below, meth, c, Q, A, nL0⟩ := g
  obtain ⟨hγ, hx, hb, hml, hown, hts, hK, hA, hlocks, hST, hstk, hR', hnl⟩ := C
  subst hγ; subst hR'; subst hnl; subst hst
  simp only [q_rm, Bool.and_eq_true, decide_eq_true_eq] at hrm
  intro H locs ls hl hP hD hS
  exact w_call (va_runI (As := As) (rest := rest) ⟨hx, hb, hml, hown, hts⟩ (hM hstk H.size) ⟨⟨rfl, rfl, hrm.1, hrm.2, pay_in hts (GW_cons L.2.2.2.1), List.mem_cons_self, hts _ L.2.2.2.1, hts _ L.2.2.1, ⟨L.2.2.2.2.1.1, L.2.2.2.2.1.2.1⟩, fun sig h => by
      have h2 := L.2.2.2.2.1.2.2
      rw [h] at h2
      exact (Option.some.inj h2).symm, hts _ L.1⟩, L.2.2.2.2.2, hts _ L.2.1⟩ ⟨q_P_blind, q_pre hK hA hST hP hD hS isC hC hdis.2⟩ rfl hlen hl.1 rfl (lv_room hcat) hd ⟨hk, hn⟩) hP hD hS hA isC isR hC hR (q_dis_of hdis.1).1 (q_dis_of hdis.1).2
    (fun r w1 hq H1 locs1 hP1 hD1 hS1 => kk r w1 hq H1 locs1 ls hl hP1 hD1 hS1)
theorem v_callIN (C : q_C γ g own cc rm nL) {host : String} (L : q_LIN own idx y host bc nLy np) (hM : ctR γ y bc nLy none rmy (.ref b :: As) wc Qn) (isC isR : List Nat) (hC : isC.map (fun i => w[i]?) = wc.map some) (hR : isR.map (fun i => w[i]?) = wr.map some)
    (hdis : q_dis isC isR = true ∧ va_nd isC = true) (hrm : q_rm rmy rm nLy = true) (hk : k + rmy.cells ≤ rm.cells) (hn : n + rmy.slots ≤ rm.slots) (hlen : As.length = np) (hst : st = As.reverse ++ .ref b :: rest) (hcat : (rest.map fun v => v.category).sum ≤ 8) (hd : decode cc pc = .ok (.invokespecial idx, 3))
    (kk : ∀ (r : Option Value) (w1 : va_W), Qn r w1 → V g (pc + 3) lv (r.toList ++ rest) (wr ++ w1) (k + rmy.cells) (n + rmy.slots)) : V g pc lv st w k n := by
  obtain ⟨⟨l, D, cI, tt⟩, p, e, R, s, m, args, below, meth, c, Q, A, nL0⟩ := g
  obtain ⟨hγ, hx, hb, hml, hown, hts, hK, hA, hlocks, hST, hstk, hR', hnl⟩ := C
  subst hγ; subst hR'; subst hnl; subst hst
  simp only [q_rm, Bool.and_eq_true, decide_eq_true_eq] at hrm
  intro H locs ls hl hP hD hS
  exact w_call (va_runIN (host := host) (As := As) (rest := rest) ⟨hx, hb, hml, hown, hts⟩ (hM hstk H.size) ⟨⟨⟨rfl, rfl, hrm.1, hrm.2, pay_in hts (GW_cons L.2.2.2.1), List.mem_cons_self⟩, hts _ L.2.2.2.1, hts _ L.2.2.1, ⟨L.2.2.2.2.1.1, L.2.2.2.2.1.2.1⟩, fun sig h => by
      have h2 := L.2.2.2.2.1.2.2
      rw [h] at h2
      exact (Option.some.inj h2).symm, va_Nw.use rfl (hST.2.2.2.2.2.2.2.2.1 _ L.1)⟩, L.2.2.2.2.2, hts _ L.2.1⟩ ⟨q_P_blind, q_pre hK hA hST hP hD hS isC hC hdis.2⟩ rfl hlen hl.1 rfl (lv_room hcat) hd ⟨hk, hn⟩) hP hD hS hA isC isR hC hR (q_dis_of hdis.1).1 (q_dis_of hdis.1).2
    (fun r w1 hq H1 locs1 hP1 hD1 hS1 => kk r w1 hq H1 locs1 ls hl hP1 hD1 hS1)
end
