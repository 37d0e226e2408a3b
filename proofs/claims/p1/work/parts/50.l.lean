/-! rows for the law and its wrappers: longs, the script, what is caught -/
section
variable {γ : q_G} {g : q_T} {own : String} {cc : ByteArray} {rm rmy : Room} {nL nLy np : Nat} {pc idx : Nat} {lv lv' : List (Nat × Value)} {st st' rest As : List Value} {w w' wc wr : va_W} {k n k' n' b : Nat} {Qn : Option Value → va_W → Prop} {Qx Qy : String → Prop} {y : MethodName} {bc : ByteArray} {ret : Option FieldType}
theorem v_lald (C : q_C γ g own cc rm nL) (q0 : Nat) {a N : Nat} {f : Nat → Int64} {i : Int32} (ha : w[q0]? = some (a, .inl (γ.2.2.1.2, N, .inr (.inl f)))) (hin : vp_in i N) (hd : decode cc pc = .ok (.laload, 1)) (kk : V g (pc + 1) lv (.long (f i.toNatClampNeg) :: rest) w k n) : V g pc lv (.int i :: .ref a :: rest) w k n := by
  obtain ⟨⟨l, D, cI, tt⟩, p, e, R, s, m, args, below, meth, c, Q, A, nL0⟩ := g
  obtain ⟨hγ, hx, hb, hml, hown, hts, hK, hA, hlocks, hST, hst, hR, hnl⟩ := C
  subst hγ
  exact fun H locs ls hl hP hD hS => va_lald hx hb hK hP q0 1 ha rfl hin hd (kk H locs ls hl hP hD hS)
theorem v_last (C : q_C γ g own cc rm nL) (q0 : Nat) {a N : Nat} {f : Nat → Int64} {i : Int32} {x : Int64} (ha : w[q0]? = some (a, .inl (γ.2.2.1.2, N, .inr (.inl f)))) (hin : vp_in i N) (hw : w.set q0 (a, .inl (γ.2.2.1.2, N, .inr (.inl (vp_updL f i.toNatClampNeg x)))) = w') (hd : decode cc pc = .ok (.lastore, 1)) (kk : V g (pc + 1) lv rest w' k n) : V g pc lv (.long x :: .int i :: .ref a :: rest) w k n := by
  obtain ⟨⟨l, D, cI, tt⟩, p, e, R, s, m, args, below, meth, c, Q, A, nL0⟩ := g
  obtain ⟨hγ, hx, hb, hml, hown, hts, hK, hA, hlocks, hST, hst, hR, hnl⟩ := C
  subst hγ
  subst hw
  exact fun H locs ls hl hP hD hS => va_last hx hb hK hP hD hS q0 1 ha rfl hin hd (fun H1 locs1 hP1 hD1 hS1 => kk H1 locs1 ls hl hP1 hD1 hS1)
theorem v_lcmp (C : q_C γ g own cc rm nL) {x y : Int64} (hd : decode cc pc = .ok (.lcmp, 1)) (kk : V g (pc + 1) lv (.int (lg_cmp x y) :: rest) w k n) : V g pc lv (.long y :: .long x :: rest) w k n := by
  obtain ⟨⟨l, D, cI, tt⟩, p, e, R, s, m, args, below, meth, c, Q, A, nL0⟩ := g
  obtain ⟨hγ, hx, hb, hml, hown, hts, hK, hA, hlocks, hST, hst, hR, hnl⟩ := C
  exact fun H locs ls hl hP hD hS => W.lcmp hx hb hd (kk H locs ls hl hP hD hS)
theorem v_dcmp (C : q_C γ g own cc rm nL) {x y : UInt64} {op : CmpOp} (hd : decode cc pc = .ok (.dcmp op, 1)) (kk : V g (pc + 1) lv (.int (Op.cmpValue (FP.dcmp x y) op) :: rest) w k n) : V g pc lv (.double y :: .double x :: rest) w k n := by
  obtain ⟨⟨l, D, cI, tt⟩, p, e, R, s, m, args, below, meth, c, Q, A, nL0⟩ := g
  obtain ⟨hγ, hx, hb, hml, hown, hts, hK, hA, hlocks, hST, hst, hR, hnl⟩ := C
  exact fun H locs ls hl hP hD hS => lv_dcmp hx hb hd (kk H locs ls hl hP hD hS)
theorem v_dload (C : q_C γ g own cc rm nL) {i : Nat} {x : UInt64} (hl0 : q_lk lv i = some (.double x)) (hd : decode cc pc = .ok (.dload i, 2)) (kk : V g (pc + 2) lv (.double x :: rest) w k n) : V g pc lv rest w k n := by
  obtain ⟨⟨l, D, cI, tt⟩, p, e, R, s, m, args, below, meth, c, Q, A, nL0⟩ := g
  obtain ⟨hγ, hx, hb, hml, hown, hts, hK, hA, hlocks, hST, hst, hR, hnl⟩ := C
  exact fun H locs ls hl hP hD hS => lv_dload hx hb hd (q_lk_has hl hl0) (kk H locs ls hl hP hD hS)
theorem v_dstore (C : q_C γ g own cc rm nL) {i : Nat} {x : UInt64} (hn0 : i + 1 < nL) (hl0 : q_st2 lv i (.double x) = lv') (hd : decode cc pc = .ok (.dstore i, 2)) (kk : V g (pc + 2) lv' rest w k n) : V g pc lv (.double x :: rest) w k n := by
  obtain ⟨⟨l, D, cI, tt⟩, p, e, R, s, m, args, below, meth, c, Q, A, nL0⟩ := g
  obtain ⟨hγ, hx, hb, hml, hown, hts, hK, hA, hlocks, hST, hst, hR, hnl⟩ := C
  subst hnl
  exact fun H locs ls hl hP hD hS => lv_dstore hx hb hd hl hn0 hl0 (fun ls' hl' => kk H locs ls' hl' hP hD hS)
def NCL : List (String × String) := [("java/lang/IllegalArgumentException", "java/lang/IndexOutOfBoundsException"), ("java/lang/IllegalStateException", "java/lang/IndexOutOfBoundsException"), ("java/lang/IllegalStateException", "java/lang/IllegalArgumentException"), ("java/lang/IndexOutOfBoundsException", "java/lang/IllegalStateException"), ("java/lang/IllegalArgumentException", "java/lang/IllegalStateException")]
def q_NC (U : State) : Prop := ∀ q ∈ NCL, va_Nc q.1 q.2 U
theorem q_NC.moved {u U : State} (h : u.vm.Alike U.vm) (hn : q_NC u) : q_NC U := fun q hq => va_Nc.moved h (hn q hq)
def ctW (γ : q_G) (y : MethodName) (bc : ByteArray) (nL : Nat) (ret : Option FieldType) (hh : List (Nat × Nat × Nat × Nat)) (rm : Room) (av : List Value) (w : va_W) (Qn : Option Value → va_W → Prop) : Prop :=
  γ.1.stackTraces = false → ∀ sz, Met γ.1 y (Cond.codeWith y bc nL ret hh :: GW) rm (va_Pc av (fun U => q_P γ w sz U ∧ q_NC U)) (q_Q γ (va_A w sz) Qn) rm.cells rm.slots (va_A w sz)
def q_TB (g : q_T) (hh : List (Nat × Nat × Nat × Nat)) : Prop := match g with
  | ((_, _, _, _), _, _, _, s, _, _, _, _, c, _, _, _) => c.exceptionTable.toList = tableOf hh ∧ q_NC s
theorem ctW_of {hh : List (Nat × Nat × Nat × Nat)} {av : List Value} (hy : plainName y.cls = true) (hne : (lg_sl av).length ≤ nL)
    (body : ∀ g, q_C γ g y.cls bc rm nL → q_E γ g rm ret Qn → q_TB g hh → V g 0 (lv_args 0 av) [] w 0 0) : ctW γ y bc nL ret hh rm av w Qn := by
  intro hst sz
  obtain ⟨l, D, cI, t⟩ := γ
  refine MetFree.of_bodyS (code := bc) (maxLocals := nL) (ret := ret) hy ?_ ?_
  · intro args s m h hn
    obtain ⟨m9, meth, c, hn9, h1, h2, h3, h4, -, h5, h6, -⟩ := Cond.codeWith_spec (atoms_spec (ws := Cond.codeWith y bc nL ret hh :: GW) h _ List.mem_cons_self)
    cases hn.symm.trans hn9
    exact ⟨meth, c, h1, h2, h3, h4, h5, h6⟩
  · intro p e s m args below meth c s₁ B hml hv _
    have hh0 : s₁.heap = s.heap := by rw [B.state]; rfl
    obtain ⟨rfl, ⟨hsz, hP, hK, hD0, hST⟩, hNC⟩ := hv
    subst hsz
    have hD := hD0.self (sz := s.heap.size)
    have hl := lv_entry av (n := nL) hne
    have hts := atoms_spec (ws := Cond.codeWith y bc nL ret hh :: GW) B.pre
    have K : W p l e rm s m av.toArray below meth c s.heap [] 0 0 (MQ below (q_Q (l, D, cI, t) (va_A w s.heap.size) Qn) av.toArray s rm.cells rm.slots (va_A w s.heap.size)) (entryFrame m av.toArray nL) := by
      rw [lg_entry_eq]
      exact body ((l, D, cI, t), p, e, rm, s, m, av.toArray, below, meth, c, _, va_A w s.heap.size, nL) ⟨rfl, B.exec, B.bytes, hml, findClass_of_methodNamed B.named, fun w hw => hts w (List.mem_cons_of_mem _ hw), hK, fun q h => Or.inr h, B.notSynchronized, hST, hst, rfl, rfl⟩ ⟨B.returns, fun H locs f h => h⟩ ⟨vx_table (x := y) B (hts _ List.mem_cons_self), hNC⟩ s.heap [] _ hl hP hD va_S.rf
    obtain ⟨t, a1, o, b1, b2, b3⟩ := K s₁ hh0 (Stand.of_body B)
    exact ⟨t, o, a1, b1, b2, b3⟩
/-- who catches E at pc, and goes on by P -/
def q_H (own : String) (hh : List (Nat × Nat × Nat × Nat)) (pc : Nat) (E : String) (P : Nat → Prop) : Prop := ∃ (pre : List ExceptionTableEntry) (x : ExceptionTableEntry) (suf : List ExceptionTableEntry) (nm : String), tableOf hh = pre ++ x :: suf ∧ (∀ z ∈ pre, z.catchType ≠ 0 ∧ ∃ nm' : String, Cond.classLink own z.catchType nm' ∈ GW ∧ (E, nm') ∈ NCL) ∧ covers x pc = true ∧ x.catchType ≠ 0 ∧ Cond.classLink own x.catchType nm ∈ GW ∧ Cond.castable E nm ∈ FW ∧ P x.handlerPc
theorem v_callXVc (C : q_C γ g own cc rm nL) {hh : List (Nat × Nat × Nat × Nat)} (TB : q_TB g hh) {ci : Nat} {Cn : String} {T : u_T} {N : Nat} {ty : Nat → FieldType} (K : q_K ci Cn T N ty) (L : q_LV own idx Cn y bc nLy ret np) (q0 : Nat) {fs : List Value} (hb0 : w[q0]? = some (b, .inr (ci, fs))) (hM : ctX γ y bc nLy ret rmy (.ref b :: As) wc Qn Qy) (isC isR : List Nat) (hC : isC.map (fun i => w[i]?) = wc.map some) (hR : isR.map (fun i => w[i]?) = wr.map some)
    (hdis : q_dis isC isR = true ∧ va_nd isC = true) (hrm : q_rm rmy rm nLy = true) (hk : k + rmy.cells ≤ rm.cells) (hn : n + rmy.slots ≤ rm.slots) (hlen : As.length = np) (hst : st = As.reverse ++ .ref b :: rest) (hcat : (rest.map fun v => v.category).sum ≤ 8) (hd : decode cc pc = .ok (.invokevirtual idx, 3))
    (kx : ∀ E, Qy E → q_H own hh pc E (fun hp => ∀ q : Nat, V g hp lv [.ref q] wr (k + rmy.cells) (n + rmy.slots)))
    (kk : ∀ (r : Option Value) (w1 : va_W), Qn r w1 → V g (pc + 3) lv (r.toList ++ rest) (wr ++ w1) (k + rmy.cells) (n + rmy.slots)) : V g pc lv st w k n := by
  obtain ⟨⟨l, D, cI, tt⟩, p, e, R, s, m, args, below, meth, c, Q, A, nL0⟩ := g
  obtain ⟨hγ, hx, hb, hml, hown, hts, hK, hA, hlocks, hST, hstk, hR', hnl⟩ := C
  subst hγ; subst hR'; subst hnl; subst hst
  simp only [q_rm, Bool.and_eq_true, decide_eq_true_eq] at hrm
  intro H locs ls hl hP hD hS
  exact w_callX (vx_runV (As := As) (rest := rest) ⟨hx, hb, hml, hown, hts⟩ (hM hstk H.size) ⟨⟨rfl, rfl, hrm.1, hrm.2, pay_in hts (GW_cons L.2.2.2.2.1), List.mem_cons_self, hts _ L.2.2.2.2.1, hts _ L.2.2.2.1, ⟨L.2.2.2.2.2.1, L.2.2.2.2.2.2.1⟩, fun sig h => by
      have h2 := L.2.2.2.2.2.2.2
      rw [h] at h2
      exact (Option.some.inj h2).symm, hts _ L.1⟩, hts _ L.2.1, hts _ L.2.2.1⟩ ⟨q_P_blind, va_recv hK hP K.1 hb0, q_pre hK hA hST hP hD hS isC hC hdis.2⟩ rfl hlen hl.1 rfl (lv_room hcat) hd ⟨hk, hn⟩) hP hD hS hA isC isR hC hR (q_dis_of hdis.1).1 (q_dis_of hdis.1).2
    (fun E ce q9 H1 locs1 hqy h1 h2 hP1 hD1 hS1 hce hcv hcl => by
      obtain ⟨pre, x, suf, nm, e1, e2, e3, e4, e5, e6, e7⟩ := kx E hqy
      exact vx_catch hown pre x suf (TB.1.trans e1) (fun z hz => Or.inr ⟨(e2 z hz).1, (e2 z hz).2.elim fun nm' h => ⟨nm', hts _ h.1, TB.2 _ h.2⟩⟩) e3 e4 (hts _ e5) (va_Nw.use (by have := (List.mem_filter.mp e6).2; simp only [Bool.and_eq_true] at this; exact this.1) (hST.2.2.2.2.2.2.2.2.2.1 _ e6)) hce hcv hcl (e7 q9 H1 locs1 ls hl hP1 hD1 hS1))
    (fun r w1 hq H1 locs1 hP1 hD1 hS1 => kk r w1 hq H1 locs1 ls hl hP1 hD1 hS1)
/-- a call of a static method with a table of its own -/
def q_LSW (own : String) (idx : Nat) (y : MethodName) (bc : ByteArray) (nLy : Nat) (ret : Option FieldType) (hh : List (Nat × Nat × Nat × Nat)) (np : Nat) : Prop := Cond.methodLink own idx y ∈ GW ∧ Cond.static y ∈ GW ∧ Cond.initialized y.cls ∈ GW ∧ Cond.codeWith y bc nLy ret hh ∈ GW ∧ q_no y np
def q_NCg (g : q_T) : Prop := match g with
  | ((_, _, _, _), _, _, _, s, _, _, _, _, _, _, _, _) => q_NC s
theorem v_callSW (C : q_C γ g own cc rm nL) (NC : q_NCg g) {hh : List (Nat × Nat × Nat × Nat)} (L : q_LSW own idx y bc nLy ret hh np) (hM : ctW γ y bc nLy ret hh rmy As wc Qn) (isC isR : List Nat) (hC : isC.map (fun i => w[i]?) = wc.map some) (hR : isR.map (fun i => w[i]?) = wr.map some)
    (hdis : q_dis isC isR = true ∧ va_nd isC = true) (hrm : q_rm rmy rm nLy = true) (hk : k + rmy.cells ≤ rm.cells) (hn : n + rmy.slots ≤ rm.slots) (hlen : As.length = np) (hst : st = As.reverse ++ rest) (hcat : (rest.map fun v => v.category).sum ≤ 8) (hd : decode cc pc = .ok (.invokestatic idx, 3))
    (kk : ∀ (r : Option Value) (w1 : va_W), Qn r w1 → V g (pc + 3) lv (r.toList ++ rest) (wr ++ w1) (k + rmy.cells) (n + rmy.slots)) : V g pc lv st w k n := by
  obtain ⟨⟨l, D, cI, tt⟩, p, e, R, s, m, args, below, meth, c, Q, A, nL0⟩ := g
  obtain ⟨hγ, hx, hb, hml, hown, hts, hK, hA, hlocks, hST, hstk, hR', hnl⟩ := C
  subst hγ; subst hR'; subst hnl; subst hst
  simp only [q_rm, Bool.and_eq_true, decide_eq_true_eq] at hrm
  intro H locs ls hl hP hD hS
  have hblind : FrameBlind (va_Pc As (fun U => q_P (l, D, cI, tt) wc H.size U ∧ q_NC U)) := fun a U g mk h => ⟨h.1, (q_P_blind (av := As) a U g mk ⟨h.1, h.2.1⟩).2, q_NC.moved (u := U) (U := U.calling g mk a) (Vm.Alike.refl U.vm) h.2.2⟩
  exact w_call (vx_runSW (As := As) (rest := rest) ⟨hx, hb, hml, hown, hts⟩ (hM hstk H.size) ⟨⟨rfl, rfl, hrm.1, hrm.2, pay_in hts (GW_cons L.2.2.2.1), List.mem_cons_self⟩, hts _ L.2.2.2.1, hts _ L.2.2.1, ⟨L.2.2.2.2.1, L.2.2.2.2.2.1⟩, fun sig h => by
      have h2 := L.2.2.2.2.2.2
      rw [h] at h2
      exact (Option.some.inj h2).symm, hts _ L.1, hts _ L.2.1⟩ ⟨hblind, fun U hU hW => ⟨(q_pre hK hA hST hP hD hS isC hC hdis.2 (l := l) (av := As) U hU hW).1, (q_pre hK hA hST hP hD hS isC hC hdis.2 (l := l) (av := As) U hU hW).2, q_NC.moved hW.alike NC⟩⟩ rfl hlen hl.1 rfl (lv_room hcat) hd ⟨hk, hn⟩) hP hD hS hA isC isR hC hR (q_dis_of hdis.1).1 (q_dis_of hdis.1).2
    (fun r w1 hq H1 locs1 hP1 hD1 hS1 => kk r w1 hq H1 locs1 ls hl hP1 hD1 hS1)
/-- the script -/
def q_SC (g : q_T) (b L : Nat) (xs : Nat → Int32) : Prop := match g with
  | ((_, _, _, _), _, _, _, s, _, _, _, _, _, _, A, _) => va_X b L xs s s.heap ∧ b < s.heap.size ∧ ¬ A b
theorem v_sld (C : q_C γ g own cc rm nL) {L : Nat} {xs : Nat → Int32} (S : q_SC g b L xs) {i : Int32} (hin : vp_in i L) (hd : decode cc pc = .ok (.iaload, 1)) (kk : V g (pc + 1) lv (.int (xs i.toNatClampNeg) :: rest) w k n) : V g pc lv (.int i :: .ref b :: rest) w k n := by
  obtain ⟨⟨l, D, cI, tt⟩, p, e, R, s, m, args, below, meth, c, Q, A, nL0⟩ := g
  obtain ⟨hγ, hx, hb, hml, hown, hts, hK, hA, hlocks, hST, hst, hR, hnl⟩ := C
  exact fun H locs ls hl hP hD hS => va_sld hx hb S.1 S.2.1 S.2.2 hS hin hd (kk H locs ls hl hP hD hS)
theorem v_slen (C : q_C γ g own cc rm nL) {L : Nat} {xs : Nat → Int32} (S : q_SC g b L xs) (hd : decode cc pc = .ok (.arraylength, 1)) (kk : V g (pc + 1) lv (.int (Int32.ofNat L) :: rest) w k n) : V g pc lv (.ref b :: rest) w k n := by
  obtain ⟨⟨l, D, cI, tt⟩, p, e, R, s, m, args, below, meth, c, Q, A, nL0⟩ := g
  obtain ⟨hγ, hx, hb, hml, hown, hts, hK, hA, hlocks, hST, hst, hR, hnl⟩ := C
  exact fun H locs ls hl hP hD hS => va_slen hx hb S.1 S.2.1 S.2.2 hS hd (kk H locs ls hl hP hD hS)
end
