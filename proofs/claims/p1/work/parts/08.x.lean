/-! methods that return or throw -/
def ctX (γ : q_G) (y : MethodName) (bc : ByteArray) (nL : Nat) (ret : Option FieldType) (rm : Room) (av : List Value) (w : va_W) (Qn : Option Value → va_W → Prop) (Qx : String → Prop) : Prop :=
  γ.1.stackTraces = false → ∀ sz, vx_Met γ.1 y (Cond.code y bc nL ret :: GW) rm (va_Pc av (q_P γ w sz)) (q_Q γ (va_A w sz) Qn) (vx_X (S := Unit) (fun _ => True) (fun E _ _ => Qx E) (va_A w sz)) rm.cells rm.slots (va_A w sz)
def q_X (g : q_T) (rm : Room) (Qx : String → Prop) : Prop := match g with
  | ((_, _, _, _), _, _, _, s, _, args, below, _, c, Q, A, _) => (∀ x ∈ c.exceptionTable.toList, False) ∧ ∃ Qc, Q = vx_MQ below Qc (vx_X (S := Unit) (fun _ => True) (fun E _ _ => Qx E) A) args s rm.cells rm.slots A
theorem ctX_of {γ : q_G} {y : MethodName} {bc : ByteArray} {nL : Nat} {ret : Option FieldType} {rm : Room} {av : List Value} {w : va_W} {Qn : Option Value → va_W → Prop} {Qx : String → Prop} (hy : plainName y.cls = true) (hne : (lg_sl av).length ≤ nL)
    (body : ∀ g, q_C γ g y.cls bc rm nL → q_E γ g rm ret Qn → q_X g rm Qx → V g 0 (lv_args 0 av) [] w 0 0) : ctX γ y bc nL ret rm av w Qn Qx := by
  intro hst sz
  obtain ⟨l, D, cI, t⟩ := γ
  refine vx_ofW (cc := bc) (maxL := nL) (ret := ret) hy rfl ?_
  intro p e s m args below meth c s₁ B hml hempty hv
  obtain ⟨rfl, hsz, hP, hK, hD0, hST⟩ := hv
  subst hsz
  have hD := hD0.self (sz := s.heap.size)
  have hl := lv_entry av (n := nL) hne
  have hts := atoms_spec (ws := Cond.code y bc nL ret :: GW) B.pre
  rw [lg_entry_eq]
  exact body ((l, D, cI, t), p, e, rm, s, m, av.toArray, below, meth, c, _, va_A w s.heap.size, nL) ⟨rfl, B.exec, B.bytes, hml, findClass_of_methodNamed B.named, fun w hw => hts w (List.mem_cons_of_mem _ hw), hK, fun q h => Or.inr h, B.notSynchronized, hST, hst, rfl, rfl⟩ ⟨B.returns, fun H locs f h => vx_ret h⟩ ⟨hempty, _, rfl⟩ s.heap [] _ hl hP hD va_S.rf
def q_TW (own cls text : String) (names : List String) (ik is ic : Nat) : Prop := own = "CobbleWorld" ∧ Cond.classLink own ik cls ∈ GW ∧ Cond.initialized cls ∈ GW ∧ (is, text) ∈ STR ∧ (∀ w ∈ vx_atS own ic cls names, w ∈ FW) ∧ (∀ w ∈ Cond.classLink own ik cls :: Cond.initialized cls :: vx_atS own ic cls names, vx_ot w = true) ∧ Bundle.fit cls = true ∧ ∀ n ∈ names, Bundle.fit n = true
section
variable {γ : q_G} {g : q_T} {own : String} {cc : ByteArray} {rm rmy : Room} {nL nLy np : Nat} {pc idx : Nat} {lv lv' : List (Nat × Value)} {st st' rest As : List Value} {w w' wc wr : va_W} {k n k' n' b : Nat} {Qn : Option Value → va_W → Prop} {Qx Qy : String → Prop} {y : MethodName} {bc : ByteArray} {ret : Option FieldType}
theorem q_Xof {E : String} {s t : State} {H : Heap} {locs : List Loc} {A : Nat → Prop} (hS : va_S A s.heap H locs) (hq : Qx E) (h1 : H.size ≤ t.heap.size) (h2 : ∀ q : Nat, q < H.size → ¬ A q → t.heap[q]? = H[q]?) : vx_X (S := Unit) (fun _ => True) (fun E _ _ => Qx E) A E s t :=
  ⟨(), trivial, hq, Nat.le_trans hS.1 h1, fun q hq1 hq2 => (h2 q (Nat.lt_of_lt_of_le hq1 hS.1) hq2).trans (hS.2.1 q hq1 hq2)⟩
theorem v_throwS (C : q_C γ g own cc rm nL) (X : q_X g rm Qx) {cls text : String} {names : List String} {ik is ic : Nat} (T : q_TW own cls text names ik is ic) (hd : decode cc pc = .ok (.new ik, 3) ∧ decode cc (pc + 3) = .ok (.dup, 1) ∧ decode cc (pc + 4) = .ok (.ldc is, 2) ∧ decode cc (pc + 6) = .ok (.invokespecial ic, 3) ∧ decode cc (pc + 9) = .ok (.athrow, 1))
    (hR : names.length + 3 < rm.frames ∧ (rest.map fun v => v.category).sum + (13 * (names.length + 1) + 43) ≤ rm.locals) (hk : k + 1 ≤ rm.cells) (hn : n + 6 ≤ rm.slots) (hq : Qx cls) : V g pc lv rest w k n := by
  obtain ⟨⟨l, D, cI, tt⟩, p, e, R, s, m, args, below, meth, c, Q, A, nL0⟩ := g
  obtain ⟨hγ, hx, hb, hml, hown, hts, hK, hA, hlocks, hST, hstk, hR', hnl⟩ := C
  obtain ⟨hempty, Qc, hQ⟩ := X
  subst hR'; subst hnl; subst hQ
  obtain ⟨T0, T1, T2, T3, T4, T5, T6, T7⟩ := T
  obtain ⟨sa, hsa⟩ := hST.2.2.2.2.2.2.2.2.2.2.1 _ T3
  intro H locs ls hl hP hD hS
  exact vx_throwS hx hb hstk hown T6 T7 (hts _ T1) (hts _ T2) (by rw [T0]; exact hsa) (fun w hw => va_Nw.use (by have := (List.mem_filter.mp (T4 w hw)).2; simp only [Bool.and_eq_true] at this; exact this.1) (hST.2.2.2.2.2.2.2.2.2.1 w (T4 w hw))) T5 hST.1 hST.2.1 hS (hl.1.trans hml.symm) hd.1 hd.2.1 hd.2.2.1 hd.2.2.2.1 hd.2.2.2.2 (fun x hx => (hempty x hx).elim) hR.1 hR.2 hk hn hlocks
    (fun t _ h1 h2 => q_Xof hS hq h1 (fun q hq1 _ => h2 q hq1)) hS.2.2 hk hn
theorem v_throwSW (C : q_C γ g own cc rm nL) (X : q_X g rm Qx) {cls text : String} {names : List String} {ik is ic : Nat} (T : q_TW own cls text names ik is ic) (hd : decode cc pc = .ok (.new ik, 3) ∧ decode cc (pc + 3) = .ok (.dup, 1) ∧ decode cc (pc + 4) = .ok (.ldc_w is, 3) ∧ decode cc (pc + 7) = .ok (.invokespecial ic, 3) ∧ decode cc (pc + 10) = .ok (.athrow, 1))
    (hR : names.length + 3 < rm.frames ∧ (rest.map fun v => v.category).sum + (13 * (names.length + 1) + 43) ≤ rm.locals) (hk : k + 1 ≤ rm.cells) (hn : n + 6 ≤ rm.slots) (hq : Qx cls) : V g pc lv rest w k n := by
  obtain ⟨⟨l, D, cI, tt⟩, p, e, R, s, m, args, below, meth, c, Q, A, nL0⟩ := g
  obtain ⟨hγ, hx, hb, hml, hown, hts, hK, hA, hlocks, hST, hstk, hR', hnl⟩ := C
  obtain ⟨hempty, Qc, hQ⟩ := X
  subst hR'; subst hnl; subst hQ
  obtain ⟨T0, T1, T2, T3, T4, T5, T6, T7⟩ := T
  obtain ⟨sa, hsa⟩ := hST.2.2.2.2.2.2.2.2.2.2.1 _ T3
  intro H locs ls hl hP hD hS
  exact vx_throwSW hx hb hstk hown T6 T7 (hts _ T1) (hts _ T2) (by rw [T0]; exact hsa) (fun w hw => va_Nw.use (by have := (List.mem_filter.mp (T4 w hw)).2; simp only [Bool.and_eq_true] at this; exact this.1) (hST.2.2.2.2.2.2.2.2.2.1 w (T4 w hw))) T5 hST.1 hST.2.1 hS (hl.1.trans hml.symm) hd.1 hd.2.1 hd.2.2.1 hd.2.2.2.1 hd.2.2.2.2 (fun x hx => (hempty x hx).elim) hR.1 hR.2 hk hn hlocks
    (fun t _ h1 h2 => q_Xof hS hq h1 (fun q hq1 _ => h2 q hq1)) hS.2.2 hk hn
end
section
variable {γ : q_G} {p : Program} {e : Env} {R : Room} {s : State} {m : MethodId} {args : Array Value} {below : List Frame} {meth : Method} {c : Code} {H : Heap} {locs : List Loc} {k n mc ms pc : Nat} {ls : Array Slot} {Q : State → Prop} {A : Nat → Prop} {a : Array Value} {st rest : List Value} {w wc wr : va_W} {Qn : Option Value → va_W → Prop} {Qy : String → Prop}
theorem w_callX {l : Launch} (hr : vx_Run p l e R s m args below meth c H locs k n mc ms (F0 m pc ls st) rest (q_Q γ (va_A wc H.size) Qn a) (vx_X (S := Unit) (fun _ => True) (fun E _ _ => Qy E) (va_A wc H.size)) (va_A wc H.size)) (hP : va_P γ.2.1 CL w H) (hD : va_D A w) (hS : va_S A s.heap H locs) (hA : ∀ q, s.heap.size ≤ q → A q)
    (isC isR : List Nat) (hC : isC.map (fun i => w[i]?) = wc.map some) (hR : isR.map (fun i => w[i]?) = wr.map some) (hn : va_nd isR = true) (hdis : ∀ i ∈ isR, i ∉ isC)
    (kx : ∀ (E : String) (ce : Cell) (q9 : Addr) (H1 : Heap) (locs1 : List Loc), Qy E → H.size ≤ H1.size → (∀ q : Nat, q < H.size → ¬ A q → H1[q]? = H[q]?) → va_P γ.2.1 CL wr H1 → va_D A wr → va_S A s.heap H1 locs1 → H1[q9]? = some ce → ce.vm = .none → s.vm.findClass E = some ce.cls → vx_W p l e R s m args below meth c H1 locs1 (k + mc) (n + ms) Q (F0 m pc ls rest) q9)
    (kk : ∀ (r : Option Value) (w1 : va_W), Qn r w1 → ∀ (H1 : Heap) (locs1 : List Loc), va_P γ.2.1 CL (wr ++ w1) H1 → va_D A (wr ++ w1) → va_S A s.heap H1 locs1 → W p l e R s m args below meth c H1 locs1 (k + mc) (n + ms) Q (F0 m (pc + 3) ls (r.toList ++ rest))) : W p l e R s m args below meth c H locs k n Q (F0 m pc ls st) := by
  have hF := va_free (wc := wc) hD hS hA isC hC
  intro T hT X
  rcases hr T hT X with ⟨v, st₀, t, T', L, h0, X', hL, e1, e2, ⟨⟨r, w1, hv, hq, hP1, hK1, hD1⟩, hFr⟩, go⟩ | ⟨q, st₀, t, T', L, E, ce, h0, X', hL, e1, e2, ⟨u, hp, hb, hFr⟩, hce, hcv, hcl, go⟩
  · cases hv
    obtain ⟨k1, k2, k3⟩ := vx_keep h0 e1 hS (fun q _ h => hF q h) hF hL hFr
    obtain ⟨hP2, hD2⟩ := va_join hP hD isC isR hC hR hn hdis k2 hF (by rw [e1]; exact hP1) hD1
    obtain ⟨t2, a1, b1⟩ := kk v w1 hq T'.heap (locs ++ L) hP2 hD2 k3 T' rfl X'
    exact ⟨t2, go t2 a1, b1⟩
  · obtain ⟨k1, k2, k3⟩ := vx_keep h0 e1 hS (fun q _ h => hF q h) hF hL hFr
    obtain ⟨hP2, hD2⟩ := va_join (w1 := []) hP hD isC isR hC hR hn hdis k2 hF (fun k q h => by simp at h) ⟨fun i j p q h => by simp at h, fun k q h => by simp at h⟩
    rw [List.append_nil] at hP2 hD2
    obtain ⟨t2, a1, b1⟩ := kx E ce q T'.heap (locs ++ L) hb k1 (fun q h1 h2 => k2 q h1 (fun h => h2 (hF q h))) hP2 hD2 k3 (by rw [e1]; exact hce) hcv hcl T' rfl X'
    exact ⟨t2, go.trans a1, b1⟩
end
section
variable {γ : q_G} {g : q_T} {own : String} {cc : ByteArray} {rm rmy : Room} {nL nLy np : Nat} {pc idx : Nat} {lv lv' : List (Nat × Value)} {st st' rest As : List Value} {w w' wc wr : va_W} {k n k' n' b : Nat} {Qn : Option Value → va_W → Prop} {Qx Qy : String → Prop} {y : MethodName} {bc : ByteArray} {ret : Option FieldType}
theorem v_callXV (C : q_C γ g own cc rm nL) (X : q_X g rm Qx) {ci : Nat} {Cn : String} {T : u_T} {N : Nat} {ty : Nat → FieldType} (K : q_K ci Cn T N ty) (L : q_LV own idx Cn y bc nLy ret np) (q0 : Nat) {fs : List Value} (hb0 : w[q0]? = some (b, .inr (ci, fs))) (hM : ctX γ y bc nLy ret rmy (.ref b :: As) wc Qn Qy) (hy : ∀ E, Qy E → Qx E) (isC isR : List Nat) (hC : isC.map (fun i => w[i]?) = wc.map some) (hR : isR.map (fun i => w[i]?) = wr.map some)
    (hdis : q_dis isC isR = true ∧ va_nd isC = true) (hrm : q_rm rmy rm nLy = true) (hk : k + rmy.cells ≤ rm.cells) (hn : n + rmy.slots ≤ rm.slots) (hlen : As.length = np) (hst : st = As.reverse ++ .ref b :: rest) (hcat : (rest.map fun v => v.category).sum ≤ 8) (hd : decode cc pc = .ok (.invokevirtual idx, 3))
    (kk : ∀ (r : Option Value) (w1 : va_W), Qn r w1 → V g (pc + 3) lv (r.toList ++ rest) (wr ++ w1) (k + rmy.cells) (n + rmy.slots)) : V g pc lv st w k n := by
  obtain ⟨⟨l, D, cI, tt⟩, p, e, R, s, m, args, below, meth, c, Q, A, nL0⟩ := g
  obtain ⟨hγ, hx, hb, hml, hown, hts, hK, hA, hlocks, hST, hstk, hR', hnl⟩ := C
  obtain ⟨hempty, Qc, hQ⟩ := X
  subst hγ; subst hR'; subst hnl; subst hst; subst hQ
  simp only [q_rm, Bool.and_eq_true, decide_eq_true_eq] at hrm
  intro H locs ls hl hP hD hS
  exact w_callX (vx_runV (As := As) (rest := rest) ⟨hx, hb, hml, hown, hts⟩ (hM hstk H.size) ⟨⟨rfl, rfl, hrm.1, hrm.2, pay_in hts (GW_cons L.2.2.2.2.1), List.mem_cons_self, hts _ L.2.2.2.2.1, hts _ L.2.2.2.1, ⟨L.2.2.2.2.2.1, L.2.2.2.2.2.2.1⟩, fun sig h => by
      have h2 := L.2.2.2.2.2.2.2
      rw [h] at h2
      exact (Option.some.inj h2).symm, hts _ L.1⟩, hts _ L.2.1, hts _ L.2.2.1⟩ ⟨q_P_blind, va_recv hK hP K.1 hb0, q_pre hK hA hST hP hD hS isC hC hdis.2⟩ rfl hlen hl.1 rfl (lv_room hcat) hd ⟨hk, hn⟩) hP hD hS hA isC isR hC hR (q_dis_of hdis.1).1 (q_dis_of hdis.1).2
    (fun E ce q9 H1 locs1 hqy h1 h2 _ _ hS1 hce hcv hcl => vx_out (fun x hx => (hempty x hx).elim) hlocks hce hcv hcl (fun t ht _ => q_Xof hS (hy E hqy) (by rw [ht]; exact h1) (fun q a b => by rw [ht]; exact h2 q a b)) hS1.2.2 hk hn)
    (fun r w1 hq H1 locs1 hP1 hD1 hS1 => kk r w1 hq H1 locs1 ls hl hP1 hD1 hS1)
theorem v_callXS (C : q_C γ g own cc rm nL) (X : q_X g rm Qx) (L : q_LS own idx y bc nLy ret np) (hM : ctX γ y bc nLy ret rmy As wc Qn Qy) (hy : ∀ E, Qy E → Qx E) (isC isR : List Nat) (hC : isC.map (fun i => w[i]?) = wc.map some) (hR : isR.map (fun i => w[i]?) = wr.map some)
    (hdis : q_dis isC isR = true ∧ va_nd isC = true) (hrm : q_rm rmy rm nLy = true) (hk : k + rmy.cells ≤ rm.cells) (hn : n + rmy.slots ≤ rm.slots) (hlen : As.length = np) (hst : st = As.reverse ++ rest) (hcat : (rest.map fun v => v.category).sum ≤ 8) (hd : decode cc pc = .ok (.invokestatic idx, 3))
    (kk : ∀ (r : Option Value) (w1 : va_W), Qn r w1 → V g (pc + 3) lv (r.toList ++ rest) (wr ++ w1) (k + rmy.cells) (n + rmy.slots)) : V g pc lv st w k n := by
  obtain ⟨⟨l, D, cI, tt⟩, p, e, R, s, m, args, below, meth, c, Q, A, nL0⟩ := g
  obtain ⟨hγ, hx, hb, hml, hown, hts, hK, hA, hlocks, hST, hstk, hR', hnl⟩ := C
  obtain ⟨hempty, Qc, hQ⟩ := X
  subst hγ; subst hR'; subst hnl; subst hst; subst hQ
  simp only [q_rm, Bool.and_eq_true, decide_eq_true_eq] at hrm
  intro H locs ls hl hP hD hS
  exact w_callX (vx_runS (As := As) (rest := rest) ⟨hx, hb, hml, hown, hts⟩ (hM hstk H.size) ⟨⟨rfl, rfl, hrm.1, hrm.2, pay_in hts (GW_cons L.2.2.2.1), List.mem_cons_self, hts _ L.2.2.2.1, hts _ L.2.2.1, ⟨L.2.2.2.2.1, L.2.2.2.2.2.1⟩, fun sig h => by
      have h2 := L.2.2.2.2.2.2
      rw [h] at h2
      exact (Option.some.inj h2).symm, hts _ L.1⟩, hts _ L.2.1⟩ ⟨q_P_blind, q_pre hK hA hST hP hD hS isC hC hdis.2⟩ rfl hlen hl.1 rfl (lv_room hcat) hd ⟨hk, hn⟩) hP hD hS hA isC isR hC hR (q_dis_of hdis.1).1 (q_dis_of hdis.1).2
    (fun E ce q9 H1 locs1 hqy h1 h2 _ _ hS1 hce hcv hcl => vx_out (fun x hx => (hempty x hx).elim) hlocks hce hcv hcl (fun t ht _ => q_Xof hS (hy E hqy) (by rw [ht]; exact h1) (fun q a b => by rw [ht]; exact h2 q a b)) hS1.2.2 hk hn)
    (fun r w1 hq H1 locs1 hP1 hD1 hS1 => kk r w1 hq H1 locs1 ls hl hP1 hD1 hS1)
end
