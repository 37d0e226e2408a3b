/-! what makes cells, and the JDK's natives -/
section
variable {γ : q_G} {g : q_T} {own : String} {cc : ByteArray} {rm rmy : Room} {nL nLy np : Nat} {pc idx : Nat} {lv lv' : List (Nat × Value)} {st st' rest As : List Value} {w w' wc wr : va_W} {k n k' n' b : Nat}
def q_max (own : String) (idx : Nat) : Prop := Cond.methodLink own idx Lib.Math.max.name ∈ GW ∧ Cond.static Lib.Math.max.name ∈ GW ∧ Cond.initialized "java/lang/Math" ∈ GW ∧ Cond.code Lib.Math.max.name Lib.Math.max.code 2 (some .int) ∈ GW
theorem v_max (C : q_C γ g own cc rm nL) (L : q_max own idx) (hR1 : 1 ≤ rm.frames ∧ (rest.map fun v => v.category).sum + 13 ≤ rm.locals) (hk : k ≤ rm.cells) (hn : n ≤ rm.slots) {x y : Int32} (hd : decode cc pc = .ok (.invokestatic idx, 3)) (kk : V g (pc + 3) lv (.int (if x < y then y else x) :: rest) w k n) : V g pc lv (.int y :: .int x :: rest) w k n := by
  obtain ⟨⟨l, D, cI, tt⟩, p, e, R, s, m, args, below, meth, c, Q, A, nL0⟩ := g
  obtain ⟨hγ, hx, hb, hml, hown, hts, hK, hA, hlocks, hST, hst, hR, hnl⟩ := C
  subst hγ; subst hR; subst hnl
  exact fun H locs ls hl hP hD hS => va_mmax hx hb (hml.trans hl.1.symm) hown (hts _ L.1) (hts _ L.2.1) (hts _ L.2.2.1) (hts _ L.2.2.2) hR1.1 hR1.2 hk hn hd (kk H locs ls hl hP hD hS)
def q_obj (own : String) (idx : Nat) : Prop := Cond.methodLink own idx Lib.objectInit ∈ GW ∧ Cond.instanceMethod Lib.objectInit ∈ GW ∧ Cond.code Lib.objectInit ⟨#[0xb1]⟩ 1 none ∈ GW
theorem v_obj (C : q_C γ g own cc rm nL) (L : q_obj own idx) {a : Nat} (hR1 : 1 ≤ rm.frames ∧ (rest.map fun v => v.category).sum + 12 ≤ rm.locals) (hd : decode cc pc = .ok (.invokespecial idx, 3)) (kk : V g (pc + 3) lv rest w k n) : V g pc lv (.ref a :: rest) w k n := by
  obtain ⟨⟨l, D, cI, tt⟩, p, e, R, s, m, args, below, meth, c, Q, A, nL0⟩ := g
  obtain ⟨hγ, hx, hb, hml, hown, hts, hK, hA, hlocks, hST, hst, hR, hnl⟩ := C
  subst hγ; subst hR; subst hnl
  exact fun H locs ls hl hP hD hS => W.objInit hx hb hown (hts _ L.1) (hts _ L.2.1) (hts _ L.2.2) (g := F0 m pc ls (.ref a :: rest)) rfl (hl.1.trans hml.symm) rfl hd hR1.1 (by show 2 * (F0 m pc ls rest).monitorRoom + _ + 12 ≤ _; have := hR1.2; simp only [JFrame.monitorRoom]; omega) (kk H locs ls hl hP hD hS)
theorem v_new (C : q_C γ g own cc rm nL) {ci N : Nat} {Cn : String} {T : u_T} {ty : Nat → FieldType} (K : q_K ci Cn T N ty) (L : Cond.classLink own idx Cn ∈ GW ∧ Cond.instantiable Cn N ∈ GW ∧ Cond.initialized Cn ∈ GW) {fs : List Value} (hfs : ∀ j, j < N → defaultValue (ty j) = vp_V fs j) (hk : k + 1 ≤ rm.cells) (hn : n + N ≤ rm.slots) (hd : decode cc pc = .ok (.new idx, 3)) (kk : ∀ q : Nat, V g (pc + 3) lv (.ref q :: rest) (w ++ [(q, .inr (ci, fs))]) (k + 1) (n + N)) : V g pc lv rest w k n := by
  obtain ⟨⟨l, D, cI, tt⟩, p, e, R, s, m, args, below, meth, c, Q, A, nL0⟩ := g
  obtain ⟨hγ, hx, hb, hml, hown, hts, hK, hA, hlocks, hST, hst, hR, hnl⟩ := C
  subst hγ; subst hR; subst hnl
  exact fun H locs ls hl hP hD hS => va_new hx hb hts K.2.1 ty K.2.2.1 hown (hts _ L.1) (hts _ L.2.1) (hts _ L.2.2) hK hP hD hS hA K.1 hfs hk hn hd (fun q H1 hP1 hD1 hS1 => kk q H1 locs ls hl hP1 hD1 hS1)
theorem q_cI {D : va_G} {cI : ClassId × ClassId} {s : State} {cA : ClassId} {ty : FieldType} (i : Nat) {x : ClassId} (hi : (q_ty cI)[i]? = some (x, ty)) (hp : ty = .int ∨ ty = .long) (h : va_K D CL (q_ty cI ++ [(cA, ty)]) s) : cA = x := by
  have h1 := (h.2 2 (cA, ty) rfl).2
  have h2 : va_RA s x ty := (h.2 i (x, ty) (by rw [List.getElem?_append_left (List.getElem?_eq_some_iff.mp hi).1]; exact hi)).2
  rcases hp with rfl | rfl
  · exact Option.some.inj (Eq.trans (Eq.symm (show s.vm.findClass _ = some cA from h1)) (show s.vm.findClass _ = some x from h2))
  · exact Option.some.inj (Eq.trans (Eq.symm (show s.vm.findClass _ = some cA from h1)) (show s.vm.findClass _ = some x from h2))
theorem v_newI (C : q_C γ g own cc rm nL) (L : Cond.arrayClass .int ∈ GW) {z : Int32} {N : Nat} (hz : ¬ z < 0) (hN : z.toNatClampNeg = N) (hby : N * 4 ≤ 536870912) (hk : k + 1 ≤ rm.cells) (hn : n + N ≤ rm.slots) (hd : decode cc pc = .ok (.newarray .int, 2)) (kk : ∀ q : Nat, V g (pc + 2) lv (.ref q :: rest) (w ++ [(q, .inl (γ.2.2.1.1, N, .inl (fun _ => 0)))]) (k + 1) (n + N)) : V g pc lv (.int z :: rest) w k n := by
  obtain ⟨⟨l, D, cI, tt⟩, p, e, R, s, m, args, below, meth, c, Q, A, nL0⟩ := g
  obtain ⟨hγ, hx, hb, hml, hown, hts, hK, hA, hlocks, hST, hst, hR, hnl⟩ := C
  subst hγ; subst hR; subst hnl
  exact fun H locs ls hl hP hD hS => va_newa (atype := .int) (a0 := (N, .inl (fun _ => 0))) hx hb (hts _ L) rfl hK hP hD hS hA (fun _ => rfl) hz hN hby hk hn hd (fun q cA H1 hK1 hP1 hD1 hS1 => by
    have e1 : cA = cI.1 := q_cI 0 rfl (Or.inl rfl) hK1
    subst e1
    exact kk q H1 locs ls hl hP1 hD1 hS1)
theorem v_newJ (C : q_C γ g own cc rm nL) (L : Cond.arrayClass .long ∈ GW) {z : Int32} {N : Nat} (hz : ¬ z < 0) (hN : z.toNatClampNeg = N) (hby : N * 8 ≤ 536870912) (hk : k + 1 ≤ rm.cells) (hn : n + N ≤ rm.slots) (hd : decode cc pc = .ok (.newarray .long, 2)) (kk : ∀ q : Nat, V g (pc + 2) lv (.ref q :: rest) (w ++ [(q, .inl (γ.2.2.1.2, N, .inr (.inl (fun _ => 0))))]) (k + 1) (n + N)) : V g pc lv (.int z :: rest) w k n := by
  obtain ⟨⟨l, D, cI, tt⟩, p, e, R, s, m, args, below, meth, c, Q, A, nL0⟩ := g
  obtain ⟨hγ, hx, hb, hml, hown, hts, hK, hA, hlocks, hST, hst, hR, hnl⟩ := C
  subst hγ; subst hR; subst hnl
  exact fun H locs ls hl hP hD hS => va_newa (atype := .long) (a0 := (N, .inr (.inl (fun _ => 0)))) hx hb (hts _ L) rfl hK hP hD hS hA (fun _ => rfl) hz hN hby hk hn hd (fun q cA H1 hK1 hP1 hD1 hS1 => by
    have e1 : cA = cI.2 := q_cI 1 rfl (Or.inr rfl) hK1
    subst e1
    exact kk q H1 locs ls hl hP1 hD1 hS1)
theorem v_putF (C : q_C γ g own cc rm nL) (hi : q_N g "<init>") {ci N idx : Nat} {T : u_T} {ty : Nat → FieldType} (K : q_K ci own T N ty) (q0 j : Nat) {a : Nat} {fs : List Value} {v : Value} (hf : Cond.fieldLink own idx own (T j).2.1 (T j).2.2.1 ∈ GW) (hj : j < N ∧ (T j).1 = own ∧ (T j).2.2.2 = true) (he : w[q0]? = some (a, .inr (ci, fs))) (hn : narrow (ty j) v = v) (hfit : fits (ty j) v = true) (hlen : j < fs.length) (hw : w.set q0 (a, .inr (ci, fs.set j v)) = w') (hd : decode cc pc = .ok (.putfield idx, 3)) (kk : V g (pc + 3) lv rest w' k n) : V g pc lv (v :: .ref a :: rest) w k n := by
  obtain ⟨⟨l, D, cI, tt⟩, p, e, R, s, m, args, below, meth, c, Q, A, nL0⟩ := g
  obtain ⟨hγ, hx, hb, hml, hown, hts, hK, hA, hlocks, hST, hst, hR, hnl⟩ := C
  subst hγ; subst hR; subst hnl
  subst hw
  exact fun H locs ls hl hP hD hS => va_putF hx hb hts K.2.1 ty K.2.2.1 K.2.2.2 hown hK hP hD hS q0 he K.1 j hj.1 (hts _ hf) (fun x h => by rw [hj.2.1] at h; exact h) hj.2.2 hi hj.2.1 (K.2.2.1 j hj.1) hn hfit hlen hd (fun H1 locs1 hP1 hD1 hS1 => kk H1 locs1 ls hl hP1 hD1 hS1)
def q_clone (own : String) (idx : Nat) : Prop := Cond.methodLink own idx ⟨"[I", "clone", "()Ljava/lang/Object;"⟩ ∈ GW ∧ Cond.sameMethod "[I" "java/lang/Object" "clone" "()Ljava/lang/Object;" ∈ GW ∧ Cond.native ⟨"java/lang/Object", "clone", "()Ljava/lang/Object;"⟩ ∈ GW ∧ Cond.instanceMethod ⟨"java/lang/Object", "clone", "()Ljava/lang/Object;"⟩ ∈ GW ∧ Cond.selects "[I" ⟨"[I", "clone", "()Ljava/lang/Object;"⟩ ⟨"java/lang/Object", "clone", "()Ljava/lang/Object;"⟩ ∈ GW ∧ Cond.castable "[I" "java/lang/Cloneable" ∈ FW
theorem v_clone (C : q_C γ g own cc rm nL) (L : q_clone own idx) (q0 : Nat) {a N : Nat} {f : Nat → Int32} (ha : w[q0]? = some (a, .inl (γ.2.2.1.1, N, .inl f))) (hR1 : 1 ≤ rm.frames ∧ (rest.map fun v => v.category).sum + 14 ≤ rm.locals) (hk : k + 1 ≤ rm.cells) (hn : n + N ≤ rm.slots) (hd : decode cc pc = .ok (.invokevirtual idx, 3)) (kk : ∀ q : Nat, V g (pc + 3) lv (.ref q :: rest) (w ++ [(q, .inl (γ.2.2.1.1, N, .inl f))]) (k + 1) (n + N)) : V g pc lv (.ref a :: rest) w k n := by
  obtain ⟨⟨l, D, cI, tt⟩, p, e, R, s, m, args, below, meth, c, Q, A, nL0⟩ := g
  obtain ⟨hγ, hx, hb, hml, hown, hts, hK, hA, hlocks, hST, hst, hR, hnl⟩ := C
  subst hγ; subst hR; subst hnl
  exact fun H locs ls hl hP hD hS => va_clone hx hb (hml.trans hl.1.symm) hown (hts _ L.1) (hts _ L.2.1) (hts _ L.2.2.1) (hts _ L.2.2.2.1) (hts _ L.2.2.2.2.1) (hST.2.2.2.2.2.2.2.2.2.1 _ L.2.2.2.2.2) hK hP hD hS hA q0 0 ha (ty := .int) rfl (hK.2 0 _ rfl).2 (fun i v h => by
    simp only [vp_cell, arrV] at h
    rw [Array.getElem?_ofFn] at h
    split at h
    · cases h; rfl
    · cases h) hR1.1 hR1.2 hk hn hd (fun q H1 _ hP1 hD1 hS1 => kk q H1 locs ls hl hP1 hD1 hS1)
theorem v_castI (C : q_C γ g own cc rm nL) (L : Cond.classLink own idx "[I" ∈ GW) (q0 : Nat) {a : Nat} {x : vp_A} (ha : w[q0]? = some (a, .inl (γ.2.2.1.1, x))) (hd : decode cc pc = .ok (.checkcast idx, 3)) (kk : V g (pc + 3) lv (.ref a :: rest) w k n) : V g pc lv (.ref a :: rest) w k n := by
  obtain ⟨⟨l, D, cI, tt⟩, p, e, R, s, m, args, below, meth, c, Q, A, nL0⟩ := g
  obtain ⟨hγ, hx, hb, hml, hown, hts, hK, hA, hlocks, hST, hst, hR, hnl⟩ := C
  subst hγ; subst hR; subst hnl
  exact fun H locs ls hl hP hD hS => va_castA hx hb hown (hts _ L) hP q0 ha (hK.2 0 _ rfl).2 hd (kk H locs ls hl hP hD hS)
def q_cpy (own : String) (idx : Nat) : Prop := Cond.methodLink own idx arraycopyName ∈ GW ∧ Cond.native arraycopyName ∈ GW ∧ Cond.static arraycopyName ∈ GW ∧ Cond.initialized "java/lang/System" ∈ GW
theorem v_copyI (C : q_C γ g own cc rm nL) (L : q_cpy own idx) (q0 q1 : Nat) {a0 a : Nat} {n0 n1 : Nat} {f f1 : Nat → Int32} (ha0 : w[q0]? = some (a0, .inl (γ.2.2.1.1, n0, .inl f))) (ha1 : w[q1]? = some (a, .inl (γ.2.2.1.1, n1, .inl f1))) {sp dp z : Int32} (h1 : ¬ sp < 0) (h2 : ¬ dp < 0) (h3 : ¬ z < 0) (h4 : sp.toNatClampNeg + z.toNatClampNeg ≤ n0) (h5 : dp.toNatClampNeg + z.toNatClampNeg ≤ n1) (hR1 : 1 ≤ rm.frames ∧ (rest.map fun v => v.category).sum + (nativeFrameWords "java/lang/System" "arraycopy" 5 + 11) ≤ rm.locals) (hw : w.set q1 (a, .inl (γ.2.2.1.1, n1, .inl (va_cpy f f1 sp.toNatClampNeg dp.toNatClampNeg z.toNatClampNeg))) = w') (hd : decode cc pc = .ok (.invokestatic idx, 3)) (kk : V g (pc + 3) lv rest w' k n) : V g pc lv (.int z :: .int dp :: .ref a :: .int sp :: .ref a0 :: rest) w k n := by
  obtain ⟨⟨l, D, cI, tt⟩, p, e, R, s, m, args, below, meth, c, Q, A, nL0⟩ := g
  obtain ⟨hγ, hx, hb, hml, hown, hts, hK, hA, hlocks, hST, hst, hR, hnl⟩ := C
  subst hγ; subst hR; subst hnl
  subst hw
  exact fun H locs ls hl hP hD hS => va_copyi hx hb (hml.trans hl.1.symm) hown (hts _ L.1) (hts _ L.2.1) (hts _ L.2.2.1) (hts _ L.2.2.2) hK hP hD hS q0 q1 0 0 ha0 ha1 (ty := .int) rfl rfl rfl h1 h2 h3 h4 h5 (fun _ _ => rfl) hR1.1 hR1.2 hd (fun H1 locs1 hP1 hD1 hS1 => kk H1 locs1 ls hl hP1 hD1 hS1)
end
