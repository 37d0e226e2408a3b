section
variable {γ : q_G} {g : q_T} {own : String} {cc : ByteArray} {rm : Room} {nL : Nat} {pc : Nat} {lv lv' : List (Nat × Value)} {st st' rest : List Value} {w w' : va_W} {k n k' n' : Nat}
theorem v_icmp_eq (C : q_C γ g own cc rm nL) {x y : Int32} {off : Int} {tgt : Nat} (hd : decode cc pc = .ok (.if_icmp .eq off, 3) ∧ (pc : Int) + off = (tgt : Int)) (kt : x = y → V g tgt lv rest w k n) (kf : ¬ x = y → V g (pc + 3) lv rest w k n) : V g pc lv (.int y :: .int x :: rest) w k n := by
  obtain ⟨⟨l, D, cI, tt⟩, p, e, R, s, m, args, below, meth, c, Q, A, nL0⟩ := g
  obtain ⟨hγ, hx, hb, hml, hown, hts, hK, hA, hlocks, hST, hst, hR, hnl⟩ := C
  exact fun H locs ls hl hP hD hS => lv_icmp_eq hx hb hd.1 hd.2 (fun q => kt q H locs ls hl hP hD hS) (fun q => kf q H locs ls hl hP hD hS)
theorem v_if_eq (C : q_C γ g own cc rm nL) {x : Int32} {off : Int} {tgt : Nat} (hd : decode cc pc = .ok (.ifCond .eq off, 3) ∧ (pc : Int) + off = (tgt : Int)) (kt : x = 0 → V g tgt lv rest w k n) (kf : ¬ x = 0 → V g (pc + 3) lv rest w k n) : V g pc lv (.int x :: rest) w k n := by
  obtain ⟨⟨l, D, cI, tt⟩, p, e, R, s, m, args, below, meth, c, Q, A, nL0⟩ := g
  obtain ⟨hγ, hx, hb, hml, hown, hts, hK, hA, hlocks, hST, hst, hR, hnl⟩ := C
  exact fun H locs ls hl hP hD hS => lv_if_eq hx hb hd.1 hd.2 (fun q => kt q H locs ls hl hP hD hS) (fun q => kf q H locs ls hl hP hD hS)
theorem v_icmp_ne (C : q_C γ g own cc rm nL) {x y : Int32} {off : Int} {tgt : Nat} (hd : decode cc pc = .ok (.if_icmp .ne off, 3) ∧ (pc : Int) + off = (tgt : Int)) (kt : ¬ x = y → V g tgt lv rest w k n) (kf : x = y → V g (pc + 3) lv rest w k n) : V g pc lv (.int y :: .int x :: rest) w k n := by
  obtain ⟨⟨l, D, cI, tt⟩, p, e, R, s, m, args, below, meth, c, Q, A, nL0⟩ := g
  obtain ⟨hγ, hx, hb, hml, hown, hts, hK, hA, hlocks, hST, hst, hR, hnl⟩ := C
  exact fun H locs ls hl hP hD hS => lv_icmp_ne hx hb hd.1 hd.2 (fun q => kt q H locs ls hl hP hD hS) (fun q => kf q H locs ls hl hP hD hS)
theorem v_if_ne (C : q_C γ g own cc rm nL) {x : Int32} {off : Int} {tgt : Nat} (hd : decode cc pc = .ok (.ifCond .ne off, 3) ∧ (pc : Int) + off = (tgt : Int)) (kt : ¬ x = 0 → V g tgt lv rest w k n) (kf : x = 0 → V g (pc + 3) lv rest w k n) : V g pc lv (.int x :: rest) w k n := by
  obtain ⟨⟨l, D, cI, tt⟩, p, e, R, s, m, args, below, meth, c, Q, A, nL0⟩ := g
  obtain ⟨hγ, hx, hb, hml, hown, hts, hK, hA, hlocks, hST, hst, hR, hnl⟩ := C
  exact fun H locs ls hl hP hD hS => lv_if_ne hx hb hd.1 hd.2 (fun q => kt q H locs ls hl hP hD hS) (fun q => kf q H locs ls hl hP hD hS)
theorem v_icmp_lt (C : q_C γ g own cc rm nL) {x y : Int32} {off : Int} {tgt : Nat} (hd : decode cc pc = .ok (.if_icmp .lt off, 3) ∧ (pc : Int) + off = (tgt : Int)) (kt : x < y → V g tgt lv rest w k n) (kf : ¬ x < y → V g (pc + 3) lv rest w k n) : V g pc lv (.int y :: .int x :: rest) w k n := by
  obtain ⟨⟨l, D, cI, tt⟩, p, e, R, s, m, args, below, meth, c, Q, A, nL0⟩ := g
  obtain ⟨hγ, hx, hb, hml, hown, hts, hK, hA, hlocks, hST, hst, hR, hnl⟩ := C
  exact fun H locs ls hl hP hD hS => lv_icmp_lt hx hb hd.1 hd.2 (fun q => kt q H locs ls hl hP hD hS) (fun q => kf q H locs ls hl hP hD hS)
theorem v_if_lt (C : q_C γ g own cc rm nL) {x : Int32} {off : Int} {tgt : Nat} (hd : decode cc pc = .ok (.ifCond .lt off, 3) ∧ (pc : Int) + off = (tgt : Int)) (kt : x < 0 → V g tgt lv rest w k n) (kf : ¬ x < 0 → V g (pc + 3) lv rest w k n) : V g pc lv (.int x :: rest) w k n := by
  obtain ⟨⟨l, D, cI, tt⟩, p, e, R, s, m, args, below, meth, c, Q, A, nL0⟩ := g
  obtain ⟨hγ, hx, hb, hml, hown, hts, hK, hA, hlocks, hST, hst, hR, hnl⟩ := C
  exact fun H locs ls hl hP hD hS => lv_if_lt hx hb hd.1 hd.2 (fun q => kt q H locs ls hl hP hD hS) (fun q => kf q H locs ls hl hP hD hS)
theorem v_icmp_ge (C : q_C γ g own cc rm nL) {x y : Int32} {off : Int} {tgt : Nat} (hd : decode cc pc = .ok (.if_icmp .ge off, 3) ∧ (pc : Int) + off = (tgt : Int)) (kt : y ≤ x → V g tgt lv rest w k n) (kf : ¬ y ≤ x → V g (pc + 3) lv rest w k n) : V g pc lv (.int y :: .int x :: rest) w k n := by
  obtain ⟨⟨l, D, cI, tt⟩, p, e, R, s, m, args, below, meth, c, Q, A, nL0⟩ := g
  obtain ⟨hγ, hx, hb, hml, hown, hts, hK, hA, hlocks, hST, hst, hR, hnl⟩ := C
  exact fun H locs ls hl hP hD hS => lv_icmp_ge hx hb hd.1 hd.2 (fun q => kt q H locs ls hl hP hD hS) (fun q => kf q H locs ls hl hP hD hS)
theorem v_if_ge (C : q_C γ g own cc rm nL) {x : Int32} {off : Int} {tgt : Nat} (hd : decode cc pc = .ok (.ifCond .ge off, 3) ∧ (pc : Int) + off = (tgt : Int)) (kt : 0 ≤ x → V g tgt lv rest w k n) (kf : ¬ 0 ≤ x → V g (pc + 3) lv rest w k n) : V g pc lv (.int x :: rest) w k n := by
  obtain ⟨⟨l, D, cI, tt⟩, p, e, R, s, m, args, below, meth, c, Q, A, nL0⟩ := g
  obtain ⟨hγ, hx, hb, hml, hown, hts, hK, hA, hlocks, hST, hst, hR, hnl⟩ := C
  exact fun H locs ls hl hP hD hS => lv_if_ge hx hb hd.1 hd.2 (fun q => kt q H locs ls hl hP hD hS) (fun q => kf q H locs ls hl hP hD hS)
theorem v_icmp_gt (C : q_C γ g own cc rm nL) {x y : Int32} {off : Int} {tgt : Nat} (hd : decode cc pc = .ok (.if_icmp .gt off, 3) ∧ (pc : Int) + off = (tgt : Int)) (kt : y < x → V g tgt lv rest w k n) (kf : ¬ y < x → V g (pc + 3) lv rest w k n) : V g pc lv (.int y :: .int x :: rest) w k n := by
  obtain ⟨⟨l, D, cI, tt⟩, p, e, R, s, m, args, below, meth, c, Q, A, nL0⟩ := g
  obtain ⟨hγ, hx, hb, hml, hown, hts, hK, hA, hlocks, hST, hst, hR, hnl⟩ := C
  exact fun H locs ls hl hP hD hS => lv_icmp_gt hx hb hd.1 hd.2 (fun q => kt q H locs ls hl hP hD hS) (fun q => kf q H locs ls hl hP hD hS)
theorem v_if_gt (C : q_C γ g own cc rm nL) {x : Int32} {off : Int} {tgt : Nat} (hd : decode cc pc = .ok (.ifCond .gt off, 3) ∧ (pc : Int) + off = (tgt : Int)) (kt : 0 < x → V g tgt lv rest w k n) (kf : ¬ 0 < x → V g (pc + 3) lv rest w k n) : V g pc lv (.int x :: rest) w k n := by
  obtain ⟨⟨l, D, cI, tt⟩, p, e, R, s, m, args, below, meth, c, Q, A, nL0⟩ := g
  obtain ⟨hγ, hx, hb, hml, hown, hts, hK, hA, hlocks, hST, hst, hR, hnl⟩ := C
  exact fun H locs ls hl hP hD hS => lv_if_gt hx hb hd.1 hd.2 (fun q => kt q H locs ls hl hP hD hS) (fun q => kf q H locs ls hl hP hD hS)
theorem v_icmp_le (C : q_C γ g own cc rm nL) {x y : Int32} {off : Int} {tgt : Nat} (hd : decode cc pc = .ok (.if_icmp .le off, 3) ∧ (pc : Int) + off = (tgt : Int)) (kt : x ≤ y → V g tgt lv rest w k n) (kf : ¬ x ≤ y → V g (pc + 3) lv rest w k n) : V g pc lv (.int y :: .int x :: rest) w k n := by
  obtain ⟨⟨l, D, cI, tt⟩, p, e, R, s, m, args, below, meth, c, Q, A, nL0⟩ := g
  obtain ⟨hγ, hx, hb, hml, hown, hts, hK, hA, hlocks, hST, hst, hR, hnl⟩ := C
  exact fun H locs ls hl hP hD hS => lv_icmp_le hx hb hd.1 hd.2 (fun q => kt q H locs ls hl hP hD hS) (fun q => kf q H locs ls hl hP hD hS)
theorem v_if_le (C : q_C γ g own cc rm nL) {x : Int32} {off : Int} {tgt : Nat} (hd : decode cc pc = .ok (.ifCond .le off, 3) ∧ (pc : Int) + off = (tgt : Int)) (kt : x ≤ 0 → V g tgt lv rest w k n) (kf : ¬ x ≤ 0 → V g (pc + 3) lv rest w k n) : V g pc lv (.int x :: rest) w k n := by
  obtain ⟨⟨l, D, cI, tt⟩, p, e, R, s, m, args, below, meth, c, Q, A, nL0⟩ := g
  obtain ⟨hγ, hx, hb, hml, hown, hts, hK, hA, hlocks, hST, hst, hR, hnl⟩ := C
  exact fun H locs ls hl hP hD hS => lv_if_le hx hb hd.1 hd.2 (fun q => kt q H locs ls hl hP hD hS) (fun q => kf q H locs ls hl hP hD hS)
theorem v_idiv (C : q_C γ g own cc rm nL) {x y : Int32} (hy : ¬ y = 0) (hd : decode cc pc = .ok (.idiv, 1)) (kk : V g (pc + 1) lv (.int (x / y) :: rest) w k n) : V g pc lv (.int y :: .int x :: rest) w k n := by
  obtain ⟨⟨l, D, cI, tt⟩, p, e, R, s, m, args, below, meth, c, Q, A, nL0⟩ := g
  obtain ⟨hγ, hx, hb, hml, hown, hts, hK, hA, hlocks, hST, hst, hR, hnl⟩ := C
  exact fun H locs ls hl hP hD hS => lv_idiv hx hb hd hy (kk H locs ls hl hP hD hS)
theorem v_irem (C : q_C γ g own cc rm nL) {x y : Int32} (hy : ¬ y = 0) (hd : decode cc pc = .ok (.irem, 1)) (kk : V g (pc + 1) lv (.int (x - x / y * y) :: rest) w k n) : V g pc lv (.int y :: .int x :: rest) w k n := by
  obtain ⟨⟨l, D, cI, tt⟩, p, e, R, s, m, args, below, meth, c, Q, A, nL0⟩ := g
  obtain ⟨hγ, hx, hb, hml, hown, hts, hK, hA, hlocks, hST, hst, hR, hnl⟩ := C
  exact fun H locs ls hl hP hD hS => lv_irem hx hb hd hy (kk H locs ls hl hP hD hS)
/-- a class of ours, by its number in CL -/
def q_K (ci : Nat) (Cn : String) (T : u_T) (N : Nat) (ty : Nat → FieldType) : Prop := CL[ci]? = some (Cn, T, N) ∧ (∀ w ∈ u_ws Cn T N, w ∈ GW) ∧ (∀ j, j < N → parseFieldDescriptor (T j).2.2.1 = some (ty j)) ∧ (∀ a, a < N → ∀ b, b < N → a ≠ b → (T a).2.1 ≠ (T b).2.1)
theorem v_get (C : q_C γ g own cc rm nL) {ci N idx : Nat} {Cn : String} {T : u_T} {ty : Nat → FieldType} (K : q_K ci Cn T N ty) (q0 j : Nat) {a : Nat} {fs : List Value} {v : Value} (hf : Cond.fieldLink own idx Cn (T j).2.1 (T j).2.2.1 ∈ GW) (hj : j < N ∧ (T j).1 = Cn) (he : w[q0]? = some (a, .inr (ci, fs))) (hv : fs[j]? = some v) (hd : decode cc pc = .ok (.getfield idx, 3)) (kk : V g (pc + 3) lv (v :: rest) w k n) : V g pc lv (.ref a :: rest) w k n := by
  obtain ⟨⟨l, D, cI, tt⟩, p, e, R, s, m, args, below, meth, c, Q, A, nL0⟩ := g
  obtain ⟨hγ, hx, hb, hml, hown, hts, hK, hA, hlocks, hST, hst, hR, hnl⟩ := C
  exact fun H locs ls hl hP hD hS => va_get hx hb hts K.2.1 hown hK hP q0 he K.1 j hj.1 (hts _ hf) (fun x h => by rw [hj.2] at h; exact h) hv hd (kk H locs ls hl hP hD hS)
theorem v_getN (C : q_C γ g own cc rm nL) {ci N idx : Nat} {Cn host : String} {T : u_T} {ty : Nat → FieldType} (K : q_K ci Cn T N ty) (q0 j : Nat) {a : Nat} {fs : List Value} {v : Value} (hf : Cond.fieldLinkNest own idx Cn (T j).2.1 (T j).2.2.1 host ∈ NW) (hj : j < N ∧ (T j).1 = Cn) (he : w[q0]? = some (a, .inr (ci, fs))) (hv : fs[j]? = some v) (hd : decode cc pc = .ok (.getfield idx, 3)) (kk : V g (pc + 3) lv (v :: rest) w k n) : V g pc lv (.ref a :: rest) w k n := by
  obtain ⟨⟨l, D, cI, tt⟩, p, e, R, s, m, args, below, meth, c, Q, A, nL0⟩ := g
  obtain ⟨hγ, hx, hb, hml, hown, hts, hK, hA, hlocks, hST, hst, hR, hnl⟩ := C
  exact fun H locs ls hl hP hD hS => va_getN hx hb hts K.2.1 hown hK hP q0 he K.1 j hj.1 (va_Nw.use rfl (hST.2.2.2.2.2.2.2.2.1 _ hf)) (fun x h => by rw [hj.2] at h; exact h) hv hd (kk H locs ls hl hP hD hS)
theorem v_put (C : q_C γ g own cc rm nL) {ci N idx : Nat} {Cn : String} {T : u_T} {ty : Nat → FieldType} (K : q_K ci Cn T N ty) (q0 j : Nat) {a : Nat} {fs : List Value} {v : Value} (hf : Cond.fieldLink own idx Cn (T j).2.1 (T j).2.2.1 ∈ GW) (hj : j < N ∧ (T j).1 = Cn ∧ (T j).2.2.2 = false) (he : w[q0]? = some (a, .inr (ci, fs))) (hn : narrow (ty j) v = v) (hfit : fits (ty j) v = true) (hlen : j < fs.length) (hw : w.set q0 (a, .inr (ci, fs.set j v)) = w') (hd : decode cc pc = .ok (.putfield idx, 3)) (kk : V g (pc + 3) lv rest w' k n) : V g pc lv (v :: .ref a :: rest) w k n := by
  obtain ⟨⟨l, D, cI, tt⟩, p, e, R, s, m, args, below, meth, c, Q, A, nL0⟩ := g
  obtain ⟨hγ, hx, hb, hml, hown, hts, hK, hA, hlocks, hST, hst, hR, hnl⟩ := C
  subst hw
  exact fun H locs ls hl hP hD hS => va_put hx hb hts K.2.1 ty K.2.2.1 K.2.2.2 hown hK hP hD hS q0 he K.1 j hj.1 (hts _ hf) (fun x h => by rw [hj.2.1] at h; exact h) hj.2.2 (K.2.2.1 j hj.1) hn hfit hlen hd (fun H1 locs1 hP1 hD1 hS1 => kk H1 locs1 ls hl hP1 hD1 hS1)
theorem v_iald (C : q_C γ g own cc rm nL) (q0 : Nat) {a N : Nat} {f : Nat → Int32} {i : Int32} (ha : w[q0]? = some (a, .inl (γ.2.2.1.1, N, .inl f))) (hin : vp_in i N) (hd : decode cc pc = .ok (.iaload, 1)) (kk : V g (pc + 1) lv (.int (f i.toNatClampNeg) :: rest) w k n) : V g pc lv (.int i :: .ref a :: rest) w k n := by
  obtain ⟨⟨l, D, cI, tt⟩, p, e, R, s, m, args, below, meth, c, Q, A, nL0⟩ := g
  obtain ⟨hγ, hx, hb, hml, hown, hts, hK, hA, hlocks, hST, hst, hR, hnl⟩ := C
  subst hγ
  exact fun H locs ls hl hP hD hS => va_iald hx hb hK hP q0 0 ha rfl hin hd (kk H locs ls hl hP hD hS)
theorem v_iast (C : q_C γ g own cc rm nL) (q0 : Nat) {a N : Nat} {f : Nat → Int32} {i x : Int32} (ha : w[q0]? = some (a, .inl (γ.2.2.1.1, N, .inl f))) (hin : vp_in i N) (hw : w.set q0 (a, .inl (γ.2.2.1.1, N, .inl (upd f i.toNatClampNeg x))) = w') (hd : decode cc pc = .ok (.iastore, 1)) (kk : V g (pc + 1) lv rest w' k n) : V g pc lv (.int x :: .int i :: .ref a :: rest) w k n := by
  obtain ⟨⟨l, D, cI, tt⟩, p, e, R, s, m, args, below, meth, c, Q, A, nL0⟩ := g
  obtain ⟨hγ, hx, hb, hml, hown, hts, hK, hA, hlocks, hST, hst, hR, hnl⟩ := C
  subst hγ
  subst hw
  exact fun H locs ls hl hP hD hS => va_iast hx hb hK hP hD hS q0 0 ha rfl hin hd (fun H1 locs1 hP1 hD1 hS1 => kk H1 locs1 ls hl hP1 hD1 hS1)
theorem v_alen (C : q_C γ g own cc rm nL) (q0 : Nat) {a : Nat} {x : vp_A} {v : Int32} (ha : w[q0]? = some (a, .inl (γ.2.2.1.1, x))) (hv : Int32.ofNat x.1 = v) (hd : decode cc pc = .ok (.arraylength, 1)) (kk : V g (pc + 1) lv (.int v :: rest) w k n) : V g pc lv (.ref a :: rest) w k n := by
  obtain ⟨⟨l, D, cI, tt⟩, p, e, R, s, m, args, below, meth, c, Q, A, nL0⟩ := g
  obtain ⟨hγ, hx, hb, hml, hown, hts, hK, hA, hlocks, hST, hst, hR, hnl⟩ := C
  subst hγ
  exact fun H locs ls hl hP hD hS => va_alen hx hb hK hP q0 0 ha (ty := .int) rfl hv hd (kk H locs ls hl hP hD hS)
theorem v_getsX (C : q_C γ g own cc rm nL) {idx : Nat} (hf : Cond.fieldLink own idx "CobbleWorld" "STEP_X" "[I" ∈ GW) (hd : decode cc pc = .ok (.getstatic idx, 3)) (kk : V g (pc + 3) lv (.ref γ.2.2.2.1 :: rest) w k n) : V g pc lv rest w k n := by
  obtain ⟨⟨l, D, cI, tt⟩, p, e, R, s, m, args, below, meth, c, Q, A, nL0⟩ := g
  obtain ⟨hγ, hx, hb, hml, hown, hts, hK, hA, hlocks, hST, hst, hR, hnl⟩ := C
  subst hγ
  exact fun H locs ls hl hP hD hS => va_gets hx hb hST.2.2.1 hS hown (hts _ hf) (fun x h => h) hd (kk H locs ls hl hP hD hS)
theorem v_getsNX (C : q_C γ g own cc rm nL) {idx : Nat} {host : String} (hf : Cond.fieldLinkNest own idx "CobbleWorld" "STEP_X" "[I" host ∈ NW) (hd : decode cc pc = .ok (.getstatic idx, 3)) (kk : V g (pc + 3) lv (.ref γ.2.2.2.1 :: rest) w k n) : V g pc lv rest w k n := by
  obtain ⟨⟨l, D, cI, tt⟩, p, e, R, s, m, args, below, meth, c, Q, A, nL0⟩ := g
  obtain ⟨hγ, hx, hb, hml, hown, hts, hK, hA, hlocks, hST, hst, hR, hnl⟩ := C
  subst hγ
  exact fun H locs ls hl hP hD hS => va_getsN hx hb hST.2.2.1 hS hown (va_Nw.use rfl (hST.2.2.2.2.2.2.2.2.1 _ hf)) (fun x h => h) hd (kk H locs ls hl hP hD hS)
theorem v_tiX (C : q_C γ g own cc rm nL) {i : Int32} (hin : vp_in i 6) (hd : decode cc pc = .ok (.iaload, 1)) (kk : V g (pc + 1) lv (.int (sX i.toNatClampNeg) :: rest) w k n) : V g pc lv (.int i :: .ref γ.2.2.2.1 :: rest) w k n := by
  obtain ⟨⟨l, D, cI, tt⟩, p, e, R, s, m, args, below, meth, c, Q, A, nL0⟩ := g
  obtain ⟨hγ, hx, hb, hml, hown, hts, hK, hA, hlocks, hST, hst, hR, hnl⟩ := C
  subst hγ
  exact fun H locs ls hl hP hD hS => va_ti hx hb hST.2.2.2.1 hS hin rfl hd (kk H locs ls hl hP hD hS)
theorem v_getsY (C : q_C γ g own cc rm nL) {idx : Nat} (hf : Cond.fieldLink own idx "CobbleWorld" "STEP_Y" "[I" ∈ GW) (hd : decode cc pc = .ok (.getstatic idx, 3)) (kk : V g (pc + 3) lv (.ref γ.2.2.2.2.1 :: rest) w k n) : V g pc lv rest w k n := by
  obtain ⟨⟨l, D, cI, tt⟩, p, e, R, s, m, args, below, meth, c, Q, A, nL0⟩ := g
  obtain ⟨hγ, hx, hb, hml, hown, hts, hK, hA, hlocks, hST, hst, hR, hnl⟩ := C
  subst hγ
  exact fun H locs ls hl hP hD hS => va_gets hx hb hST.2.2.2.2.1 hS hown (hts _ hf) (fun x h => h) hd (kk H locs ls hl hP hD hS)
theorem v_getsNY (C : q_C γ g own cc rm nL) {idx : Nat} {host : String} (hf : Cond.fieldLinkNest own idx "CobbleWorld" "STEP_Y" "[I" host ∈ NW) (hd : decode cc pc = .ok (.getstatic idx, 3)) (kk : V g (pc + 3) lv (.ref γ.2.2.2.2.1 :: rest) w k n) : V g pc lv rest w k n := by
  obtain ⟨⟨l, D, cI, tt⟩, p, e, R, s, m, args, below, meth, c, Q, A, nL0⟩ := g
  obtain ⟨hγ, hx, hb, hml, hown, hts, hK, hA, hlocks, hST, hst, hR, hnl⟩ := C
  subst hγ
  exact fun H locs ls hl hP hD hS => va_getsN hx hb hST.2.2.2.2.1 hS hown (va_Nw.use rfl (hST.2.2.2.2.2.2.2.2.1 _ hf)) (fun x h => h) hd (kk H locs ls hl hP hD hS)
theorem v_tiY (C : q_C γ g own cc rm nL) {i : Int32} (hin : vp_in i 6) (hd : decode cc pc = .ok (.iaload, 1)) (kk : V g (pc + 1) lv (.int (sY i.toNatClampNeg) :: rest) w k n) : V g pc lv (.int i :: .ref γ.2.2.2.2.1 :: rest) w k n := by
  obtain ⟨⟨l, D, cI, tt⟩, p, e, R, s, m, args, below, meth, c, Q, A, nL0⟩ := g
  obtain ⟨hγ, hx, hb, hml, hown, hts, hK, hA, hlocks, hST, hst, hR, hnl⟩ := C
  subst hγ
  exact fun H locs ls hl hP hD hS => va_ti hx hb hST.2.2.2.2.2.1 hS hin rfl hd (kk H locs ls hl hP hD hS)
theorem v_getsZ (C : q_C γ g own cc rm nL) {idx : Nat} (hf : Cond.fieldLink own idx "CobbleWorld" "STEP_Z" "[I" ∈ GW) (hd : decode cc pc = .ok (.getstatic idx, 3)) (kk : V g (pc + 3) lv (.ref γ.2.2.2.2.2 :: rest) w k n) : V g pc lv rest w k n := by
  obtain ⟨⟨l, D, cI, tt⟩, p, e, R, s, m, args, below, meth, c, Q, A, nL0⟩ := g
  obtain ⟨hγ, hx, hb, hml, hown, hts, hK, hA, hlocks, hST, hst, hR, hnl⟩ := C
  subst hγ
  exact fun H locs ls hl hP hD hS => va_gets hx hb hST.2.2.2.2.2.2.1 hS hown (hts _ hf) (fun x h => h) hd (kk H locs ls hl hP hD hS)
theorem v_getsNZ (C : q_C γ g own cc rm nL) {idx : Nat} {host : String} (hf : Cond.fieldLinkNest own idx "CobbleWorld" "STEP_Z" "[I" host ∈ NW) (hd : decode cc pc = .ok (.getstatic idx, 3)) (kk : V g (pc + 3) lv (.ref γ.2.2.2.2.2 :: rest) w k n) : V g pc lv rest w k n := by
  obtain ⟨⟨l, D, cI, tt⟩, p, e, R, s, m, args, below, meth, c, Q, A, nL0⟩ := g
  obtain ⟨hγ, hx, hb, hml, hown, hts, hK, hA, hlocks, hST, hst, hR, hnl⟩ := C
  subst hγ
  exact fun H locs ls hl hP hD hS => va_getsN hx hb hST.2.2.2.2.2.2.1 hS hown (va_Nw.use rfl (hST.2.2.2.2.2.2.2.2.1 _ hf)) (fun x h => h) hd (kk H locs ls hl hP hD hS)
theorem v_tiZ (C : q_C γ g own cc rm nL) {i : Int32} (hin : vp_in i 6) (hd : decode cc pc = .ok (.iaload, 1)) (kk : V g (pc + 1) lv (.int (sZ i.toNatClampNeg) :: rest) w k n) : V g pc lv (.int i :: .ref γ.2.2.2.2.2 :: rest) w k n := by
  obtain ⟨⟨l, D, cI, tt⟩, p, e, R, s, m, args, below, meth, c, Q, A, nL0⟩ := g
  obtain ⟨hγ, hx, hb, hml, hown, hts, hK, hA, hlocks, hST, hst, hR, hnl⟩ := C
  subst hγ
  exact fun H locs ls hl hP hD hS => va_ti hx hb hST.2.2.2.2.2.2.2.1 hS hin rfl hd (kk H locs ls hl hP hD hS)
end
