section
variable {γ : q_G} {g : q_T} {own : String} {cc : ByteArray} {rm : Room} {nL : Nat} {pc pc' : Nat} {lv lv' : List (Nat × Value)} {st st' rest : List Value} {w w' : va_W} {k n k' n' : Nat}
theorem v_nm (ks ws : List Nat) (hl : lv_pick lv ks = lv') (hw : ws.map (fun i => w[i]?) = w'.map some) (hn : va_nd ws = true) (h1 : k ≤ k') (h2 : n ≤ n') (kk : V g pc lv' st w' k' n') : V g pc lv st w k n := v_lsub ks hl (v_wsub ws hn hw (v_widen h1 h2 kk))
theorem v_nc (ks ws : List Nat) (hpc : pc = pc') (hl : lv_pick lv ks = lv') (hst : st = st') (hw : ws.map (fun i => w[i]?) = w'.map some) (hn : va_nd ws = true) (h1 : k ≤ k') (h2 : n ≤ n') (kk : V g pc' lv' st' w' k' n') : V g pc lv st w k n := by
  subst hpc; subst hst
  exact v_nm ks ws hl hw hn h1 h2 kk
theorem v_ldc2 (C : q_C γ g own cc rm nL) {idx : Nat} {v : Int64} (L : Cond.constantLong own idx v ∈ GW) (hd : decode cc pc = .ok (.ldc2_w idx, 3)) (kk : V g (pc + 3) lv (.long v :: rest) w k n) : V g pc lv rest w k n := by
  obtain ⟨⟨l, D, cI, tt⟩, p, e, R, s, m, args, below, meth, c, Q, A, nL0⟩ := g
  obtain ⟨hγ, hx, hb, hml, hown, hts, hK, hA, hlocks, hST, hst, hR, hnl⟩ := C
  exact fun H locs ls hl hP hD hS => lv_ldc2 hx hb hown (hts _ L) hd (kk H locs ls hl hP hD hS)
theorem v_aret (C : q_C γ g own cc rm nL) {t : FieldType} {Qn : Option Value → va_W → Prop} (E : q_E γ g rm (some (.array t)) Qn) {a : Nat} (hk : k ≤ rm.cells) (hn : n ≤ rm.slots) (hq : Qn (some (.ref a)) w) (hd : decode cc pc = .ok (.areturn, 1)) : V g pc lv [.ref a] w k n := by
  obtain ⟨⟨l, D, cI, tt⟩, p, e, R, s, m, args, below, meth, c, Q, A, nL0⟩ := g
  obtain ⟨hγ, hx, hb, hml, hown, hts, hK, hA, hlocks, hST, hst, hR, hnl⟩ := C
  subst hγ
  exact fun H locs ls hl hP hD hS => W.widen hk hn (E.2 H locs _ (W.aret hx hb E.1 (Or.inr ⟨_, rfl⟩) (Or.inr ⟨_, rfl⟩) (fun t ht hW => ⟨⟨_, w, rfl, hq, by rw [ht]; exact hP, va_K.moved hW.alike hK, hD⟩, hS.F ht⟩) hS.2.2 hd hlocks))
theorem v_dconst0 (C : q_C γ g own cc rm nL) (hd : decode cc pc = .ok (.dconst 0, 1)) (kk : V g (pc + 1) lv (.double FP.dconst0 :: rest) w k n) : V g pc lv rest w k n := by
  obtain ⟨⟨l, D, cI, tt⟩, p, e, R, s, m, args, below, meth, c, Q, A, nL0⟩ := g
  obtain ⟨hγ, hx, hb, hml, hown, hts, hK, hA, hlocks, hST, hst, hR, hnl⟩ := C
  exact fun H locs ls hl hP hD hS => lv_dconst0 hx hb hd (kk H locs ls hl hP hD hS)
theorem v_ddiv (C : q_C γ g own cc rm nL) {x y : UInt64} (hne : vf_n64 (FP.ddiv x y)) (hd : decode cc pc = .ok (.ddiv, 1)) (kk : V g (pc + 1) lv (.double (FP.ddiv x y) :: rest) w k n) : V g pc lv (.double y :: .double x :: rest) w k n := by
  obtain ⟨⟨l, D, cI, tt⟩, p, e, R, s, m, args, below, meth, c, Q, A, nL0⟩ := g
  obtain ⟨hγ, hx, hb, hml, hown, hts, hK, hA, hlocks, hST, hst, hR, hnl⟩ := C
  exact fun H locs ls hl hP hD hS => lv_ddiv hx hb hd hne (kk H locs ls hl hP hD hS)
theorem v_lk2 (C : q_C γ g own cc rm nL) {x : Int32} {d0 o0 o1 : Int} {len t0 t1 td : Nat} (hd : decode cc pc = .ok (.lookupswitch d0 #[(0, o0), (1, o1)], len) ∧ (pc : Int) + o0 = (t0 : Int) ∧ (pc : Int) + o1 = (t1 : Int) ∧ (pc : Int) + d0 = (td : Int)) (k0 : x = 0 → V g t0 lv rest w k n) (k1 : x = 1 → V g t1 lv rest w k n) (kd : ¬ x = 0 → ¬ x = 1 → V g td lv rest w k n) : V g pc lv (.int x :: rest) w k n := by
  obtain ⟨⟨l, D, cI, tt⟩, p, e, R, s, m, args, below, meth, c, Q, A, nL0⟩ := g
  obtain ⟨hγ, hx, hb, hml, hown, hts, hK, hA, hlocks, hST, hst, hR, hnl⟩ := C
  intro H locs ls hl hP hD hS
  by_cases e0 : x = 0
  · subst e0
    exact lv_lookup hx hb hd.1 rfl (off := o0) rfl hd.2.1 (k0 rfl H locs ls hl hP hD hS)
  · by_cases e1 : x = 1
    · subst e1
      exact lv_lookup hx hb hd.1 rfl (off := o1) rfl hd.2.2.1 (k1 rfl H locs ls hl hP hD hS)
    · have h0 : ¬ x.toInt = 0 := fun h => e0 (Int32.toInt_inj.mp (h.trans (by decide)))
      have h1 : ¬ x.toInt = 1 := fun h => e1 (Int32.toInt_inj.mp (h.trans (by decide)))
      exact lv_lookup hx hb hd.1 rfl (off := d0) (by simp [Op.lookupswitch.offset, Ne.symm h0, Ne.symm h1, h0, h1]) hd.2.2.2 (kd e0 e1 H locs ls hl hP hD hS)
end
/-- a loop: at most n times round -/
def q_loop {α : Type} (F : (α → Prop) → α → Prop) : Nat → α → Prop
  | 0, _ => False
  | n + 1, a => F (q_loop F n) a
theorem q_loop_of {α : Type} {F : (α → Prop) → α → Prop} (I : α → Prop) (μ : α → Nat) (hs : ∀ (rec : α → Prop) (a : α), I a → (∀ b, I b → μ b < μ a → rec b) → F rec a) : ∀ (n : Nat) (a : α), I a → μ a < n → q_loop F n a
  | 0, _, _, h => absurd h (Nat.not_lt_zero _)
  | n + 1, a, ha, h => hs _ a ha (fun b hb hlt => q_loop_of I μ hs n b hb (by omega))
theorem q_loop_ex {α : Type} {F : (α → Prop) → α → Prop} (I : α → Prop) (μ : α → Nat) (a : α) (ha : I a) (hs : ∀ (rec : α → Prop) (a : α), I a → (∀ b, I b → μ b < μ a → rec b) → F rec a) : ∃ n : Nat, q_loop F n a := ⟨μ a + 1, q_loop_of I μ hs _ a ha (Nat.lt_succ_self _)⟩
theorem lkA : Cond.arrayClass .int ∈ GW := mw (i := 96) (by decide +kernel) (by decide +kernel)
theorem kW0 : ∀ w ∈ u_ws RX0 TX0 5, w ∈ lw_tbl ∧ goodWord w = true := by decide +kernel
theorem kX0 : q_K 0 RX0 TX0 5 tyX0 := ⟨rfl, fun w hw => List.mem_filter.mpr (kW0 w hw), tyX0_ok, nmX0⟩
theorem kW1 : ∀ w ∈ u_ws RX1 TX1 1, w ∈ lw_tbl ∧ goodWord w = true := by decide +kernel
theorem kX1 : q_K 1 RX1 TX1 1 tyX1 := ⟨rfl, fun w hw => List.mem_filter.mpr (kW1 w hw), tyX1_ok, nmX1⟩
theorem kW2 : ∀ w ∈ u_ws RX2 TX2 2, w ∈ lw_tbl ∧ goodWord w = true := by decide +kernel
theorem kX2 : q_K 2 RX2 TX2 2 tyX2 := ⟨rfl, fun w hw => List.mem_filter.mpr (kW2 w hw), tyX2_ok, nmX2⟩
theorem kW3 : ∀ w ∈ u_ws RX3 TX3 2, w ∈ lw_tbl ∧ goodWord w = true := by decide +kernel
theorem kX3 : q_K 3 RX3 TX3 2 tyX3 := ⟨rfl, fun w hw => List.mem_filter.mpr (kW3 w hw), tyX3_ok, nmX3⟩
theorem kW4 : ∀ w ∈ u_ws RX4 TX4 8, w ∈ lw_tbl ∧ goodWord w = true := by decide +kernel
theorem kX4 : q_K 4 RX4 TX4 8 tyX4 := ⟨rfl, fun w hw => List.mem_filter.mpr (kW4 w hw), tyX4_ok, nmX4⟩
theorem kW5 : ∀ w ∈ u_ws RX5 TX5 3, w ∈ lw_tbl ∧ goodWord w = true := by decide +kernel
theorem kX5 : q_K 5 RX5 TX5 3 tyX5 := ⟨rfl, fun w hw => List.mem_filter.mpr (kW5 w hw), tyX5_ok, nmX5⟩
theorem kW6 : ∀ w ∈ u_ws RX6 TX6 9, w ∈ lw_tbl ∧ goodWord w = true := by decide +kernel
theorem kX6 : q_K 6 RX6 TX6 9 tyX6 := ⟨rfl, fun w hw => List.mem_filter.mpr (kW6 w hw), tyX6_ok, nmX6⟩
theorem kW7 : ∀ w ∈ u_ws RX7 TX7 14, w ∈ lw_tbl ∧ goodWord w = true := by decide +kernel
theorem kX7 : q_K 7 RX7 TX7 14 tyX7 := ⟨rfl, fun w hw => List.mem_filter.mpr (kW7 w hw), tyX7_ok, nmX7⟩
