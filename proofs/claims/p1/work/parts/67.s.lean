abbrev q_FL : List Cond := flatC (Jvm.Cond.and given_1 narrow_1)
theorem q_faX : Cond.arrayOf (.static "CobbleWorld" "STEP_X" "[I") .int ∈ q_FL := by decide +kernel
theorem q_flX : Cond.eq (.length (.static "CobbleWorld" "STEP_X" "[I")) (.int (Int32.ofNat 6)) ∈ q_FL := by decide +kernel
theorem q_feX : ∀ j, j < 6 → Cond.eq (.elem (.static "CobbleWorld" "STEP_X" "[I") (.int (Int32.ofNat j))) (.int (sX j)) ∈ q_FL := by decide +kernel
theorem q_faY : Cond.arrayOf (.static "CobbleWorld" "STEP_Y" "[I") .int ∈ q_FL := by decide +kernel
theorem q_flY : Cond.eq (.length (.static "CobbleWorld" "STEP_Y" "[I")) (.int (Int32.ofNat 6)) ∈ q_FL := by decide +kernel
theorem q_feY : ∀ j, j < 6 → Cond.eq (.elem (.static "CobbleWorld" "STEP_Y" "[I") (.int (Int32.ofNat j))) (.int (sY j)) ∈ q_FL := by decide +kernel
theorem q_faZ : Cond.arrayOf (.static "CobbleWorld" "STEP_Z" "[I") .int ∈ q_FL := by decide +kernel
theorem q_flZ : Cond.eq (.length (.static "CobbleWorld" "STEP_Z" "[I")) (.int (Int32.ofNat 6)) ∈ q_FL := by decide +kernel
theorem q_feZ : ∀ j, j < 6 → Cond.eq (.elem (.static "CobbleWorld" "STEP_Z" "[I") (.int (Int32.ofNat j))) (.int (sZ j)) ∈ q_FL := by decide +kernel
theorem q_fU : Cond.isRef (.static Bundle.tN "UNASSIGNED_STACK" Bundle.steD) ∈ q_FL := by decide +kernel
theorem q_fN : Cond.isRef (.static Bundle.tN "SUPPRESSED_SENTINEL" Bundle.listD) ∈ q_FL := by decide +kernel
theorem q_fS : ∀ q ∈ STR, Cond.exactly (.string "CobbleWorld" q.1) "java/lang/String" ∈ q_FL ∧ Cond.stringRef "CobbleWorld" q.1 q.2 ∈ lw_tbl := by decide +kernel
theorem q_fC : ∀ q ∈ NCL, Cond.not (.castable q.1 q.2) ∈ q_FL := by decide +kernel
theorem q_nwm : ∀ w ∈ NW, w ∈ lw_tbl := fun w h => List.mem_append_right _ (List.mem_filter.mp h).1
theorem q_arr {s : State} {args : Array Value} {ty : FieldType} (h : (Cond.arrayClass ty).before args s = true) (hty : ty = .int ∨ ty = .long) : ∃ cA : ClassId, ArrOfT s cA ty ∧ va_RA s cA ty := by
  obtain ⟨cA, kA, comp, h1, h2, h3⟩ := Cond.arrayClass_spec h
  refine ⟨cA, fun n z => ⟨fun k h => (by cases h), kA, h2, comp, h3⟩, ?_⟩
  rcases hty with rfl | rfl <;> exact h1
set_option maxHeartbeats 4000000 in
set_option maxRecDepth 100000 in
/-- THE START: what the statement gives is what the walks ask -/
theorem q_start {p : Program} {e : Env} {s : State} {m : MethodId} {below : List Frame} {meth : Method} {c : Code} (l : Launch) (hflags : l.flags = flags0) {b L : Nat} {xs : Nat → Int32} (C0 : lw_At p s m meth c b L xs) (h : w_law L xs) : W p l e room_1 s m #[Value.ref b] below meth c s.heap [] 0 0 (lw_Z below #[Value.ref b] s) (entryFrame m ([Value.ref b] : List Value).toArray 9) := by
  obtain ⟨hx, hb, hr, hml, hown, hts, hX, hbl, hlocks, hgv⟩ := id C0
  have hs : ∀ c ∈ q_FL, c.before #[Value.ref b] s = true := flat_of_before _ hgv
  have hAn : ∀ a : Nat, a < s.heap.size → ¬ (fun q : Nat => s.heap.size ≤ q) a := fun a h => Nat.not_le.mpr h
  obtain ⟨c0, i0, k0⟩ := u_known (C := RX0) (T := TX0) (N := 5) (n := 5) hts (fun w hw => (kW0 w hw).1) (hts (.instantiable RX0 5) (mem2 (i := 168) (by decide +kernel)))
  obtain ⟨c1, i1, k1⟩ := u_known (C := RX1) (T := TX1) (N := 1) (n := 1) hts (fun w hw => (kW1 w hw).1) (hts (.instantiable RX1 1) (mem2 (i := 98) (by decide +kernel)))
  obtain ⟨c2, i2, k2⟩ := u_known (C := RX2) (T := TX2) (N := 2) (n := 2) hts (fun w hw => (kW2 w hw).1) (hts (.instantiable RX2 2) (mem2 (i := 83) (by decide +kernel)))
  obtain ⟨c3, i3, k3⟩ := u_known (C := RX3) (T := TX3) (N := 2) (n := 2) hts (fun w hw => (kW3 w hw).1) (hts (.instantiable RX3 2) (mem2 (i := 108) (by decide +kernel)))
  obtain ⟨c4, i4, k4⟩ := u_known (C := RX4) (T := TX4) (N := 8) (n := 8) hts (fun w hw => (kW4 w hw).1) (hts (.instantiable RX4 8) (mem2 (i := 137) (by decide +kernel)))
  obtain ⟨c5, i5, k5⟩ := u_known (C := RX5) (T := TX5) (N := 3) (n := 3) hts (fun w hw => (kW5 w hw).1) (hts (.instantiable RX5 3) (mem2 (i := 121) (by decide +kernel)))
  obtain ⟨c6, i6, k6⟩ := u_known (C := RX6) (T := TX6) (N := 9) (n := 9) hts (fun w hw => (kW6 w hw).1) (hts (.instantiable RX6 9) (mem2 (i := 75) (by decide +kernel)))
  obtain ⟨c7, i7, k7⟩ := u_known (C := RX7) (T := TX7) (N := 14) (n := 14) hts (fun w hw => (kW7 w hw).1) (hts (.instantiable RX7 14) (mem2 (i := 885) (by decide +kernel)))
  obtain ⟨dC, dI, hKc⟩ : ∃ (dC : Nat → ClassId) (dI : Nat → Nat → Nat), ∀ (k : Nat) (q : vw_C), CL[k]? = some q → u_Kn s q.1 q.2.1 q.2.2 (dC k) (dI k) := by
    refine ⟨fun k => if k = 0 then c0 else if k = 1 then c1 else if k = 2 then c2 else if k = 3 then c3 else if k = 4 then c4 else if k = 5 then c5 else if k = 6 then c6 else c7, fun k => if k = 0 then i0 else if k = 1 then i1 else if k = 2 then i2 else if k = 3 then i3 else if k = 4 then i4 else if k = 5 then i5 else if k = 6 then i6 else i7, ?_⟩
    intro k q hq
    match k, hq with
    | 0, hq => cases hq; exact k0
    | 1, hq => cases hq; exact k1
    | 2, hq => cases hq; exact k2
    | 3, hq => cases hq; exact k3
    | 4, hq => cases hq; exact k4
    | 5, hq => cases hq; exact k5
    | 6, hq => cases hq; exact k6
    | 7, hq => cases hq; exact k7
    | k + 8, hq => simp [CL] at hq
  obtain ⟨cI, aI, rI⟩ := q_arr (hts (.arrayClass .int) (mem2 (i := 96) (by decide +kernel))) (Or.inl rfl)
  obtain ⟨cJ, aJ, rJ⟩ := q_arr (hts (.arrayClass .long) (mem2 (i := 1498) (by decide +kernel))) (Or.inr rfl)
  have hK : va_K (dC, dI) CL (q_ty (cI, cJ)) s := ⟨hKc, fun k q h => by
    match k, h with
    | 0, h => cases h; exact ⟨aI, rI⟩
    | 1, h => cases h; exact ⟨aJ, rJ⟩
    | k + 2, h => simp [q_ty] at h⟩
  obtain ⟨tX, eX, TX⟩ := va_Tof (A := fun q : Nat => s.heap.size ≤ q) (N := 6) (f := fun j => .int (sX j)) (by decide) (hs _ q_faX) (va_eqt (hs _ q_flX)) (fun j hj => va_eqt (hs _ (q_feX j hj))) hAn
  obtain ⟨tY, eY, TY⟩ := va_Tof (A := fun q : Nat => s.heap.size ≤ q) (N := 6) (f := fun j => .int (sY j)) (by decide) (hs _ q_faY) (va_eqt (hs _ q_flY)) (fun j hj => va_eqt (hs _ (q_feY j hj))) hAn
  obtain ⟨tZ, eZ, TZ⟩ := va_Tof (A := fun q : Nat => s.heap.size ≤ q) (N := 6) (f := fun j => .int (sZ j)) (by decide) (hs _ q_faZ) (va_eqt (hs _ q_flZ)) (fun j hj => va_eqt (hs _ (q_feZ j hj))) hAn
  have hST : q_ST (tX, tY, tZ) (fun q : Nat => s.heap.size ≤ q) s s.heap := ⟨
    vx_Zqof (hts (.laysStatic Bundle.tN "UNASSIGNED_STACK" Bundle.steD) (mem2 (i := 452) (by decide +kernel))) (hts (.initialized Bundle.tN) (mem2 (i := 55) (by decide +kernel))) (hs _ q_fU) hAn,
    vx_Zqof (hts (.laysStatic Bundle.tN "SUPPRESSED_SENTINEL" Bundle.listD) (mem2 (i := 454) (by decide +kernel))) (hts (.initialized Bundle.tN) (mem2 (i := 55) (by decide +kernel))) (hs _ q_fN) hAn,
    va_Zref (hts (.laysStatic "CobbleWorld" "STEP_X" "[I") (mem2 (i := 271) (by decide +kernel))) (hts (.initialized "CobbleWorld") (mem2 (i := 47) (by decide +kernel))) eX hAn, TX,
    va_Zref (hts (.laysStatic "CobbleWorld" "STEP_Y" "[I") (mem2 (i := 273) (by decide +kernel))) (hts (.initialized "CobbleWorld") (mem2 (i := 47) (by decide +kernel))) eY hAn, TY,
    va_Zref (hts (.laysStatic "CobbleWorld" "STEP_Z" "[I") (mem2 (i := 275) (by decide +kernel))) (hts (.initialized "CobbleWorld") (mem2 (i := 47) (by decide +kernel))) eZ hAn, TZ,
    fun w hw => va_Nw.of (by have := (List.mem_filter.mp hw).2; cases w <;> first | rfl | (simp [isNest] at this)) (hts w (q_nwm w hw)),
    fun w hw => va_Nw.of (by have := (List.mem_filter.mp hw).2; simp only [Bool.and_eq_true] at this; exact this.1) (hts w (List.mem_filter.mp hw).1),
    fun q hq => by
      obtain ⟨a, _, _, _, q1, -⟩ := Cond.exactly_spec (hs _ (q_fS q hq).1)
      exact ⟨a, vk_R.of (hts _ (q_fS q hq).2) q1⟩,
    hts (.arrayOver (.array .int)) (mem2 (i := 891) (by decide +kernel))⟩
  have hNC : q_NC s := fun q hq => va_Nc.of (hs _ (q_fC q hq))
  have hst : l.stackTraces = false := by unfold Launch.stackTraces; rw [hflags]; decide
  have hl := lv_entry ([.ref b]) (n := 9) (Nat.le_of_ble_eq_true rfl)
  rw [lg_entry_eq]
  exact c_law (γ := (l, (dC, dI), (cI, cJ), (tX, tY, tZ))) (g := ((l, (dC, dI), (cI, cJ), (tX, tY, tZ)), p, e, room_1, s, m, #[Value.ref b], below, meth, c, lw_Z below #[Value.ref b] s, (fun q : Nat => s.heap.size ≤ q), 9)) (b := b) (L := L) (xs := xs) ⟨rfl, hx, hb, hml, hown, fun w hw => hts w (List.mem_filter.mp hw).1, hK, fun _ h => h, hlocks, hST, hst, rfl, rfl⟩ hNC ⟨hX, hbl, Nat.not_le.mpr hbl⟩ ⟨rfl, rfl, hr, rfl⟩ h s.heap [] _ hl (fun k q h => by simp at h) ⟨fun i j p q h => by simp at h, fun k q h => by simp at h⟩ va_S.rf
