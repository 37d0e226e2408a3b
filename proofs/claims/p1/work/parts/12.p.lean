/-! int[12][4]: the outer row a cell, the inner ones a pool -/
def q_pool (cI : ClassId) (r : Nat → Nat) (F : Nat → Nat → Int32) : va_W := (List.range 12).map (fun i => (r i, .inl (cI, 4, .inl (F i))))
def q_pset (F : Nat → Nat → Int32) (t u : Nat) (x : Int32) : Nat → Nat → Int32 := fun i => if i = t then upd (F t) u x else F i
def q_outer (r : Nat → Nat) (N : Nat) : vp_A := (N, .inr (.inr (.inr (.inr (fun i => if i < N then some (r i) else none)))))
def q_K2 (g : q_T) (cO : ClassId) : Prop := match g with
  | ((_, D, cI, _), _, _, _, s, _, _, _, _, _, _, _, _) => va_K D CL (q_ty cI ++ [(cO, .array .int)]) s
theorem q_pool_at {cI : ClassId} {r : Nat → Nat} {F : Nat → Nat → Int32} (pre : va_W) {j : Nat} (hj : j < 12) : (pre ++ q_pool cI r F)[pre.length + j]? = some (r j, .inl (cI, 4, .inl (F j))) := by
  rw [List.getElem?_append_right (Nat.le_add_right _ _), Nat.add_sub_cancel_left]
  unfold q_pool
  rw [List.getElem?_map, List.getElem?_range hj]
  rfl
theorem q_pool_set {cI : ClassId} {r : Nat → Nat} {F : Nat → Nat → Int32} (pre : va_W) {t u : Nat} {x : Int32} (ht : t < 12) : (pre ++ q_pool cI r F).set (pre.length + t) (r t, .inl (cI, 4, .inl (upd (F t) u x))) = pre ++ q_pool cI r (q_pset F t u x) := by
  rw [List.set_append_right _ _ (Nat.le_add_right _ _), Nat.add_sub_cancel_left]
  congr 1
  unfold q_pool
  apply List.ext_getElem?
  intro i
  rw [List.getElem?_set]
  by_cases h : t = i
  · subst h
    simp [ht, q_pset]
  · rw [if_neg h]
    rw [List.getElem?_map, List.getElem?_map]
    by_cases hi : i < 12
    · rw [List.getElem?_range hi]
      simp [q_pset, Ne.symm h]
    · rw [List.getElem?_eq_none (by simp; omega)]
      rfl
def q_mna (own : String) (idx : Nat) : Prop := Cond.classLink own idx "[[I" ∈ GW ∧ Cond.arrayClass .int ∈ GW
section
variable {γ : q_G} {g : q_T} {own : String} {cc : ByteArray} {rm rmy : Room} {nL nLy np : Nat} {pc idx : Nat} {lv lv' : List (Nat × Value)} {st st' rest As : List Value} {w w' wc wr : va_W} {k n k' n' b : Nat}
theorem v_mna (C : q_C γ g own cc rm nL) (L : q_mna own idx) {z y : Int32} {N K : Nat} (hz : ¬ z < 0) (hy : ¬ y < 0) (hN : z.toNatClampNeg = N) (hM : y.toNatClampNeg = K) (hb1 : N * 4 ≤ 536870912) (hb2 : K * 4 ≤ 536870912) (hb3 : K ≤ 536870912) (hk : k + (1 + N) ≤ rm.cells) (hn : n + (N + N * K) ≤ rm.slots) (hd : decode cc pc = .ok (.multianewarray idx 2, 4))
    (kk : ∀ (q : Nat) (r : Nat → Nat) (cO : ClassId), q_K2 g cO → V g (pc + 4) lv (.ref q :: rest) ((w ++ [(q, .inl (cO, q_outer r N))]) ++ (List.range N).map (fun i => (r i, .inl (γ.2.2.1.1, K, .inl (fun _ => 0))))) (k + 1 + N) (n + N + N * K)) : V g pc lv (.int y :: .int z :: rest) w k n := by
  obtain ⟨⟨l, D, cI, tt⟩, p, e, R, s, m, args, below, meth, c, Q, A, nL0⟩ := g
  obtain ⟨hγ, hx, hb, hml, hown, hts, hK, hA, hlocks, hST, hst, hR, hnl⟩ := C
  subst hγ; subst hR; subst hnl
  intro H locs ls hl hP hD hS
  have e0 : w ++ va_pl [] (fun _ => (.inr (0, []) : va_E)) = w := List.append_nil w
  refine va_mna (X := w) (L := []) (f := fun _ => (.inr (0, []) : va_E)) (ty := .int) (cy := cI.1) (z := (K, .inl (fun _ => 0))) hx hb hown (hts _ L.1) hST.2.2.2.2.2.2.2.2.2.2.2 (hts _ L.2) (hK.2 0 _ rfl).2 hK (by rw [e0]; exact hP) (by rw [e0]; exact hD) hS hA hz hy hN hM hb1 hb2 hb3 rfl rfl hk hn (fun c => by
    show ({ cls := c, slots := Array.replicate K (.int 0), vm := .none } : Cell) = _
    rw [arrV_new]
    rfl) hd (fun q r cA H1 hinj hnot hK1 hP1 hD1 hS1 => ?_)
  have e1 : va_pl ([] ++ (List.range N).map r) (vr_up (fun _ => (.inr (0, []) : va_E)) ((List.range N).map r) (.inl (cI.1, (K, .inl (fun _ => 0))))) = (List.range N).map (fun i => (r i, (.inl (cI.1, K, .inl (fun _ => 0)) : va_E))) := by
    rw [List.nil_append]
    unfold va_pl
    rw [List.map_map]
    apply List.map_congr_left
    intro i hi
    simp only [Function.comp]
    rw [vr_up_in (List.mem_map_of_mem hi)]
  rw [e1] at hP1 hD1
  exact kk q r cA hK1 H1 locs ls hl hP1 hD1 hS1
theorem v_mnaD (C : q_C γ g own cc rm nL) (L : q_mna own idx) {z y : Int32} {N K : Nat} (hz : ¬ z < 0) (hy : ¬ y < 0) (hN : z.toNatClampNeg = N) (hM : y.toNatClampNeg = K) (hb1 : N * 4 ≤ 536870912) (hb2 : K * 4 ≤ 536870912) (hb3 : K ≤ 536870912) (hk : k + (1 + N) ≤ rm.cells) (hn : n + (N + N * K) ≤ rm.slots) (hd : decode cc pc = .ok (.multianewarray idx 2, 4))
    (kk : ∀ q : Nat, V g (pc + 4) lv (.ref q :: rest) w (k + 1 + N) (n + N + N * K)) : V g pc lv (.int y :: .int z :: rest) w k n := by
  refine v_mna C L hz hy hN hM hb1 hb2 hb3 hk hn hd (fun q r cO _ => ?_)
  obtain ⟨⟨l, D, cI, tt⟩, p, e, R, s, m, args, below, meth, c, Q, A, nL0⟩ := g
  intro H locs ls hl hP hD hS
  have hpre : ∀ (i : Nat) (x : Nat × va_E), w[i]? = some x → ((w ++ [(q, (.inl (cO, q_outer r N) : va_E))]) ++ (List.range N).map (fun i => (r i, (.inl (γ.2.2.1.1, K, .inl (fun _ => 0)) : va_E))))[i]? = some x := by
    intro i x h
    have hi := (List.getElem?_eq_some_iff.mp h).1
    rw [List.append_assoc, List.getElem?_append_left hi]
    exact h
  exact kk q H locs ls hl (fun i x h => hP i x (hpre i x h)) ⟨fun i j x y h1 h2 h3 => hD.1 i j x y (hpre i x h1) (hpre j y h2) h3, fun i x h => hD.2 i x (hpre i x h)⟩ hS
theorem v_aald (C : q_C γ g own cc rm nL) {cO : ClassId} (K2 : q_K2 g cO) (q0 : Nat) {a N : Nat} {r : Nat → Nat} {i : Int32} (ha : w[q0]? = some (a, .inl (cO, q_outer r N))) (hin : vp_in i N) (hN : N < 2 ^ 31) (hd : decode cc pc = .ok (.aaload, 1)) (kk : V g (pc + 1) lv (.ref (r i.toNatClampNeg) :: rest) w k n) : V g pc lv (.int i :: .ref a :: rest) w k n := by
  obtain ⟨⟨l, D, cI, tt⟩, p, e, R, s, m, args, below, meth, c, Q, A, nL0⟩ := g
  obtain ⟨hγ, hx, hb, hml, hown, hts, hK, hA, hlocks, hST, hst, hR, hnl⟩ := C
  intro H locs ls hl hP hD hS
  have hlt : i.toNatClampNeg < N := by
    obtain ⟨j, hj, rfl⟩ := vp_in_of hin hN
    rw [nI_clamp (by omega)]
    exact hj
  refine W.aald (v := va_rf (if i.toNatClampNeg < N then some (r i.toNatClampNeg) else none)) (ty := .array .int) hx hb (hP q0 _ ha) ((K2.2 2 _ rfl).1 N (fun j => va_rf (if j < N then some (r j) else none))) rfl (fun q => by cases q) (by show ¬ (i < 0 ∨ (arrV _ _ _).slots.size ≤ _); rw [arrV_size]; exact hin) (by show (arrV cO N (fun j => va_rf (if j < N then some (r j) else none))).slots[_]? = _; rw [arrV_read _ _ hlt]) rfl rfl hd ?_
  rw [if_pos hlt]
  exact kk H locs ls hl hP hD hS
theorem v_ialdP (C : q_C γ g own cc rm nL) (pre : va_W) {r : Nat → Nat} {F : Nat → Nat → Int32} {t : Nat} {i : Int32} (hw : w = pre ++ q_pool γ.2.2.1.1 r F) (ht : t < 12) (hin : vp_in i 4) (hd : decode cc pc = .ok (.iaload, 1)) (kk : V g (pc + 1) lv (.int (F t i.toNatClampNeg) :: rest) w k n) : V g pc lv (.int i :: .ref (r t) :: rest) w k n := by
  subst hw
  exact v_iald C (pre.length + t) (q_pool_at pre ht) hin hd kk
theorem v_iastP (C : q_C γ g own cc rm nL) (pre : va_W) {r : Nat → Nat} {F : Nat → Nat → Int32} {t : Nat} {i x : Int32} (hw : w = pre ++ q_pool γ.2.2.1.1 r F) (ht : t < 12) (hin : vp_in i 4) (hd : decode cc pc = .ok (.iastore, 1)) (kk : V g (pc + 1) lv rest (pre ++ q_pool γ.2.2.1.1 r (q_pset F t i.toNatClampNeg x)) k n) : V g pc lv (.int x :: .int i :: .ref (r t) :: rest) w k n := by
  subst hw
  exact v_iast C (pre.length + t) (q_pool_at pre ht) hin (q_pool_set pre ht) hd kk
end
theorem lkM : q_mna RX7 28 := ⟨mw (i := 890) (by decide +kernel) (by decide +kernel), lkA⟩
