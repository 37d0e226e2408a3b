/-! the judgement V: a frame's place, its locals, its stack, the world's cells; what stands behind it is hidden -/
/-- the words of the tables that stay -/
def GW : List Cond := lw_tbl.filter goodWord
theorem mw {i : Nat} {w : Cond} (h : lw_tbl[i]? = some w) (hg : goodWord w = true) : w ∈ GW := List.mem_filter.mpr ⟨List.mem_of_getElem? h, hg⟩
def isNest : Cond → Bool
  | .methodLinkNest _ _ _ _ => true
  | .fieldLinkNest _ _ _ _ _ _ => true
  | _ => false
def NW : List Cond := tables_1.filter isNest
theorem mnw {i : Nat} {w : Cond} (h : tables_1[i]? = some w) (hg : isNest w = true) : w ∈ NW := List.mem_filter.mpr ⟨List.mem_of_getElem? h, hg⟩
theorem nest_warm {w : Cond} (hn : isNest w = true) {s U : State} (hW : s.WarmedH U.vm) (h : va_Nw w s) : va_Nw w U := by
  cases w <;> first | exact va_Nw.warmM hW h | exact va_Nw.warmF hW h | exact absurd hn (by simp [isNest])
/-- words that stay though goodWord doesn't know it -/
def FW : List Cond := lw_tbl.filter (fun w => w.onTables && w.keepsFace)
theorem mfw {i : Nat} {w : Cond} (h : lw_tbl[i]? = some w) (hg : (w.onTables && w.keepsFace) = true) : w ∈ FW := List.mem_filter.mpr ⟨List.mem_of_getElem? h, hg⟩
theorem face_warm {w : Cond} (ho : (w.onTables && w.keepsFace) = true) {s U : State} (hW : s.WarmedH U.vm) (h : va_Nw w s) : va_Nw w U := by
  simp only [Bool.and_eq_true] at ho
  exact va_tabs ho.1 (rfl : (s.setVm U.vm).vm = U.vm) (Cond.before_shiftedFace (args := #[]) (State.Shifted.of_warmed hW) _ ho.2 h)
def mem2 {i : Nat} {w : Cond} (h : lw_tbl[i]? = some w) : w ∈ lw_tbl := List.mem_of_getElem? h
abbrev q_G : Type := Launch × va_G × (ClassId × ClassId) × (Nat × Nat × Nat)
abbrev q_T : Type := q_G × Program × Env × Room × State × MethodId × Array Value × List Frame × Method × Code × (State → Prop) × (Nat → Prop) × Nat
abbrev q_ty (c : ClassId × ClassId) : List (ClassId × FieldType) := [(c.1, .int), (c.2, .long)]
def sX (j : Nat) : Int32 := if j = 0 then -1 else if j = 1 then 1 else 0
def sY (j : Nat) : Int32 := if j = 2 then -1 else if j = 3 then 1 else 0
def sZ (j : Nat) : Int32 := if j = 4 then -1 else if j = 5 then 1 else 0
def va_AOA (ty : FieldType) (U : State) : Prop := (Cond.arrayOver (.array ty)).before #[] U = true
theorem va_AOA.use {ty : FieldType} {A : Array Value} {U : State} (h : va_AOA ty U) : (Cond.arrayOver (.array ty)).before A U = true := h
theorem va_AOA.moved {ty : FieldType} {u U : State} (hvm : u.vm.Alike U.vm) (h : va_AOA ty u) : va_AOA ty U := by
  have h1 : (Cond.arrayOver (.array ty)).before #[] (u.setVm U.vm) = true := by rw [Cond.arrayOver_setVmC hvm]; exact h
  have h2 : (Cond.arrayOver (.array ty)).before #[] (u.setVm U.vm) = (Cond.arrayOver (.array ty)).before #[] U := rfl
  unfold va_AOA
  rw [← h2]
  exact h1
/-- what no method of ours writes: statics, and the links of nest mates -/
def q_ST (t : Nat × Nat × Nat) (A : Nat → Prop) (U : State) (H : Heap) : Prop :=
  vx_Zq Bundle.tN "UNASSIGNED_STACK" Bundle.steD A U H ∧ vx_Zq Bundle.tN "SUPPRESSED_SENTINEL" Bundle.listD A U H ∧
  va_Z "CobbleWorld" "STEP_X" "[I" (.ref t.1) A U H ∧ va_T .int t.1 6 (fun j => .int (sX j)) A U H ∧
  va_Z "CobbleWorld" "STEP_Y" "[I" (.ref t.2.1) A U H ∧ va_T .int t.2.1 6 (fun j => .int (sY j)) A U H ∧
  va_Z "CobbleWorld" "STEP_Z" "[I" (.ref t.2.2) A U H ∧ va_T .int t.2.2 6 (fun j => .int (sZ j)) A U H ∧
  (∀ w ∈ NW, va_Nw w U) ∧ (∀ w ∈ FW, va_Nw w U) ∧ (∀ q ∈ STR, ∃ sa : Nat, vk_R "CobbleWorld" q.1 q.2 sa U) ∧ va_AOA .int U
theorem q_ST.narrow {t : Nat × Nat × Nat} {A B : Nat → Prop} {U : State} {H : Heap} (h : q_ST t A U H) (hAB : ∀ q, B q → A q) : q_ST t B U H :=
  ⟨h.1.narrow hAB, h.2.1.narrow hAB, h.2.2.1.narrow hAB, h.2.2.2.1.narrow hAB, h.2.2.2.2.1.narrow hAB, h.2.2.2.2.2.1.narrow hAB, h.2.2.2.2.2.2.1.narrow hAB, h.2.2.2.2.2.2.2.1.narrow hAB, h.2.2.2.2.2.2.2.2⟩
theorem q_ST.kept {t : Nat × Nat × Nat} {A : Nat → Prop} {U : State} {H H1 : Heap} (h : q_ST t A U H) (hq : ∀ a : Nat, a < H.size → ¬ A a → H1[a]? = H[a]?) : q_ST t A U H1 :=
  ⟨h.1.kept hq, h.2.1.kept hq, h.2.2.1.kept hq, h.2.2.2.1.kept hq, h.2.2.2.2.1.kept hq, h.2.2.2.2.2.1.kept hq, h.2.2.2.2.2.2.1.kept hq, h.2.2.2.2.2.2.2.1.kept hq, h.2.2.2.2.2.2.2.2⟩
theorem q_ST.warm {t : Nat × Nat × Nat} {A : Nat → Prop} {u U : State} {H : Heap} (hW : u.WarmedH U.vm) (h : q_ST t A u H) : q_ST t A U H :=
  ⟨vx_Zq.moved hW.alike h.1, vx_Zq.moved hW.alike h.2.1, va_Z.moved hW.alike h.2.2.1, va_T.moved hW.alike h.2.2.2.1, va_Z.moved hW.alike h.2.2.2.2.1, va_T.moved hW.alike h.2.2.2.2.2.1, va_Z.moved hW.alike h.2.2.2.2.2.2.1, va_T.moved hW.alike h.2.2.2.2.2.2.2.1, fun w hw => nest_warm (List.mem_filter.mp hw).2 hW (h.2.2.2.2.2.2.2.2.1 w hw), fun w hw => face_warm (List.mem_filter.mp hw).2 hW (h.2.2.2.2.2.2.2.2.2.1 w hw), fun q hq => (h.2.2.2.2.2.2.2.2.2.2.1 q hq).elim fun sa hs => ⟨sa, vk_R.warm hW hs⟩, va_AOA.moved hW.alike h.2.2.2.2.2.2.2.2.2.2.2⟩
/-- a frame at pc, with these locals, this stack, this world, so much room used -/
def V (g : q_T) (pc : Nat) (lv : List (Nat × Value)) (st : List Value) (w : va_W) (k n : Nat) : Prop := match g with
  | ((l, D, _, _), p, e, R, s, m, args, below, meth, c, Q, A, nL) => ∀ (H : Heap) (locs : List Loc) (ls : Array Slot), lv_has ls nL lv → va_P D CL w H → va_D A w → va_S A s.heap H locs → W p l e R s m args below meth c H locs k n Q (F0 m pc ls st)
/-- what holds of the frame all along -/
def q_C (γ : q_G) (g : q_T) (own : String) (cc : ByteArray) (rm : Room) (nL : Nat) : Prop := g.1 = γ ∧ match g with
  | ((l, D, cI, t), p, _, R, s, m, args, _, meth, c, _, A, nL') => p.tables.exec = Jvm.exec ∧ c.code = cc ∧ c.maxLocals = nL ∧ s.vm.findClass own = some m.cls ∧ (∀ w ∈ GW, w.before args s = true) ∧ va_K D CL (q_ty cI) s ∧ (∀ q, s.heap.size ≤ q → A q) ∧ meth.locks = false ∧ q_ST t A s s.heap ∧ l.stackTraces = false ∧ R = rm ∧ nL' = nL
theorem fm_of {α β : Type} {f : α → Option β} : ∀ {l : List α} {w : List β}, l.map f = w.map some → l.filterMap f = w
  | [], [], _ => rfl
  | [], _ :: _, h => by simp at h
  | _ :: _, [], h => by simp at h
  | a :: l, b :: w, h => by
    simp only [List.map_cons, List.cons.injEq] at h
    rw [List.filterMap_cons, h.1, fm_of h.2]
section
variable {g : q_T} {own : String} {cc : ByteArray} {rm : Room} {nL : Nat} {pc : Nat} {lv lv' : List (Nat × Value)} {st st' : List Value} {w w' : va_W} {k n k' n' : Nat}
theorem v_widen (h1 : k ≤ k') (h2 : n ≤ n') (kk : V g pc lv st w k' n') : V g pc lv st w k n := by
  obtain ⟨⟨l, D, cI, t⟩, p, e, R, s, m, args, below, meth, c, Q, A, nL⟩ := g
  exact fun H locs ls hl hP hD hS => W.widen h1 h2 (kk H locs ls hl hP hD hS)
theorem v_lsub (ks : List Nat) (hl : lv_pick lv ks = lv') (kk : V g pc lv' st w k n) : V g pc lv st w k n := by
  obtain ⟨⟨l, D, cI, t⟩, p, e, R, s, m, args, below, meth, c, Q, A, nL⟩ := g
  exact fun H locs ls h hP hD hS => kk H locs ls (lv_sub h ks hl) hP hD hS
theorem v_wsub (ks : List Nat) (hn : va_nd ks = true) (hw : ks.map (fun i => w[i]?) = w'.map some) (kk : V g pc lv st w' k n) : V g pc lv st w k n := by
  obtain ⟨⟨l, D, cI, t⟩, p, e, R, s, m, args, below, meth, c, Q, A, nL⟩ := g
  exact fun H locs ls h hP hD hS => kk H locs ls h (hP.sub ks (fm_of hw)) (hD.sub ks hn hw) hS
end
section
/-- a row of instructions: each with its length, a number that it pushes or adds, its target -/
abbrev q_I : Type := Instr × Nat × Int32 × Nat
def q_hint (pc : Nat) (i : Instr) (h : Int32) (t : Nat) : Bool := match i with
  | .iconst n => decide (Int32.ofInt n = h)
  | .bipush n => decide ((Int8.ofInt n).toInt32 = h)
  | .sipush n => decide ((Int16.ofInt n).toInt32 = h)
  | .iinc _ n => decide (Int32.ofInt n = h)
  | .goto off => decide ((pc : Int) + off = (t : Int))
  | _ => true
def q_len (i : Instr) : Nat := match i with
  | .iload _ => 2
  | .istore _ => 2
  | .aload _ => 2
  | .astore _ => 2
  | .bipush _ => 2
  | .sipush _ => 3
  | .iinc _ _ => 3
  | .goto _ => 3
  | _ => 1
def q_nx (pc : Nat) (i : Instr) (len : Nat) (t : Nat) : Nat := match i with
  | .goto _ => t
  | _ => pc + len
def q_dec (cc : ByteArray) : Nat → List q_I → Bool
  | _, [] => true
  | pc, (i, len, h, t) :: r => decide (decode cc pc = .ok (i, len)) && (q_hint pc i h t && (decide (len = q_len i) && q_dec cc (q_nx pc i len t) r))
def q_lk (lv : List (Nat × Value)) (i : Nat) : Option Value := (lv.find? (fun q => q.1 == i)).map (·.2)
theorem q_lk_has {ls : Array Slot} {nL : Nat} {lv : List (Nat × Value)} (h : lv_has ls nL lv) {i : Nat} {v : Value} (hl : q_lk lv i = some v) : ls[i]? = some (.val v) := by
  unfold q_lk at hl
  cases hf : lv.find? (fun q => q.1 == i) with
  | none => rw [hf] at hl; cases hl
  | some q =>
    rw [hf] at hl
    have h1 := List.find?_some hf
    have h2 := List.mem_of_find?_eq_some hf
    have h3 : q.1 = i := by simpa using h1
    have h4 : q.2 = v := Option.some.inj hl
    rw [← h3, ← h4]
    exact h.2.2 q h2
def q_st1 (lv : List (Nat × Value)) (i : Nat) (v : Value) : List (Nat × Value) := (i, v) :: lv.filter (fun q => !(q.1 == i) && !(q.1 + 1 == i && q.2.category == 2))
def q_st2 (lv : List (Nat × Value)) (i : Nat) (v : Value) : List (Nat × Value) := (i, v) :: lv.filter (fun q => !(q.1 == i) && (!(q.1 == i + 1) && !(q.1 + 1 == i && q.2.category == 2)))
def q_s1 (nL : Nat) (i : Instr) (h : Int32) (lv : List (Nat × Value)) (st : List Value) : Option (List (Nat × Value) × List Value) := match i with
  | .iload_n k => match q_lk lv k with | some (.int x) => some (lv, .int x :: st) | _ => none
  | .iload k => match q_lk lv k with | some (.int x) => some (lv, .int x :: st) | _ => none
  | .lload_n k => match q_lk lv k with | some (.long x) => some (lv, .long x :: st) | _ => none
  | .aload_n k => match q_lk lv k with | some (.ref x) => some (lv, .ref x :: st) | _ => none
  | .aload k => match q_lk lv k with | some (.ref x) => some (lv, .ref x :: st) | _ => none
  | .istore_n k => match st with | .int x :: r => if (k : Nat) < nL then some (q_st1 lv k (.int x), r) else none | _ => none
  | .istore k => match st with | .int x :: r => if k < nL then some (q_st1 lv k (.int x), r) else none | _ => none
  | .astore_n k => match st with | .ref x :: r => if (k : Nat) < nL then some (q_st1 lv k (.ref x), r) else none | _ => none
  | .astore k => match st with | .ref x :: r => if k < nL then some (q_st1 lv k (.ref x), r) else none | _ => none
  | .lstore_n k => match st with | .long x :: r => if (k : Nat) + 1 < nL then some (q_st2 lv k (.long x), r) else none | _ => none
  | .iconst _ => some (lv, .int h :: st)
  | .bipush _ => some (lv, .int h :: st)
  | .sipush _ => some (lv, .int h :: st)
  | .iinc k _ => match q_lk lv k with | some (.int x) => if k < nL then some (q_st1 lv k (.int (x + h)), st) else none | _ => none
  | .iadd => match st with | .int y :: .int x :: r => some (lv, .int (x + y) :: r) | _ => none
  | .isub => match st with | .int y :: .int x :: r => some (lv, .int (x - y) :: r) | _ => none
  | .imul => match st with | .int y :: .int x :: r => some (lv, .int (x * y) :: r) | _ => none
  | .iand => match st with | .int y :: .int x :: r => some (lv, .int (x &&& y) :: r) | _ => none
  | .ior => match st with | .int y :: .int x :: r => some (lv, .int (x ||| y) :: r) | _ => none
  | .ixor => match st with | .int y :: .int x :: r => some (lv, .int (x ^^^ y) :: r) | _ => none
  | .ishl => match st with | .int y :: .int x :: r => some (lv, .int (x <<< (y &&& 31)) :: r) | _ => none
  | .ishr => match st with | .int y :: .int x :: r => some (lv, .int (x >>> (y &&& 31)) :: r) | _ => none
  | .i2l => match st with | .int x :: r => some (lv, .long x.toInt64 :: r) | _ => none
  | .ladd => match st with | .long y :: .long x :: r => some (lv, .long (x + y) :: r) | _ => none
  | .lmul => match st with | .long y :: .long x :: r => some (lv, .long (x * y) :: r) | _ => none
  | .i2d => match st with | .int x :: r => some (lv, .double (FP.i2d x) :: r) | _ => none
  | .dup => match st with | .int x :: r => some (lv, .int x :: .int x :: r) | .ref x :: r => some (lv, .ref x :: .ref x :: r) | _ => none
  | .dup2 => match st with | .int y :: .ref x :: r => some (lv, .int y :: .ref x :: .int y :: .ref x :: r) | .int y :: .int x :: r => some (lv, .int y :: .int x :: .int y :: .int x :: r) | _ => none
  | .pop => match st with | .int _ :: r => some (lv, r) | .ref _ :: r => some (lv, r) | _ => none
  | .goto _ => some (lv, st)
  | _ => none
def q_sx (nL : Nat) : Nat → List q_I → List (Nat × Value) → List Value → Option (Nat × List (Nat × Value) × List Value)
  | pc, [], lv, st => some (pc, lv, st)
  | pc, (i, len, h, t) :: r, lv, st => match q_s1 nL i h lv st with
    | some (lv', st') => q_sx nL (q_nx pc i len t) r lv' st'
    | none => none
end
