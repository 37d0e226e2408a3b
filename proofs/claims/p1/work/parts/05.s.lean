section
variable {γ : q_G} {g : q_T} {own : String} {cc : ByteArray} {rm : Room} {nL : Nat} {pc : Nat} {lv lv' : List (Nat × Value)} {st st' : List Value} {w w' : va_W} {k n k' n' : Nat}
theorem q_lk_idx {lv : List (Nat × Value)} {i : Nat} {v : Value} (hl : q_lk lv i = some v) : ∃ k0 : Nat, lv[k0]? = some (i, v) := by
  unfold q_lk at hl
  cases hf : lv.find? (fun q => q.1 == i) with
  | none => rw [hf] at hl; cases hl
  | some q =>
    rw [hf] at hl
    have h1 := List.find?_some hf
    have h2 := List.mem_of_find?_eq_some hf
    obtain ⟨k0, hk0⟩ := List.getElem?_of_mem h2
    have h3 : q.1 = i := by simpa using h1
    have h4 : q.2 = v := Option.some.inj hl
    refine ⟨k0, ?_⟩
    rw [hk0, ← h3, ← h4]
set_option maxHeartbeats 4000000 in
theorem v_s1 (C : q_C γ g own cc rm nL) {i : Instr} {len : Nat} {h : Int32} {t : Nat} (hd : decode cc pc = .ok (i, len)) (hh : q_hint pc i h t = true) (hn : len = q_len i) (hs : q_s1 nL i h lv st = some (lv', st')) (kk : V g (q_nx pc i len t) lv' st' w k n) : V g pc lv st w k n := by
  obtain ⟨⟨l, D, cI, tt⟩, p, e, R, s, m, args, below, meth, c, Q, A, nL0⟩ := g
  obtain ⟨hγ, hx, hb, hml, hown, hts, hK, hA, hlocks, hST, hst, hR, hnl⟩ := C
  subst hnl
  subst hn
  intro H locs ls hl hP hD hS
  have go : ∀ (pc' : Nat) (ls' : Array Slot), q_nx pc i (q_len i) t = pc' → lv_has ls' nL0 lv' → W p l e R s m args below meth c H locs k n Q (F0 m pc' ls' st') := fun pc' ls' hpc hl' => by
    subst hpc
    exact kk H locs ls' hl' hP hD hS
  unfold q_s1 at hs
  split at hs
  · split at hs
    · rename_i x hq
      cases hs
      exact lv_iload_n hx hb hd rfl (q_lk_has hl hq) (go _ _ rfl hl)
    · cases hs
  · split at hs
    · rename_i x hq
      cases hs
      exact lv_iload hx hb hd (q_lk_has hl hq) (go _ _ rfl hl)
    · cases hs
  · split at hs
    · rename_i x hq
      cases hs
      exact lv_lload_n hx hb hd rfl (q_lk_has hl hq) (go _ _ rfl hl)
    · cases hs
  · split at hs
    · rename_i x hq
      cases hs
      exact lv_aload_n hx hb hd rfl (q_lk_has hl hq) (go _ _ rfl hl)
    · cases hs
  · split at hs
    · rename_i x hq
      cases hs
      exact lv_aload hx hb hd (q_lk_has hl hq) (go _ _ rfl hl)
    · cases hs
  · split at hs
    · split at hs
      · rename_i hlt
        cases hs
        exact lv_istore_n hx hb hd rfl hl hlt rfl (fun ls' hl' => go _ _ rfl hl')
      · cases hs
    · cases hs
  · split at hs
    · split at hs
      · rename_i hlt
        cases hs
        exact lv_istore hx hb hd hl hlt rfl (fun ls' hl' => go _ _ rfl hl')
      · cases hs
    · cases hs
  · split at hs
    · split at hs
      · rename_i hlt
        cases hs
        exact lv_astore_n hx hb hd rfl hl hlt rfl (fun ls' hl' => go _ _ rfl hl')
      · cases hs
    · cases hs
  · split at hs
    · split at hs
      · rename_i hlt
        cases hs
        exact lv_astore hx hb hd hl hlt rfl (fun ls' hl' => go _ _ rfl hl')
      · cases hs
    · cases hs
  · split at hs
    · split at hs
      · rename_i hlt
        cases hs
        exact lv_lstore_n hx hb hd rfl hl hlt rfl (fun ls' hl' => go _ _ rfl hl')
      · cases hs
    · cases hs
  · cases hs
    exact lv_iconst hx hb hd (of_decide_eq_true hh) (go _ _ rfl hl)
  · cases hs
    exact lv_bipush hx hb hd (of_decide_eq_true hh) (go _ _ rfl hl)
  · cases hs
    exact lv_sipush hx hb hd (of_decide_eq_true hh) (go _ _ rfl hl)
  · split at hs
    · rename_i x hq
      split at hs
      · rename_i hlt
        cases hs
        obtain ⟨k0, hk0⟩ := q_lk_idx hq
        have hi : Int32.ofInt _ = h := of_decide_eq_true hh
        exact lv_iinc hx hb hd hl hk0 (by rw [hi]) hlt rfl (fun ls' hl' => go _ _ rfl hl')
      · cases hs
    · cases hs
  · split at hs
    · cases hs; exact lv_iadd hx hb hd (go _ _ rfl hl)
    · cases hs
  · split at hs
    · cases hs; exact lv_isub hx hb hd (go _ _ rfl hl)
    · cases hs
  · split at hs
    · cases hs; exact lv_imul hx hb hd (go _ _ rfl hl)
    · cases hs
  · split at hs
    · cases hs; exact lv_iand hx hb hd (go _ _ rfl hl)
    · cases hs
  · split at hs
    · cases hs; exact lv_ior hx hb hd (go _ _ rfl hl)
    · cases hs
  · split at hs
    · cases hs; exact lv_ixor hx hb hd (go _ _ rfl hl)
    · cases hs
  · split at hs
    · cases hs; exact lv_ishl hx hb hd (go _ _ rfl hl)
    · cases hs
  · split at hs
    · cases hs; exact lv_ishr hx hb hd (go _ _ rfl hl)
    · cases hs
  · split at hs
    · cases hs; exact lv_i2l hx hb hd rfl (go _ _ rfl hl)
    · cases hs
  · split at hs
    · cases hs; exact lv_ladd hx hb hd (go _ _ rfl hl)
    · cases hs
  · split at hs
    · cases hs; exact lv_lmul hx hb hd (go _ _ rfl hl)
    · cases hs
  · split at hs
    · cases hs; exact lv_i2d hx hb hd (go _ _ rfl hl)
    · cases hs
  · split at hs
    · cases hs; exact lv_dup hx hb hd rfl (go _ _ rfl hl)
    · cases hs; exact lv_dup hx hb hd rfl (go _ _ rfl hl)
    · cases hs
  · split at hs
    · cases hs; exact lv_dup2_11 hx hb hd rfl rfl (go _ _ rfl hl)
    · cases hs; exact lv_dup2_11 hx hb hd rfl rfl (go _ _ rfl hl)
    · cases hs
  · split at hs
    · cases hs; exact lv_pop hx hb hd rfl (go _ _ rfl hl)
    · cases hs; exact lv_pop hx hb hd rfl (go _ _ rfl hl)
    · cases hs
  · cases hs
    exact lv_goto hx hb hd (of_decide_eq_true hh) (go _ _ rfl hl)
  · cases hs
/-- a row of plain instructions at once -/
theorem v_run (C : q_C γ g own cc rm nL) : ∀ (is : List q_I) {pc : Nat} {lv : List (Nat × Value)} {st : List Value} {pc' : Nat} {lv' : List (Nat × Value)} {st' : List Value}, q_dec cc pc is = true → q_sx nL pc is lv st = some (pc', lv', st') → V g pc' lv' st' w k n → V g pc lv st w k n
  | [], pc, lv, st, pc', lv', st', _, hs, kk => by cases hs; exact kk
  | (i, len, h, t) :: r, pc, lv, st, pc', lv', st', hd, hs, kk => by
    simp only [q_dec, Bool.and_eq_true, decide_eq_true_eq] at hd
    obtain ⟨h1, h2, h3, h4⟩ := hd
    simp only [q_sx] at hs
    split at hs
    · rename_i lv1 st1 he
      exact v_s1 C h1 h2 h3 he (v_run C r h4 hs kk)
    · cases hs
end
