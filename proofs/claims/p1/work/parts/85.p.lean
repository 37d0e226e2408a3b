/-! digest: both sides fold the same numbers -/
def fF (x : Int64) (v : Int32) : Int64 := x * 31 + Int32.toInt64 v
def itI (g : Int64 → Int64) : Nat → Int64 → Int64
  | 0, x => x
  | n + 1, x => g (itI g n x)
def dR (x : Int64) : Int64 := fF (fF (fF (fF x 1) 0) 0) (nI 192)
def dS (x : Int64) : Nat → Int64
  | 0 => fF x 1
  | 1 => fF (fF x 1) 0
  | 2 => fF (fF (fF x 1) 0) 0
  | _ => dR x
def dC (x : Int64) : Nat → Int64
  | 0 => x
  | t + 1 => fF (dC x t) (nI (cnt (fun _ => (0 : Int32) = nI t) 3072))
def dF (x : Int64) : Int64 := fF (fF (fF (fF x 0) 0) 0) 0
def dD (x : Int64) : Int64 := fF x 0
def dT (x : Int64) : Int64 := fF x (-1)
theorem cpyL {g : Nat → Int32} : lit (va_cpy (fun _ => (0 : Int32)) g (Int32.toNatClampNeg 0) (Int32.toNatClampNeg 0) (Int32.toNatClampNeg 3072)) 0 := by
  intro i hi
  have e0 : (0 : Int32).toNatClampNeg = 0 := by decide
  have e1 : (3072 : Int32).toNatClampNeg = 3072 := by decide
  rw [e0, e1]
  exact pk_cpy_in (by omega) (by omega)
theorem s_foldRuns {x : Int64} {l r : Nat → Int32} {s : Int32} {Q : Int64 → (Nat → Int32) → (Nat → Int32) → Int32 → Prop} (h : ∀ l r s, Q (itI dR 16 x) l r s) : w_X6_foldRuns x (fun _ => 0) l r s Q := by
  unfold w_X6_foldRuns
  refine q_for 16 (fun t a => ∃ (l r : Nat → Int32) (s : Int32), a = (itI dR t x, nI t, l, r, s)) _ ⟨_, _, _, rfl⟩ ?_ ?_
  · rintro rec t a ht ⟨l, r, s, rfl⟩ hrec
    refine bb_r (nI_ge ht (by decide)) (s_read ht (fun l r hr hl => ?_))
    have go : rec (dR (itI dR t x), nI t + 1, l, r, 1) := hrec _ ⟨l, r, 1, by rw [nI_1]; rfl⟩
    show ∃ n : Nat, q_loop _ n (fF (itI dR t x) 1, nI t, 0, l, r, 1)
    refine q_up 1 (fun j => (if j = 0 then fF (itI dR t x) 1 else dR (itI dR t x), nI t, nI j, l, r, (1 : Int32))) _ rfl (fun rec2 j hj hrec2 => ?_) (fun rec2 => bb_l (fun q => q (show (1 : Int32) ≤ nI 1 by decide)) go)
    have hj0 : j = 0 := by omega
    subst hj0
    refine bb_r (show ¬ (1 : Int32) ≤ nI 0 by decide) ?_
    refine q_up 3 (fun w => (dS (itI dR t x) w, nI t, nI 0, nI w, l, r, (1 : Int32))) _ rfl (fun rec3 w hw hrec3 => ?_) (fun rec3 => ?_)
    · refine bb_r (nI_ge hw (by decide)) ?_
      have e9 : (nI 0).toNatClampNeg = 0 := by decide
      have go3 : rec3 (dS (itI dR t x) (w + 1), nI t, nI 0, nI w + 1, l, r, 1) := by rw [nI_1]; exact hrec3
      show w_X5_number (nI 0) (nI w) l r 1 (fun r1 => w_X6_fold (dS (itI dR t x) w) (Int32.toInt64 r1) _)
      unfold w_X5_number w_X6_kindOf w_X6_levelOf
      rw [e9, hr, hl]
      refine bb_r (by decide) (bb_l (by decide) ⟨fun q => ⟨by unfold vp_in; decide, ?_⟩, fun q => ⟨by unfold vp_in; decide, ?_⟩, fun q q2 => ⟨by unfold vp_in; decide, ?_⟩⟩)
      · have e := (nI_eq (b := 0) (by omega) (by omega)).mp q
        subst e
        exact go3
      · have e := (nI_eq (b := 1) (by omega) (by omega)).mp q
        subst e
        exact go3
      · have e : w = 2 := by
          have h0 : w ≠ 0 := fun e => q (by rw [e]; rfl)
          have h1 : w ≠ 1 := fun e => q2 (by rw [e]; rfl)
          omega
        subst e
        exact go3
    · refine bb_l (fun q => q (nI_le (Nat.le_refl 3) (by decide))) ?_
      show rec2 (dR (itI dR t x), nI t, nI 0 + 1, l, r, 1)
      exact hrec2
  · rintro rec a ⟨l, r, s, rfl⟩
    exact bb_l (fun q => q (nI_le (Nat.le_refl 16) (by decide))) (h l r s)
theorem s_topN {c : Nat} (hc : c < 16) {Q : Int32 → Prop} (h : Q (-1)) : w_X6_topN (nI c) (nI c) 0 (fun _ => 0) Q := by
  have m1 : ∀ n : Nat, n < 12 → nI (12 - n) + (-1) = nI (11 - n) := fun n h => of1 (by omega)
  unfold w_X6_topN w_X6_requireCellN
  refine s_isInWorld (fun _ => bb_l (by decide) ?_) (fun q => absurd (show inW (nI c) (nI 0) (nI c) from inW_nI hc (by omega) hc) q)
  show w_X2_isAway (nI c / 4 * 4 + nI c / 4) 0 _
  refine s_isAway0 (bb_l (by decide) ?_)
  refine q_up 12 (fun j => nI (12 - j) + (-1)) _ (by decide) (fun rec j hj hr => ?_) (fun rec => bb_l (by decide) h)
  show w_X6_topN_L26 _ _ _ _ _ _ _ (nI (12 - j) + (-1))
  rw [m1 j hj]
  refine bb_r (nI_pos (by omega)) (s_stateAtN hc (by omega) hc (bb_r (by decide) ?_))
  have e : 12 - (j + 1) = 11 - j := by omega
  rw [e] at hr
  exact hr
theorem s_topNow {c : Nat} (hc : c < 16) {Q : Int32 → Prop} (h : Q (-1)) : w_X7_topNow (nI c) (nI c) 0 (fun _ => 0) Q := by
  have m1 : ∀ n : Nat, n < 12 → nI (12 - n) + (-1) = nI (11 - n) := fun n h => of1 (by omega)
  unfold w_X7_topNow
  refine q_up 12 (fun j => nI (12 - j) + (-1)) _ (by decide) (fun rec j hj hr => ?_) (fun rec => bb_l (by decide) h)
  show w_X7_topNow_L3 _ _ _ _ _ _ _ (nI (12 - j) + (-1))
  rw [m1 j hj]
  refine bb_r (nI_pos (by omega)) ?_
  show w_X7_kindAt ((nI (11 - j) * 256) + (nI c * 16) + nI c) _ _ _
  rw [ix_M]
  refine s_kindAt (ix_lt hc (by omega) hc) (bb_r (by decide) ?_)
  have e : 12 - (j + 1) = 11 - j := by omega
  rw [e] at hr
  exact hr
theorem s_waterInN {n g : Nat → Int32} {aw : Int32} {Q : Int32 → (Nat → Int32) → Int32 → (Nat → Int32) → Prop} (h : ∀ n a g, Q (nI 0) n a g) : w_X6_waterInN 3 n 0 (fun _ => 0) aw g Q := by
  unfold w_X6_waterInN w_X6_requireTicksN w_X2_takeOver
  refine bb_r (by decide) (bb_l (by decide) ?_)
  refine q_for 3 (fun t a => a.1 = nI t ∧ a.2.2.1 = 0 ∧ lit a.2.2.2 0) _ ⟨rfl, rfl, cpyL⟩ ?_ ?_
  · rintro rec t ⟨v, m, a, s⟩ ht ⟨hv, ha, hs⟩ hrec
    have ev : v = nI t := hv
    have ea : a = 0 := ha
    subst ev; subst ea
    exact bb_r (nI_ge ht (by decide)) (s_pass1 hs (fun n' s' hs' => hrec _ ⟨nI_1 t, rfl, hs'⟩))
  · rintro rec ⟨v, m, a, s⟩ ⟨hv, ha, hs⟩
    have ev : v = nI 3 := hv
    have ea : a = 0 := ha
    subst ev; subst ea
    exact bb_l (fun q => q (nI_le (Nat.le_refl 3) (by decide))) (s_count6 hs (h _ _ _))
theorem s_ahead0 {T : Nat} (hT : T ≤ 12) (h1 : 1 ≤ T) {tk : Int32} {Q : Int32 → (Nat → Int32) → (Nat → Int32) → Int32 → Prop} (h : ∀ k l t, Q (nI 0) k l t) : w_X7_ahead (nI T) 0 0 (fun _ => 0) (fun _ => 0) tk Q := by
  have z : lit (fun _ => (0 : Int32)) 0 := fun _ _ => rfl
  unfold w_X7_ahead
  refine q_up 0 (fun _ => (tk, (-1 : Int32), (0 : Int32), 2, 6144, (fun _ => 0 : Nat → Int32), (fun _ => 0 : Nat → Int32), tk, (fun _ => 0 : Nat → Int32), (fun _ => 0 : Nat → Int32))) _ rfl (fun rec j hj _ => absurd hj (Nat.not_lt_zero _)) (fun rec => ?_)
  refine bb_r (show ¬ nI T + 1 ≤ nI 0 by rw [nI_1]; exact nI_ge (by omega) (by omega)) (bb_l (by decide) ?_)
  refine q_for T (fun t a => a.2.2.1 = nI t ∧ a.2.2.2.1 = 2 + t ∧ a.2.2.2.2.1 = 6144 + 3072 * t ∧ lit a.2.2.2.2.2.1 0 ∧ lit a.2.2.2.2.2.2.1 0) _ ⟨rfl, rfl, rfl, z, z⟩ ?_ ?_
  · rintro rec t ⟨v5, v6, v7, kc, nc, k, l, tk, f15, f4⟩ ht ⟨h7, hkc, hnc, hk, hl⟩ hrec
    have e7 : v7 = nI t := h7
    have ekc : kc = 2 + t := hkc
    have enc : nc = 6144 + 3072 * t := hnc
    subst e7; subst ekc; subst enc
    refine bb_r (nI_ge ht (by omega)) (bb_r (by decide) ⟨?_, s_pass7 hk hl (fun k' l' hk' hl' => hrec _ ⟨nI_1 t, rfl, ?_, hk', hl'⟩)⟩)
    · show 2 + t + 1 ≤ 15 ∧ 6144 + 3072 * t + 3072 ≤ 46080
      omega
    · show 6144 + 3072 * t + 3072 = 6144 + 3072 * (t + 1)
      omega
  · rintro rec ⟨v5, v6, v7, kc, nc, k, l, tk, f15, f4⟩ ⟨h7, hkc, hnc, hk, hl⟩
    have e7 : v7 = nI T := h7
    have ekc : kc = 2 + T := hkc
    have enc : nc = 6144 + 3072 * T := hnc
    subst e7; subst ekc; subst enc
    refine bb_l (fun q => q (nI_le (Nat.le_refl _) (by omega))) (bb_r (by decide) ⟨?_, s_countNow6 hk ⟨?_, h _ _ _⟩⟩)
    · show 2 + T + 0 ≤ 15 ∧ 6144 + 3072 * T + 0 ≤ 46080
      omega
    · show 2 + T ≤ 15 ∧ 6144 + 3072 * T ≤ 46080
      omega
/-- the digest of a fresh object -/
def dAll : Int64 := fF (itI dT 16 (itI dF 16 (itI dD 3 (dC (itI dR 16 (fF (fF 58054 0) 0)) 7)))) (nI 0)
