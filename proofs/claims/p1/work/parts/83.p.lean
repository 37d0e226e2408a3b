/-! a pass over AIR changes nothing -/
theorem s_state07 {x y z : Int32} {s : Nat → Int32} (hs : lit s 0) {Q : Int32 → Prop} (h0 : Q 0) (h7 : Q 7) : w_X2_stateAt x y z 0 s Q := by
  refine s_stateAt (fun a b c ha hb hc _ _ _ => ?_) (fun _ => h7)
  rw [hs _ (ix_lt ha hb hc)]
  exact h0
theorem nar0 : narrow .boolean (.int (0 : Int32)) = .int 0 := rfl
theorem s_dropSand {s : Nat → Int32} (hs : lit s 0) {Q : Int32 → (Nat → Int32) → Prop} (h : Q 0 s) : w_X1_dropSand 0 s Q := by
  unfold w_X1_dropSand
  refine q_up 2816 (fun t => ((0 : Int32), nI (256 + t), s)) _ rfl (fun rec t ht hrec => ?_) (fun rec => bb_l (fun q => q (nI_le (show 3072 ≤ 256 + 2816 by omega) (by decide))) ⟨nar0, h⟩)
  have e0 : s (256 + t) = 0 := hs _ (by omega)
  refine bb_r (nI_ge (show 256 + t < 3072 by omega) (by decide)) (s_stateOfCell (show 256 + t < 3072 by omega) (bb_l (fun q => absurd (e0.symm.trans q) (by decide)) ?_))
  show rec (0, nI (256 + t) + 1, s)
  rw [nI_1]
  exact hrec
theorem s_bearsWater0 {Q : Int32 → Prop} (h : Q 0) : w_X1_bearsWater 0 Q := by
  unfold w_X1_bearsWater w_X6_isFirm w_X6_isFirm_B14 w_X6_isFirm_B15
  exact bb_l (by decide) ⟨rfl, bb_r (by decide) (bb_r (by decide) (bb_l (by decide) ⟨rfl, h⟩))⟩
theorem s_bearsWater7 {Q : Int32 → Prop} (h : Q 1) : w_X1_bearsWater 7 Q := by
  unfold w_X1_bearsWater w_X6_isFirm w_X6_isFirm_B14 w_X6_isFirm_B15
  exact bb_r (by decide) (bb_l (by decide) ⟨rfl, bb_r (by decide) (bb_l (by decide) ⟨rfl, h⟩)⟩)
theorem s_flowAt {x y z : Int32} {s : Nat → Int32} (hs : lit s 0) {Q : Int32 → Prop} (h : Q 0) : w_X1_flowAt x y z 0 s Q := by
  unfold w_X1_flowAt
  refine q_up 6 (fun t => ((0 : Int32), (0 : Int32), nI t)) _ rfl (fun rec t ht hrec => ?_) (fun rec => ?_)
  · have go : rec (0, 0, nI t + 1) := by rw [nI_1]; exact hrec
    have b69 : ∀ (K : Int32 → Int32 → Prop) (v7 v8 v9 : Int32), v9 / 8 = 0 → w_X1_flowAt_B69 x y z 0 s Q (fun v4 v5 v6 => rec (v4, v5, v6)) K 0 0 (nI t) v7 v8 v9 := by
      intro K v7 v8 v9 h9
      unfold w_X1_flowAt_B69 w_X6_levelOf
      refine s_state07 hs (s_bearsWater0 (bb_l (by decide) go)) (s_bearsWater7 (bb_r (by decide) ?_))
      rw [h9]
      exact go
    refine bb_r (nI_ge ht (by decide)) ⟨fun _ => go, fun _ => ⟨fun _ => go, fun _ => ⟨vp_in_nI ht (by decide), vp_in_nI ht (by decide), ?_⟩⟩⟩
    exact s_state07 hs (bb_l (by decide) (b69 _ _ _ _ (by decide))) (bb_l (by decide) (b69 _ _ _ _ (by decide)))
  · refine bb_l (fun q => q (nI_le (Nat.le_refl 6) (by decide))) ?_
    refine bb_l (by decide) ?_
    unfold w_X1_flowAt_B128 w_X6_kindOf w_X1_flowAt_B168
    exact s_state07 hs (bb_l (by decide) (bb_l (by decide) h)) (bb_l (by decide) (bb_l (by decide) h))
theorem s_canFlow0 {Q : Int32 → Prop} (h : Q 1) : w_X1_canFlow 0 Q := by
  unfold w_X1_canFlow
  exact bb_l (by decide) ⟨rfl, h⟩
theorem upd_lit {f : Nat → Int32} {v : Int32} (h : lit f v) (j : Nat) : lit (upd f j v) v := by
  intro i hi
  by_cases e : i = j
  · rw [e, pk_us]
  · rw [pk_un e]; exact h i hi
theorem s_change {s n : Nat → Int32} (hs : lit s 0) (hn : lit n 0) {Q : Int32 → (Nat → Int32) → Prop} (h : ∀ s', lit s' 0 → Q 0 s') : w_X2_change s n Q := by
  unfold w_X2_change
  refine q_for 3072 (fun t a => ∃ f : Nat → Int32, a = (0, nI t, f) ∧ lit f 0) _ ⟨s, rfl, hs⟩ ?_ ?_
  · rintro rec t a ht ⟨f, rfl, hf⟩ hrec
    have hc := nI_clamp (show t < 2 ^ 31 by omega)
    have go : ∀ g : Nat → Int32, lit g 0 → rec (0, nI t + 1, g) := fun g hg => hrec _ ⟨g, by rw [nI_1], hg⟩
    have e1 : f (nI t).toNatClampNeg = 0 := by rw [hc]; exact hf t ht
    have e2 : n (nI t).toNatClampNeg = 0 := by rw [hc]; exact hn t ht
    refine bb_r (nI_ge ht (by decide)) (bb_r (nI_ge ht (by decide)) (bb_r (fun q => q rfl) ⟨vp_in_nI ht (by decide), vp_in_nI ht (by decide), bb_l (fun q => q (e1.trans e2.symm)) ⟨vp_in_nI ht (by decide), vp_in_nI ht (by decide), go _ ?_⟩⟩))
    show lit (upd f (nI t).toNatClampNeg (n (nI t).toNatClampNeg)) 0
    rw [e2]
    exact upd_lit hf _
  · rintro rec a ⟨f, rfl, hf⟩
    exact bb_l (fun q => q (nI_le (Nat.le_refl 3072) (by decide))) ⟨nar0, h f hf⟩
theorem s_flowWater {s n : Nat → Int32} (hs : lit s 0) {Q : Int32 → (Nat → Int32) → (Nat → Int32) → Prop} (h : ∀ n' s', lit s' 0 → Q 0 n' s') : w_X1_flowWater n 0 s Q := by
  unfold w_X1_flowWater
  refine q_for 3072 (fun t a => ∃ m : Nat → Int32, a = (nI t, m, s) ∧ ∀ i, i < t → m i = 0) _ ⟨n, rfl, fun i hi => absurd hi (Nat.not_lt_zero i)⟩ ?_ ?_
  · rintro rec t a ht ⟨m, rfl, hm⟩ hrec
    have go : ∀ g : Nat → Int32, (∀ i, i < t + 1 → g i = 0) → rec (nI t + 1, g, s) := fun g hg => hrec _ ⟨g, by rw [nI_1], hg⟩
    refine bb_r (nI_ge ht (by decide)) (s_stateOfCell ht ?_)
    show w_X1_canFlow (s t) _
    have e0 : s t = 0 := hs t ht
    rw [e0]
    refine s_canFlow0 (bb_r (by decide) (s_flowAt hs ⟨vp_in_nI ht (by decide), go _ (fun i hi => ?_)⟩))
    show upd m (nI t).toNatClampNeg 0 i = 0
    rw [nI_clamp (by omega)]
    by_cases e : i = t
    · rw [e, pk_us]
    · rw [pk_un e]; exact hm i (by omega)
  · rintro rec a ⟨m, rfl, hm⟩
    refine bb_l (fun q => q (nI_le (Nat.le_refl 3072) (by decide))) ?_
    exact s_change hs hm (fun s' hs' => ⟨nar0, h _ s' hs'⟩)
theorem s_pass1 {n s : Nat → Int32} (hs : lit s 0) {Q : Int32 → (Nat → Int32) → (Nat → Int32) → Prop} (h : ∀ n' s', lit s' 0 → Q 0 n' s') : w_X1_pass n 0 s Q := by
  unfold w_X1_pass
  exact s_dropSand hs (s_flowWater hs (fun n' s' hs' => bb_r (by decide) (bb_l (by decide) ⟨rfl, h n' s' hs'⟩)))
theorem s_kindL {j : Nat} (hj : j < 3072) {k : Nat → Int32} (hk : lit k 0) {Q : Int32 → Prop} (h : Q 0) : w_X7_kindAt (nI j) 0 k Q := by
  refine s_kindAt hj ?_
  rw [hk j hj]
  exact h
theorem s_fall7 {k l : Nat → Int32} (hk : lit k 0) {Q : Int32 → (Nat → Int32) → (Nat → Int32) → Prop} (h : Q 0 k l) : w_X7_fall 0 k l Q := by
  unfold w_X7_fall
  refine q_up 2816 (fun t => ((0 : Int32), nI (256 + t), k, l)) _ rfl (fun rec t ht hrec => ?_) (fun rec => bb_l (fun q => q (nI_le (show 3072 ≤ 256 + 2816 by omega) (by decide))) ⟨nar0, h⟩)
  refine bb_r (nI_ge (show 256 + t < 3072 by omega) (by decide)) ?_
  show w_X7_kindAt (nI (256 + t) - 256) 0 k _
  rw [show nI (256 + t) - 256 = nI (256 + t - 256) from pk_sub (b := 256) (by omega)]
  refine s_kindL (by omega) hk (s_kindL (by omega) hk (bb_l (by decide) ?_))
  show rec (0, nI (256 + t) + 1, k, l)
  rw [nI_1]
  exact hrec
theorem s_flowing7 {j : Nat} (hj : j < 3072) {k l : Nat → Int32} (hk : lit k 0) {Q : Int32 → Prop} (h : Q 0) : w_X7_flowing (nI j) 0 k l Q := by
  unfold w_X7_flowing
  refine q_up 6 (fun t => ((0 : Int32), (1 : Int32), nI t)) _ rfl (fun rec t ht hrec => ?_) (fun rec => ?_)
  · have go : rec (0, 1, nI t + 1) := by rw [nI_1]; exact hrec
    refine bb_r (nI_ge ht (by decide)) (s_beside hj ht (fun i hi _ => ⟨fun _ => go, fun _ => ⟨fun _ => go, fun _ => s_kindL hi hk (bb_r (by decide) go)⟩⟩) (fun _ => ⟨fun _ => go, fun _ => ⟨fun _ => go, fun _ => s_kindAtM (bb_r (by decide) go)⟩⟩))
  · refine bb_l (fun q => q (nI_le (Nat.le_refl 6) (by decide))) ?_
    refine bb_l (by decide) ?_
    unfold w_X7_flowing_B108 w_X7_flowing_B130
    have e : (1 : Int32) - 1 = 0 := by decide
    refine s_beside hj (d := 3) (by omega) (fun i hi _ => s_kindL hi hk (bb_l (by decide) ?_)) (fun _ => s_kindAtM (bb_l (by decide) ?_))
    · show Q (1 - 1)
      rw [e]; exact h
    · show Q (1 - 1)
      rw [e]; exact h
theorem s_flow7 {k l : Nat → Int32} (hk : lit k 0) (hl : lit l 0) {Q : Int32 → (Nat → Int32) → (Nat → Int32) → Prop} (h : ∀ k' l', lit k' 0 → lit l' 0 → Q 0 k' l') : w_X7_flow 0 k l Q := by
  unfold w_X7_flow
  refine q_for 3072 (fun t a => ∃ n : Nat → Int32, a = (0, nI t, k, l, n) ∧ lit n 0) _ ⟨l, rfl, hl⟩ ?_ ?_
  · rintro rec t a ht ⟨n, rfl, hn⟩ hrec
    have hc := nI_clamp (show t < 2 ^ 31 by omega)
    have go : ∀ g : Nat → Int32, lit g 0 → rec (0 ||| 0, nI t + 1, k, l, g) := fun g hg => hrec _ ⟨g, by rw [nI_1]; rfl, hg⟩
    refine bb_r (nI_ge ht (by decide)) (s_kindL ht hk (bb_l (by decide) ?_))
    refine s_flowing7 ht hk ⟨vp_in_nI ht (by decide), vp_in_nI ht (by decide), vp_in_nI ht (by decide), bb_l (fun q => q ?_) (go _ (upd_lit hn _))⟩
    show upd n (nI t).toNatClampNeg 0 (nI t).toNatClampNeg = l (nI t).toNatClampNeg
    rw [hc, pk_us, hl t ht]
  · rintro rec a ⟨n, rfl, hn⟩
    refine bb_l (fun q => q (nI_le (Nat.le_refl 3072) (by decide))) ?_
    refine q_for 3072 (fun t a => ∃ k' : Nat → Int32, a = (0, nI t, k', l, n) ∧ lit k' 0) _ ⟨k, rfl, hk⟩ ?_ ?_
    · rintro rec t a ht ⟨k', rfl, hk'⟩ hrec
      have hc := nI_clamp (show t < 2 ^ 31 by omega)
      have go : ∀ g : Nat → Int32, lit g 0 → rec (0, nI t + 1, g, l, n) := fun g hg => hrec _ ⟨g, by rw [nI_1], hg⟩
      have e1 : k' (nI t).toNatClampNeg = 0 := by rw [hc]; exact hk' t ht
      have e2 : n (nI t).toNatClampNeg = 0 := by rw [hc]; exact hn t ht
      exact bb_r (nI_ge ht (by decide)) (s_isHere ht (bb_r (by decide) ⟨vp_in_nI ht (by decide), bb_l (fun q => q e1) ⟨vp_in_nI ht (by decide), bb_r (fun q => q e2) ⟨vp_in_nI ht (by decide), go _ (upd_lit hk' _)⟩⟩⟩))
    · rintro rec a ⟨k', rfl, hk'⟩
      exact bb_l (fun q => q (nI_le (Nat.le_refl 3072) (by decide))) ⟨nar0, h _ _ hk' hn⟩
theorem s_pass7 {k l : Nat → Int32} {tk : Int32} (hk : lit k 0) (hl : lit l 0) {Q : Int32 → (Nat → Int32) → (Nat → Int32) → Int32 → Prop} (h : ∀ k' l', lit k' 0 → lit l' 0 → Q 0 k' l' (tk + 1)) : w_X7_pass 0 k l tk Q := by
  unfold w_X7_pass
  exact s_fall7 hk (s_flow7 hk hl (fun k' l' hk' hl' => ⟨rfl, h k' l' hk' hl'⟩))
theorem s_requireTicks {x : Int32} {Q : Prop} {Qx : String → Prop} (h1 : ∀ T : Nat, 1 ≤ T → T ≤ 12 → x = nI T → Q) (h0 : (x < 1 ∨ 12 < x) → Qx "java/lang/IllegalArgumentException") : w_X6_requireTicks x Q Qx := by
  unfold w_X6_requireTicks w_X6_requireTicks_B11
  refine ⟨fun c => h0 (Or.inl c), fun c => ⟨fun d => ?_, fun d => h0 (Or.inr (Classical.not_not.mp fun q => d ((le_nl _ _).mpr q)))⟩⟩
  obtain ⟨p, hp, e⟩ := dim_of (M := 12) (by omega) c ((le_nl x 12).mp d)
  exact h1 p hp.1 hp.2 e
theorem s_isTicks {x : Int32} {Q : Int32 → Prop} (h1 : ∀ T : Nat, 1 ≤ T → T ≤ 12 → x = nI T → Q 1) (h0 : (x < 1 ∨ 12 < x) → Q 0) : w_X7_is x 1 12 Q := by
  refine s_is (fun a b => ?_) h0
  obtain ⟨p, hp, e⟩ := dim_of (M := 12) (by omega) a b
  exact h1 p hp.1 hp.2 e
theorem ticks_no {T : Nat} (h1 : 1 ≤ T) (h2 : T ≤ 12) {x : Int32} (e : x = nI T) (h : x < 1 ∨ 12 < x) : False := by
  subst e
  exact h.elim (dim_no (M := 12) (by omega) ⟨h1, h2⟩).1 (dim_no (M := 12) (by omega) ⟨h1, h2⟩).2
theorem cnt_noneB {P : Nat → Prop} [DecidablePred P] : ∀ n, (∀ j, j < n → ¬ P j) → cnt P n = 0
  | 0, _ => rfl
  | n + 1, h => by
    show cnt P n + (if P n then 1 else 0) = 0
    rw [cnt_noneB n (fun j hj => h j (by omega)), if_neg (h n (by omega))]
theorem s_count6 {s : Nat → Int32} (hs : lit s 0) {Q : Int32 → Prop} (h : Q (nI 0)) : w_X2_countOf 6 0 s Q := by
  refine s_countOf ?_
  rw [cnt_noneB 3072 (fun j hj q => by rw [hs j hj] at q; exact absurd q (by decide))]
  exact h
theorem s_countNow6 {s : Nat → Int32} (hs : lit s 0) {Q : Int32 → Prop} (h : Q (nI 0)) : w_X7_countNow 6 0 s Q := by
  refine s_countNow ?_
  rw [cnt_noneB 3072 (fun j hj q => by rw [hs j hj] at q; exact absurd q (by decide))]
  exact h
theorem p_case_4 {L : Nat} (hL : L = 8) (xs : Nat → Int32) : w_case_4 L xs := by
  unfold w_case_4
  refine ⟨vpL1 hL, ?_⟩
  generalize xs (Int32.toNatClampNeg (0 + 1)) = x
  unfold w_L_tick w_X6_tick
  refine s_requireTicks (fun T h1 h2 e => ?_) (fun hx => ⟨rfl, vpL1 hL, ?_⟩)
  · subst e
    refine q_for T (fun t a => a.1 = nI t ∧ lit a.2.2.1 0) _ ⟨rfl, fun _ _ => rfl⟩ ?_ ?_
    · rintro rec t ⟨v, n, s, a4, a5⟩ ht ⟨hv, hs⟩ hrec
      have hv : v = nI t := hv
      subst hv
      exact bb_r (nI_ge ht (by omega)) (s_pass1 hs (fun n' s' hs' => hrec _ ⟨nI_1 t, hs'⟩))
    · rintro rec ⟨v, n, s, a4, a5⟩ ⟨hv, hs⟩
      have hv : v = nI T := hv
      subst hv
      refine bb_l (fun q => q (nI_le (Nat.le_refl _) (by omega))) (s_count6 hs ⟨vpL1 hL, ?_⟩)
      unfold w_X7_tick
      refine ⟨by decide, s_isTicks (fun T' h1' h2' e => bb_l (by decide) ?_) (fun q => (ticks_no h1 h2 rfl q).elim)⟩
      refine q_for T (fun t a => ∃ (k l : Nat → Int32) (tk : Int32), a = (nI t, t, 3072 * t, k, l, 0, tk) ∧ lit k 0 ∧ lit l 0) _ ⟨_, _, _, rfl, fun _ _ => rfl, fun _ _ => rfl⟩ ?_ ?_
      · rintro rec t a ht ⟨k, l, tk, rfl, hk, hl⟩ hrec
        refine bb_r (nI_ge ht (by omega)) ⟨?_, s_pass7 hk hl (fun k' l' hk' hl' => hrec _ ⟨k', l', tk + 1, by rw [nI_1]; rfl, hk', hl'⟩)⟩
        show t + 1 ≤ 12 ∧ 3072 * t + 3072 ≤ 36864
        omega
      · rintro rec a ⟨k, l, tk, rfl, hk, hl⟩
        refine bb_l (fun q => q (nI_le (Nat.le_refl _) (by omega))) ⟨?_, s_countNow6 hk ⟨?_, lw_ok hL rfl (fun _ => rfl)⟩⟩
        · show T + 0 ≤ 12 ∧ 3072 * T + 0 ≤ 36864
          omega
        · show T ≤ 12 ∧ 3072 * T ≤ 36864
          omega
  · unfold w_X7_tick
    exact ⟨by decide, s_isTicks (fun T h1 h2 e => (ticks_no h1 h2 e hx).elim) (fun _ => bb_r (by decide) ⟨by decide, by decide, lw_ok hL rfl (fun q => absurd q (by decide))⟩)⟩
theorem p_case_26 {L : Nat} (hL : L = 8) (xs : Nat → Int32) : w_case_26 L xs := by
  unfold w_case_26
  refine ⟨vpL1 hL, ?_⟩
  generalize xs (Int32.toNatClampNeg (0 + 1)) = x
  unfold w_L_calmIn w_X6_calmIn
  refine s_requireTicks (fun T h1 h2 e => ?_) (fun hx => ⟨rfl, vpL1 hL, ?_⟩)
  · subst e
    unfold w_X2_takeOver
    rw [cpy0]
    have z : lit (fun _ => (0 : Int32)) 0 := fun _ _ => rfl
    refine q_up 0 (fun _ => ((0 : Int32), (fun _ => 0 : Nat → Int32), (0 : Int32), (fun _ => 0 : Nat → Int32))) _ rfl (fun rec j hj _ => absurd hj (Nat.not_lt_zero _)) (fun rec => ?_)
    refine bb_r (nI_pos' (n := T) (by omega) |> fun q => (le_nl _ _).mp q) (s_pass1 z (fun n' s' hs' => bb_r (by decide) ⟨vpL1 hL, ?_⟩))
    unfold w_X7_calmIn
    refine s_isTicks (fun T' h1' h2' e => bb_r (by decide) ?_) (fun q => (ticks_no h1 h2 rfl q).elim)
    unfold w_X7_ahead
    refine q_for 1 (fun t a => a.2.2.1 = nI t ∧ a.2.1 = (if t = 0 then -1 else 0) ∧ a.2.2.2.1 = 2 + t ∧ a.2.2.2.2.1 = 6144 + 3072 * t ∧ lit a.2.2.2.2.2.1 0 ∧ lit a.2.2.2.2.2.2.1 0) _ ⟨rfl, rfl, rfl, rfl, z, z⟩ ?_ ?_
    · rintro rec t ⟨v5, v6, v7, kc, nc, k, l, tk, f15, f4⟩ ht ⟨h7, h6, hkc, hnc, hk, hl⟩ hrec
      have ht0 : t = 0 := by omega
      subst ht0
      have h7 : v7 = nI 0 := h7
      have h6 : v6 = -1 := h6
      have hkc : kc = 2 := hkc
      have hnc : nc = 6144 := hnc
      subst h7; subst h6; subst hkc; subst hnc
      refine bb_r (show ¬ nI T + 1 ≤ nI 0 by rw [nI_1]; exact nI_ge (by omega) (by omega)) (bb_r (by decide) (bb_r (fun q => q rfl) ⟨(show 2 + 1 ≤ 15 ∧ 6144 + 3072 ≤ 46080 by decide), s_pass7 hk hl (fun k' l' hk' hl' => bb_r (by decide) (hrec _ ⟨nI_1 0, rfl, rfl, rfl, hk', hl'⟩))⟩))
    · rintro rec ⟨v5, v6, v7, kc, nc, k, l, tk, f15, f4⟩ ⟨h7, h6, hkc, hnc, hk, hl⟩
      have h7 : v7 = nI 1 := h7
      have h6 : v6 = 0 := h6
      have hkc : kc = 3 := hkc
      have hnc : nc = 9216 := hnc
      subst h7; subst h6; subst hkc; subst hnc
      refine bb_r (show ¬ nI T + 1 ≤ nI 1 by rw [nI_1]; exact nI_ge (by omega) (by omega)) (bb_r (by decide) (bb_l (show ¬ (0 : Int32) = -1 by decide) ?_))
      refine q_up 0 (fun _ => (v5, (0 : Int32), (0 : Int32), 3, 9216, k, l, tk, f15, f4)) _ rfl (fun rec j hj _ => absurd hj (Nat.not_lt_zero _)) (fun rec => ?_)
      refine bb_r (show ¬ nI T ≤ nI 0 from nI_ge (by omega) (by omega)) (bb_l (by decide) (bb_l (by decide) ⟨(show 3 ≤ 15 ∧ 9216 ≤ 46080 by decide), lw_ok hL rfl (fun _ => rfl)⟩))
  · unfold w_X7_calmIn
    exact s_isTicks (fun T h1 h2 e => (ticks_no h1 h2 e hx).elim) (fun _ => bb_l (by decide) (lw_ok hL rfl (fun q => absurd q (by decide))))
theorem p_case_27 {L : Nat} (hL : L = 8) (xs : Nat → Int32) : w_case_27 L xs := by
  unfold w_case_27
  refine ⟨vpL1 hL, ?_⟩
  generalize xs (Int32.toNatClampNeg (0 + 1)) = x
  unfold w_L_waterIn w_X6_waterIn
  refine s_requireTicks (fun T h1 h2 e => ?_) (fun hx => ⟨rfl, vpL1 hL, ?_⟩)
  · subst e
    unfold w_X2_takeOver
    rw [cpy0]
    have z : lit (fun _ => (0 : Int32)) 0 := fun _ _ => rfl
    refine q_for T (fun t a => a.1 = nI t ∧ a.2.2.1 = 0 ∧ lit a.2.2.2 0) _ ⟨rfl, rfl, z⟩ ?_ ?_
    · rintro rec t ⟨v, n, aw, s⟩ ht ⟨hv, haw, hs⟩ hrec
      have hv : v = nI t := hv
      have haw : aw = 0 := haw
      subst hv; subst haw
      exact bb_r (nI_ge ht (by omega)) (s_pass1 hs (fun n' s' hs' => hrec _ ⟨nI_1 t, rfl, hs'⟩))
    · rintro rec ⟨v, n, aw, s⟩ ⟨hv, haw, hs⟩
      have hv : v = nI T := hv
      have haw : aw = 0 := haw
      subst hv; subst haw
      refine bb_l (fun q => q (nI_le (Nat.le_refl _) (by omega))) (s_count6 hs ⟨vpL1 hL, ?_⟩)
      unfold w_X7_waterIn
      refine s_isTicks (fun T' h1' h2' e => bb_r (by decide) ?_) (fun q => (ticks_no h1 h2 rfl q).elim)
      unfold w_X7_ahead
      refine q_up 0 (fun _ => ((0 : Int32), (-1 : Int32), (0 : Int32), 2, 6144, (fun _ => 0 : Nat → Int32), (fun _ => 0 : Nat → Int32), (0 : Int32), (fun _ => 0 : Nat → Int32), (fun _ => 0 : Nat → Int32))) _ rfl (fun rec j hj _ => absurd hj (Nat.not_lt_zero _)) (fun rec => ?_)
      refine bb_r (show ¬ nI T + 1 ≤ nI 0 by rw [nI_1]; exact nI_ge (by omega) (by omega)) (bb_l (by decide) ?_)
      refine q_for T (fun t a => a.2.2.1 = nI t ∧ a.2.2.2.1 = 2 + t ∧ a.2.2.2.2.1 = 6144 + 3072 * t ∧ lit a.2.2.2.2.2.1 0 ∧ lit a.2.2.2.2.2.2.1 0) _ ⟨rfl, rfl, rfl, z, z⟩ ?_ ?_
      · rintro rec t ⟨v5, v6, v7, kc, nc, k, l, tk, f15, f4⟩ ht ⟨h7, hkc, hnc, hk, hl⟩ hrec
        have h7 : v7 = nI t := h7
        have hkc : kc = 2 + t := hkc
        have hnc : nc = 6144 + 3072 * t := hnc
        subst h7; subst hkc; subst hnc
        refine bb_r (nI_ge ht (by omega)) (bb_r (by decide) ⟨?_, s_pass7 hk hl (fun k' l' hk' hl' => hrec _ ⟨nI_1 t, rfl, ?_, hk', hl'⟩)⟩)
        · show 2 + t + 1 ≤ 15 ∧ 6144 + 3072 * t + 3072 ≤ 46080
          omega
        · show 6144 + 3072 * t + 3072 = 6144 + 3072 * (t + 1)
          omega
      · rintro rec ⟨v5, v6, v7, kc, nc, k, l, tk, f15, f4⟩ ⟨h7, hkc, hnc, hk, hl⟩
        have h7 : v7 = nI T := h7
        have hkc : kc = 2 + T := hkc
        have hnc : nc = 6144 + 3072 * T := hnc
        subst h7; subst hkc; subst hnc
        refine bb_l (fun q => q (nI_le (Nat.le_refl _) (by omega))) (bb_r (by decide) ⟨?_, s_countNow6 hk ⟨?_, lw_ok hL rfl (fun _ => rfl)⟩⟩)
        · show 2 + T + 0 ≤ 15 ∧ 6144 + 3072 * T + 0 ≤ 46080
          omega
        · show 2 + T ≤ 15 ∧ 6144 + 3072 * T ≤ 46080
          omega
  · unfold w_X7_waterIn
    exact s_isTicks (fun T h1 h2 e => (ticks_no h1 h2 e hx).elim) (fun _ => bb_l (by decide) (lw_ok hL rfl (fun q => absurd q (by decide))))
