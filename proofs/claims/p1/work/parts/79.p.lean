theorem s_flood0 {Q : (Nat → Int32) → (Nat → Int32) → Prop} (h : ∀ g s, lit g 0 → lit s 15 → Q g s) : w_X3_flood (fun _ => 0) (fun _ => 0) 0 (fun _ => 0) Q :=
  s_flood (S := fun _ => False) (nl := True) (fun _ _ _ => Or.inl rfl) (fun _ _ q => q) (fun _ _ q => q.elim) (fun _ _ _ => (show ¬ (0 : Int32) = 3 by decide)) (fun g s _ hs _ hg => h g s (hg trivial) (fun i hi => hs i hi (fun q => q)))
theorem s_shine0 {g0 s0 : Nat → Int32} {Q : (Nat → Int32) → (Nat → Int32) → Prop} (h : ∀ g s, lit g 0 → lit s 15 → Q g s) : w_X7_shine 0 g0 (fun _ => 0) s0 Q :=
  s_shine (S := fun _ => False) (nl := True) (fun _ _ _ => Or.inl rfl) (fun _ _ q => q) (fun _ _ q => q.elim) (fun _ _ _ => (show ¬ (0 : Int32) = 3 by decide)) (fun g s _ hs _ hg => h g s (hg trivial) (fun i hi => hs i hi (fun q => q)))
theorem s_lightUp0 {Q : Int32 → (Nat → Int32) → (Nat → Int32) → Prop} (h : ∀ g s, lit g 0 → lit s 15 → Q 1 g s) : w_X6_lightUp 0 (fun _ => 0) 0 (fun _ => 0) (fun _ => 0) Q := by
  unfold w_X6_lightUp
  exact bb_r (by decide) (s_flood0 h)
theorem s_requireHere0 {x y z : Int32} (hin : inW x y z) {Q : Prop} {Qx : String → Prop} (h : Q) : w_X6_requireHere x y z 0 (fun _ => 0) Q Qx := by
  unfold w_X6_requireHere
  exact s_stateAt (fun _ _ _ _ _ _ _ _ _ => bb_l (by decide) h) (fun q => absurd hin q)
theorem s_skyAt {a b c : Nat} (ha : a < 16) (hb : b < 12) (hc : c < 16) {s : Nat → Int32} {Q : Int32 → Prop} (h : Q (s (ix a b c))) : w_X3_skyAt (nI a) (nI b) (nI c) s Q := by
  unfold w_X3_skyAt w_X6_indexOf
  rw [ix_I]
  have hi := ix_lt ha hb hc
  refine s_isInWorld (fun _ => bb_r (by decide) ⟨vp_in_nI hi (by decide), ?_⟩) (fun q => absurd (inW_nI ha hb hc) q)
  rw [nI_clamp (show ix a b c < 2 ^ 31 by omega)]
  exact h
theorem s_glowAt {a b c : Nat} (ha : a < 16) (hb : b < 12) (hc : c < 16) {s : Nat → Int32} {Q : Int32 → Prop} (h : Q (s (ix a b c))) : w_X3_glowAt (nI a) (nI b) (nI c) s Q := by
  unfold w_X3_glowAt w_X6_indexOf
  rw [ix_I]
  have hi := ix_lt ha hb hc
  refine s_isInWorld (fun _ => bb_r (by decide) ⟨vp_in_nI hi (by decide), ?_⟩) (fun q => absurd (inW_nI ha hb hc) q)
  rw [nI_clamp (show ix a b c < 2 ^ 31 by omega)]
  exact h
theorem p_case_14 {L : Nat} (hL : L = 8) (xs : Nat → Int32) : w_case_14 L xs := by
  unfold w_case_14
  refine ⟨vpL1 hL, vpL2 hL, vpL3 hL, ?_⟩
  generalize xs (Int32.toNatClampNeg (0 + 1)) = x
  generalize xs (Int32.toNatClampNeg (0 + 2)) = y
  generalize xs (Int32.toNatClampNeg (0 + 3)) = z
  unfold w_L_sky w_X6_sky
  refine s_requireCell (fun hin => s_requireHere0 hin (s_lightUp0 (fun g s hg hs => ?_))) (fun hout => Or.inl ⟨rfl, vpL1 hL, vpL2 hL, vpL3 hL, ?_⟩)
  · obtain ⟨a, b, c, ha, hb, hc, rfl, rfl, rfl⟩ := inW_of hin
    have hi := ix_lt ha hb hc
    refine s_skyAt ha hb hc ?_
    rw [hs _ hi]
    refine ⟨vpL1 hL, vpL2 hL, vpL3 hL, ?_⟩
    unfold w_X7_sky w_X7_at
    rw [ix_M]
    refine s_isWorld (fun _ => bb_l (by decide) (s_isHere hi (bb_l (by decide) (s_shine0 (fun g2 s2 hg2 hs2 => ⟨vp_in_nI hi (by decide), ?_⟩))))) (fun q => absurd hin q)
    rw [nI_clamp (show ix a b c < 2 ^ 31 by omega), hs2 _ hi]
    exact lw_ok hL rfl (fun _ => rfl)
  · unfold w_X7_sky
    exact s_isWorld (fun q => absurd q hout) (fun _ => bb_r (by decide) (lw_ok hL rfl (fun q => absurd q (by decide))))
theorem p_case_15 {L : Nat} (hL : L = 8) (xs : Nat → Int32) : w_case_15 L xs := by
  unfold w_case_15
  refine ⟨vpL1 hL, vpL2 hL, vpL3 hL, ?_⟩
  generalize xs (Int32.toNatClampNeg (0 + 1)) = x
  generalize xs (Int32.toNatClampNeg (0 + 2)) = y
  generalize xs (Int32.toNatClampNeg (0 + 3)) = z
  unfold w_L_glow w_X6_glow
  refine s_requireCell (fun hin => s_requireHere0 hin (s_lightUp0 (fun g s hg hs => ?_))) (fun hout => Or.inl ⟨rfl, vpL1 hL, vpL2 hL, vpL3 hL, ?_⟩)
  · obtain ⟨a, b, c, ha, hb, hc, rfl, rfl, rfl⟩ := inW_of hin
    have hi := ix_lt ha hb hc
    refine s_glowAt ha hb hc ?_
    rw [hg _ hi]
    refine ⟨vpL1 hL, vpL2 hL, vpL3 hL, ?_⟩
    unfold w_X7_glow w_X7_at
    rw [ix_M]
    refine s_isWorld (fun _ => bb_l (by decide) (s_isHere hi (bb_l (by decide) (s_shine0 (fun g2 s2 hg2 hs2 => ⟨vp_in_nI hi (by decide), ?_⟩))))) (fun q => absurd hin q)
    rw [nI_clamp (show ix a b c < 2 ^ 31 by omega), hg2 _ hi]
    exact lw_ok hL rfl (fun _ => rfl)
  · unfold w_X7_glow
    exact s_isWorld (fun q => absurd q hout) (fun _ => bb_r (by decide) (lw_ok hL rfl (fun q => absurd q (by decide))))
theorem max_ge (a b : Int32) : a ≤ (if a < b then b else a) := by
  by_cases c : a < b
  · rw [if_pos c]; exact le_of_l c
  · rw [if_neg c]; exact le_r a
theorem s_countBelow {n : Int32} {f g s : Nat → Int32} {Q : Int32 → Prop} (h : ∀ i, i < 3072 → clr (f i) → n ≤ s i) (hQ : Q 0) : w_X3_countBelow n g s 0 f Q := by
  unfold w_X3_countBelow
  refine q_up 3072 (fun t => ((0 : Int32), nI t)) _ rfl (fun rec j hj hr => ?_) (fun rec => bb_l (fun q => q (nI_le (Nat.le_refl 3072) (by decide))) hQ)
  have hr2 : rec (0, nI j + 1) := by rw [nI_1]; exact hr
  refine bb_r (nI_ge hj (by decide)) (s_stateOfCell hj (s_isClear6 (fun hc => bb_r (by decide) ?_) (fun _ => bb_l (by decide) hr2)))
  show vp_in (nI j) 3072 ∧ (vp_in (nI j) 3072 ∧ _)
  rw [nI_clamp (show j < 2 ^ 31 by omega)]
  exact ⟨vp_in_nI hj (by decide), vp_in_nI hj (by decide), bb_l (fun q => q (le_t (h j hj hc) (max_ge _ _))) hr2⟩
theorem s_darkNow {n : Int32} {f g s : Nat → Int32} {Q : Int32 → Prop} (h : ∀ i, i < 3072 → clrM (f i) → n ≤ s i) (hQ : Q 0) : w_X7_darkNow n 0 g f s Q := by
  unfold w_X7_darkNow
  refine q_up 3072 (fun t => ((0 : Int32), nI t)) _ rfl (fun rec j hj hr => ?_) (fun rec => bb_l (fun q => q (nI_le (Nat.le_refl 3072) (by decide))) hQ)
  have hr2 : rec (0 + 0, nI j + 1) := by rw [nI_1]; exact hr
  refine bb_r (nI_ge hj (by decide)) (s_kindAt hj (s_isClear7 (fun hc => bb_r (by decide) ⟨vp_in_nI hj (by decide), vp_in_nI hj (by decide), ?_⟩) (fun _ => bb_l (by decide) hr2)))
  rw [nI_clamp (show j < 2 ^ 31 by omega)]
  exact bb_l (fun q => q (le_t (h j hj hc) (max_ge _ _))) hr2
theorem le15 (x : Int32) : x ≤ 15 ↔ ¬ 15 < x := by
  rw [Int32.lt_iff_toInt_lt, Int32.le_iff_toInt_le]
  show _ ≤ (15 : Int) ↔ ¬ (15 : Int) < _
  omega
theorem p_case_16 {L : Nat} (hL : L = 8) (xs : Nat → Int32) : w_case_16 L xs := by
  unfold w_case_16
  refine ⟨vpL1 hL, ?_⟩
  generalize xs (Int32.toNatClampNeg (0 + 1)) = x
  have bad : (x < 1 ∨ 15 < x) → vp_in (0 + 1) L ∧ w_X7_dark x 0 (fun _ => 0) (fun _ => 0) (fun _ => 0) 0 (fun r103 y104 y105 y106 => w_X7_thrown y106 (fun r107 => ((r107 = 1 → ((¬ (1 : Int32) = 0 → ((((Int32.ofNat L) - 8) < (0 + 8) → True) ∧ (¬ ((Int32.ofNat L) - 8) < (0 + 8) → False))) ∧ ((1 : Int32) = 0 → (((lg_cmp ((fun _ => 0 : Nat → Int64) (Int32.toNatClampNeg 0)) (Int32.toInt64 r103)) = 0 → ((((Int32.ofNat L) - 8) < (0 + 8) → True) ∧ (¬ ((Int32.ofNat L) - 8) < (0 + 8) → False))) ∧ (¬ (lg_cmp ((fun _ => 0 : Nat → Int64) (Int32.toNatClampNeg 0)) (Int32.toInt64 r103)) = 0 → False))))) ∧ (¬ r107 = 1 → False)))) := by
    intro hx
    refine ⟨vpL1 hL, ?_⟩
    unfold w_X7_dark
    refine s_is (fun a b => ?_) (fun _ => bb_r (by decide) (lw_ok hL rfl (fun q => absurd q (by decide))))
    exact (hx.elim a b).elim
  unfold w_L_dark w_X6_dark w_X6_dark_B11
  refine ⟨fun c => ⟨rfl, bad (Or.inl c)⟩, fun c => ⟨fun d => ?_, fun d => ⟨rfl, bad (Or.inr (Classical.not_not.mp fun q => d ((le15 x).mpr q)))⟩⟩⟩
  refine s_lightUp0 (fun g s hg hs => s_countBelow (fun i hi _ => by rw [hs i hi]; exact d) ⟨vpL1 hL, ?_⟩)
  unfold w_X7_dark
  refine s_is (fun _ _ => bb_l (by decide) (s_shine0 (fun g2 s2 hg2 hs2 => s_darkNow (fun i hi _ => by rw [hs2 i hi]; exact d) (lw_ok hL rfl (fun _ => rfl))))) (fun q => ?_)
  rcases q with q | q
  · exact absurd q c
  · exact absurd q ((le15 x).mp d)
theorem cnt_all {P : Nat → Prop} [DecidablePred P] (h : ∀ j, P j) : ∀ n, cnt P n = n
  | 0 => rfl
  | n + 1 => by
    show cnt P n + (if P n then 1 else 0) = n + 1
    rw [cnt_all h n, if_pos (h n)]
theorem cnt_none {P : Nat → Prop} [DecidablePred P] (h : ∀ j, ¬ P j) : ∀ n, cnt P n = 0
  | 0 => rfl
  | n + 1 => by
    show cnt P n + (if P n then 1 else 0) = 0
    rw [cnt_none h n, if_neg (h n)]
theorem s_countAir {Q : Int32 → Prop} (h : Q (nI 3072)) : w_X2_countOf 0 0 (fun _ => 0) Q := by
  refine s_countOf ?_
  rw [cnt_all (fun _ => (show (0 : Int32) - 0 / 8 * 8 = 0 by decide))]
  exact h
theorem s_countNone {k : Int32} (hk : ¬ (0 : Int32) = k) {Q : Int32 → Prop} (h : Q (nI 0)) : w_X2_countOf k 0 (fun _ => 0) Q := by
  refine s_countOf ?_
  rw [cnt_none (fun _ q => hk (by rw [← q]; decide))]
  exact h
theorem s_countNowNone {k : Int32} (hk : ¬ (0 : Int32) = k) {Q : Int32 → Prop} (h : Q (nI 0)) : w_X7_countNow k 0 (fun _ => 0) Q := by
  refine s_countNow ?_
  rw [cnt_none (fun _ q => hk q)]
  exact h
theorem l15 {g s : Nat → Int32} (hg : lit g 0) (hs : lit s 15) {j : Nat} (hj : j < 3072) : (if s j < g j then g j else s j) = nI 15 := by
  rw [hg j hj, hs j hj]
  decide
theorem s_sum {g s : Nat → Int32} (hg : lit g 0) (hs : lit s 15) {Q : Int32 → Prop} (h : Q (nI 46080)) : w_X3_sum g s 0 (fun _ => 0) Q := by
  unfold w_X3_sum
  refine q_up 3072 (fun t => (nI (15 * t), nI t)) _ rfl (fun rec j hj hr => ?_) (fun rec => bb_l (fun q => q (nI_le (Nat.le_refl 3072) (by decide))) h)
  refine bb_r (nI_ge hj (by decide)) (s_stateOfCell hj (s_isClear6 (fun hc => bb_r (by decide) ?_) (fun q => absurd (Or.inl rfl) q)))
  show vp_in (nI j) 3072 ∧ (vp_in (nI j) 3072 ∧ _)
  rw [nI_clamp (show j < 2 ^ 31 by omega)]
  refine ⟨vp_in_nI hj (by decide), vp_in_nI hj (by decide), ?_⟩
  rw [l15 hg hs hj]
  show rec (nI (15 * j) + nI 15, nI j + 1)
  rw [nI_1, nI_add]
  exact hr
theorem p_case_21 {L : Nat} (hL : L = 8) (xs : Nat → Int32) : w_case_21 L xs := by
  unfold w_case_21 w_X6_brightness w_X2_countClear
  refine s_lightUp0 (fun g s hg hs => s_countAir (s_countNone (by decide) (s_countNone (by decide) (s_countNone (by decide) ?_))))
  rw [show nI 3072 + nI 0 + nI 0 + nI 0 = nI 3072 by decide]
  refine bb_l (by decide) (s_sum hg hs ⟨by unfold vf_n64; decide +kernel, ?_⟩)
  unfold w_X6_brightness_B35 w_X7_brightness
  refine s_shine0 (fun g2 s2 hg2 hs2 => ?_)
  refine q_up 3072 (fun t => (nI (15 * t), nI t, nI t, g2, s2, (0 : Int32))) _ rfl (fun rec j hj hr => ?_) (fun rec => ?_)
  · refine bb_r (nI_ge hj (by decide)) (s_kindAt hj (s_isClear7 (fun hc => bb_l (by decide) ⟨vp_in_nI hj (by decide), vp_in_nI hj (by decide), ?_⟩) (fun q => absurd (Or.inl rfl) q)))
    rw [nI_clamp (show j < 2 ^ 31 by omega), l15 hg2 hs2 hj]
    show rec (nI (15 * j) + nI 15, nI j + 1, nI j + 1, g2, s2, 0)
    rw [nI_1, nI_add]
    exact hr
  · refine bb_l (fun q => q (nI_le (Nat.le_refl 3072) (by decide))) ?_
    show w_X7_brightness_B63 _ _ _ (nI 46080) (nI 3072) g2 s2 0
    unfold w_X7_brightness_B63 w_X7_brightness_B76
    refine bb_l (show ¬ nI 3072 = 0 by decide) ⟨by unfold vf_n64; decide +kernel, ?_⟩
    exact bb_l (fun q => q (by decide +kernel)) (lw_over hL)
theorem s_nbr {p i : Nat} (hi : i < 3072) (h : i % 256 = p % 256) : ∃ d q, d < 6 ∧ q < 3072 ∧ ¬ q % 256 = p % 256 ∧ nb d q i := by
  by_cases e : i % 16 < 15
  · exact ⟨0, i + 1, by omega, by omega, by omega, Or.inl ⟨rfl, by omega, by omega⟩⟩
  · exact ⟨1, i - 1, by omega, by omega, by omega, Or.inr (Or.inl ⟨rfl, by omega, by omega⟩)⟩
theorem cpy0 {sp dp n : Nat} : va_cpy (fun _ => (0 : Int32)) (fun _ => 0) sp dp n = fun _ => 0 := by
  funext j
  unfold va_cpy
  split <;> rfl
theorem p_case_25 {L : Nat} (hL : L = 8) (xs : Nat → Int32) : w_case_25 L xs := by
  unfold w_case_25
  refine ⟨vpL1 hL, vpL2 hL, vpL3 hL, vpL4 hL, ?_⟩
  generalize xs (Int32.toNatClampNeg (0 + 1)) = x
  generalize xs (Int32.toNatClampNeg (0 + 2)) = y
  generalize xs (Int32.toNatClampNeg (0 + 3)) = z
  generalize xs (Int32.toNatClampNeg (0 + 4)) = k
  unfold w_L_darkWith w_X6_darkWith
  refine s_requireCell (fun hin => s_requireKind (fun k1 k2 => s_requireHere0 hin ?_) (fun hk => Or.inr (Or.inl ⟨rfl, vpL1 hL, vpL2 hL, vpL3 hL, vpL4 hL, ?_⟩))) (fun hout => Or.inl ⟨rfl, vpL1 hL, vpL2 hL, vpL3 hL, vpL4 hL, ?_⟩)
  · obtain ⟨a, b, c, ha, hb, hc, rfl, rfl, rfl⟩ := inW_of hin
    have hi := ix_lt ha hb hc
    unfold w_X2_takeOver
    rw [cpy0]
    have hS : ∀ w : Int32, ∀ j, j < 3072 → ¬ j % 256 = ix a b c % 256 → upd (fun _ => 0) (ix a b c) w j = 0 ∨ upd (fun _ => 0) (ix a b c) w j = 2 := by
      intro w j hj hne
      refine Or.inl (pk_un fun e => hne (by rw [e]))
    have go : ∀ w : Int32, w_X2_put (nI a) (nI b) (nI c) w (fun _ => 0) (fun y4 => w_X3_flood (fun _ => 0) (fun _ => 0) 0 y4 (fun y5 y6 => w_X3_countBelow 8 y5 y6 0 y4 (fun r7 => vp_in (0 + 1) L ∧ vp_in (0 + 2) L ∧ vp_in (0 + 3) L ∧ vp_in (0 + 4) L ∧ w_X7_darkWith (nI a) (nI b) (nI c) k 0 (fun _ => 0) (fun _ => 0) (fun _ => 0) 0 (fun r103 y104 y105 y106 y107 => w_X7_thrown y107 (fun r108 => ((r108 = 0 → ((¬ (0 : Int32) = 0 → ((((Int32.ofNat L) - 8) < (0 + 8) → True) ∧ (¬ ((Int32.ofNat L) - 8) < (0 + 8) → False))) ∧ ((0 : Int32) = 0 → (((lg_cmp ((vp_updL (fun _ => 0) (Int32.toNatClampNeg 0) (Int32.toInt64 r7)) (Int32.toNatClampNeg 0)) (Int32.toInt64 r103)) = 0 → ((((Int32.ofNat L) - 8) < (0 + 8) → True) ∧ (¬ ((Int32.ofNat L) - 8) < (0 + 8) → False))) ∧ (¬ (lg_cmp ((vp_updL (fun _ => 0) (Int32.toNatClampNeg 0) (Int32.toInt64 r7)) (Int32.toNatClampNeg 0)) (Int32.toInt64 r103)) = 0 → False))))) ∧ (¬ r108 = 0 → False))))))) := by
      intro w
      refine s_put ha hb hc (s_flood (S := fun j => j % 256 = ix a b c % 256) (nl := False) (hS w) (fun j _ h q => h (by omega)) (fun i hi h => s_nbr hi h) (fun h => h.elim) (fun g s _ _ h13 _ => s_countBelow (fun i hi hc => le_t (by decide) (h13 i hi hc)) ⟨vpL1 hL, vpL2 hL, vpL3 hL, vpL4 hL, ?_⟩))
      unfold w_X7_darkWith w_X7_at
      rw [ix_M]
      refine s_isWorld (fun _ => bb_l (by decide) (s_is (fun _ _ => bb_l (by decide) (s_isHere hi (bb_l (by decide) ⟨vp_in_nI hi (by decide), vp_in_nI hi (by decide), ?_⟩))) (fun h => ?_))) (fun h => absurd hin h)
      · rw [nI_clamp (show ix a b c < 2 ^ 31 by omega)]
        exact s_shine (S := fun j => j % 256 = ix a b c % 256) (nl := False) (hS k) (fun j _ h q => h (by omega)) (fun i hi h => s_nbr hi h) (fun h => h.elim) (fun g s _ _ h13 _ => s_darkNow (fun i hi hc => le_t (by decide) (h13 i hi hc)) ⟨vp_in_nI hi (by decide), lw_ok hL rfl (fun _ => rfl)⟩)
      · rcases h with h | h
        · exact absurd h k1
        · exact absurd k2 ((lt6 k).mp h)
    unfold w_X6_stateOf w_X6_stateOf_B12
    exact ⟨fun _ => go k, fun _ => go 70⟩
  · unfold w_X7_darkWith
    refine s_isWorld (fun _ => bb_l (by decide) (s_is (fun a1 a2 => ?_) (fun _ => bb_r (by decide) (lw_ok hL rfl (fun h => absurd h (by decide)))))) (fun h => absurd hin h)
    rcases hk with h | h
    · exact absurd h a1
    · exact absurd ((lt6 k).mpr h) a2
  · unfold w_X7_darkWith
    exact s_isWorld (fun h => absurd h hout) (fun _ => bb_r (by decide) (lw_ok hL rfl (fun h => absurd h (by decide))))
