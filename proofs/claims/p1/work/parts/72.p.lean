theorem p_case_7 {L : Nat} (hL : L = 8) (xs : Nat → Int32) : w_case_7 L xs := by
  unfold w_case_7
  refine ⟨in8 hL (by unfold vp_in; decide), in8 hL (by unfold vp_in; decide), in8 hL (by unfold vp_in; decide), ?_⟩
  generalize xs (Int32.toNatClampNeg (0 + 1)) = x
  generalize xs (Int32.toNatClampNeg (0 + 2)) = y
  generalize xs (Int32.toNatClampNeg (0 + 3)) = z
  unfold w_L_level w_X6_level w_X6_requireCell
  refine s_isInWorld (fun hin => bb_l (by decide) (s_stateAt (fun a b c ha hb hc ex ey ez => ?_) (fun h => absurd hin h))) (fun hout => bb_r (by decide) ⟨rfl, ?_⟩)
  · refine ⟨in8 hL (by unfold vp_in; decide), in8 hL (by unfold vp_in; decide), in8 hL (by unfold vp_in; decide), ?_⟩
    unfold w_X7_level
    refine s_isWorld (fun _ => bb_l (by decide) ?_) (fun h => absurd hin h)
    subst ex; subst ey; subst ez
    have hi := ix_lt ha hb hc
    unfold w_X7_at
    rw [ix_M]
    exact s_isHere hi (bb_r (by decide) ⟨vp_in_nI hi (by decide), lw_ok hL rfl (fun _ => rfl)⟩)
  · refine ⟨in8 hL (by unfold vp_in; decide), in8 hL (by unfold vp_in; decide), in8 hL (by unfold vp_in; decide), ?_⟩
    unfold w_X7_level
    exact s_isWorld (fun h => absurd h hout) (fun _ => bb_r (by decide) (lw_ok hL rfl (fun h => absurd h (by decide))))
theorem s_requireKind {x : Int32} {Q : Prop} {Qx : String → Prop} (h1 : ¬ x < 0 → x < 7 → Q) (h0 : (x < 0 ∨ ¬ x < 7) → Qx "java/lang/IllegalArgumentException") : w_X6_requireKind x Q Qx := by
  unfold w_X6_requireKind
  exact ⟨fun c => h0 (Or.inl c), fun c => ⟨fun d => h1 c d, fun d => h0 (Or.inr d)⟩⟩
theorem lt6 (x : Int32) : (6 : Int32) < x ↔ ¬ x < 7 := by
  rw [Int32.lt_iff_toInt_lt, Int32.lt_iff_toInt_lt]
  show (6 : Int) < _ ↔ ¬ _ < (7 : Int)
  omega
theorem s_put {a b c : Nat} (ha : a < 16) (hb : b < 12) (hc : c < 16) {s : Int32} {f : Nat → Int32} {Q : (Nat → Int32) → Prop} (h : Q (upd f (ix a b c) s)) : w_X2_put (nI a) (nI b) (nI c) s f Q := by
  unfold w_X2_put
  refine s_isInWorld (fun _ => bb_r (by decide) ?_) (fun h0 => absurd (inW_nI ha hb hc) h0)
  have hi := ix_lt ha hb hc
  show vp_in _ 3072 ∧ Q _
  rw [ix_I]
  refine ⟨vp_in_nI hi (by decide), ?_⟩
  rw [nI_clamp (by omega)]
  exact h
theorem s_putM {j : Nat} (hj : j < 3072) {t : Int32} {f g : Nat → Int32} {Q : (Nat → Int32) → (Nat → Int32) → Prop} (h : Q (upd f j t) (upd g j (if t = 6 then 8 else 0))) : w_X7_put (nI j) t f g Q := by
  unfold w_X7_put w_X7_put_B24
  refine ⟨vp_in_nI hj (by decide), ?_⟩
  rw [nI_clamp (by omega)]
  refine ⟨fun c => ⟨vp_in_nI hj (by decide), ?_⟩, fun c => ⟨vp_in_nI hj (by decide), ?_⟩⟩
  · rw [if_neg c] at h; exact h
  · rw [if_pos c] at h; exact h
theorem p_case_0 {L : Nat} (hL : L = 8) (xs : Nat → Int32) : w_case_0 L xs := by
  unfold w_case_0
  refine ⟨in8 hL (by unfold vp_in; decide), in8 hL (by unfold vp_in; decide), in8 hL (by unfold vp_in; decide), in8 hL (by unfold vp_in; decide), ?_⟩
  generalize xs (Int32.toNatClampNeg (0 + 1)) = x
  generalize xs (Int32.toNatClampNeg (0 + 2)) = y
  generalize xs (Int32.toNatClampNeg (0 + 3)) = z
  generalize xs (Int32.toNatClampNeg (0 + 4)) = k
  unfold w_L_set w_X6_set w_X6_requireCell
  refine s_isInWorld (fun hin => bb_l (by decide) (s_requireKind (fun k1 k2 => ?_) (fun hk => Or.inr (Or.inl ⟨rfl, ?_⟩)))) (fun hout => bb_r (by decide) (Or.inl ⟨rfl, ?_⟩))
  · unfold w_X6_requireHere
    refine s_stateAt (fun a b c ha hb hc ex ey ez => bb_l (by decide) ?_) (fun h => absurd hin h)
    refine s_stateAt (fun _ _ _ _ _ _ _ _ _ => ?_) (fun h => absurd hin h)
    subst ex; subst ey; subst ez
    have hi := ix_lt ha hb hc
    have rest : ∀ f : Nat → Int32, vp_in (0 + 1) L ∧ vp_in (0 + 2) L ∧ vp_in (0 + 3) L ∧ vp_in (0 + 4) L ∧ w_X7_set (nI a) (nI b) (nI c) k 0 (fun _ => 0) (fun _ => 0) 0 (fun r103 y104 y105 y106 => w_X7_thrown y106 (fun r107 => (r107 = 0 → (¬ (0 : Int32) = 0 → ((Int32.ofNat L - 8) < (0 + 8) → True) ∧ (¬ (Int32.ofNat L - 8) < (0 + 8) → False)) ∧ ((0 : Int32) = 0 → (lg_cmp (vp_updL (fun _ => 0) (Int32.toNatClampNeg 0) (Int32.toInt64 (0 - 0 / 8 * 8)) (Int32.toNatClampNeg 0)) (Int32.toInt64 r103) = 0 → ((Int32.ofNat L - 8) < (0 + 8) → True) ∧ (¬ (Int32.ofNat L - 8) < (0 + 8) → False)) ∧ (¬ lg_cmp (vp_updL (fun _ => 0) (Int32.toNatClampNeg 0) (Int32.toInt64 (0 - 0 / 8 * 8)) (Int32.toNatClampNeg 0)) (Int32.toInt64 r103) = 0 → False))) ∧ (¬ r107 = 0 → False))) := by
      intro _
      refine ⟨in8 hL (by unfold vp_in; decide), in8 hL (by unfold vp_in; decide), in8 hL (by unfold vp_in; decide), in8 hL (by unfold vp_in; decide), ?_⟩
      unfold w_X7_set
      refine s_isWorld (fun _ => bb_l (by decide) (s_is (fun _ _ => bb_l (by decide) ?_) (fun h => ?_))) (fun h => absurd hin h)
      · unfold w_X7_at
        rw [ix_M]
        exact s_isHere hi (bb_l (by decide) ⟨vp_in_nI hi (by decide), s_putM hi (lw_ok hL rfl (fun _ => rfl))⟩)
      · rcases h with h | h
        · exact absurd h k1
        · exact absurd k2 ((lt6 k).mp h)
    unfold w_X6_stateOf w_X6_kindOf
    refine ⟨fun _ => s_put ha hb hc ?_, fun _ => s_put ha hb hc ?_⟩
    · exact rest (fun _ => 0)
    · exact rest (fun _ => 0)
  · refine ⟨in8 hL (by unfold vp_in; decide), in8 hL (by unfold vp_in; decide), in8 hL (by unfold vp_in; decide), in8 hL (by unfold vp_in; decide), ?_⟩
    unfold w_X7_set
    refine s_isWorld (fun _ => bb_l (by decide) (s_is (fun a1 a2 => ?_) (fun _ => bb_r (by decide) (lw_ok hL rfl (fun h => absurd h (by decide)))))) (fun h => absurd hin h)
    rcases hk with h | h
    · exact absurd h a1
    · exact absurd ((lt6 k).mpr h) a2
  · refine ⟨in8 hL (by unfold vp_in; decide), in8 hL (by unfold vp_in; decide), in8 hL (by unfold vp_in; decide), in8 hL (by unfold vp_in; decide), ?_⟩
    unfold w_X7_set
    exact s_isWorld (fun h => absurd h hout) (fun _ => bb_r (by decide) (lw_ok hL rfl (fun h => absurd h (by decide))))
theorem p_case_23 {L : Nat} (hL : L = 8) (xs : Nat → Int32) : w_case_23 L xs := by
  unfold w_case_23 w_L_turn w_X6_turn w_X6_requireClip w_X0_isNone
  exact bb_r (by decide) ⟨rfl, bb_r (by decide) ⟨rfl, bb_r (by decide) (lw_ok hL rfl (fun h => absurd h (by decide)))⟩⟩
/-- how many below n have it -/
def cnt (P : Nat → Prop) [DecidablePred P] : Nat → Nat
  | 0 => 0
  | n + 1 => cnt P n + if P n then 1 else 0
theorem s_stateOfCell {j : Nat} (hj : j < 3072) {f : Nat → Int32} {Q : Int32 → Prop} (h : Q (f j)) : w_X2_stateOfCell (nI j) 0 f Q := by
  unfold w_X2_stateOfCell
  refine s_isAway0 (bb_l (by decide) ⟨vp_in_nI hj (by decide), ?_⟩)
  show Q _
  rw [nI_clamp (by omega)]
  exact h
theorem nI_s (n : Nat) : nI n + 1 = nI (n + 1) := nI_1 n
theorem s_countOf {k : Int32} {f : Nat → Int32} {Q : Int32 → Prop} (h : Q (nI (cnt (fun j => f j - f j / 8 * 8 = k) 3072))) : w_X2_countOf k 0 f Q := by
  unfold w_X2_countOf
  refine q_up 3072 (fun j => (nI (cnt (fun j => f j - f j / 8 * 8 = k) j), nI j)) _ rfl (fun rec j hj hr => ?_) (fun rec => ?_)
  · refine bb_r (nI_ge hj (by decide)) (s_stateOfCell hj ?_)
    have e : cnt (fun j => f j - f j / 8 * 8 = k) (j + 1) = cnt (fun j => f j - f j / 8 * 8 = k) j + if f j - f j / 8 * 8 = k then 1 else 0 := rfl
    unfold w_X6_kindOf w_X2_countOf_B26
    refine ⟨fun c => ?_, fun c => ?_⟩
    · rw [if_neg c] at e
      rw [e] at hr
      show rec (_, nI j + 1)
      rw [nI_1]
      exact hr
    · rw [if_pos c] at e
      rw [e] at hr
      show rec (nI _ + 1, nI j + 1)
      rw [nI_1, nI_1]
      exact hr
  · exact bb_l (fun c => c (nI_le (Nat.le_refl 3072) (by decide))) h
theorem s_countNow {k : Int32} {f : Nat → Int32} {Q : Int32 → Prop} (h : Q (nI (cnt (fun j => f j = k) 3072))) : w_X7_countNow k 0 f Q := by
  unfold w_X7_countNow
  refine q_up 3072 (fun j => (nI (cnt (fun j => f j = k) j), nI j)) _ rfl (fun rec j hj hr => ?_) (fun rec => ?_)
  · refine bb_r (nI_ge hj (by decide)) (s_kindAt hj ?_)
    have e : cnt (fun j => f j = k) (j + 1) = cnt (fun j => f j = k) j + if f j = k then 1 else 0 := rfl
    unfold w_X7_countNow_B26
    refine ⟨fun c => ?_, fun c => ?_⟩
    · rw [if_neg c] at e
      rw [e] at hr
      show rec (nI _ + 0, nI j + 1)
      rw [nI_1, Int32.add_zero]
      exact hr
    · rw [if_pos c] at e
      rw [e] at hr
      show rec (nI _ + 1, nI j + 1)
      rw [nI_1, nI_1]
      exact hr
  · exact bb_l (fun c => c (nI_le (Nat.le_refl 3072) (by decide))) h
theorem p_case_9 {L : Nat} (hL : L = 8) (xs : Nat → Int32) : w_case_9 L xs := by
  unfold w_case_9
  refine ⟨in8 hL (by unfold vp_in; decide), ?_⟩
  generalize xs (Int32.toNatClampNeg (0 + 1)) = k
  unfold w_L_count w_X6_count
  refine s_requireKind (fun k1 k2 => s_countOf ⟨in8 hL (by unfold vp_in; decide), ?_⟩) (fun hk => ⟨rfl, in8 hL (by unfold vp_in; decide), ?_⟩)
  · unfold w_X7_count
    refine s_is (fun _ _ => bb_r (by decide) (s_countNow (lw_ok hL rfl (fun _ => ?_)))) (fun h => ?_)
    · rw [out0]
      rfl
    · rcases h with h | h
      · exact absurd h k1
      · exact absurd k2 ((lt6 k).mp h)
  · unfold w_X7_count
    refine s_is (fun a1 a2 => ?_) (fun _ => bb_l (by decide) (lw_ok hL rfl (fun h => absurd h (by decide))))
    rcases hk with h | h
    · exact absurd h a1
    · exact absurd ((lt6 k).mpr h) a2
