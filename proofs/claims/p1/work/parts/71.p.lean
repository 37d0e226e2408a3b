theorem lw_eq {L : Nat} (hL : L = 8) {α : Type} {a b : α} (h : a = b) : (a = b → ((Int32.ofNat L - 8) < (0 + 8) → True) ∧ (¬ (Int32.ofNat L - 8) < (0 + 8) → False)) ∧ (¬ a = b → False) := bb_l (fun q => q h) (lw_over hL)
theorem in8 {L : Nat} (hL : L = 8) {i : Int32} (h : vp_in i 8) : vp_in i L := by rw [hL]; exact h
theorem p_case_29 {L : Nat} (hL : L = 8) (xs : Nat → Int32) : w_case_29 L xs := by
  unfold w_case_29
  exact lw_over hL
theorem p_case_5 {L : Nat} (hL : L = 8) (xs : Nat → Int32) : w_case_5 L xs := by
  unfold w_case_5
  exact lw_eq hL rfl
theorem p_case_11 {L : Nat} (hL : L = 8) (xs : Nat → Int32) : w_case_11 L xs := by
  unfold w_case_11
  exact lw_eq hL rfl
theorem out0 {f : Nat → Int64} {r : Int64} : vp_updL f (Int32.toNatClampNeg 0) r 0 = r := rfl
theorem p_case_6 {L : Nat} (hL : L = 8) (xs : Nat → Int32) : w_case_6 L xs := by
  unfold w_case_6
  refine ⟨in8 hL (by unfold vp_in; decide), in8 hL (by unfold vp_in; decide), in8 hL (by unfold vp_in; decide), ?_⟩
  generalize xs (Int32.toNatClampNeg (0 + 1)) = x
  generalize xs (Int32.toNatClampNeg (0 + 2)) = y
  generalize xs (Int32.toNatClampNeg (0 + 3)) = z
  unfold w_L_kind w_X6_kind w_X6_requireCell
  refine s_isInWorld (fun hin => bb_l (by decide) (s_stateAt (fun a b c ha hb hc ex ey ez => bb_l (by decide) ?_) (fun h => absurd hin h))) (fun hout => bb_r (by decide) ⟨rfl, ?_⟩)
  · refine ⟨in8 hL (by unfold vp_in; decide), in8 hL (by unfold vp_in; decide), in8 hL (by unfold vp_in; decide), ?_⟩
    unfold w_X7_kind
    refine s_isWorld (fun _ => bb_r (by decide) ?_) (fun h => absurd hin h)
    subst ex; subst ey; subst ez
    unfold w_X7_at
    rw [ix_M]
    exact s_kindAt (ix_lt ha hb hc) (lw_ok hL rfl (fun _ => by decide))
  · refine ⟨in8 hL (by unfold vp_in; decide), in8 hL (by unfold vp_in; decide), in8 hL (by unfold vp_in; decide), ?_⟩
    unfold w_X7_kind
    exact s_isWorld (fun h => absurd h hout) (fun _ => bb_l (by decide) (lw_ok hL rfl (fun h => absurd h (by decide))))
