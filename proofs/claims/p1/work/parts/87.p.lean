/-- the pure side, whole: every script of at most 8 ints -/
theorem p_law {L : Nat} (hL : L ≤ 8) (xs : Nat → Int32) : w_law L xs := by
  unfold w_law
  intro c
  have h8 : L = 8 := by
    by_cases e : L = 8
    · exact e
    · exact absurd (pk_sneg (a := L) (b := 8) (by omega) (by omega)) c
  refine ⟨in8 h8 (by unfold vp_in; decide), fun j _ _ => ?_⟩
  exact ⟨fun _ => p_case_0 h8 xs, fun _ => p_case_1 h8 xs, fun _ => p_case_2 h8 xs, fun _ => p_case_3 h8 xs, fun _ => p_case_4 h8 xs, fun _ => p_case_5 h8 xs, fun _ => p_case_6 h8 xs, fun _ => p_case_7 h8 xs, fun _ => p_case_8 h8 xs, fun _ => p_case_9 h8 xs, fun _ => p_case_10 h8 xs, fun _ => p_case_11 h8 xs, fun _ => p_case_12 h8 xs, fun _ => p_case_13 h8 xs, fun _ => p_case_14 h8 xs, fun _ => p_case_15 h8 xs, fun _ => p_case_16 h8 xs, fun _ => p_case_17 h8 xs, fun _ => p_case_18 h8 xs, fun _ => p_case_19 h8 xs, fun _ => p_case_20 h8 xs, fun _ => p_case_21 h8 xs, fun _ => p_case_22 h8 xs, fun _ => p_case_23 h8 xs, fun _ => p_case_24 h8 xs, fun _ => p_case_25 h8 xs, fun _ => p_case_26 h8 xs, fun _ => p_case_27 h8 xs, fun _ => p_case_28 h8 xs, fun _ => p_case_29 h8 xs⟩
