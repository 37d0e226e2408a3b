theorem p_case_12 {L : Nat} (hL : L = 8) (xs : Nat → Int32) : w_case_12 L xs := by
  unfold w_case_12
  refine ⟨in8 hL (by unfold vp_in; decide), ?_⟩
  generalize xs (Int32.toNatClampNeg (0 + 1)) = x
  unfold w_L_runs w_X6_runs
  refine s_requireChunk (fun c hc e => ?_) (fun hx => ⟨rfl, in8 hL (by unfold vp_in; decide), ?_⟩)
  · subst e
    refine s_read hc (fun l r hr hl => ⟨in8 hL (by unfold vp_in; decide), ?_⟩)
    unfold w_X7_runs
    exact s_isChunk (fun c' hc' e => bb_r (by decide) (by rw [e]; exact s_runsNow hc' (lw_ok hL rfl (fun _ => rfl)))) (fun h => (chunk_no hc rfl h).elim)
  · unfold w_X7_runs
    exact s_isChunk (fun c hc e => (chunk_no hc e hx).elim) (fun _ => bb_l (by decide) (lw_ok hL rfl (fun h => absurd h (by decide))))
theorem p_case_3 {L : Nat} (hL : L = 8) (xs : Nat → Int32) : w_case_3 L xs := by
  unfold w_case_3
  refine ⟨in8 hL (by unfold vp_in; decide), in8 hL (by unfold vp_in; decide), ?_⟩
  generalize xs (Int32.toNatClampNeg (0 + 1)) = x
  generalize xs (Int32.toNatClampNeg (0 + 2)) = b
  have key : ∀ (v : Int32) (u : Int32 → (Nat → Int64) → Prop), (∀ (r : Int32) (f : Nat → Int64), (r = 1 ∧ f = (fun _ => 0) ∧ (x < 0 ∨ 15 < x)) ∨ (r = 0 ∧ f 0 = Int32.toInt64 1 ∧ ¬ (x < 0 ∨ 15 < x)) → u r f) → w_L_send x v 0 (fun _ => 0) 0 (fun _ => 0) (fun _ => 0) 0 (fun _ => 0) u := by
    intro v u hu
    unfold w_L_send w_X6_send
    refine s_requireChunk (fun c hc e => ?_) (fun hx => ⟨rfl, hu _ _ (Or.inl ⟨rfl, rfl, hx⟩)⟩)
    have hno : ¬ (x < 0 ∨ 15 < x) := fun h => chunk_no hc e h
    unfold w_X2_mark w_X2_mark_B26
    subst e
    exact ⟨fun _ => s_read hc (fun l r hr hl => hu _ _ (Or.inr ⟨rfl, rfl, hno⟩)), fun _ => s_read hc (fun l r hr hl => hu _ _ (Or.inr ⟨rfl, rfl, hno⟩))⟩
  have keyM : ∀ (v : Int32) (u : Int32 → Int32 → Int32 → Prop), (∀ r a t : Int32, (t = 1 ∧ (x < 0 ∨ 15 < x)) ∨ (t = 0 ∧ r = 1 ∧ ¬ (x < 0 ∨ 15 < x)) → u r a t) → w_X7_send x v 0 (fun _ => 0) (fun _ => 0) 0 u := by
    intro v u hu
    unfold w_X7_send w_X7_send_B47
    refine s_isChunk (fun c hc e => bb_l (by decide) ?_) (fun hx => bb_r (by decide) (hu _ _ _ (Or.inl ⟨rfl, hx⟩)))
    have hno : ¬ (x < 0 ∨ 15 < x) := fun h => chunk_no hc e h
    subst e
    exact ⟨fun _ => s_runsNow hc (hu _ _ _ (Or.inr ⟨rfl, rfl, hno⟩)), fun _ => s_runsNow hc (hu _ _ _ (Or.inr ⟨rfl, rfl, hno⟩))⟩
  refine ⟨fun _ => key _ _ (fun r f h => ⟨in8 hL (by unfold vp_in; decide), in8 hL (by unfold vp_in; decide), fun _ => keyM _ _ (fun r2 a t h2 => ?_), fun _ => keyM _ _ (fun r2 a t h2 => ?_)⟩), fun _ => key _ _ (fun r f h => ⟨in8 hL (by unfold vp_in; decide), in8 hL (by unfold vp_in; decide), fun _ => keyM _ _ (fun r2 a t h2 => ?_), fun _ => keyM _ _ (fun r2 a t h2 => ?_)⟩)⟩
  all_goals
    rcases h with ⟨rfl, rfl, hx⟩ | ⟨rfl, hf, hx⟩ <;> rcases h2 with ⟨rfl, hx2⟩ | ⟨rfl, rfl, hx2⟩
    · exact lw_ok hL rfl (fun h => absurd h (by decide))
    · exact absurd hx hx2
    · exact absurd hx2 hx
    · exact lw_ok hL rfl (fun _ => hf)
theorem p_case_13 {L : Nat} (hL : L = 8) (xs : Nat → Int32) : w_case_13 L xs := by
  unfold w_case_13
  refine ⟨in8 hL (by unfold vp_in; decide), in8 hL (by unfold vp_in; decide), in8 hL (by unfold vp_in; decide), ?_⟩
  generalize xs (Int32.toNatClampNeg (0 + 1)) = x
  generalize xs (Int32.toNatClampNeg (0 + 2)) = y
  generalize xs (Int32.toNatClampNeg (0 + 3)) = z
  have tail1 : ∀ (P : Int32 → Int32 → Prop), P 0 1 → (x < 0 ∨ 15 < x) → w_X7_run x y z (fun _ => 0) (fun _ => 0) 0 P := by
    intro P hP hx
    unfold w_X7_run
    exact s_isChunk (fun c hc e => (chunk_no hc e hx).elim) (fun _ => bb_l (by decide) hP)
  have y1 : y < 1 ↔ ¬ (0 < y) := by
    rw [Int32.lt_iff_toInt_lt, Int32.lt_iff_toInt_lt]
    show _ < (1 : Int) ↔ ¬ (0 : Int) < _
    omega
  have z2 : (2 : Int32) < z ↔ ¬ z < 3 := by
    rw [Int32.lt_iff_toInt_lt, Int32.lt_iff_toInt_lt]
    show (2 : Int) < _ ↔ ¬ _ < (3 : Int)
    omega
  have tail2 : ∀ (P : Int32 → Int32 → Prop) (c : Nat), c < 16 → x = nI c → P 0 1 → (y < 0 ∨ ¬ y < 1) → w_X7_run x y z (fun _ => 0) (fun _ => 0) 0 P := by
    intro P c hc e hP hy
    unfold w_X7_run
    refine s_isChunk (fun c' hc' e' => bb_r (by decide) ?_) (fun h => (chunk_no hc e h).elim)
    rw [e']
    refine s_runsNow hc' (s_is (fun a1 a2 => ?_) (fun _ => bb_r (by decide) hP))
    rcases hy with h | h
    · exact absurd h a1
    · exact absurd (Classical.not_not.mp (fun q => h (y1.mpr q))) a2
  have tail3 : ∀ (P : Int32 → Int32 → Prop) (c : Nat), c < 16 → x = nI c → P 0 2 → ¬ y < 0 → y < 1 → (z < 0 ∨ ¬ z < 3) → w_X7_run x y z (fun _ => 0) (fun _ => 0) 0 P := by
    intro P c hc e hP hy1 hy2 hz
    unfold w_X7_run
    refine s_isChunk (fun c' hc' e' => bb_r (by decide) ?_) (fun h => (chunk_no hc e h).elim)
    rw [e']
    refine s_runsNow hc' (s_is (fun a1 a2 => bb_l (by decide) (s_is (fun b1 b2 => ?_) (fun _ => bb_l (by decide) hP))) (fun h => ?_))
    · rcases hz with h | h
      · exact absurd h b1
      · exact absurd (z2.mpr h) b2
    · rcases h with h | h
      · exact absurd h hy1
      · exact absurd h (y1.mp hy2)
  unfold w_L_run w_X6_run
  refine s_requireChunk (fun c hc e => ?_) (fun hx => Or.inl ⟨rfl, in8 hL (by unfold vp_in; decide), in8 hL (by unfold vp_in; decide), in8 hL (by unfold vp_in; decide), tail1 _ (lw_ok hL rfl (fun h => absurd h (by decide))) hx⟩)
  have e0 := e
  subst e
  refine s_read hc (fun l r hr hl => ⟨fun hy => Or.inl ⟨rfl, in8 hL (by unfold vp_in; decide), in8 hL (by unfold vp_in; decide), in8 hL (by unfold vp_in; decide), tail2 _ c hc e0 (lw_ok hL rfl (fun h => absurd h (by decide))) (Or.inl hy)⟩, fun hy => ⟨fun hy1 => ⟨fun hz => Or.inr ⟨rfl, in8 hL (by unfold vp_in; decide), in8 hL (by unfold vp_in; decide), in8 hL (by unfold vp_in; decide), tail3 _ c hc e0 (lw_ok hL rfl (fun h => absurd h (by decide))) hy hy1 (Or.inl hz)⟩, fun hz => ⟨fun hz1 => ?_, fun hz1 => Or.inr ⟨rfl, in8 hL (by unfold vp_in; decide), in8 hL (by unfold vp_in; decide), in8 hL (by unfold vp_in; decide), tail3 _ c hc e0 (lw_ok hL rfl (fun h => absurd h (by decide))) hy hy1 (Or.inr hz1)⟩⟩⟩, fun hy1 => Or.inl ⟨rfl, in8 hL (by unfold vp_in; decide), in8 hL (by unfold vp_in; decide), in8 hL (by unfold vp_in; decide), tail2 _ c hc e0 (lw_ok hL rfl (fun h => absurd h (by decide))) (Or.inr hy1)⟩⟩⟩)
  have ey : y = 0 := by
    apply Int32.toInt_inj.mp
    have h1 : ¬ y.toInt < 0 := fun h => hy (Int32.lt_iff_toInt_lt.mpr h)
    have h2 : y.toInt < 1 := Int32.lt_iff_toInt_lt.mp hy1
    show y.toInt = 0
    omega
  subst ey
  have good : ∀ (P : Int32 → Int32 → Prop) (w : Nat) , w < 3 → z = nI w → P (if w = 2 then nI 192 else 0) 0 → w_X7_run (nI c) 0 z (fun _ => 0) (fun _ => 0) 0 P := by
    intro P w hw ez hP
    unfold w_X7_run
    refine s_isChunk (fun c' hc' e' => bb_r (by decide) ?_) (fun h => (chunk_no hc rfl h).elim)
    rw [e']
    refine s_runsNow hc' (s_is (fun a1 a2 => bb_l (by decide) (s_is (fun b1 b2 => bb_r (by decide) ?_) (fun h => ?_))) (fun h => ?_))
    · unfold w_X7_runNow
      refine q_up 0 (fun _ => ((0 : Int32), (0 : Int32))) _ rfl (fun rec j hj _ => absurd hj (Nat.not_lt_zero _)) (fun rec => bb_l (by decide) ?_)
      refine s_cellOf hc' (k := 0) (by decide) (fun i hi => ⟨vp_in_nI hi (by decide), by unfold vp_in; decide, s_cellOf hc' (k := 0) (by decide) (fun i hi => ⟨vp_in_nI hi (by decide), by unfold vp_in; decide, s_lengthFrom hc' ⟨by unfold vp_in; decide, ?_⟩⟩)⟩)
      subst ez
      refine ⟨vp_in_nI hw (by decide), ?_⟩
      rw [nI_clamp (by omega)]
      rcases (show w = 0 ∨ w = 1 ∨ w = 2 by omega) with rfl | rfl | rfl
      · exact hP
      · exact hP
      · exact hP
    · rcases h with h | h
      · exact absurd h hz
      · exact absurd hz1 (z2.mp h)
    · rcases h with h | h
      · exact absurd h (by decide)
      · exact absurd h (by decide)
  unfold w_X5_number w_X6_kindOf w_X6_levelOf
  have e9 : Int32.toNatClampNeg 0 = 0 := by decide
  rw [e9, hr, hl]
  refine bb_r (by decide) (bb_l (by decide) ⟨fun q => ⟨by unfold vp_in; decide, ?_⟩, fun q => ⟨by unfold vp_in; decide, ?_⟩, fun q q2 => ⟨by unfold vp_in; decide, ?_⟩⟩)
  · exact ⟨in8 hL (by unfold vp_in; decide), in8 hL (by unfold vp_in; decide), in8 hL (by unfold vp_in; decide), good _ 0 (by decide) q (lw_ok hL rfl (fun _ => rfl))⟩
  · exact ⟨in8 hL (by unfold vp_in; decide), in8 hL (by unfold vp_in; decide), in8 hL (by unfold vp_in; decide), good _ 1 (by decide) q (lw_ok hL rfl (fun _ => rfl))⟩
  · have q3 : z = nI 2 := by
      apply Int32.toInt_inj.mp
      have h1 : ¬ z.toInt < 0 := fun h => hz (Int32.lt_iff_toInt_lt.mpr h)
      have h2 : z.toInt < 3 := Int32.lt_iff_toInt_lt.mp hz1
      have h3 : z.toInt ≠ 0 := fun h => q (Int32.toInt_inj.mp h)
      have h4 : z.toInt ≠ 1 := fun h => q2 (Int32.toInt_inj.mp h)
      show z.toInt = 2
      omega
    exact ⟨in8 hL (by unfold vp_in; decide), in8 hL (by unfold vp_in; decide), in8 hL (by unfold vp_in; decide), good _ 2 (by decide) q3 (lw_ok hL rfl (fun _ => rfl))⟩
