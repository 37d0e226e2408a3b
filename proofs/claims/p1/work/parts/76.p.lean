theorem p_case_8 {L : Nat} (hL : L = 8) (xs : Nat → Int32) : w_case_8 L xs := by
  unfold w_case_8
  refine ⟨vpL1 hL, vpL2 hL, ?_⟩
  generalize xs (Int32.toNatClampNeg (0 + 1)) = x
  generalize xs (Int32.toNatClampNeg (0 + 2)) = z
  have m1 : ∀ n : Nat, n < 12 → nI (12 - n) + (-1) = nI (11 - n) := fun n h => of1 (by omega)
  unfold w_L_top w_X6_top
  refine s_requireCell (fun hin => ?_) (fun hout => ⟨rfl, vpL1 hL, vpL2 hL, ?_⟩)
  · obtain ⟨a, b, c, ha, hb, hc, ex, ey, ez⟩ := inW_of hin
    subst ex; subst ez
    show w_X2_isAway (nI c / 4 * 4 + nI a / 4) 0 _
    refine s_isAway0 (bb_l (by decide) ?_)
    refine q_up 12 (fun j => nI (12 - j) + (-1)) _ (by decide) (fun rec j hj hr => ?_) (fun rec => ?_)
    · show w_X6_top_L26 _ _ _ _ _ _ _ _ (nI (12 - j) + (-1))
      rw [m1 j hj]
      refine bb_r (nI_pos (by omega)) (s_stateAt (fun _ _ _ _ _ _ _ _ _ => bb_r (by decide) ?_) (fun h => absurd (inW_nI ha (by omega) hc) h))
      have e : 12 - (j + 1) = 11 - j := by omega
      rw [e] at hr
      exact hr
    · refine bb_l (by decide) ⟨vpL1 hL, vpL2 hL, ?_⟩
      unfold w_X7_top
      refine s_isWorld (fun _ => bb_r (by decide) ?_) (fun h => absurd hin h)
      refine q_up 12 (fun j => nI (12 - j) + (-1)) _ (by decide) (fun rec j hj hr => ?_) (fun rec => ?_)
      · show w_X7_topNow_L3 _ _ _ _ _ _ _ (nI (12 - j) + (-1))
        rw [m1 j hj]
        refine bb_r (nI_pos (by omega)) ?_
        show w_X7_kindAt ((nI (11 - j) * 256) + (nI c * 16) + nI a) _ _ _
        rw [ix_M]
        refine s_kindAt (ix_lt ha (by omega) hc) (bb_r (by decide) ?_)
        have e : 12 - (j + 1) = 11 - j := by omega
        rw [e] at hr
        exact hr
      · exact bb_l (by decide) (lw_ok hL rfl (fun _ => rfl))
  · unfold w_X7_top
    exact s_isWorld (fun h => absurd h hout) (fun _ => bb_l (by decide) (lw_ok hL rfl (fun h => absurd h (by decide))))
theorem s_lookX6 {x y z : Int32} {k : Nat} (hk : k < 6) {Q : Int32 → Prop} {Qx : String → Prop} (h : Q 0) : ∃ n : Nat, q_loop (fun (rec : Int32 → Prop) (a : Int32) => w_X6_look_L14 x y z (nI k) 0 (fun _ => 0) Q Qx (fun v5 => rec v5) (w_X6_look_B86 x y z (nI k) 0 (fun _ => 0) Q Qx) (w_X6_look_B70 x y z (nI k) 0 (fun _ => 0) Q Qx) (w_X6_look_B77 x y z (nI k) 0 (fun _ => 0) Q Qx) a) n 1 := by
  refine q_up 15 (fun j => nI (j + 1)) _ rfl (fun rec j hj hr => ?_) (fun rec => ?_)
  · refine bb_r (nI_ge (show j + 1 < 16 by omega) (by decide)) ⟨vp_in_nI hk (by decide), vp_in_nI hk (by decide), vp_in_nI hk (by decide), ?_⟩
    refine s_stateAt (fun _ _ _ _ _ _ _ _ _ => bb_l (by decide) (bb_l (by decide) ?_)) (fun _ => bb_r (by decide) h)
    show rec (nI (j + 1) + 1)
    rw [nI_1]
    exact hr
  · exact bb_l (fun q => q (nI_le (Nat.le_refl 16) (by decide))) h
theorem s_lookX7 {x y z : Int32} {k j : Nat} (hk : k < 6) (hj : j < 3072) {Q : Int32 → Int32 → Prop} (h : Q 0 0) : w_X7_beside (nI j) (nI k) (fun r7 => ∃ n : Nat, q_loop (fun (rec : (Int32 × Int32 × Int32) → Prop) (a : Int32 × Int32 × Int32) => w_X7_look_L52 x y z (nI k) 0 (fun _ => 0) Q (fun v5 v6 m_thrown => rec (v5, v6, m_thrown)) (w_X7_look_B76 x y z (nI k) 0 (fun _ => 0) Q) a.1 a.2.1 a.2.2) n (1, r7, 0)) := by
  have go : ∀ v : Int32, (v = -1 ∨ ∃ i : Nat, i < 3072 ∧ v = nI i) → ∃ n : Nat, q_loop (fun (rec : (Int32 × Int32 × Int32) → Prop) (a : Int32 × Int32 × Int32) => w_X7_look_L52 x y z (nI k) 0 (fun _ => 0) Q (fun v5 v6 m_thrown => rec (v5, v6, m_thrown)) (w_X7_look_B76 x y z (nI k) 0 (fun _ => 0) Q) a.1 a.2.1 a.2.2) n (1, v, 0) := by
    intro v hv
    refine q_loop_ex (fun a => (a.2.1 = -1 ∨ ∃ i : Nat, i < 3072 ∧ a.2.1 = nI i) ∧ a.2.2 = 0) (fun a => if a.2.1 = -1 then 0 else mu k a.2.1.toNatClampNeg + 1) _ ⟨hv, rfl⟩ ?_
    rintro rec ⟨p, v, t⟩ ⟨hv, ht⟩ hrec
    have ht : t = 0 := ht
    subst ht
    rcases hv with hv | ⟨i, hi, hv⟩
    · have hv : v = -1 := hv
      subst hv
      refine s_kindAtM (bb_l (by decide) ?_)
      exact s_isHereM (bb_l (by decide) h)
    · have hv : v = nI i := hv
      subst hv
      refine s_kindAt hi (bb_r (by decide) (s_beside hi hk (fun i2 hi2 hn => hrec _ ⟨Or.inr ⟨i2, hi2, rfl⟩, rfl⟩ ?_) (fun _ => hrec _ ⟨Or.inl rfl, rfl⟩ ?_)))
      · show (if nI i2 = -1 then 0 else mu k (nI i2).toNatClampNeg + 1) < (if nI i = -1 then 0 else mu k (nI i).toNatClampNeg + 1)
        rw [if_neg (nI_neM (by omega)), if_neg (nI_neM (by omega)), nI_clamp (by omega), nI_clamp (by omega)]
        have := mu_lt hi hi2 hn
        omega
      · show (if (-1 : Int32) = -1 then 0 else mu k (-1 : Int32).toNatClampNeg + 1) < (if nI i = -1 then 0 else mu k (nI i).toNatClampNeg + 1)
        rw [if_neg (nI_neM (by omega)), if_pos rfl]
        omega
  exact s_beside hj hk (fun i hi _ => go _ (Or.inr ⟨i, hi, rfl⟩)) (fun _ => go _ (Or.inl rfl))
theorem p_case_10 {L : Nat} (hL : L = 8) (xs : Nat → Int32) : w_case_10 L xs := by
  unfold w_case_10
  refine ⟨vpL1 hL, vpL2 hL, vpL3 hL, vpL4 hL, ?_⟩
  generalize xs (Int32.toNatClampNeg (0 + 1)) = x
  generalize xs (Int32.toNatClampNeg (0 + 2)) = y
  generalize xs (Int32.toNatClampNeg (0 + 3)) = z
  generalize xs (Int32.toNatClampNeg (0 + 4)) = k
  unfold w_L_look w_X6_look
  refine s_requireCell (fun hin => s_requireSide (fun k0 hk e => ?_) (fun hk => Or.inr ⟨rfl, vpL1 hL, vpL2 hL, vpL3 hL, vpL4 hL, ?_⟩)) (fun hout => Or.inl ⟨rfl, vpL1 hL, vpL2 hL, vpL3 hL, vpL4 hL, ?_⟩)
  · subst e
    refine s_lookX6 hk ⟨vpL1 hL, vpL2 hL, vpL3 hL, vpL4 hL, ?_⟩
    unfold w_X7_look
    refine s_isWorld (fun _ => bb_l (by decide) (s_isSide (fun k1 hk1 e1 => bb_l (by decide) ?_) (fun h => (side_no hk rfl h).elim))) (fun h => absurd hin h)
    obtain ⟨a, b, c, ha, hb, hc, rfl, rfl, rfl⟩ := inW_of hin
    show w_X7_beside ((nI b * 256) + (nI c * 16) + nI a) (nI k0) _
    rw [ix_M]
    exact s_lookX7 hk (ix_lt ha hb hc) (lw_ok hL rfl (fun _ => rfl))
  · unfold w_X7_look
    refine s_isWorld (fun _ => bb_l (by decide) (s_isSide (fun k1 hk1 e1 => (side_no hk1 e1 hk).elim) (fun h => bb_r (by decide) (lw_ok hL rfl (fun h => absurd h (by decide)))))) (fun h => absurd hin h)
  · unfold w_X7_look
    exact s_isWorld (fun h => absurd h hout) (fun _ => bb_r (by decide) (lw_ok hL rfl (fun h => absurd h (by decide))))
