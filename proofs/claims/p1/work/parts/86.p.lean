theorem s_foldFaces {x : Int64} {c : Nat} (hc : c < 16) {k ax fc qd zV sU sV : Int32} {op nu : Nat → Int32} {Q : Int64 → Int32 → Int32 → (Nat → Int32) → (Nat → Int32) → Int32 → Int32 → Int32 → Int32 → Prop} (h : ∀ y1 y2 y3 y4 y5 y6 y7 y8, Q (fF (fF x 0) 0) y1 y2 y3 y4 y5 y6 y7 y8) : w_X6_foldFaces x (nI c) k 0 (fun _ => 0) ax fc nu op qd zV sU sV Q := by
  unfold w_X6_foldFaces
  exact s_lay hc (fun y1 y3 y4 y6 y7 y8 => h _ _ _ _ _ _ _ _)
/-- what stands behind the runs -/
def dEnd (x : Int64) : Int64 := fF (itI dT 16 (itI dF 16 (itI dD 3 (dC x 7)))) (nI 0)
theorem s_dig7e {g s : Nat → Int32} {x : Int64} {Q : Int64 → (Nat → Int32) → (Nat → Int32) → (Nat → Int32) → (Nat → Int32) → Int64 → Int32 → Int32 → Prop} (h : ∀ g k l s a b c, Q (fF (itI dT 16 x) (nI 0)) g k l s a b c) : w_X7_digest_B214 0 Q 416 1920 g (fun _ => 0) (fun _ => 0) s x 0 0 := by
  unfold w_X7_digest_B214
  have zz : 416 + 0 ≤ 431 ∧ 1920 + 0 ≤ 48000 := by decide
  refine q_up 16 (fun t => (nI t, 416, 1920, g, (fun _ => 0 : Nat → Int32), (fun _ => 0 : Nat → Int32), s, itI dT t x, (0 : Int32), (0 : Int32))) _ rfl (fun rec t ht hrec => ?_) (fun rec => ?_)
  · have go : rec (nI t + 1, 416, 1920, g, (fun _ => 0), (fun _ => 0), s, dT (itI dT t x), 0, 0) := by rw [nI_1]; exact hrec
    exact bb_r (nI_ge ht (by decide)) ⟨zz, s_topNow ht ⟨zz, go⟩⟩
  · refine bb_l (fun q => q (nI_le (Nat.le_refl 16) (by decide))) ?_
    exact ⟨(show 416 + 15 ≤ 431 ∧ 1920 + 46080 ≤ 48000 by decide), s_ahead0 (T := 3) (by decide) (by decide) (fun k l t => ⟨(show 416 + 15 + 0 ≤ 431 ∧ 1920 + 46080 + 0 ≤ 48000 by decide), (show 416 + 15 ≤ 431 ∧ 1920 + 46080 ≤ 48000 by decide), h _ _ _ _ _ _ _⟩)⟩
theorem s_dig7d {g s : Nat → Int32} {x : Int64} {Q : Int64 → (Nat → Int32) → (Nat → Int32) → (Nat → Int32) → (Nat → Int32) → Int64 → Int32 → Int32 → Prop} (h : ∀ g k l s a b c, Q (fF (itI dT 16 (itI dF 16 x)) (nI 0)) g k l s a b c) : w_X7_digest_B160 0 Q 0 0 g (fun _ => 0) (fun _ => 0) s x 0 0 := by
  unfold w_X7_digest_B160
  refine q_up 16 (fun t => (nI t, 26 * t, 120 * t, g, (fun _ => 0 : Nat → Int32), (fun _ => 0 : Nat → Int32), s, itI dF t x, (0 : Int32), (0 : Int32))) _ rfl (fun rec t ht hrec => ?_) (fun rec => ?_)
  · have go : rec (nI t + 1, 26 * t + 13 + 13, 120 * t + 60 + 60, g, (fun _ => 0), (fun _ => 0), s, dF (itI dF t x), 0, 0) := by
      rw [nI_1]
      exact hrec
    have n0 : 26 * t + 0 ≤ 431 ∧ 120 * t + 0 ≤ 48000 := by omega
    have n1 : 26 * t + 13 ≤ 431 ∧ 120 * t + 60 ≤ 48000 := by omega
    have n2 : 26 * t + 13 + 13 ≤ 431 ∧ 120 * t + 60 + 60 ≤ 48000 := by omega
    exact bb_r (nI_ge ht (by decide)) ⟨n0, s_facesNow ht ⟨n0, n1, s_quadsNow (k := 3) ht (by decide) ⟨n1, n1, s_facesNow ht ⟨n1, n2, s_quadsNow (k := 0) ht (by decide) ⟨n2, go⟩⟩⟩⟩⟩
  · refine bb_l (fun q => q (nI_le (Nat.le_refl 16) (by decide))) ?_
    exact s_dig7e h
theorem s_dig7c {x : Int64} {Q : Int64 → (Nat → Int32) → (Nat → Int32) → (Nat → Int32) → (Nat → Int32) → Int64 → Int32 → Int32 → Prop} (h : ∀ g k l s a b c, Q (fF (itI dT 16 (itI dF 16 (itI dD 3 x))) (nI 0)) g k l s a b c) : w_X7_digest_B133 0 Q 0 0 (fun _ => 0) (fun _ => 0) (fun _ => 0) (fun _ => 0) x 0 0 := by
  unfold w_X7_digest_B133
  have zz : 0 + 0 ≤ 431 ∧ 0 + 0 ≤ 48000 := by decide
  refine ⟨zz, s_shine0 (fun g s hg hs => ?_)⟩
  refine q_up 3 (fun t => (nI (4 + 4 * t), 0, 0, g, (fun _ => 0 : Nat → Int32), (fun _ => 0 : Nat → Int32), s, itI dD t x, (0 : Int32), (0 : Int32))) _ rfl (fun rec t ht hrec => ?_) (fun rec => ?_)
  · have go : rec (nI (4 + 4 * t) + 4, 0, 0, g, (fun _ => 0), (fun _ => 0), s, dD (itI dD t x), 0, 0) := by
      rw [nI_p4]
      exact hrec
    exact bb_r (show ¬ nI 12 < nI (4 + 4 * t) from nI_nlt (by omega) (by omega)) ⟨zz, s_darkNow (fun i hi _ => (show nI (4 + 4 * t) ≤ s i by rw [hs i hi]; exact nI_le (b := 15) (by omega) (by omega))) ⟨zz, go⟩⟩
  · refine bb_l (fun q => q (nI_lt (show 12 < 4 + 4 * 3 by omega) (by decide))) ?_
    exact s_dig7d h
theorem s_dig7b {x : Int64} {Q : Int64 → (Nat → Int32) → (Nat → Int32) → (Nat → Int32) → (Nat → Int32) → Int64 → Int32 → Int32 → Prop} (h : ∀ g k l s a b c, Q (dEnd x) g k l s a b c) : w_X7_digest_B110 0 Q 0 0 (fun _ => 0) (fun _ => 0) (fun _ => 0) (fun _ => 0) x 0 0 := by
  unfold w_X7_digest_B110
  have zz : 0 + 0 ≤ 431 ∧ 0 + 0 ≤ 48000 := by decide
  refine q_up 7 (fun t => (nI t, 0, 0, (fun _ => 0 : Nat → Int32), (fun _ => 0 : Nat → Int32), (fun _ => 0 : Nat → Int32), (fun _ => 0 : Nat → Int32), dC x t, (0 : Int32), (0 : Int32))) _ rfl (fun rec t ht hrec => ?_) (fun rec => ?_)
  · have go : rec (nI t + 1, 0, 0, (fun _ => 0), (fun _ => 0), (fun _ => 0), (fun _ => 0), dC x (t + 1), 0, 0) := by rw [nI_1]; exact hrec
    exact bb_r (show ¬ nI 6 < nI t from nI_nlt (by omega) (by omega)) ⟨zz, s_countNow ⟨zz, go⟩⟩
  · refine bb_l (fun q => q (nI_lt (show 6 < 7 by omega) (by decide))) ?_
    exact s_dig7c h
theorem s_dig7 {Q : Int64 → (Nat → Int32) → (Nat → Int32) → (Nat → Int32) → (Nat → Int32) → Int64 → Int32 → Int32 → Prop} (h : ∀ g k l s a b c, Q (dEnd (itI dR 16 (fF (fF 58054 0) 0))) g k l s a b c) : w_X7_digest 0 (fun _ => 0) (fun _ => 0) (fun _ => 0) (fun _ => 0) 0 0 0 Q := by
  unfold w_X7_digest
  refine ⟨by decide, by decide, ?_⟩
  show ∃ n : Nat, q_loop _ n (0, 0, 0, (fun _ => 0), (fun _ => 0), (fun _ => 0), (fun _ => 0), fF (fF 58054 0) 0, 0, 0)
  refine q_up 16 (fun t => (nI t, 0, 0, (fun _ => 0 : Nat → Int32), (fun _ => 0 : Nat → Int32), (fun _ => 0 : Nat → Int32), (fun _ => 0 : Nat → Int32), itI dR t (fF (fF 58054 0) 0), (0 : Int32), (0 : Int32))) _ rfl (fun rec t ht hrec => ?_) (fun rec => ?_)
  · refine bb_r (nI_ge ht (by decide)) ⟨(show 0 + 0 ≤ 431 ∧ 0 + 0 ≤ 48000 by decide), s_runsNow ht ⟨(show 0 + 0 ≤ 431 ∧ 0 + 0 ≤ 48000 by decide), ?_⟩⟩
    have go : rec (nI t + 1, 0, 0, (fun _ => 0), (fun _ => 0), (fun _ => 0), (fun _ => 0), dR (itI dR t (fF (fF 58054 0) 0)), 0, 0) := by rw [nI_1]; exact hrec
    show ∃ n : Nat, q_loop _ n (nI t, 0, 0, 0, (fun _ => 0), (fun _ => 0), (fun _ => 0), (fun _ => 0), fF (itI dR t (fF (fF 58054 0) 0)) 1, 0, 0)
    refine q_up 1 (fun j => (nI t, (if j = 0 then (0 : Int32) else nI 192), 0, 0, (fun _ => 0 : Nat → Int32), (fun _ => 0 : Nat → Int32), (fun _ => 0 : Nat → Int32), (fun _ => 0 : Nat → Int32), (if j = 0 then fF (itI dR t (fF (fF 58054 0) 0)) 1 else dR (itI dR t (fF (fF 58054 0) 0))), (0 : Int32), (0 : Int32))) _ rfl (fun rec2 j hj hrec2 => ?_) (fun rec2 => bb_l (fun q => q (show (192 : Int32) ≤ nI 192 by decide)) go)
    have hj0 : j = 0 := by omega
    subst hj0
    have zz : 0 + 0 ≤ 431 ∧ 0 + 0 ≤ 48000 := by decide
    refine bb_r (show ¬ (192 : Int32) ≤ 0 by decide) ⟨zz, s_cellOf ht (k := 0) (by decide) (fun i hi => ⟨vp_in_nI hi (by decide), zz, zz, s_cellOf ht (k := 0) (by decide) (fun i2 hi2 => ⟨vp_in_nI hi2 (by decide), zz, zz, s_lengthFrom ht ⟨zz, zz, s_lengthFrom ht ?_⟩⟩)⟩)⟩
    show rec2 (nI t, 0 + nI 192, 0, 0, (fun _ => 0), (fun _ => 0), (fun _ => 0), (fun _ => 0), dR (itI dR t (fF (fF 58054 0) 0)), 0, 0)
    rw [Int32.zero_add]
    exact hrec2
  · refine bb_l (fun q => q (nI_le (Nat.le_refl 16) (by decide))) ?_
    exact s_dig7b h
theorem s_lightUpD {il : Int32} {g s : Nat → Int32} (hi : (il = 0 ∧ g = (fun _ => 0) ∧ s = (fun _ => 0)) ∨ (¬ il = 0 ∧ lit g 0 ∧ lit s 15)) {Q : Int32 → (Nat → Int32) → (Nat → Int32) → Prop} (h : ∀ il g s, ¬ il = 0 → lit g 0 → lit s 15 → Q il g s) : w_X6_lightUp 0 (fun _ => 0) il g s Q := by
  rcases hi with ⟨rfl, rfl, rfl⟩ | ⟨h0, hg, hs⟩
  · exact s_lightUp0 (fun g s hg hs => h 1 g s (by decide) hg hs)
  · unfold w_X6_lightUp
    exact bb_l h0 (h il g s h0 hg hs)
theorem s_dig6 {Q : Int64 → (Nat → Int32) → Int32 → (Nat → Int32) → (Nat → Int32) → Int32 → Int32 → (Nat → Int32) → (Nat → Int32) → Int32 → Int32 → Int32 → Int32 → (Nat → Int32) → (Nat → Int32) → Int32 → Int32 → (Nat → Int32) → Prop} (h : ∀ y2 y3 y4 y5 y6 y7 y8 y9 y10 y11 y12 y13 y14 y15 y16 y17 y18, Q (dEnd (itI dR 16 (fF (fF 58054 0) 0))) y2 y3 y4 y5 y6 y7 y8 y9 y10 y11 y12 y13 y14 y15 y16 y17 y18) : w_X6_digest (fun _ => 0) 0 (fun _ => 0) 0 (fun _ => 0) (fun _ => 0) 0 0 (fun _ => 0) (fun _ => 0) 0 0 0 0 (fun _ => 0) (fun _ => 0) 0 0 0 (fun _ => 0) Q := by
  unfold w_X6_digest
  show w_X6_foldRuns (fF (fF 58054 0) 0) _ _ _ _ _
  refine s_foldRuns (fun l r sz => ?_)
  have hx : ∀ x0 : Int64, x0 = itI dR 16 (fF (fF 58054 0) 0) → ∀ y2 y3 y4 y5 y6 y7 y8 y9 y10 y11 y12 y13 y14 y15 y16 y17 y18, Q (dEnd x0) y2 y3 y4 y5 y6 y7 y8 y9 y10 y11 y12 y13 y14 y15 y16 y17 y18 := fun x0 e => by rw [e]; exact h
  have hx := hx _ rfl
  generalize itI dR 16 (fF (fF 58054 0) 0) = x0 at hx ⊢
  refine q_for 7 (fun t a => a.1 = dC x0 t ∧ a.2.1 = nI t ∧ a.2.2.2.1 = 0 ∧ a.2.2.2.2.1 = (fun _ => 0) ∧ a.2.2.2.2.2.1 = (fun _ => 0)) _ ⟨rfl, rfl, rfl, rfl, rfl⟩ ?_ ?_
  · rintro rec t ⟨a1, a2, a3, a4, a5, a6, a7, a8, a9, a10, a11, a12, a13, a14, a15, a16, a17, a18, a19⟩ ht ⟨h1, h2, h4, h5, h6⟩ hrec
    have e1 : a1 = dC x0 t := h1
    have e2 : a2 = nI t := h2
    subst e1; subst e2
    refine bb_r (nI_ge ht (by decide)) (bb_r (nI_pos (by omega)) (bb_l (fun q => q (nI_lt (b := 7) ht (by decide))) (s_countOf (hrec _ ⟨?_, nI_1 t, h4, h5, h6⟩))))
    show fF (dC x0 t) (nI (cnt (fun j => (0 : Int32) - 0 / 8 * 8 = nI t) 3072)) = fF (dC x0 t) (nI (cnt (fun _ => (0 : Int32) = nI t) 3072))
    rw [cnt_cong 3072 (P := fun j => (0 : Int32) - 0 / 8 * 8 = nI t) (R := fun _ => (0 : Int32) = nI t) (fun j hj => by rw [show (0 : Int32) - 0 / 8 * 8 = 0 by decide])]
  · rintro rec ⟨a1, a2, a3, a4, a5, a6, a7, a8, a9, a10, a11, a12, a13, a14, a15, a16, a17, a18, a19⟩ ⟨h1, h2, h4, h5, h6⟩
    have e1 : a1 = dC x0 7 := h1
    have e2 : a2 = nI 7 := h2
    have e4 : a4 = 0 := h4
    have e5 : a5 = (fun _ => 0) := h5
    have e6 : a6 = (fun _ => 0) := h6
    subst e1; subst e2; subst e4; subst e5; subst e6
    refine bb_l (fun q => q (nI_le (Nat.le_refl 7) (by decide))) ?_
    refine q_for 3 (fun t a => a.1 = itI dD t (dC x0 7) ∧ a.2.1 = nI (4 + 4 * t) ∧ ((a.2.2.2.1 = 0 ∧ a.2.2.2.2.1 = (fun _ => 0) ∧ a.2.2.2.2.2.1 = (fun _ => 0)) ∨ (¬ a.2.2.2.1 = 0 ∧ lit a.2.2.2.2.1 0 ∧ lit a.2.2.2.2.2.1 15))) _ ⟨rfl, rfl, Or.inl ⟨rfl, rfl, rfl⟩⟩ ?_ ?_
    · rintro rec2 t ⟨a1, a2, a3, a4, a5, a6, a7, a8, a9, a10, a11, a12, a13, a14, a15, a16, a17, a18, a19⟩ ht ⟨h1, h2, h4⟩ hrec2
      have e1 : a1 = itI dD t (dC x0 7) := h1
      have e2 : a2 = nI (4 + 4 * t) := h2
      subst e1; subst e2
      refine bb_r (show ¬ nI 12 < nI (4 + 4 * t) from nI_nlt (by omega) (by omega)) (bb_r (show ¬ nI (4 + 4 * t) < nI 1 from nI_nlt (by omega) (by omega)) (bb_l (fun q => q (show nI (4 + 4 * t) ≤ nI 15 from nI_le (by omega) (by omega))) ?_))
      exact s_lightUpD h4 (fun il g s h0 hg hs => s_countBelow (fun i hi _ => by rw [hs i hi]; exact nI_le (b := 15) (by omega) (by omega)) (hrec2 _ ⟨rfl, nI_p4 _, Or.inr ⟨h0, hg, hs⟩⟩))
    · rintro rec2 ⟨a1, a2, a3, a4, a5, a6, a7, a8, a9, a10, a11, a12, a13, a14, a15, a16, a17, a18, a19⟩ ⟨h1, h2, h4⟩
      have e1 : a1 = itI dD 3 (dC x0 7) := h1
      have e2 : a2 = nI (4 + 4 * 3) := h2
      subst e1; subst e2
      refine bb_l (fun q => q (nI_lt (show 12 < 4 + 4 * 3 by omega) (by decide))) ?_
      refine q_for 16 (fun t a => a.1 = itI dF t (itI dD 3 (dC x0 7)) ∧ a.2.1 = nI t) _ ⟨rfl, rfl⟩ ?_ ?_
      · rintro rec3 t ⟨a1, a2, a3, a4, a5, a6, a7, a8, a9, a10, a11, a12, a13, a14, a15, a16, a17, a18, a19⟩ ht ⟨h1, h2⟩ hrec3
        have e1 : a1 = itI dF t (itI dD 3 (dC x0 7)) := h1
        have e2 : a2 = nI t := h2
        subst e1; subst e2
        exact bb_r (nI_ge ht (by decide)) (s_foldFaces ht (fun _ _ _ _ _ _ _ _ => s_foldFaces ht (fun _ _ _ _ _ _ _ _ => hrec3 _ ⟨rfl, nI_1 t⟩)))
      · rintro rec3 ⟨a1, a2, a3, a4, a5, a6, a7, a8, a9, a10, a11, a12, a13, a14, a15, a16, a17, a18, a19⟩ ⟨h1, h2⟩
        have e1 : a1 = itI dF 16 (itI dD 3 (dC x0 7)) := h1
        have e2 : a2 = nI 16 := h2
        subst e1; subst e2
        refine bb_l (fun q => q (nI_le (Nat.le_refl 16) (by decide))) ?_
        refine q_for 16 (fun t a => a.1 = itI dT t (itI dF 16 (itI dD 3 (dC x0 7))) ∧ a.2.1 = nI t) _ ⟨rfl, rfl⟩ ?_ ?_
        · rintro rec4 t ⟨a1, a2, a3, a4, a5, a6, a7, a8, a9, a10, a11, a12, a13, a14, a15, a16, a17, a18, a19⟩ ht ⟨h1, h2⟩ hrec4
          have e1 : a1 = itI dT t (itI dF 16 (itI dD 3 (dC x0 7))) := h1
          have e2 : a2 = nI t := h2
          subst e1; subst e2
          exact bb_r (nI_ge ht (by decide)) (s_topN ht (hrec4 _ ⟨rfl, nI_1 t⟩))
        · rintro rec4 ⟨a1, a2, a3, a4, a5, a6, a7, a8, a9, a10, a11, a12, a13, a14, a15, a16, a17, a18, a19⟩ ⟨h1, h2⟩
          have e1 : a1 = itI dT 16 (itI dF 16 (itI dD 3 (dC x0 7))) := h1
          have e2 : a2 = nI 16 := h2
          subst e1; subst e2
          refine bb_l (fun q => q (nI_le (Nat.le_refl 16) (by decide))) ?_
          exact s_waterInN (fun n a g => hx _ _ _ _ _ _ _ _ _ _ _ _ _ _ _ _ _)
theorem p_case_28 {L : Nat} (hL : L = 8) (xs : Nat → Int32) : w_case_28 L xs := by
  unfold w_case_28
  exact s_dig6 (fun _ _ _ _ _ _ _ _ _ _ _ _ _ _ _ _ _ => s_dig7 (fun _ _ _ _ _ _ _ => bb_l (fun q => q (lg_same _)) (lw_over hL)))
