theorem s_foldFaces {x : Int64} {c : Nat} (hc : c < 16) {k ax fc qd zV sU sV : Int32} {op nu : Nat → Int32} {Q : Int64 → Int32 → Int32 → (Nat → Int32) → (Nat → Int32) → Int32 → Int32 → Int32 → Int32 → Prop} (h : ∀ y1 y2 y3 y4 y5 y6 y7 y8, Q (fF (fF x 0) 0) y1 y2 y3 y4 y5 y6 y7 y8) : w_X6_foldFaces x (nI c) k 0 (fun _ => 0) ax fc nu op qd zV sU sV Q := by
  unfold w_X6_foldFaces
  exact s_lay hc (fun y1 y3 y4 y6 y7 y8 => h _ _ _ _ _ _ _ _)
theorem s_dig7 {Q : Int64 → (Nat → Int32) → (Nat → Int32) → (Nat → Int32) → (Nat → Int32) → Int64 → Int32 → Int32 → Prop} (h : ∀ g k l s a b c, Q dAll g k l s a b c) : w_X7_digest 0 (fun _ => 0) (fun _ => 0) (fun _ => 0) (fun _ => 0) 0 0 0 Q := by
  unfold w_X7_digest
  refine ⟨by decide, by decide, ?_⟩
  show ∃ n : Nat, q_loop _ n (0, 0, 0, (fun _ => 0), (fun _ => 0), (fun _ => 0), (fun _ => 0), fF (fF 58054 0) 0, 0, 0)
  refine q_up 16 (fun t => (nI t, 0, 0, (fun _ => 0 : Nat → Int32), (fun _ => 0 : Nat → Int32), (fun _ => 0 : Nat → Int32), (fun _ => 0 : Nat → Int32), itI dR t (fF (fF 58054 0) 0), (0 : Int32), (0 : Int32))) _ rfl (fun rec t ht hrec => ?_) (fun rec => ?_)
  · refine bb_r (nI_ge ht (by decide)) ⟨(show 0 + 0 ≤ 431 ∧ 0 + 0 ≤ 48000 by decide), s_runsNow ht ⟨(show 0 + 0 ≤ 431 ∧ 0 + 0 ≤ 48000 by decide), ?_⟩⟩
    have go : rec (nI t + 1, 0, 0, (fun _ => 0), (fun _ => 0), (fun _ => 0), (fun _ => 0), dR (itI dR t (fF (fF 58054 0) 0)), 0, 0) := by rw [nI_1]; exact hrec
    show ∃ n : Nat, q_loop _ n (nI t, 0, 0, 0, (fun _ => 0), (fun _ => 0), (fun _ => 0), (fun _ => 0), fF (itI dR t (fF (fF 58054 0) 0)) 1, 0, 0)
    refine q_up 1 (fun j => (nI t, (if j = 0 then (0 : Int32) else nI 192), 0, 0, (fun _ => 0 : Nat → Int32), (fun _ => 0 : Nat → Int32), (fun _ => 0 : Nat → Int32), (fun _ => 0 : Nat → Int32), (if j = 0 then fF (itI dR t (fF (fF 58054 0) 0)) 1 else dR (itI dR t (fF (fF 58054 0) 0))), (0 : Int32), (0 : Int32))) _ rfl (fun rec2 j hj hrec2 => ?_) (fun rec2 => bb_l (fun q => q (show (192 : Int32) ≤ nI 192 by decide)) go)
    have hj0 : j = 0 := by omega
    subst hj0
    have zz : 0 + 0 ≤ 431 ∧ 0 + 0 ≤ 48000 := by decide
    refine bb_r (show ¬ (192 : Int32) ≤ 0 by decide) ⟨zz, s_cellOf ht (k := 0) (by decide) (fun i hi => ⟨vp_in_nI hi (by decide), zz, zz, s_cellOf ht (k := 0) (by decide) (fun i2 hi2 => ⟨vp_in_nI hi2 (by decide), zz, zz, s_lengthFrom ht ⟨zz, zz, s_lengthFrom ht ?_⟩⟩)⟩)⟩
    show rec2 (nI t, 0 + nI 192, 0, 0, (fun _ => 0), (fun _ => 0), (fun _ => 0), (fun _ => 0), dR (itI dR t (fF (fF 58054 0) 0)), 0, 0)
    rw [Int32.zero_add]
    exact hrec2
  · refine bb_l (fun q => q (nI_le (Nat.le_refl 16) (by decide))) ?_
    show ∃ n : Nat, q_loop _ n (0, 0, 0, (fun _ => 0), (fun _ => 0), (fun _ => 0), (fun _ => 0), itI dR 16 (fF (fF 58054 0) 0), 0, 0)
    generalize itI dR 16 (fF (fF 58054 0) 0) = x0
    sorry
theorem p_case_28 {L : Nat} (hL : L = 8) (xs : Nat → Int32) : w_case_28 L xs := by
  unfold w_case_28
  sorry
