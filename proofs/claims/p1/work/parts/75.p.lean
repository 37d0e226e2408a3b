/-- the cell i lies beside the cell j, at the side d -/
def nb (d j i : Nat) : Prop := (d = 0 ∧ i % 16 + 1 = j % 16 ∧ i / 16 = j / 16) ∨ (d = 1 ∧ i % 16 = j % 16 + 1 ∧ i / 16 = j / 16) ∨ (d = 2 ∧ i + 256 = j) ∨ (d = 3 ∧ i = j + 256) ∨ (d = 4 ∧ i + 16 = j ∧ i / 256 = j / 256) ∨ (d = 5 ∧ i = j + 16 ∧ i / 256 = j / 256)
theorem sub1 {m a : Nat} (hm : m < 2 ^ 30) (ha : a < 2 ^ 30) (e : nI m + (-1) = nI a) : m = a + 1 := by
  cases m with
  | zero =>
    have h := congrArg Int32.toInt e
    rw [nI_toInt (by omega)] at h
    have h2 : (nI 0 + (-1)).toInt = -1 := by decide
    omega
  | succ n =>
    rw [pk_m1] at e
    have := (nI_eq (by omega) (by omega)).mp e
    omega
theorem add1 {m a : Nat} (hm : m < 2 ^ 30) (ha : a < 2 ^ 30) (e : nI m + 1 = nI a) : m + 1 = a := by
  rw [nI_1] at e
  exact (nI_eq (by omega) (by omega)).mp e
theorem add0 {m a : Nat} (hm : m < 2 ^ 30) (ha : a < 2 ^ 30) (e : nI m + 0 = nI a) : m = a := by
  rw [Int32.add_zero] at e
  exact (nI_eq (by omega) (by omega)).mp e
theorem nb_to {d j a b c : Nat} (hd : d < 6) (hj : j < 3072) (ha : a < 16) (hb : b < 12) (hc : c < 16) (e1 : nI (j % 16) + sX d = nI a) (e2 : nI (j / 256) + sY d = nI b) (e3 : nI (j / 16 % 16) + sZ d = nI c) : nb d j (ix a b c) := by
  unfold nb ix
  rcases (show d = 0 ∨ d = 1 ∨ d = 2 ∨ d = 3 ∨ d = 4 ∨ d = 5 by omega) with rfl | rfl | rfl | rfl | rfl | rfl
  · have h1 := sub1 (by omega) (by omega) e1
    have h2 := add0 (by omega) (by omega) e2
    have h3 := add0 (by omega) (by omega) e3
    omega
  · have h1 := add1 (by omega) (by omega) e1
    have h2 := add0 (by omega) (by omega) e2
    have h3 := add0 (by omega) (by omega) e3
    omega
  · have h1 := add0 (by omega) (by omega) e1
    have h2 := sub1 (by omega) (by omega) e2
    have h3 := add0 (by omega) (by omega) e3
    omega
  · have h1 := add0 (by omega) (by omega) e1
    have h2 := add1 (by omega) (by omega) e2
    have h3 := add0 (by omega) (by omega) e3
    omega
  · have h1 := add0 (by omega) (by omega) e1
    have h2 := add0 (by omega) (by omega) e2
    have h3 := sub1 (by omega) (by omega) e3
    omega
  · have h1 := add0 (by omega) (by omega) e1
    have h2 := add0 (by omega) (by omega) e2
    have h3 := add1 (by omega) (by omega) e3
    omega
theorem of1 {m n : Nat} (h : m = n + 1) : nI m + (-1) = nI n := by rw [h, pk_m1]
theorem of2 {m n : Nat} (h : m + 1 = n) : nI m + 1 = nI n := by rw [nI_1, h]
theorem of0 {m n : Nat} (h : m = n) : nI m + 0 = nI n := by rw [Int32.add_zero, h]
theorem nb_of {d j i : Nat} (hd : d < 6) (hj : j < 3072) (hi : i < 3072) (h : nb d j i) : nI (j % 16) + sX d = nI (i % 16) ∧ nI (j / 256) + sY d = nI (i / 256) ∧ nI (j / 16 % 16) + sZ d = nI (i / 16 % 16) := by
  unfold nb at h
  rcases h with ⟨rfl, h1, h2⟩ | ⟨rfl, h1, h2⟩ | ⟨rfl, h1⟩ | ⟨rfl, h1⟩ | ⟨rfl, h1, h2⟩ | ⟨rfl, h1, h2⟩
  · exact ⟨of1 (by omega), of0 (by omega), of0 (by omega)⟩
  · exact ⟨of2 (by omega), of0 (by omega), of0 (by omega)⟩
  · exact ⟨of0 (by omega), of1 (by omega), of0 (by omega)⟩
  · exact ⟨of0 (by omega), of2 (by omega), of0 (by omega)⟩
  · exact ⟨of0 (by omega), of0 (by omega), of1 (by omega)⟩
  · exact ⟨of0 (by omega), of0 (by omega), of2 (by omega)⟩
theorem ix_self {i : Nat} : ix (i % 16) (i / 256) (i / 16 % 16) = i := by unfold ix; omega
theorem cx {j : Nat} (hj : j < 3072) : nI j - nI j / 16 * 16 = nI (j % 16) := pk_rem (d := 16) (by omega) (by omega) (by omega)
theorem cy {j : Nat} (hj : j < 3072) : nI j / 256 = nI (j / 256) := pk_div (d := 256) (by omega) (by omega) (by omega)
theorem cz {j : Nat} (hj : j < 3072) : nI j / 16 - nI j / 16 / 16 * 16 = nI (j / 16 % 16) := by
  rw [show nI j / 16 = nI (j / 16) from pk_div (d := 16) (by omega) (by omega) (by omega)]
  exact pk_rem (d := 16) (by omega) (by omega) (by omega)
theorem s_beside {j d : Nat} (hj : j < 3072) (hd : d < 6) {Q : Int32 → Prop} (h1 : ∀ i, i < 3072 → nb d j i → Q (nI i)) (h0 : (∀ i, i < 3072 → ¬ nb d j i) → Q (-1)) : w_X7_beside (nI j) (nI d) Q := by
  have key : ∀ (X Y Z : Int32), X = nI (j % 16) + sX d → Y = nI (j / 256) + sY d → Z = nI (j / 16 % 16) + sZ d → w_X7_isWorld X Y Z (fun r1 => (r1 = 0 → Q (-1)) ∧ (¬ r1 = 0 → w_X7_at X Y Z (fun r2 => Q r2))) := by
    intro X Y Z eX eY eZ
    refine s_isWorld (fun h => bb_r (by decide) ?_) (fun h => bb_l (by decide) (h0 fun i hi hn => h ?_))
    · obtain ⟨a, b, c, ha, hb, hc, rfl, rfl, rfl⟩ := inW_of h
      unfold w_X7_at
      rw [ix_M]
      exact h1 _ (ix_lt ha hb hc) (nb_to hd hj ha hb hc eX.symm eY.symm eZ.symm)
    · obtain ⟨e1, e2, e3⟩ := nb_of hd hj hi hn
      rw [eX, eY, eZ, e1, e2, e3]
      exact inW_nI (by omega) (by omega) (by omega)
  have ex := cx hj
  have ey := cy hj
  have ez := cz hj
  rcases (show d = 0 ∨ d = 1 ∨ d = 2 ∨ d = 3 ∨ d = 4 ∨ d = 5 by omega) with rfl | rfl | rfl | rfl | rfl | rfl
  · exact bb_r (by decide) (bb_r (by decide) (bb_r (by decide) (bb_l (by decide) (bb_l (by decide) (key _ _ _ (by rw [ex]; rfl) (by rw [ey]; rfl) (by rw [ez]; rfl))))))
  · exact bb_l (by decide) (bb_r (by decide) (bb_r (by decide) (bb_l (by decide) (bb_l (by decide) (key _ _ _ (by rw [ex]; rfl) (by rw [ey]; rfl) (by rw [ez]; rfl))))))
  · exact bb_r (by decide) (bb_l (by decide) (bb_l (by decide) (bb_l (by decide) (key _ _ _ (by rw [ex]; rfl) (by rw [ey]; rfl) (by rw [ez]; rfl)))))
  · exact bb_l (by decide) (bb_l (by decide) (bb_r (by decide) (bb_r (by decide) (bb_l (by decide) (key _ _ _ (by rw [ex]; rfl) (by rw [ey]; rfl) (by rw [ez]; rfl))))))
  · exact bb_r (by decide) (bb_l (by decide) (bb_r (by decide) (bb_l (by decide) (bb_r (by decide) (key _ _ _ (by rw [ex]; rfl) (by rw [ey]; rfl) (by rw [ez]; rfl))))))
  · exact bb_l (by decide) (bb_l (by decide) (bb_r (by decide) (bb_l (by decide) (bb_r (by decide) (key _ _ _ (by rw [ex]; rfl) (by rw [ey]; rfl) (by rw [ez]; rfl))))))
theorem s_nbX2 {j d : Nat} (hj : j < 3072) (hd : d < 6) {f : Nat → Int32} {Q : Int32 → Prop} (h1 : ∀ i, i < 3072 → nb d j i → Q (f i)) (h0 : (∀ i, i < 3072 → ¬ nb d j i) → Q 7) : w_X2_stateAt (nI (j % 16) + sX d) (nI (j / 256) + sY d) (nI (j / 16 % 16) + sZ d) 0 f Q := by
  refine s_stateAt (fun a b c ha hb hc e1 e2 e3 => h1 _ (ix_lt ha hb hc) (nb_to hd hj ha hb hc e1 e2 e3)) (fun h => h0 fun i hi hn => h ?_)
  obtain ⟨e1, e2, e3⟩ := nb_of hd hj hi hn
  rw [e1, e2, e3]
  exact inW_nI (by omega) (by omega) (by omega)
theorem idx_nb {j d i : Nat} (hj : j < 3072) (hd : d < 6) (hi : i < 3072) (h : nb d j i) : ((((nI (j / 256) + sY d) * 16) + (nI (j / 16 % 16) + sZ d)) * 16) + (nI (j % 16) + sX d) = nI i := by
  obtain ⟨e1, e2, e3⟩ := nb_of hd hj hi h
  rw [e1, e2, e3, ix_I, ix_self]
theorem s_kindAtM {f : Nat → Int32} {Q : Int32 → Prop} (h : Q (-1)) : w_X7_kindAt (-1) 0 f Q := by
  unfold w_X7_kindAt w_X7_isHere
  exact bb_l (by decide) ⟨rfl, bb_l (by decide) h⟩
theorem s_isHereM {Q : Int32 → Prop} (h : Q 0) : w_X7_isHere (-1) 0 Q := by
  unfold w_X7_isHere
  exact bb_l (by decide) ⟨rfl, h⟩
theorem nI_neM {j : Nat} (hj : j < 2 ^ 31) : ¬ nI j = -1 := by
  intro e
  have h2 := congrArg Int32.toInt e
  rw [nI_toInt hj] at h2
  have h3 : (-1 : Int32).toInt = -1 := by decide
  omega
theorem i6 (x : Int32) : 6 ≤ x ↔ ¬ x < 6 := by
  rw [Int32.lt_iff_toInt_lt, Int32.le_iff_toInt_le]
  show (6 : Int) ≤ _ ↔ ¬ _ < (6 : Int)
  omega
theorem lt5 (x : Int32) : (5 : Int32) < x ↔ 6 ≤ x := by
  rw [Int32.lt_iff_toInt_lt, Int32.le_iff_toInt_le]
  show (5 : Int) < _ ↔ (6 : Int) ≤ _
  omega
theorem s_requireSide {x : Int32} {Q : Prop} {Qx : String → Prop} (h1 : ∀ k : Nat, k < 6 → x = nI k → Q) (h0 : (x < 0 ∨ 5 < x) → Qx "java/lang/IllegalArgumentException") : w_X6_requireSide x Q Qx := by
  unfold w_X6_requireSide w_X6_requireSide_B10
  refine ⟨fun c => h0 (Or.inl c), fun c => ⟨fun d => ?_, fun d => h0 (Or.inr ((lt5 x).mpr ((i6 x).mpr d)))⟩⟩
  rcases pk_ix x (n := 6) (by decide) with q | q | ⟨j, hj, e⟩
  · exact absurd q c
  · exact absurd d ((i6 x).mp q)
  · exact h1 j hj e
theorem s_isSide {x : Int32} {Q : Int32 → Prop} (h1 : ∀ k : Nat, k < 6 → x = nI k → Q 1) (h0 : (x < 0 ∨ 5 < x) → Q 0) : w_X7_is x 0 5 Q := by
  refine s_is (fun a b => ?_) h0
  rcases pk_ix x (n := 6) (by decide) with q | q | ⟨j, hj, e⟩
  · exact absurd q a
  · exact absurd ((lt5 x).mpr q) b
  · exact h1 j hj e
theorem side_no {k : Nat} (hk : k < 6) {x : Int32} (e : x = nI k) (h : x < 0 ∨ 5 < x) : False := by
  subst e
  rcases h with h | h
  · exact nI_pos (by omega) h
  · exact nI_ge hk (by decide) ((lt5 _).mp h)
theorem s_requireCell {x y z : Int32} {Q : Prop} {Qx : String → Prop} (h1 : inW x y z → Q) (h0 : ¬ inW x y z → Qx "java/lang/IndexOutOfBoundsException") : w_X6_requireCell x y z Q Qx := by
  unfold w_X6_requireCell
  exact s_isInWorld (fun h => bb_l (by decide) (h1 h)) (fun h => bb_r (by decide) (h0 h))
/-- a script's place is in it -/
theorem vpL1 {L : Nat} (hL : L = 8) : vp_in (0 + 1) L := in8 hL (by unfold vp_in; decide)
theorem vpL2 {L : Nat} (hL : L = 8) : vp_in (0 + 2) L := in8 hL (by unfold vp_in; decide)
theorem vpL3 {L : Nat} (hL : L = 8) : vp_in (0 + 3) L := in8 hL (by unfold vp_in; decide)
theorem vpL4 {L : Nat} (hL : L = 8) : vp_in (0 + 4) L := in8 hL (by unfold vp_in; decide)
theorem vpL5 {L : Nat} (hL : L = 8) : vp_in (0 + 5) L := in8 hL (by unfold vp_in; decide)
theorem vpL6 {L : Nat} (hL : L = 8) : vp_in (0 + 6) L := in8 hL (by unfold vp_in; decide)
theorem vpL7 {L : Nat} (hL : L = 8) : vp_in (0 + 7) L := in8 hL (by unfold vp_in; decide)
/-- steps to the edge -/
def mu (d j : Nat) : Nat := if d = 0 then j % 16 else if d = 1 then 15 - j % 16 else if d = 2 then j / 256 else if d = 3 then 11 - j / 256 else if d = 4 then j / 16 % 16 else 15 - j / 16 % 16
theorem mu_lt {d j i : Nat} (hj : j < 3072) (hi : i < 3072) (h : nb d j i) : mu d i < mu d j := by
  unfold nb at h
  rcases h with ⟨rfl, h1, h2⟩ | ⟨rfl, h1, h2⟩ | ⟨rfl, h1⟩ | ⟨rfl, h1⟩ | ⟨rfl, h1, h2⟩ | ⟨rfl, h1, h2⟩
  · show i % 16 < j % 16
    omega
  · show 15 - i % 16 < 15 - j % 16
    omega
  · show i / 256 < j / 256
    omega
  · show 11 - i / 256 < 11 - j / 256
    omega
  · show i / 16 % 16 < j / 16 % 16
    omega
  · show 15 - i / 16 % 16 < 15 - j / 16 % 16
    omega
