/-- a loop of N rounds, with what holds before each -/
theorem q_for {α : Type} {F : (α → Prop) → α → Prop} (N : Nat) (I : Nat → α → Prop) (a : α) (ha : I 0 a) (hs : ∀ (rec : α → Prop) (j : Nat) (a : α), j < N → I j a → (∀ b, I (j + 1) b → rec b) → F rec a) (he : ∀ (rec : α → Prop) (a : α), I N a → F rec a) : ∃ n : Nat, q_loop F n a := by
  have key : ∀ k : Nat, k ≤ N → ∀ a, I (N - k) a → q_loop F (k + 1) a := by
    intro k
    induction k with
    | zero => intro _ a h; exact he _ a h
    | succ k ih =>
      intro hk a h
      have h1 : N - (k + 1) + 1 = N - k := by omega
      exact hs _ _ a (by omega) h (fun b hb => ih (by omega) b (by rw [h1] at hb; exact hb))
  refine ⟨N + 1, key N (Nat.le_refl N) a ?_⟩
  rw [Nat.sub_self]
  exact ha
theorem i16 (x : Int32) : 16 ≤ x ↔ ¬ x < 16 := by
  rw [Int32.lt_iff_toInt_lt, Int32.le_iff_toInt_le]
  show (16 : Int) ≤ _ ↔ ¬ _ < (16 : Int)
  omega
theorem s_requireChunk {x : Int32} {Q : Prop} {Qx : String → Prop} (h1 : ∀ c : Nat, c < 16 → x = nI c → Q) (h0 : (x < 0 ∨ 15 < x) → Qx "java/lang/IndexOutOfBoundsException") : w_X6_requireChunk x Q Qx := by
  unfold w_X6_requireChunk
  refine ⟨fun c => h0 (Or.inl c), fun c => ⟨fun d => ?_, fun d => h0 (Or.inr ((lt15 x).mpr ((i16 x).mpr d)))⟩⟩
  rcases pk_ix x (n := 16) (by decide) with q | q | ⟨j, hj, e⟩
  · exact absurd q c
  · exact absurd d ((i16 x).mp q)
  · exact h1 j hj e
theorem s_isChunk {x : Int32} {Q : Int32 → Prop} (h1 : ∀ c : Nat, c < 16 → x = nI c → Q 1) (h0 : (x < 0 ∨ 15 < x) → Q 0) : w_X7_is x 0 15 Q := by
  refine s_is (fun a b => ?_) h0
  rcases pk_ix x (n := 16) (by decide) with q | q | ⟨j, hj, e⟩
  · exact absurd q a
  · exact absurd ((lt15 x).mpr q) b
  · exact h1 j hj e
theorem chunk_no {c : Nat} (hc : c < 16) {x : Int32} (e : x = nI c) (h : x < 0 ∨ 15 < x) : False := by
  subst e
  rcases h with h | h
  · exact nI_pos (by omega) h
  · exact nI_ge hc (by decide) ((lt15 _).mp h)
theorem s_keptAt {a b c : Nat} (ha : a < 16) (hb : b < 12) (hc : c < 16) {f : Nat → Int32} {Q : Int32 → Prop} (h : Q (f (ix a b c))) : w_X2_keptAt (nI a) (nI b) (nI c) f Q := by
  unfold w_X2_keptAt
  refine s_isInWorld (fun _ => bb_r (by decide) ?_) (fun h0 => absurd (inW_nI ha hb hc) h0)
  have hi := ix_lt ha hb hc
  show vp_in _ 3072 ∧ Q _
  rw [ix_I]
  refine ⟨vp_in_nI hi (by decide), ?_⟩
  rw [nI_clamp (by omega)]
  exact h
/-- one run of t cells of AIR so far -/
def rInv (t : Nat) (l r : Nat → Int32) (s : Int32) : Prop := (t = 0 ∧ s = 0) ∨ (0 < t ∧ s = 1 ∧ r 0 = 0 ∧ l 0 = nI t)
theorem s_append {t : Nat} {l r : Nat → Int32} {s : Int32} {Q : (Nat → Int32) → (Nat → Int32) → Int32 → Prop} (hI : rInv t l r s) (h : ∀ l r s, rInv (t + 1) l r s → Q l r s) : w_X5_append 0 l r s Q := by
  unfold w_X5_append
  rcases hI with ⟨rfl, rfl⟩ | ⟨ht, rfl, hr, hl⟩
  · refine bb_l (by decide) (bb_r (by decide) ⟨by unfold vp_in; decide, by unfold vp_in; decide, ?_⟩)
    exact h _ _ _ (Or.inr ⟨by omega, by decide, rfl, rfl⟩)
  · have e : ((1 : Int32) - 1).toNatClampNeg = 0 := by decide
    rw [e]
    refine bb_r (by decide) ⟨by unfold vp_in; decide, bb_r (fun q => q hr) ⟨by unfold vp_in; decide, by unfold vp_in; decide, ?_⟩⟩
    refine h _ _ _ (Or.inr ⟨by omega, rfl, hr, ?_⟩)
    show l 0 + 1 = nI (t + 1)
    rw [hl, nI_1]
theorem nI_p4 (a : Nat) : nI a + 4 = nI (a + 4) := nI_add a 4
theorem s_read {c : Nat} (hc : c < 16) {l r : Nat → Int32} {s : Int32} {Q : (Nat → Int32) → (Nat → Int32) → Int32 → Prop} (h : ∀ l r, r 0 = 0 → l 0 = nI 192 → Q l r 1) : w_X5_read (nI c) l r s (fun _ => 0) Q := by
  unfold w_X5_read w_X6_firstX w_X6_firstZ
  have eX : (nI c - nI c / 4 * 4) * 4 = nI (c % 4 * 4) := by
    rw [show (4 : Int32) = nI 4 from rfl, pk_rem (by omega) (by omega) (by omega), pk_mul]
  have eZ : nI c / 4 * 4 = nI (c / 4 * 4) := by
    rw [show (4 : Int32) = nI 4 from rfl, pk_div (by omega) (by omega) (by omega), pk_mul]
  rw [eX, eZ]
  have hX : c % 4 * 4 ≤ 12 := by omega
  have hZ : c / 4 * 4 ≤ 12 := by omega
  generalize c % 4 * 4 = X at hX ⊢
  generalize c / 4 * 4 = Z at hZ ⊢
  refine q_for 12 (fun j a => ∃ l r s, a = (nI X, nI Z, nI j, l, r, s) ∧ rInv (j * 16) l r s) _ ⟨l, r, 0, rfl, Or.inl ⟨rfl, rfl⟩⟩ ?_ ?_
  · rintro rec y a hy ⟨l, r, s, rfl, hI⟩ hrec
    refine bb_r (nI_ge hy (by decide)) ?_
    refine q_for 4 (fun j a => ∃ l r s, a = (nI X, nI Z, nI y, nI (Z + j), l, r, s) ∧ rInv (y * 16 + j * 4) l r s) _ ⟨l, r, s, rfl, hI⟩ ?_ ?_
    · rintro rec z a hz ⟨l, r, s, rfl, hI⟩ hrec
      refine bb_r (by show ¬ nI Z + 4 ≤ nI (Z + z); rw [nI_p4]; exact nI_ge (by omega) (by omega)) ?_
      refine q_for 4 (fun j a => ∃ l r s, a = (nI X, nI Z, nI y, nI (Z + z), nI (X + j), l, r, s) ∧ rInv (y * 16 + z * 4 + j) l r s) _ ⟨l, r, s, rfl, hI⟩ ?_ ?_
      · rintro rec x a hx ⟨l, r, s, rfl, hI⟩ hrec
        refine bb_r (by show ¬ nI X + 4 ≤ nI (X + x); rw [nI_p4]; exact nI_ge (by omega) (by omega)) (s_keptAt (by omega) hy (by omega) (s_append hI (fun l r s hI => ?_)))
        refine hrec _ ⟨l, r, s, ?_, hI⟩
        show (nI X, nI Z, nI y, nI (Z + z), nI (X + x) + 1, l, r, s) = _
        rw [nI_1]
        rfl
      · rintro rec a ⟨l, r, s, rfl, hI⟩
        refine bb_l (fun q => q (by show nI X + 4 ≤ nI (X + 4); rw [nI_p4]; exact nI_le (Nat.le_refl _) (by omega))) ?_
        refine hrec _ ⟨l, r, s, ?_, by rw [show y * 16 + (z + 1) * 4 = y * 16 + z * 4 + 4 by omega]; exact hI⟩
        show (nI X, nI Z, nI y, nI (Z + z) + 1, l, r, s) = _
        rw [nI_1]
        rfl
    · rintro rec a ⟨l, r, s, rfl, hI⟩
      refine bb_l (fun q => q (by show nI Z + 4 ≤ nI (Z + 4); rw [nI_p4]; exact nI_le (Nat.le_refl _) (by omega))) ?_
      refine hrec _ ⟨l, r, s, ?_, by rw [show (y + 1) * 16 = y * 16 + 4 * 4 by omega]; exact hI⟩
      show (nI X, nI Z, nI y + 1, l, r, s) = _
      rw [nI_1]
  · rintro rec a ⟨l, r, s, rfl, hI⟩
    refine bb_l (fun q => q (nI_le (Nat.le_refl 12) (by decide))) ?_
    rcases hI with ⟨h0, -⟩ | ⟨-, rfl, hr, hl⟩
    · exact absurd h0 (by decide)
    · exact h l r hr hl
theorem s_cellOf {c k : Nat} (hc : c < 16) (hk : k < 192) {Q : Int32 → Prop} (h : ∀ i : Nat, i < 3072 → Q (nI i)) : w_X7_cellOf (nI c) (nI k) Q := by
  unfold w_X7_cellOf w_X7_at
  have e1 : (nI c - nI c / 4 * 4) * 4 + (nI k - nI k / 4 * 4) = nI (c % 4 * 4 + k % 4) := by
    rw [show (4 : Int32) = nI 4 from rfl, pk_rem (by omega) (by omega) (by omega), pk_rem (by omega) (by omega) (by omega), pk_mul, nI_add]
  have e2 : nI k / 16 = nI (k / 16) := by
    rw [show (16 : Int32) = nI 16 from rfl, pk_div (by omega) (by omega) (by omega)]
  have e3 : nI c / 4 * 4 + (nI k / 4 - nI k / 4 / 4 * 4) = nI (c / 4 * 4 + k / 4 % 4) := by
    rw [show (4 : Int32) = nI 4 from rfl, pk_div (by omega) (by omega) (by omega), pk_div (a := k) (by omega) (by omega) (by omega), pk_rem (by omega) (by omega) (by omega), pk_mul, nI_add]
  rw [e1, e2, e3, ix_M]
  exact h _ (ix_lt (by omega) (by omega) (by omega))
theorem s_isSame {i j : Nat} (hi : i < 3072) (hj : j < 3072) {Q : Int32 → Prop} (h : Q 1) : w_X7_isSame (nI i) (nI j) (fun _ => 0) (fun _ => 0) Q := by
  unfold w_X7_isSame
  exact ⟨vp_in_nI hi (by decide), vp_in_nI hj (by decide), bb_r (fun q => q rfl) ⟨vp_in_nI hi (by decide), vp_in_nI hj (by decide), bb_r (fun q => q rfl) ⟨rfl, h⟩⟩⟩
theorem s_runsNow {c : Nat} (hc : c < 16) {Q : Int32 → Prop} (h : Q 1) : w_X7_runsNow (nI c) (fun _ => 0) (fun _ => 0) Q := by
  unfold w_X7_runsNow
  refine q_up 191 (fun j => ((1 : Int32), nI (j + 1))) _ rfl (fun rec j hj hr => ?_) (fun rec => ?_)
  · refine bb_r (show ¬ nI 192 ≤ nI (j + 1) from nI_ge (by omega) (by decide)) (s_cellOf hc (by omega) (fun i hi => ?_))
    show w_X7_cellOf (nI c) (nI (j + 1) - 1) _
    rw [nI_pred]
    refine s_cellOf hc (by omega) (fun i2 hi2 => s_isSame hi hi2 (bb_r (by decide) ?_))
    show rec (1 + 0, nI (j + 1) + 1)
    rw [nI_1]
    exact hr
  · exact bb_l (fun q => q (nI_le (Nat.le_refl 192) (by decide))) h
theorem s_lengthFrom {c : Nat} (hc : c < 16) {Q : Int32 → Prop} (h : Q (nI 192)) : w_X7_lengthFrom (nI c) 0 (fun _ => 0) (fun _ => 0) Q := by
  unfold w_X7_lengthFrom
  refine q_up 191 (fun j => nI (j + 1)) _ rfl (fun rec j hj hr => ?_) (fun rec => ?_)
  · refine bb_r (show ¬ nI 192 ≤ nI (j + 1) from nI_ge (by omega) (by decide)) (s_cellOf hc (by omega) (fun i hi => s_cellOf hc (k := 0) (by decide) (fun i2 hi2 => s_isSame hi hi2 (bb_r (by decide) ?_))))
    show rec (nI (j + 1) + 1)
    rw [nI_1]
    exact hr
  · refine bb_l (fun q => q (nI_le (Nat.le_refl 192) (by decide))) ?_
    show Q (nI 192 - 0)
    exact h
theorem s_clip0 {Q : Prop} {Qx : String → Prop} (h : Qx "java/lang/IllegalStateException") : w_X6_requireClip 0 Q Qx := by
  unfold w_X6_requireClip w_X0_isNone
  exact bb_r (by decide) ⟨rfl, bb_r (by decide) h⟩
theorem p_case_24 {L : Nat} (hL : L = 8) (xs : Nat → Int32) : w_case_24 L xs := by
  unfold w_case_24
  refine ⟨in8 hL (by unfold vp_in; decide), in8 hL (by unfold vp_in; decide), in8 hL (by unfold vp_in; decide), in8 hL (by unfold vp_in; decide), fun _ => ?_, fun _ => ?_⟩
  all_goals
    unfold w_L_paste w_X6_paste
    refine s_clip0 (Or.inl ⟨rfl, in8 hL (by unfold vp_in; decide), in8 hL (by unfold vp_in; decide), in8 hL (by unfold vp_in; decide), in8 hL (by unfold vp_in; decide), fun _ => ?_, fun _ => ?_⟩)
    all_goals exact bb_r (by decide) (lw_ok hL rfl (fun h => absurd h (by decide)))
