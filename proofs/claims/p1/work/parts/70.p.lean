/-! the pure side: what the walks ask, worked out over numbers -/
theorem bb_l {p q A B : Prop} (hq : ¬ q) (a : A) : (p → A) ∧ (q → B) := ⟨fun _ => a, fun h => absurd h hq⟩
theorem bb_r {p q A B : Prop} (hp : ¬ p) (b : B) : (p → A) ∧ (q → B) := ⟨fun h => absurd h hp, fun _ => b⟩
/-- a loop whose states are known, one by one -/
theorem q_up {α : Type} {F : (α → Prop) → α → Prop} (N : Nat) (s : Nat → α) (a : α) (h0 : a = s 0) (hs : ∀ (rec : α → Prop) (j : Nat), j < N → rec (s (j + 1)) → F rec (s j)) (he : ∀ rec : α → Prop, F rec (s N)) : ∃ n : Nat, q_loop F n a := by
  have key : ∀ k : Nat, k ≤ N → q_loop F (k + 1) (s (N - k)) := by
    intro k
    induction k with
    | zero => intro _; exact he _
    | succ k ih =>
      intro hk
      have h1 : N - (k + 1) + 1 = N - k := by omega
      exact hs _ _ (by omega) (by rw [h1]; exact ih (by omega))
  refine ⟨N + 1, ?_⟩
  have h2 := key N (Nat.le_refl N)
  rw [Nat.sub_self] at h2
  rw [h0]
  exact h2
/-- a cell of the world -/
def inW (x y z : Int32) : Prop := (¬ x < 0 ∧ ¬ 16 ≤ x) ∧ (¬ y < 0 ∧ ¬ 12 ≤ y) ∧ ¬ z < 0 ∧ ¬ 16 ≤ z
theorem inW_of {x y z : Int32} (h : inW x y z) : ∃ a b c : Nat, a < 16 ∧ b < 12 ∧ c < 16 ∧ x = nI a ∧ y = nI b ∧ z = nI c := by
  obtain ⟨⟨h1, h2⟩, ⟨h3, h4⟩, h5, h6⟩ := h
  rcases pk_ix x (n := 16) (by decide) with q | q | ⟨a, ha, rfl⟩
  · exact absurd q h1
  · exact absurd q h2
  rcases pk_ix y (n := 12) (by decide) with q | q | ⟨b, hb, rfl⟩
  · exact absurd q h3
  · exact absurd q h4
  rcases pk_ix z (n := 16) (by decide) with q | q | ⟨c, hc, rfl⟩
  · exact absurd q h5
  · exact absurd q h6
  exact ⟨a, b, c, ha, hb, hc, rfl, rfl, rfl⟩
theorem inW_nI {a b c : Nat} (ha : a < 16) (hb : b < 12) (hc : c < 16) : inW (nI a) (nI b) (nI c) :=
  ⟨⟨nI_pos (by omega), nI_ge ha (by decide)⟩, ⟨nI_pos (by omega), nI_ge hb (by decide)⟩, nI_pos (by omega), nI_ge hc (by decide)⟩
theorem s_isInWorld {x y z : Int32} {Q : Int32 → Prop} (h1 : inW x y z → Q 1) (h0 : ¬ inW x y z → Q 0) : w_X6_isInWorld x y z Q := by
  have no : ∀ _ : ¬ inW x y z, w_X6_isInWorld_B34 x y z Q := fun h => ⟨rfl, h0 h⟩
  unfold w_X6_isInWorld
  refine ⟨fun c => no fun h => h.1.1 c, fun c1 => ⟨fun c => no fun h => h.1.2 c, fun c2 => ⟨fun c => no fun h => h.2.1.1 c, fun c3 => ⟨fun c => no fun h => h.2.1.2 c, fun c4 => ⟨fun c => no fun h => h.2.2.1 c, fun c5 => ⟨fun c => no fun h => h.2.2.2 c, fun c6 => ?_⟩⟩⟩⟩⟩⟩
  exact ⟨rfl, h1 ⟨⟨c1, c2⟩, ⟨c3, c4⟩, c5, c6⟩⟩
theorem s_is {x a b : Int32} {Q : Int32 → Prop} (h1 : ¬ x < a → ¬ b < x → Q 1) (h0 : (x < a ∨ b < x) → Q 0) : w_X7_is x a b Q := by
  unfold w_X7_is
  exact ⟨fun c => ⟨rfl, h0 (Or.inl c)⟩, fun c => ⟨fun d => ⟨rfl, h0 (Or.inr d)⟩, fun d => ⟨rfl, h1 c d⟩⟩⟩
theorem lt15 (x : Int32) : (15 : Int32) < x ↔ 16 ≤ x := by
  rw [Int32.lt_iff_toInt_lt, Int32.le_iff_toInt_le]
  show (15 : Int) < _ ↔ (16 : Int) ≤ _
  omega
theorem lt11 (x : Int32) : (11 : Int32) < x ↔ 12 ≤ x := by
  rw [Int32.lt_iff_toInt_lt, Int32.le_iff_toInt_le]
  show (11 : Int) < _ ↔ (12 : Int) ≤ _
  omega
theorem s_isWorld {x y z : Int32} {Q : Int32 → Prop} (h1 : inW x y z → Q 1) (h0 : ¬ inW x y z → Q 0) : w_X7_isWorld x y z Q := by
  have no : ∀ _ : ¬ inW x y z, w_X7_isWorld_B34 x y z Q := fun h => ⟨rfl, h0 h⟩
  unfold w_X7_isWorld
  refine s_is (fun a1 a2 => bb_r (by decide) (s_is (fun a3 a4 => bb_r (by decide) (s_is (fun a5 a6 => bb_r (by decide) ⟨rfl, h1 ⟨⟨a1, fun q => a2 ((lt15 x).mpr q)⟩, ⟨a3, fun q => a4 ((lt11 y).mpr q)⟩, a5, fun q => a6 ((lt15 z).mpr q)⟩⟩) (fun c => bb_l (by decide) (no fun h => ?_)))) (fun c => bb_l (by decide) (no fun h => ?_)))) (fun c => bb_l (by decide) (no fun h => ?_))
  · rcases c with c | c
    · exact h.2.2.1 c
    · exact h.2.2.2 ((lt15 z).mp c)
  · rcases c with c | c
    · exact h.2.1.1 c
    · exact h.2.1.2 ((lt11 y).mp c)
  · rcases c with c | c
    · exact h.1.1 c
    · exact h.1.2 ((lt15 x).mp c)
theorem z_shr (k : Int32) : (0 : Int32) >>> k = 0 := by
  apply Int32.toBitVec_inj.mp
  rw [Int32.toBitVec_shiftRight]
  simp
theorem s_isAway0 {c : Int32} {Q : Int32 → Prop} (h : Q 0) : w_X2_isAway c 0 Q := by
  unfold w_X2_isAway
  rw [z_shr]
  exact bb_l (by decide) ⟨rfl, h⟩
theorem s_isAway0m {c : Int32} {Q : Int32 → Prop} (h : Q 0) : w_X7_isAway c 0 Q := by
  unfold w_X7_isAway
  rw [z_shr]
  exact bb_l (by decide) ⟨rfl, h⟩
/-- where a cell stands in the rows -/
def ix (a b c : Nat) : Nat := (b * 16 + c) * 16 + a
theorem ix_lt {a b c : Nat} (ha : a < 16) (hb : b < 12) (hc : c < 16) : ix a b c < 3072 := by unfold ix; omega
theorem ix_I (a b c : Nat) : (((nI b * 16) + nI c) * 16) + nI a = nI (ix a b c) := by
  unfold ix
  rw [← nI_add, ← pk_mul, ← nI_add, ← pk_mul]
  rfl
theorem ix_M (a b c : Nat) : ((nI b * 256) + (nI c * 16)) + nI a = nI (ix a b c) := by
  have e : ix a b c = b * 256 + c * 16 + a := by unfold ix; omega
  rw [e, ← nI_add, ← nI_add, ← pk_mul, ← pk_mul]
  rfl
theorem s_stateAt {x y z : Int32} {f : Nat → Int32} {Q : Int32 → Prop} (h1 : ∀ a b c : Nat, a < 16 → b < 12 → c < 16 → x = nI a → y = nI b → z = nI c → Q (f (ix a b c))) (h0 : ¬ inW x y z → Q 7) : w_X2_stateAt x y z 0 f Q := by
  unfold w_X2_stateAt
  refine s_isInWorld (fun h => bb_r (by decide) ?_) (fun h => bb_l (by decide) (h0 h))
  obtain ⟨a, b, c, ha, hb, hc, rfl, rfl, rfl⟩ := inW_of h
  have hi := ix_lt ha hb hc
  refine s_isAway0 (bb_l (by decide) ?_)
  show vp_in _ 3072 ∧ Q _
  rw [ix_I]
  refine ⟨vp_in_nI hi (by decide), ?_⟩
  rw [nI_clamp (by omega)]
  exact h1 a b c ha hb hc rfl rfl rfl
theorem s_kindAt {j : Nat} (hj : j < 3072) {f : Nat → Int32} {Q : Int32 → Prop} (h : Q (f j)) : w_X7_kindAt (nI j) 0 f Q := by
  unfold w_X7_kindAt w_X7_isHere
  refine bb_r ?_ (s_isAway0m (bb_r (by decide) ⟨rfl, bb_r (by decide) ⟨vp_in_nI hj (by decide), ?_⟩⟩))
  · intro e
    have h2 := congrArg Int32.toInt e
    rw [nI_toInt (by omega)] at h2
    have h3 : (-1 : Int32).toInt = -1 := by decide
    omega
  · show Q _
    rw [nI_clamp (by omega)]
    exact h
theorem s_isHere {j : Nat} (hj : j < 3072) {Q : Int32 → Prop} (h : Q 1) : w_X7_isHere (nI j) 0 Q := by
  unfold w_X7_isHere
  refine bb_r ?_ (s_isAway0m (bb_r (by decide) ⟨rfl, h⟩))
  intro e
  have h2 := congrArg Int32.toInt e
  rw [nI_toInt (by omega)] at h2
  have h3 : (-1 : Int32).toInt = -1 := by decide
  omega
/-- the law's end behind a call: the loop is over -/
theorem lw_over {L : Nat} (hL : L = 8) : ((Int32.ofNat L - 8) < (0 + 8) → True) ∧ (¬ (Int32.ofNat L - 8) < (0 + 8) → False) := by
  subst hL
  exact bb_l (by decide) trivial
theorem lg_same (x : Int64) : lg_cmp x x = 0 := by
  unfold lg_cmp
  simp
/-- where both sides answer the same -/
theorem lw_ok {L : Nat} (hL : L = 8) {out : Nat → Int64} {k t b : Int32} (hk : t = k) (hb : k = 0 → out 0 = Int32.toInt64 b) : (t = k → (¬ k = 0 → ((Int32.ofNat L - 8) < (0 + 8) → True) ∧ (¬ (Int32.ofNat L - 8) < (0 + 8) → False)) ∧ (k = 0 → (lg_cmp (out (Int32.toNatClampNeg 0)) (Int32.toInt64 b) = 0 → ((Int32.ofNat L - 8) < (0 + 8) → True) ∧ (¬ (Int32.ofNat L - 8) < (0 + 8) → False)) ∧ (¬ lg_cmp (out (Int32.toNatClampNeg 0)) (Int32.toInt64 b) = 0 → False))) ∧ (¬ t = k → False) := by
  refine bb_l (fun h => h hk) ⟨fun _ => lw_over hL, fun h0 => ⟨fun _ => lw_over hL, fun hne => hne ?_⟩⟩
  have e : Int32.toNatClampNeg 0 = 0 := by decide
  rw [e, hb h0]
  exact lg_same _
