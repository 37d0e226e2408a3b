/-! boxes -/
def isB (M : Nat) (x y z w h d : Int32) : Prop := ∃ a b c p q r : Nat, x = nI a ∧ y = nI b ∧ z = nI c ∧ w = nI p ∧ h = nI q ∧ d = nI r ∧ (1 ≤ p ∧ p ≤ M) ∧ (1 ≤ q ∧ q ≤ M) ∧ (1 ≤ r ∧ r ≤ M) ∧ a + p ≤ 16 ∧ b + q ≤ 12 ∧ c + r ≤ 16
theorem dim_of {w : Int32} {M : Nat} (hM : M ≤ 16) (h1 : ¬ w < 1) (h2 : ¬ nI M < w) : ∃ p : Nat, (1 ≤ p ∧ p ≤ M) ∧ w = nI p := by
  rcases pk_ix w (n := M + 1) (by omega) with q | q | ⟨j, hj, e⟩
  · refine absurd ?_ h1
    have := Int32.lt_iff_toInt_lt.mp q
    rw [Int32.lt_iff_toInt_lt]
    have e0 : (0 : Int32).toInt = 0 := by decide
    have e1 : (1 : Int32).toInt = 1 := by decide
    omega
  · refine absurd ?_ h2
    have := Int32.le_iff_toInt_le.mp q
    rw [Int32.lt_iff_toInt_lt]
    rw [nI_toInt (by omega)] at this ⊢
    omega
  · refine ⟨j, ⟨?_, by omega⟩, e⟩
    cases j with
    | zero => exact absurd (by rw [e]; decide) h1
    | succ n => omega
theorem dim_no {p M : Nat} (hM : M ≤ 16) (hp : 1 ≤ p ∧ p ≤ M) : ¬ nI p < 1 ∧ ¬ nI M < nI p := ⟨nI_nlt (b := 1) (a := p) (by omega) (by omega), nI_nlt (by omega) (by omega)⟩
theorem le_nl (x y : Int32) : x ≤ y ↔ ¬ y < x := by
  rw [Int32.lt_iff_toInt_lt, Int32.le_iff_toInt_le]
  omega
theorem s_requireBox {M : Nat} (hM : M ≤ 16) {x y z w h d : Int32} {Q : Prop} {Qx : String → Prop} (h1 : isB M x y z w h d → Q) (h0 : ¬ isB M x y z w h d → Qx "java/lang/IndexOutOfBoundsException") : w_X6_requireBox x y z w h d (nI M) Q Qx := by
  have no : (¬ isB M x y z w h d) → w_X6_requireBox_B37 x y z w h d (nI M) Q Qx := h0
  have no2 : (¬ isB M x y z w h d) → w_X6_requireBox_B80 x y z w h d (nI M) Q Qx := h0
  unfold w_X6_requireBox
  refine ⟨fun c => no ?_, fun c1 => ⟨fun c => no ?_, fun c2 => ⟨fun c => no ?_, fun c3 => ⟨fun c => no ?_, fun c4 => ⟨fun c => no ?_, fun c5 => ⟨fun c6 => ?_, fun c => no ?_⟩⟩⟩⟩⟩⟩
  · rintro ⟨a, b, c', p, q, r, rfl, rfl, rfl, rfl, rfl, rfl, hp, hq, hr, -⟩
    exact (dim_no hM hp).1 c
  · rintro ⟨a, b, c', p, q, r, rfl, rfl, rfl, rfl, rfl, rfl, hp, hq, hr, -⟩
    exact (dim_no hM hp).2 c
  · rintro ⟨a, b, c', p, q, r, rfl, rfl, rfl, rfl, rfl, rfl, hp, hq, hr, -⟩
    exact (dim_no hM hq).1 c
  · rintro ⟨a, b, c', p, q, r, rfl, rfl, rfl, rfl, rfl, rfl, hp, hq, hr, -⟩
    exact (dim_no hM hq).2 c
  · rintro ⟨a, b, c', p, q, r, rfl, rfl, rfl, rfl, rfl, rfl, hp, hq, hr, -⟩
    exact (dim_no hM hr).1 c
  · obtain ⟨p, hp, rfl⟩ := dim_of hM c1 c2
    obtain ⟨q, hq, rfl⟩ := dim_of hM c3 c4
    obtain ⟨r, hr, rfl⟩ := dim_of hM c5 ((le_nl _ _).mp c6)
    refine s_isInWorld (fun hin => bb_r (by decide) ?_) (fun hout => bb_l (by decide) (no2 ?_))
    · obtain ⟨a, b, c, ha, hb, hc, rfl, rfl, rfl⟩ := inW_of hin
      have e : ∀ m n : Nat, 1 ≤ n → nI m + nI n - 1 = nI (m + n - 1) := fun m n hn => by
        rw [nI_add]
        exact pk_sub (b := 1) (by omega)
      rw [e a p hp.1, e b q hq.1, e c r hr.1]
      refine s_isInWorld (fun hin2 => bb_l (by decide) (h1 ?_)) (fun hout => bb_r (by decide) (no2 ?_))
      · obtain ⟨a2, b2, c2, ha2, hb2, hc2, e1, e2, e3⟩ := inW_of hin2
        have e1 := (nI_eq (by omega) (by omega)).mp e1
        have e2 := (nI_eq (by omega) (by omega)).mp e2
        have e3 := (nI_eq (by omega) (by omega)).mp e3
        exact ⟨a, b, c, p, q, r, rfl, rfl, rfl, rfl, rfl, rfl, hp, hq, hr, by omega, by omega, by omega⟩
      · rintro ⟨a2, b2, c2, p2, q2, r2, e1, e2, e3, e4, e5, e6, hp2, hq2, hr2, k1, k2, k3⟩
        have e1 := (nI_eq (by omega) (by omega)).mp e1
        have e2 := (nI_eq (by omega) (by omega)).mp e2
        have e3 := (nI_eq (by omega) (by omega)).mp e3
        have e4 := (nI_eq (by omega) (by omega)).mp e4
        have e5 := (nI_eq (by omega) (by omega)).mp e5
        have e6 := (nI_eq (by omega) (by omega)).mp e6
        exact hout (inW_nI (by omega) (by omega) (by omega))
    · rintro ⟨a, b, c, p2, q2, r2, rfl, rfl, rfl, -, -, -, hp2, hq2, hr2, k1, k2, k3⟩
      exact hout (inW_nI (by omega) (by omega) (by omega))
  · rintro ⟨a, b, c', p, q, r, rfl, rfl, rfl, rfl, rfl, rfl, hp, hq, hr, -⟩
    exact c ((le_nl _ _).mpr (dim_no hM hr).2)
theorem s_isBox {M : Nat} (hM : M ≤ 16) {x y z w h d : Int32} {Q : Int32 → Prop} (h1 : isB M x y z w h d → Q 1) (h0 : ¬ isB M x y z w h d → Q 0) : w_X7_isBox x y z w h d (nI M) Q := by
  have no : (¬ isB M x y z w h d) → w_X7_isBox_B71 x y z w h d (nI M) Q := fun q => ⟨rfl, h0 q⟩
  unfold w_X7_isBox
  refine s_is (fun c1 c2 => bb_r (by decide) (s_is (fun c3 c4 => bb_r (by decide) (s_is (fun c5 c6 => bb_r (by decide) (s_isWorld (fun hin => bb_r (by decide) ?_) (fun hout => bb_l (by decide) (no ?_)))) (fun c => bb_l (by decide) (no ?_)))) (fun c => bb_l (by decide) (no ?_)))) (fun c => bb_l (by decide) (no ?_))
  · obtain ⟨p, hp, rfl⟩ := dim_of hM c1 c2
    obtain ⟨q, hq, rfl⟩ := dim_of hM c3 c4
    obtain ⟨r, hr, rfl⟩ := dim_of hM c5 c6
    obtain ⟨a, b, c, ha, hb, hc, rfl, rfl, rfl⟩ := inW_of hin
    have un : isB M (nI a) (nI b) (nI c) (nI p) (nI q) (nI r) → a + p ≤ 16 ∧ b + q ≤ 12 ∧ c + r ≤ 16 := by
      rintro ⟨a2, b2, c2, p2, q2, r2, e1, e2, e3, e4, e5, e6, hp2, hq2, hr2, k1, k2, k3⟩
      have e1 := (nI_eq (by omega) (by omega)).mp e1
      have e2 := (nI_eq (by omega) (by omega)).mp e2
      have e3 := (nI_eq (by omega) (by omega)).mp e3
      have e4 := (nI_eq (by omega) (by omega)).mp e4
      have e5 := (nI_eq (by omega) (by omega)).mp e5
      have e6 := (nI_eq (by omega) (by omega)).mp e6
      omega
    have g16 : ∀ m : Nat, m ≤ 32 → ((16 : Int32) < nI m ↔ 16 < m) := fun m hm => nI_ltI (a := 16) (by omega) (by omega)
    have g12 : ∀ m : Nat, m ≤ 32 → ((12 : Int32) < nI m ↔ 12 < m) := fun m hm => nI_ltI (a := 12) (by omega) (by omega)
    rw [nI_add, nI_add, nI_add, g16 _ (by omega), g16 _ (by omega), g12 _ (by omega)]
    refine ⟨fun k => no fun q => ?_, fun k1 => ⟨fun k => no fun q => ?_, fun k2 => ⟨fun k => no fun q => ?_, fun k3 => ⟨rfl, h1 ⟨a, b, c, p, q, r, rfl, rfl, rfl, rfl, rfl, rfl, hp, hq, hr, by omega, by omega, by omega⟩⟩⟩⟩⟩
    · have := un q; omega
    · have := un q; omega
    · have := un q; omega
  · rintro ⟨a, b, c, p2, q2, r2, rfl, rfl, rfl, -, -, -, hp2, hq2, hr2, k1, k2, k3⟩
    exact hout (inW_nI (by omega) (by omega) (by omega))
  · rintro ⟨a, b, c', p, q, r, rfl, rfl, rfl, rfl, rfl, rfl, hp, hq, hr, -⟩
    exact c.elim (dim_no hM hr).1 (dim_no hM hr).2
  · rintro ⟨a, b, c', p, q, r, rfl, rfl, rfl, rfl, rfl, rfl, hp, hq, hr, -⟩
    exact c.elim (dim_no hM hq).1 (dim_no hM hq).2
  · rintro ⟨a, b, c', p, q, r, rfl, rfl, rfl, rfl, rfl, rfl, hp, hq, hr, -⟩
    exact c.elim (dim_no hM hp).1 (dim_no hM hp).2
theorem up_no {b q t : Nat} (h : t < q) (hb : b + q < 2 ^ 30) : ¬ nI b + nI q ≤ nI (b + t) := by
  rw [nI_add]
  exact nI_ge (by omega) (by omega)
theorem up_yes {b q : Nat} (hb : b + q < 2 ^ 30) : nI b + nI q ≤ nI (b + q) := by
  rw [nI_add]
  exact nI_le (Nat.le_refl _) (by omega)
theorem s_columns {a c p r : Nat} (ha : a + p ≤ 16) (hc : c + r ≤ 16) {Q : Prop} {Qx : String → Prop} (h : Q) : w_X6_requireColumnsHere (nI a) (nI c) (nI p) (nI r) 0 Q Qx := by
  unfold w_X6_requireColumnsHere w_X2_areColumnsHere
  refine q_up r (fun t => nI (c + t)) _ rfl (fun rec t ht hrec => ?_) (fun rec => ?_)
  · refine bb_r (up_no ht (by omega)) ?_
    refine q_up p (fun u => (nI (c + t), nI (a + u))) _ rfl (fun rec2 u hu hrec2 => ?_) (fun rec2 => ?_)
    · refine bb_r (up_no hu (by omega)) ?_
      unfold w_X6_chunkOf
      refine s_isAway0 (bb_l (by decide) ?_)
      show rec2 (nI (c + t), nI (a + u) + 1)
      rw [nI_1]
      exact hrec2
    · refine bb_l (fun q => q (up_yes (by omega))) ?_
      show rec (nI (c + t) + 1)
      rw [nI_1]
      exact hrec
  · refine bb_l (fun q => q (up_yes (by omega))) ?_
    exact bb_l (by decide) h
theorem s_beyond {a c p r : Nat} (ha : a + p ≤ 16) (hc : c + r ≤ 16) {Q : Int32 → Prop} (h : Q 0) : w_X7_isBeyond (nI a) (nI c) (nI p) (nI r) 0 Q := by
  unfold w_X7_isBeyond
  refine q_up r (fun t => ((0 : Int32), nI (c + t))) _ rfl (fun rec t ht hrec => ?_) (fun rec => ?_)
  · refine bb_r (up_no ht (by omega)) ?_
    refine q_up p (fun u => ((0 : Int32), nI (c + t), nI (a + u))) _ rfl (fun rec2 u hu hrec2 => ?_) (fun rec2 => ?_)
    · refine bb_r (up_no hu (by omega)) ?_
      unfold w_X7_chunkOf
      refine s_isAway0m ?_
      show rec2 (0 ||| 0, nI (c + t), nI (a + u) + 1)
      rw [nI_1]
      exact hrec2
    · refine bb_l (fun q => q (up_yes (by omega))) ?_
      show rec (0, nI (c + t) + 1)
      rw [nI_1]
      exact hrec
  · exact bb_l (fun q => q (up_yes (by omega))) ⟨(show narrow .boolean (.int (0 : Int32)) = .int 0 from rfl), h⟩
theorem s_stateAtN {a b c : Nat} (ha : a < 16) (hb : b < 12) (hc : c < 16) {f : Nat → Int32} {Q : Int32 → Prop} (h : Q (f (ix a b c))) : w_X2_stateAt (nI a) (nI b) (nI c) 0 f Q := by
  refine s_stateAt (fun a' b' c' ha' hb' hc' e1 e2 e3 => ?_) (fun q => absurd (inW_nI ha hb hc) q)
  rw [← (nI_eq (by omega) (by omega)).mp e1, ← (nI_eq (by omega) (by omega)).mp e2, ← (nI_eq (by omega) (by omega)).mp e3]
  exact h
/-- what a walk by rows hasn't come to yet is AIR -/
def UV (Y Z X : Nat) (f : Nat → Int32) : Prop := ∀ i, i < 3072 → (Y < i / 256 ∨ (i / 256 = Y ∧ (Z < i / 16 % 16 ∨ (i / 16 % 16 = Z ∧ X ≤ i % 16)))) → f i = 0
theorem UV_at {f : Nat → Int32} {Y Z X : Nat} (h : UV Y Z X f) (hX : X < 16) (hY : Y < 12) (hZ : Z < 16) : f (ix X Y Z) = 0 := h _ (ix_lt hX hY hZ) (by unfold ix; omega)
theorem UV_upd {f : Nat → Int32} {Y Z X : Nat} {w : Int32} (h : UV Y Z X f) (hX : X < 16) (hZ : Z < 16) : UV Y Z (X + 1) (upd f (ix X Y Z) w) := by
  intro i hi hq
  have e : i ≠ ix X Y Z := by unfold ix; omega
  rw [pk_un e]
  exact h i hi (by omega)
theorem UV_z {f : Nat → Int32} {Y Z X X' : Nat} (h : UV Y Z X f) : UV Y (Z + 1) X' f := fun i hi hq => h i hi (by omega)
theorem UV_y {f : Nat → Int32} {Y Z X Z' X' : Nat} (h : UV Y Z X f) : UV (Y + 1) Z' X' f := fun i hi hq => h i hi (by omega)
def cN (k : Int32) (n : Nat) : Nat := if (0 : Int32) = k then 0 else n
theorem cN_0 (k : Int32) : cN k 0 = 0 := by unfold cN; split <;> rfl
theorem cN_y {k : Int32} (h : (0 : Int32) = k) (n : Nat) : cN k (n + 1) = cN k n := by unfold cN; rw [if_pos h, if_pos h]
theorem cN_n {k : Int32} (h : ¬ (0 : Int32) = k) (n : Nat) : cN k (n + 1) = cN k n + 1 := by unfold cN; rw [if_neg h, if_neg h]
theorem s_fillX6 {a b c p q r : Nat} (ha : a + p ≤ 16) (hb : b + q ≤ 12) (hc : c + r ≤ 16) {k : Int32} {Q : Int32 → (Nat → Int32) → Int32 → Prop} {Qx : String → Prop} (h : ∀ f, Q (nI (cN k (q * (r * p)))) f 0) : ∃ n : Nat, q_loop (fun (rec : (Int32 × Int32 × (Nat → Int32) × Int32) → Prop) (a' : Int32 × Int32 × (Nat → Int32) × Int32) => w_X6_fill_L35 (nI a) (nI b) (nI c) (nI p) (nI q) (nI r) k 0 Q Qx (fun v8 v9 m_grid_states m_isLit => rec (v8, v9, m_grid_states, m_isLit)) (w_X6_fill_B128 (nI a) (nI b) (nI c) (nI p) (nI q) (nI r) k 0 Q Qx) a'.1 a'.2.1 a'.2.2.1 a'.2.2.2) n (0, nI b, fun _ => 0, 0) := by
  refine q_for q (fun t s => s.1 = nI (cN k (t * (r * p))) ∧ s.2.1 = nI (b + t) ∧ UV (b + t) c a s.2.2.1) _ ⟨by show (0 : Int32) = _; rw [Nat.zero_mul, cN_0]; rfl, rfl, fun _ _ _ => rfl⟩ ?_ ?_
  · rintro rec t ⟨v, y, f, l⟩ ht ⟨hv, hy, hf⟩ hrec
    have hv : v = nI (cN k (t * (r * p))) := hv
    have hy : y = nI (b + t) := hy
    subst hv; subst hy
    refine bb_r (up_no ht (by omega)) ?_
    refine q_for r (fun u s => s.1 = nI (cN k (t * (r * p) + u * p)) ∧ s.2.1 = nI (b + t) ∧ s.2.2.1 = nI (c + u) ∧ UV (b + t) (c + u) a s.2.2.2.1) _ ⟨by show nI _ = _; rw [Nat.zero_mul]; rfl, rfl, rfl, hf⟩ ?_ ?_
    · rintro rec u ⟨v, y, z, f, l⟩ hu ⟨hv, hy, hz, hf⟩ hrec
      have hv : v = nI (cN k (t * (r * p) + u * p)) := hv
      have hy : y = nI (b + t) := hy
      have hz : z = nI (c + u) := hz
      subst hv; subst hy; subst hz
      refine bb_r (up_no hu (by omega)) ?_
      refine q_for p (fun s w => w.1 = nI (cN k (t * (r * p) + u * p + s)) ∧ w.2.1 = nI (b + t) ∧ w.2.2.1 = nI (c + u) ∧ w.2.2.2.1 = nI (a + s) ∧ UV (b + t) (c + u) (a + s) w.2.2.2.2.1) _ ⟨rfl, rfl, rfl, rfl, hf⟩ ?_ ?_
      · rintro rec s ⟨v, y, z, x, f, l⟩ hs ⟨hv, hy, hz, hx, hf⟩ hrec
        have hv : v = nI (cN k (t * (r * p) + u * p + s)) := hv
        have hy : y = nI (b + t) := hy
        have hz : z = nI (c + u) := hz
        have hx : x = nI (a + s) := hx
        have hf : UV (b + t) (c + u) (a + s) f := hf
        subst hv; subst hy; subst hz; subst hx
        refine bb_r (up_no hs (by omega)) (s_stateAtN (by omega) (by omega) (by omega) ?_)
        rw [UV_at hf (by omega) (by omega) (by omega)]
        have put : ∀ (o v2 : Int32), v2 = nI (cN k (t * (r * p) + u * p + (s + 1))) → w_X2_put (nI (a + s)) (nI (b + t)) (nI (c + u)) o f (fun y2 => rec (v2, nI (b + t), nI (c + u), nI (a + s) + 1, y2, l)) := fun o v2 hv2 => s_put (by omega) (by omega) (by omega) (hrec _ ⟨hv2, rfl, rfl, nI_1 _, UV_upd (X := a + s) hf (by omega) (by omega)⟩)
        have b92 : ∀ (K : Int32 → Int32 → Int32 → (Nat → Int32) → Int32 → Prop) (v2 : Int32), v2 = nI (cN k (t * (r * p) + u * p + (s + 1))) → w_X6_fill_B92 (nI a) (nI b) (nI c) (nI p) (nI q) (nI r) k 0 Q Qx (fun v8 v9 v10 v11 m_grid_states m_isLit => rec (v8, v9, v10, v11, m_grid_states, m_isLit)) K v2 (nI (b + t)) (nI (c + u)) (nI (a + s)) f l := by
          intro K v2 hv2
          unfold w_X6_fill_B92 w_X6_stateOf w_X6_stateOf_B12
          exact ⟨fun _ => put _ v2 hv2, fun _ => put _ v2 hv2⟩
        unfold w_X6_kindOf
        have e0 : (0 : Int32) - 0 / 8 * 8 = 0 := by decide
        rw [e0]
        exact ⟨fun e => b92 _ _ (by rw [← Nat.add_assoc, cN_y e]), fun e => b92 _ _ (by rw [← Nat.add_assoc, cN_n e, nI_1])⟩
      · rintro rec ⟨v, y, z, x, f, l⟩ ⟨hv, hy, hz, hx, hf⟩
        have hv : v = nI (cN k (t * (r * p) + u * p + p)) := hv
        have hy : y = nI (b + t) := hy
        have hz : z = nI (c + u) := hz
        have hx : x = nI (a + p) := hx
        subst hv; subst hy; subst hz; subst hx
        refine bb_l (fun q => q (up_yes (by omega))) (hrec _ ⟨?_, rfl, nI_1 _, UV_z hf⟩)
        rw [Nat.succ_mul, Nat.add_assoc]
    · rintro rec ⟨v, y, z, f, l⟩ ⟨hv, hy, hz, hf⟩
      have hv : v = nI (cN k (t * (r * p) + r * p)) := hv
      have hy : y = nI (b + t) := hy
      have hz : z = nI (c + r) := hz
      subst hv; subst hy; subst hz
      refine bb_l (fun q => q (up_yes (by omega))) (hrec _ ⟨?_, nI_1 _, UV_y hf⟩)
      rw [Nat.succ_mul]
  · rintro rec ⟨v, y, f, l⟩ ⟨hv, hy, hf⟩
    have hv : v = nI (cN k (q * (r * p))) := hv
    have hy : y = nI (b + q) := hy
    subst hv; subst hy
    exact bb_l (fun q => q (up_yes (by omega))) (h f)
theorem s_fillX7 {a b c p q r : Nat} (ha : a + p ≤ 16) (hb : b + q ≤ 12) (hc : c + r ≤ 16) {k : Int32} {Q : Int32 → (Nat → Int32) → (Nat → Int32) → Int32 → Prop} (h : ∀ f g, Q (nI (cN k (q * (r * p)))) f g 0) : ∃ n : Nat, q_loop (fun (rec : (Int32 × Int32 × (Nat → Int32) × (Nat → Int32) × Int32) → Prop) (a' : Int32 × Int32 × (Nat → Int32) × (Nat → Int32) × Int32) => w_X7_fill_L70 (nI a) (nI b) (nI c) (nI p) (nI q) (nI r) k 0 Q (fun v8 v9 m_kind m_level m_thrown => rec (v8, v9, m_kind, m_level, m_thrown)) (w_X7_fill_B165 (nI a) (nI b) (nI c) (nI p) (nI q) (nI r) k 0 Q) a'.1 a'.2.1 a'.2.2.1 a'.2.2.2.1 a'.2.2.2.2) n (0, nI b, fun _ => 0, fun _ => 0, 0) := by
  refine q_for q (fun t s => s.1 = nI (cN k (t * (r * p))) ∧ s.2.1 = nI (b + t) ∧ UV (b + t) c a s.2.2.1 ∧ s.2.2.2.2 = 0) _ ⟨by show (0 : Int32) = _; rw [Nat.zero_mul, cN_0]; rfl, rfl, fun _ _ _ => rfl, rfl⟩ ?_ ?_
  · rintro rec t ⟨v, y, f, g, l⟩ ht ⟨hv, hy, hf, hl⟩ hrec
    have hv : v = nI (cN k (t * (r * p))) := hv
    have hy : y = nI (b + t) := hy
    have hl : l = 0 := hl
    subst hv; subst hy; subst hl
    refine bb_r (up_no ht (by omega)) ?_
    refine q_for r (fun u s => s.1 = nI (cN k (t * (r * p) + u * p)) ∧ s.2.1 = nI (b + t) ∧ s.2.2.1 = nI (c + u) ∧ UV (b + t) (c + u) a s.2.2.2.1 ∧ s.2.2.2.2.2 = 0) _ ⟨by show nI _ = _; rw [Nat.zero_mul]; rfl, rfl, rfl, hf, rfl⟩ ?_ ?_
    · rintro rec u ⟨v, y, z, f, g, l⟩ hu ⟨hv, hy, hz, hf, hl⟩ hrec
      have hv : v = nI (cN k (t * (r * p) + u * p)) := hv
      have hy : y = nI (b + t) := hy
      have hz : z = nI (c + u) := hz
      have hl : l = 0 := hl
      subst hv; subst hy; subst hz; subst hl
      refine bb_r (up_no hu (by omega)) ?_
      refine q_for p (fun s w => w.1 = nI (cN k (t * (r * p) + u * p + s)) ∧ w.2.1 = nI (b + t) ∧ w.2.2.1 = nI (c + u) ∧ w.2.2.2.1 = nI (a + s) ∧ UV (b + t) (c + u) (a + s) w.2.2.2.2.1 ∧ w.2.2.2.2.2.2 = 0) _ ⟨rfl, rfl, rfl, rfl, hf, rfl⟩ ?_ ?_
      · rintro rec s ⟨v, y, z, x, f, g, l⟩ hs ⟨hv, hy, hz, hx, hf, hl⟩ hrec
        have hv : v = nI (cN k (t * (r * p) + u * p + s)) := hv
        have hy : y = nI (b + t) := hy
        have hz : z = nI (c + u) := hz
        have hx : x = nI (a + s) := hx
        have hl : l = 0 := hl
        have hf' : UV (b + t) (c + u) (a + s) f := hf
        subst hv; subst hy; subst hz; subst hx; subst hl
        have hi := ix_lt (show a + s < 16 by omega) (show b + t < 12 by omega) (show c + u < 16 by omega)
        have b129 : ∀ (K : Int32 → Int32 → Int32 → (Nat → Int32) → (Nat → Int32) → Int32 → Prop) (v2 s1 : Int32), v2 + s1 = nI (cN k (t * (r * p) + u * p + (s + 1))) → w_X7_fill_B129 (nI a) (nI b) (nI c) (nI p) (nI q) (nI r) k 0 Q (fun v8 v9 v10 v11 m_kind m_level m_thrown => rec (v8, v9, v10, v11, m_kind, m_level, m_thrown)) K (nI (b + t)) (nI (c + u)) (nI (a + s)) v2 s1 f g 0 := by
          intro K v2 s1 hv2
          unfold w_X7_fill_B129 w_X7_at
          rw [ix_M]
          exact s_putM hi (hrec _ ⟨hv2, rfl, rfl, nI_1 _, UV_upd (X := a + s) hf' (by omega) (by omega), rfl⟩)
        refine bb_r (up_no hs (by omega)) ?_
        show w_X7_at (nI (a + s)) (nI (b + t)) (nI (c + u)) _
        unfold w_X7_at
        rw [ix_M]
        dsimp only
        rw [nI_clamp (show ix (a + s) (b + t) (c + u) < 2 ^ 31 by omega), UV_at hf' (by omega) (by omega) (by omega)]
        exact ⟨vp_in_nI hi (by decide), fun e => b129 _ _ _ (by rw [← Nat.add_assoc, cN_n e, nI_1]), fun e => b129 _ _ _ (by rw [← Nat.add_assoc, cN_y e, Int32.add_zero])⟩
      · rintro rec ⟨v, y, z, x, f, g, l⟩ ⟨hv, hy, hz, hx, hf, hl⟩
        have hv : v = nI (cN k (t * (r * p) + u * p + p)) := hv
        have hy : y = nI (b + t) := hy
        have hz : z = nI (c + u) := hz
        have hx : x = nI (a + p) := hx
        subst hv; subst hy; subst hz; subst hx
        refine bb_l (fun q => q (up_yes (by omega))) (hrec _ ⟨?_, rfl, nI_1 _, UV_z hf, hl⟩)
        rw [Nat.succ_mul, Nat.add_assoc]
    · rintro rec ⟨v, y, z, f, g, l⟩ ⟨hv, hy, hz, hf, hl⟩
      have hv : v = nI (cN k (t * (r * p) + r * p)) := hv
      have hy : y = nI (b + t) := hy
      have hz : z = nI (c + r) := hz
      subst hv; subst hy; subst hz
      refine bb_l (fun q => q (up_yes (by omega))) (hrec _ ⟨?_, nI_1 _, UV_y hf, hl⟩)
      rw [Nat.succ_mul]
  · rintro rec ⟨v, y, f, g, l⟩ ⟨hv, hy, hf, hl⟩
    have hv : v = nI (cN k (q * (r * p))) := hv
    have hy : y = nI (b + q) := hy
    have hl : l = 0 := hl
    subst hv; subst hy; subst hl
    exact bb_l (fun q => q (up_yes (by omega))) (h f g)
theorem p_case_1 {L : Nat} (hL : L = 8) (xs : Nat → Int32) : w_case_1 L xs := by
  unfold w_case_1
  refine ⟨vpL1 hL, vpL2 hL, vpL3 hL, vpL4 hL, vpL5 hL, vpL6 hL, vpL7 hL, ?_⟩
  generalize xs (Int32.toNatClampNeg (0 + 1)) = x
  generalize xs (Int32.toNatClampNeg (0 + 2)) = y
  generalize xs (Int32.toNatClampNeg (0 + 3)) = z
  generalize xs (Int32.toNatClampNeg (0 + 4)) = w
  generalize xs (Int32.toNatClampNeg (0 + 5)) = h
  generalize xs (Int32.toNatClampNeg (0 + 6)) = d
  generalize xs (Int32.toNatClampNeg (0 + 7)) = k
  unfold w_L_fill w_X6_fill
  refine s_requireBox (M := 16) (by decide) (fun hb => s_requireKind (fun k1 k2 => ?_) (fun hk => Or.inr (Or.inl ⟨rfl, vpL1 hL, vpL2 hL, vpL3 hL, vpL4 hL, vpL5 hL, vpL6 hL, vpL7 hL, ?_⟩))) (fun hb => Or.inl ⟨rfl, vpL1 hL, vpL2 hL, vpL3 hL, vpL4 hL, vpL5 hL, vpL6 hL, vpL7 hL, ?_⟩)
  · have hb0 := hb
    obtain ⟨a, b, c, p, q, r, rfl, rfl, rfl, rfl, rfl, rfl, hp, hq, hr, l1, l2, l3⟩ := hb
    refine s_columns l1 l3 (s_fillX6 l1 l2 l3 (fun f => ⟨vpL1 hL, vpL2 hL, vpL3 hL, vpL4 hL, vpL5 hL, vpL6 hL, vpL7 hL, ?_⟩))
    unfold w_X7_fill
    refine s_isBox (M := 16) (by decide) (fun _ => bb_l (by decide) (s_is (fun _ _ => bb_l (by decide) (s_beyond l1 l3 (bb_l (by decide) (s_fillX7 l1 l2 l3 (fun f g => lw_ok hL rfl (fun _ => rfl)))))) (fun e => ?_))) (fun q => absurd hb0 q)
    rcases e with e | e
    · exact absurd e k1
    · exact absurd k2 ((lt6 k).mp e)
  · unfold w_X7_fill
    refine s_isBox (M := 16) (by decide) (fun _ => bb_l (by decide) (s_is (fun a1 a2 => ?_) (fun _ => bb_r (by decide) (lw_ok hL rfl (fun q => absurd q (by decide)))))) (fun q => absurd hb q)
    rcases hk with e | e
    · exact absurd e a1
    · exact absurd ((lt6 k).mpr e) a2
  · unfold w_X7_fill
    exact s_isBox (M := 16) (by decide) (fun q => absurd q hb) (fun _ => bb_r (by decide) (lw_ok hL rfl (fun q => absurd q (by decide))))
