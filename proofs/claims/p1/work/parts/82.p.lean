/-! copy: of AIR nothing is counted -/
theorem s_X0put {x y z : Nat} (hx : x < 8) (hy : y < 8) (hz : z < 8) {s : Int32} {m : Nat → Int32} {Q : (Nat → Int32) → Prop} (h : ∀ g, Q g) : w_X0_put (nI x) (nI y) (nI z) s m Q := by
  have e : ((nI y * 8) + nI z) * 8 + nI x = nI ((y * 8 + z) * 8 + x) := by
    rw [show (8 : Int32) = nI 8 from rfl, pk_mul, nI_add, pk_mul, nI_add]
  unfold w_X0_put w_X0_isPlace w_X0_isPlace_B35 w_X0_placeOf
  rw [e]
  refine bb_r (nI_pos (by omega)) (bb_r (nI_ge hx (by decide)) (bb_r (nI_pos (by omega)) (bb_r (nI_ge hy (by decide)) (bb_r (nI_pos (by omega)) (bb_r (nI_ge hz (by decide)) ⟨rfl, bb_r (by decide) ⟨vp_in_nI (by omega) (by decide), h _⟩⟩)))))
theorem s_copyX6 {a b c p q r : Nat} (ha : a + p ≤ 16) (hb : b + q ≤ 12) (hc : c + r ≤ 16) (hp : p ≤ 8) (hq : q ≤ 8) (hr : r ≤ 8) {cd ch cw : Int32} {Q : Int32 → Int32 → Int32 → (Nat → Int32) → Int32 → Prop} {Qx : String → Prop} (h : ∀ d e f g, Q 0 d e f g) : ∃ n : Nat, q_loop (fun (rec : (Int32 × Int32 × Int32 × Int32 × (Nat → Int32) × Int32) → Prop) (a' : Int32 × Int32 × Int32 × Int32 × (Nat → Int32) × Int32) => w_X6_copy_L43 (nI a) (nI b) (nI c) (nI p) (nI q) (nI r) 0 (fun _ => 0) Q Qx (fun v7 v8 m_clip_d m_clip_h m_clip_states m_clip_w => rec (v7, v8, m_clip_d, m_clip_h, m_clip_states, m_clip_w)) (w_X6_copy_B132 (nI a) (nI b) (nI c) (nI p) (nI q) (nI r) 0 (fun _ => 0) Q Qx) a'.1 a'.2.1 a'.2.2.1 a'.2.2.2.1 a'.2.2.2.2.1 a'.2.2.2.2.2) n (0, 0, cd, ch, fun _ => 0, cw) := by
  refine q_for q (fun t s => s.1 = 0 ∧ s.2.1 = nI t) _ ⟨rfl, rfl⟩ ?_ ?_
  · rintro rec t ⟨v, y, s3, s4, s5, s6⟩ ht ⟨hv, hy⟩ hrec
    have hv : v = 0 := hv
    have hy : y = nI t := hy
    subst hv; subst hy
    refine bb_r (nI_ge ht (by omega)) ?_
    refine q_for r (fun u s => s.1 = 0 ∧ s.2.1 = nI t ∧ s.2.2.1 = nI u) _ ⟨rfl, rfl, rfl⟩ ?_ ?_
    · rintro rec u ⟨v, y, z, s3, s4, s5, s6⟩ hu ⟨hv, hy, hz⟩ hrec
      have hv : v = 0 := hv
      have hy : y = nI t := hy
      have hz : z = nI u := hz
      subst hv; subst hy; subst hz
      refine bb_r (nI_ge hu (by omega)) ?_
      refine q_for p (fun w s => s.1 = 0 ∧ s.2.1 = nI t ∧ s.2.2.1 = nI u ∧ s.2.2.2.1 = nI w) _ ⟨rfl, rfl, rfl, rfl⟩ ?_ ?_
      · rintro rec w ⟨v, y, z, x, s3, s4, s5, s6⟩ hw ⟨hv, hy, hz, hx⟩ hrec
        have hv : v = 0 := hv
        have hy : y = nI t := hy
        have hz : z = nI u := hz
        have hx : x = nI w := hx
        subst hv; subst hy; subst hz; subst hx
        refine bb_r (nI_ge hw (by omega)) ?_
        show w_X2_stateAt (nI a + nI w) (nI b + nI t) (nI c + nI u) _ _ _
        rw [nI_add, nI_add, nI_add]
        exact s_stateAtN (by omega) (by omega) (by omega) (s_X0put (by omega) (by omega) (by omega) (fun g => bb_l (by decide) (hrec _ ⟨rfl, rfl, rfl, nI_1 w⟩)))
      · rintro rec ⟨v, y, z, x, s3, s4, s5, s6⟩ ⟨hv, hy, hz, hx⟩
        have hv : v = 0 := hv
        have hy : y = nI t := hy
        have hz : z = nI u := hz
        have hx : x = nI p := hx
        subst hv; subst hy; subst hz; subst hx
        exact bb_l (fun q => q (nI_le (Nat.le_refl _) (by omega))) (hrec _ ⟨rfl, rfl, nI_1 u⟩)
    · rintro rec ⟨v, y, z, s3, s4, s5, s6⟩ ⟨hv, hy, hz⟩
      have hv : v = 0 := hv
      have hy : y = nI t := hy
      have hz : z = nI r := hz
      subst hv; subst hy; subst hz
      exact bb_l (fun q => q (nI_le (Nat.le_refl _) (by omega))) (hrec _ ⟨rfl, nI_1 t⟩)
  · rintro rec ⟨v, y, s3, s4, s5, s6⟩ ⟨hv, hy⟩
    have hv : v = 0 := hv
    have hy : y = nI q := hy
    subst hv; subst hy
    exact bb_l (fun q => q (nI_le (Nat.le_refl _) (by omega))) (h _ _ _ _)
theorem clip_lt {t u w p q r : Nat} (ht : t < q) (hu : u < r) (hw : w < p) : (t * r + u) * p + w < p * q * r := by
  have h1 : t * r + u + 1 ≤ q * r := by
    have := Nat.mul_le_mul_right r (show t + 1 ≤ q from ht)
    rw [Nat.succ_mul] at this
    omega
  have h2 := Nat.mul_le_mul_right p h1
  rw [Nat.succ_mul] at h2
  have h3 : q * r * p = p * q * r := by rw [Nat.mul_comm (q * r) p, Nat.mul_assoc]
  omega
theorem s_copyX7 {a b c p q r : Nat} (ha : a + p ≤ 16) (hb : b + q ≤ 12) (hc : c + r ≤ 16) (hM : p * q * r ≤ 512) {Q : Int32 → (Nat → Int32) → (Nat → Int32) → Int32 → Int32 → Int32 → Int32 → Prop} (h : ∀ f g, Q 0 f g (nI r) (nI q) 0 (nI p)) : ∃ n : Nat, q_loop (fun (rec : (Int32 × Int32 × (Nat → Int32) × (Nat → Int32) × Int32 × Int32 × Int32 × Int32 × Nat × Nat) → Prop) (a' : Int32 × Int32 × (Nat → Int32) × (Nat → Int32) × Int32 × Int32 × Int32 × Int32 × Nat × Nat) => w_X7_copy_L99 (nI a) (nI b) (nI c) (nI p) (nI q) (nI r) 0 (fun _ => 0) (fun _ => 0) Q (fun v7 v8 m_clipKind m_clipLevel m_deep m_tall m_thrown m_wide l_clipKind l_clipLevel => rec (v7, v8, m_clipKind, m_clipLevel, m_deep, m_tall, m_thrown, m_wide, l_clipKind, l_clipLevel)) (w_X7_copy_B247 (nI a) (nI b) (nI c) (nI p) (nI q) (nI r) 0 (fun _ => 0) (fun _ => 0) Q) a'.1 a'.2.1 a'.2.2.1 a'.2.2.2.1 a'.2.2.2.2.1 a'.2.2.2.2.2.1 a'.2.2.2.2.2.2.1 a'.2.2.2.2.2.2.2.1 a'.2.2.2.2.2.2.2.2.1 a'.2.2.2.2.2.2.2.2.2) n (0, 0, fun _ => 0, fun _ => 0, nI r, nI q, 0, nI p, p * q * r, p * q * r) := by
  refine q_for q (fun t s => ∃ f g : Nat → Int32, s = (0, nI t, f, g, nI r, nI q, 0, nI p, p * q * r, p * q * r)) _ ⟨_, _, rfl⟩ ?_ ?_
  · rintro rec t s ht ⟨f, g, rfl⟩ hrec
    refine bb_r (nI_ge ht (by omega)) ?_
    refine q_for r (fun u s => ∃ f g : Nat → Int32, s = (0, nI t, nI u, f, g, nI r, nI q, 0, nI p, p * q * r, p * q * r)) _ ⟨_, _, rfl⟩ ?_ ?_
    · rintro rec u s hu ⟨f, g, rfl⟩ hrec
      refine bb_r (nI_ge hu (by omega)) ?_
      refine q_for p (fun w s => ∃ f g : Nat → Int32, s = (0, nI t, nI u, nI w, f, g, nI r, nI q, 0, nI p, p * q * r, p * q * r)) _ ⟨_, _, rfl⟩ ?_ ?_
      · rintro rec w s hw ⟨f, g, rfl⟩ hrec
        have hi := ix_lt (show a + w < 16 by omega) (show b + t < 12 by omega) (show c + u < 16 by omega)
        have hl := clip_lt ht hu hw
        have hrec2 : ∀ f g : Nat → Int32, rec ((0 : Int32) + 0, nI t, nI u, nI w + 1, f, g, nI r, nI q, 0, nI p, p * q * r, p * q * r) := fun f g => hrec _ ⟨f, g, by rw [nI_1]; rfl⟩
        have hl2 : vp_in (nI ((t * r + u) * p + w)) (p * q * r) := vp_in_nI hl (by omega)
        have e : ((nI t * nI r) + nI u) * nI p + nI w = nI ((t * r + u) * p + w) := by
          rw [pk_mul, nI_add, pk_mul, nI_add]
        refine bb_r (nI_ge hw (by omega)) ?_
        show w_X7_clipAt (nI w) (nI t) (nI u) (nI r) (nI p) _
        unfold w_X7_clipAt w_X7_at
        rw [nI_add, nI_add, nI_add, ix_M, e]
        refine ⟨vp_in_nI hi (by decide), hl2, vp_in_nI hi (by decide), hl2, vp_in_nI hi (by decide), bb_r (fun q => q rfl) (hrec2 _ _)⟩
      · rintro rec s ⟨f, g, rfl⟩
        refine bb_l (fun q => q (nI_le (Nat.le_refl _) (by omega))) (hrec _ ⟨f, g, ?_⟩)
        show ((0 : Int32), nI t, nI u + 1, f, g, nI r, nI q, (0 : Int32), nI p, p * q * r, p * q * r) = _
        rw [nI_1]
    · rintro rec s ⟨f, g, rfl⟩
      refine bb_l (fun q => q (nI_le (Nat.le_refl _) (by omega))) (hrec _ ⟨f, g, ?_⟩)
      show ((0 : Int32), nI t + 1, f, g, nI r, nI q, (0 : Int32), nI p, p * q * r, p * q * r) = _
      rw [nI_1]
  · rintro rec s ⟨f, g, rfl⟩
    exact bb_l (fun q => q (nI_le (Nat.le_refl _) (by omega))) (h f g)
theorem p_case_22 {L : Nat} (hL : L = 8) (xs : Nat → Int32) : w_case_22 L xs := by
  unfold w_case_22
  refine ⟨vpL1 hL, vpL2 hL, vpL3 hL, vpL4 hL, vpL5 hL, vpL6 hL, ?_⟩
  generalize xs (Int32.toNatClampNeg (0 + 1)) = x
  generalize xs (Int32.toNatClampNeg (0 + 2)) = y
  generalize xs (Int32.toNatClampNeg (0 + 3)) = z
  generalize xs (Int32.toNatClampNeg (0 + 4)) = w
  generalize xs (Int32.toNatClampNeg (0 + 5)) = h
  generalize xs (Int32.toNatClampNeg (0 + 6)) = d
  unfold w_L_copy w_X6_copy
  refine s_requireBox (M := 8) (by decide) (fun hb => ?_) (fun hb => Or.inl ⟨rfl, vpL1 hL, vpL2 hL, vpL3 hL, vpL4 hL, vpL5 hL, vpL6 hL, ?_⟩)
  · have hb0 := hb
    obtain ⟨a, b, c, p, q, r, rfl, rfl, rfl, rfl, rfl, rfl, hp, hq, hr, l1, l2, l3⟩ := hb
    have hM : p * q * r ≤ 512 := Nat.mul_le_mul (Nat.mul_le_mul hp.2 hq.2) hr.2
    refine s_columns l1 l3 ?_
    show ∃ n : Nat, q_loop _ n _
    refine s_copyX6 l1 l2 l3 hp.2 hq.2 hr.2 (fun _ _ _ _ => ⟨vpL1 hL, vpL2 hL, vpL3 hL, vpL4 hL, vpL5 hL, vpL6 hL, ?_⟩)
    unfold w_X7_copy
    have e : (nI p * nI q * nI r).toNatClampNeg = p * q * r := by
      rw [pk_mul, pk_mul, nI_clamp (by omega)]
    have e2 : ¬ nI p * nI q * nI r < 0 := by
      rw [pk_mul, pk_mul]
      exact nI_pos (by omega)
    refine s_isBox (M := 8) (by decide) (fun _ => bb_l (by decide) (s_beyond l1 l3 (bb_l (by decide) ?_))) (fun q => absurd hb0 q)
    rw [e]
    exact ⟨⟨e2, hM⟩, ⟨e2, hM⟩, s_copyX7 l1 l2 l3 hM (fun f g => lw_ok hL rfl (fun _ => rfl))⟩
  · unfold w_X7_copy
    exact s_isBox (M := 8) (by decide) (fun q => absurd q hb) (fun _ => bb_r (by decide) (lw_ok hL rfl (fun q => absurd q (by decide))))
