/-! landscape: both sides lay the same kinds, and count what isn't AIR -/
def lkU (y h : Int32) : Int32 := if y = h ∧ h = 6 then 5 else 0
def lk (y h : Int32) : Int32 := if h - 1 ≤ y then (if y = h - 1 then (if 4 ≤ h then 1 else 4) else if 4 ≤ h then lkU y h else if 3 < y then lkU y h else 6) else 1
theorem lk_val (y h : Int32) : lk y h = 0 ∨ lk y h = 1 ∨ lk y h = 4 ∨ lk y h = 5 ∨ lk y h = 6 := by
  have u : lkU y h = 0 ∨ lkU y h = 5 := by
    unfold lkU
    split
    · exact Or.inr rfl
    · exact Or.inl rfl
  unfold lk
  split
  · split
    · split
      · exact Or.inr (Or.inl rfl)
      · exact Or.inr (Or.inr (Or.inl rfl))
    · split
      · rcases u with u | u <;> simp [u]
      · split
        · rcases u with u | u <;> simp [u]
        · exact Or.inr (Or.inr (Or.inr (Or.inr rfl)))
  · exact Or.inr (Or.inl rfl)
theorem s_landscapeKind {y h : Int32} {Q : Int32 → Prop} (hq : Q (lk y h)) : w_X6_landscapeKind y h Q := by
  have b49 : Q (lkU y h) → w_X6_landscapeKind_B49 y h Q := by
    intro q
    unfold lkU at q
    refine ⟨fun c => ?_, fun c => ⟨fun d => ?_, fun d => ?_⟩⟩
    · rw [if_neg (fun e => c e.1)] at q; exact q
    · rw [if_neg (fun e => d e.2)] at q; exact q
    · rw [if_pos ⟨c, d⟩] at q; exact q
  unfold lk at hq
  refine ⟨fun h4 => ⟨fun c => ⟨fun d => bb_l (by decide) (b49 ?_), fun d => bb_l (by decide) ?_⟩, fun c => ?_⟩, fun h4 => ⟨fun c => ⟨fun d => bb_r (by decide) ⟨fun e => b49 ?_, fun e => ?_⟩, fun d => bb_r (by decide) ?_⟩, fun c => ?_⟩⟩
  · rw [if_pos c, if_neg d, if_pos h4] at hq; exact hq
  · rw [if_pos c, if_pos d, if_pos h4] at hq; exact hq
  · rw [if_neg c] at hq; exact hq
  · rw [if_pos c, if_neg d, if_neg h4, if_pos e] at hq; exact hq
  · rw [if_pos c, if_neg d, if_neg h4, if_neg e] at hq; exact hq
  · rw [if_pos c, if_pos d, if_neg h4] at hq; exact hq
  · rw [if_neg c] at hq; exact hq
theorem s_land {y h : Int32} {Q : Int32 → Prop} (hq : Q (lk y h)) : w_X7_land h y Q := by
  have b40 : Q (lkU y h) → w_X7_land_B40 h y Q := by
    intro q
    unfold lkU at q
    refine ⟨fun c => ?_, fun c => ⟨fun d => ?_, fun d => ?_⟩⟩
    · rw [if_neg (fun e => c e.2)] at q; exact q
    · rw [if_neg (fun e => d e.1)] at q; exact q
    · rw [if_pos ⟨d, c⟩] at q; exact q
  unfold lk at hq
  refine ⟨fun c => ⟨fun d => ⟨fun h4 => b40 ?_, fun h4 => ⟨fun e => b40 ?_, fun e => ?_⟩⟩, fun d => ⟨fun h4 => ?_, fun h4 => ?_⟩⟩, fun c => ?_⟩
  · rw [if_pos c, if_neg d, if_pos h4] at hq; exact hq
  · rw [if_pos c, if_neg d, if_neg h4, if_pos e] at hq; exact hq
  · rw [if_pos c, if_neg d, if_neg h4, if_neg e] at hq; exact hq
  · rw [if_pos c, if_pos d, if_pos h4] at hq; exact hq
  · rw [if_pos c, if_pos d, if_neg h4] at hq; exact hq
  · rw [if_neg c] at hq; exact hq
def hgt (sd : Int32) (x z : Nat) : Int32 := 2 + (((((7 * nI x) + (13 * nI z)) + (nI x * nI z)) + sd) - ((((7 * nI x) + (13 * nI z)) + (nI x * nI z)) + sd) / 6 * 6)
/-- the kind that lies at the place i -/
def kap (sd : Int32) (i : Nat) : Int32 := lk (nI (i / 256)) (hgt sd (i % 16) (i / 16 % 16))
def stO (k : Int32) : Int32 := if k = 6 then 70 else k
theorem stO_kind {k : Int32} (h : k = 0 ∨ k = 1 ∨ k = 4 ∨ k = 5 ∨ k = 6) : stO k - stO k / 8 * 8 = k := by
  rcases h with rfl | rfl | rfl | rfl | rfl <;> decide
theorem s_stateOf {k : Int32} {Q : Int32 → Prop} (h : Q (stO k)) : w_X6_stateOf k Q := by
  unfold stO at h
  unfold w_X6_stateOf w_X6_stateOf_B12
  refine ⟨fun c => ?_, fun c => ?_⟩
  · rw [if_neg c] at h; exact h
  · rw [if_pos c] at h; exact h
/-- the columns that stand: t rows, u columns of the next, w cells of the next -/
def LD (sd : Int32) (t u w : Nat) (s : Nat → Int32) : Prop := ∀ i, i < 3072 → (i / 16 % 16 < t ∨ (i / 16 % 16 = t ∧ (i % 16 < u ∨ (i % 16 = u ∧ i / 256 < w)))) → s i = stO (kap sd i)
theorem kap_ix {sd : Int32} {u w t : Nat} (hu : u < 16) (hw : w < 12) (ht : t < 16) : kap sd (ix u w t) = lk (nI w) (hgt sd u t) := by
  have e1 : ix u w t / 256 = w := by unfold ix; omega
  have e2 : ix u w t % 16 = u := by unfold ix; omega
  have e3 : ix u w t / 16 % 16 = t := by unfold ix; omega
  unfold kap
  rw [e1, e2, e3]
theorem s_raise {sd : Int32} {u t : Nat} (hu : u < 16) (ht : t < 16) {s : Nat → Int32} {Q : (Nat → Int32) → Prop} (hs : LD sd t u 0 s) (h : ∀ s', LD sd t (u + 1) 0 s' → Q s') : w_X6_raiseColumn (nI u) (nI t) (hgt sd u t) s Q := by
  unfold w_X6_raiseColumn
  refine q_for 12 (fun w a => ∃ g : Nat → Int32, a = (nI w, g) ∧ LD sd t u w g) _ ⟨s, rfl, hs⟩ ?_ ?_
  · rintro rec w a hw ⟨g, rfl, hg⟩ hrec
    have go : ∀ g' : Nat → Int32, LD sd t u (w + 1) g' → rec (nI w + 1, g') := fun g' hg' => hrec _ ⟨g', by rw [nI_1], hg'⟩
    refine bb_r (nI_ge hw (by decide)) (s_landscapeKind (s_stateOf (s_put hu hw ht (go _ (fun i hi hq => ?_)))))
    by_cases e : i = ix u w t
    · rw [e, pk_us, kap_ix hu hw ht]
    · rw [pk_un e]
      refine hg i hi ?_
      unfold ix at e
      omega
  · rintro rec a ⟨g, rfl, hg⟩
    exact bb_l (fun q => q (nI_le (Nat.le_refl 12) (by decide))) (h g (fun i hi hq => hg i hi (by omega)))
def sumC (s : Nat → Int32) : Nat → Nat
  | 0 => 0
  | t + 1 => sumC s t + cnt (fun j => s j - s j / 8 * 8 = nI (t + 1)) 3072
theorem s_countSolid {s : Nat → Int32} {Q : Int32 → Prop} (h : Q (nI (sumC s 6))) : w_X2_countSolid 0 s Q := by
  unfold w_X2_countSolid
  refine q_up 6 (fun t => (nI (sumC s t), nI (t + 1))) _ rfl (fun rec t ht hrec => ?_) (fun rec => bb_l (fun q => q (nI_lt (show 6 < 6 + 1 by omega) (by decide))) h)
  refine bb_r (show ¬ nI 6 < nI (t + 1) from nI_nlt (by omega) (by omega)) (s_countOf ?_)
  show rec (nI (sumC s t) + nI _, nI (t + 1) + 1)
  rw [nI_add, nI_1]
  exact hrec
theorem cnt_cong {P R : Nat → Prop} [DecidablePred P] [DecidablePred R] : ∀ n, (∀ j, j < n → (P j ↔ R j)) → cnt P n = cnt R n
  | 0, _ => rfl
  | n + 1, h => by
    show cnt P n + (if P n then 1 else 0) = cnt R n + (if R n then 1 else 0)
    rw [cnt_cong n (fun j hj => h j (by omega))]
    by_cases c : P n
    · rw [if_pos c, if_pos ((h n (by omega)).mp c)]
    · rw [if_neg c, if_neg (fun q => c ((h n (by omega)).mpr q))]
theorem cnt_split {k : Nat → Int32} (hk : ∀ j, k j = 0 ∨ k j = 1 ∨ k j = 4 ∨ k j = 5 ∨ k j = 6) : ∀ n, cnt (fun j => k j = nI 1) n + cnt (fun j => k j = nI 2) n + cnt (fun j => k j = nI 3) n + cnt (fun j => k j = nI 4) n + cnt (fun j => k j = nI 5) n + cnt (fun j => k j = nI 6) n = cnt (fun j => ¬ k j = 0) n
  | 0 => rfl
  | n + 1 => by
    have ih := cnt_split hk n
    have s : ∀ (P : Nat → Prop) [DecidablePred P], cnt P (n + 1) = cnt P n + (if P n then 1 else 0) := fun P _ => rfl
    rw [s, s, s, s, s, s, s]
    have fin : (if k n = nI 1 then 1 else 0) + (if k n = nI 2 then 1 else 0) + (if k n = nI 3 then 1 else 0) + (if k n = nI 4 then 1 else 0) + (if k n = nI 5 then 1 else 0) + (if k n = nI 6 then 1 else 0) = (if ¬ k n = 0 then 1 else 0) := by
      rcases hk n with e | e | e | e | e <;> rw [e] <;> decide
    omega
theorem sum_kap {sd : Int32} {s : Nat → Int32} (hs : LD sd 16 0 0 s) : sumC s 6 = cnt (fun j => ¬ kap sd j = 0) 3072 := by
  have hv : ∀ j, kap sd j = 0 ∨ kap sd j = 1 ∨ kap sd j = 4 ∨ kap sd j = 5 ∨ kap sd j = 6 := fun j => lk_val _ _
  have e : ∀ m : Nat, cnt (fun j => s j - s j / 8 * 8 = nI m) 3072 = cnt (fun j => kap sd j = nI m) 3072 := fun m => cnt_cong 3072 (fun j hj => by rw [hs j hj (Or.inl (by omega)), stO_kind (hv j)])
  rw [← cnt_split hv 3072]
  show 0 + cnt (fun j => s j - s j / 8 * 8 = nI 1) 3072 + cnt (fun j => s j - s j / 8 * 8 = nI 2) 3072 + cnt (fun j => s j - s j / 8 * 8 = nI 3) 3072 + cnt (fun j => s j - s j / 8 * 8 = nI 4) 3072 + cnt (fun j => s j - s j / 8 * 8 = nI 5) 3072 + cnt (fun j => s j - s j / 8 * 8 = nI 6) 3072 = _
  rw [e, e, e, e, e, e]
  omega
theorem p_case_2 {L : Nat} (hL : L = 8) (xs : Nat → Int32) : w_case_2 L xs := by
  unfold w_case_2
  refine ⟨vpL1 hL, ?_⟩
  generalize xs (Int32.toNatClampNeg (0 + 1)) = sd
  have bad : (sd < 0 ∨ 999 < sd) → vp_in (0 + 1) L ∧ w_X7_landscape sd 0 (fun _ => 0) (fun _ => 0) 0 (fun r103 y104 y105 y106 => w_X7_thrown y106 (fun r107 => ((r107 = 1 → ((¬ (1 : Int32) = 0 → ((((Int32.ofNat L) - 8) < (0 + 8) → True) ∧ (¬ ((Int32.ofNat L) - 8) < (0 + 8) → False))) ∧ ((1 : Int32) = 0 → (((lg_cmp ((fun _ => 0 : Nat → Int64) (Int32.toNatClampNeg 0)) (Int32.toInt64 r103)) = 0 → ((((Int32.ofNat L) - 8) < (0 + 8) → True) ∧ (¬ ((Int32.ofNat L) - 8) < (0 + 8) → False))) ∧ (¬ (lg_cmp ((fun _ => 0 : Nat → Int64) (Int32.toNatClampNeg 0)) (Int32.toInt64 r103)) = 0 → False))))) ∧ (¬ r107 = 1 → False)))) := by
    intro hx
    refine ⟨vpL1 hL, ?_⟩
    unfold w_X7_landscape
    refine s_is (fun a b => ?_) (fun _ => bb_r (by decide) (lw_ok hL rfl (fun q => absurd q (by decide))))
    exact (hx.elim a b).elim
  unfold w_L_landscape w_X6_landscape w_X6_landscape_B11
  refine ⟨fun c => ⟨rfl, bad (Or.inl c)⟩, fun c => ⟨fun d => ?_, fun d => ⟨rfl, bad (Or.inr (Classical.not_not.mp fun q => d ((le_nl _ _).mpr q)))⟩⟩⟩
  refine q_for 16 (fun t a => ∃ (g : Nat → Int32) (l : Int32), a = (nI t, g, l) ∧ LD sd t 0 0 g) _ ⟨_, _, rfl, fun i hi hq => absurd hq (by omega)⟩ ?_ ?_
  · rintro rec t a ht ⟨g, l, rfl, hg⟩ hrec
    refine bb_r (nI_ge ht (by decide)) ?_
    refine q_for 16 (fun u a => ∃ (g : Nat → Int32) (l : Int32), a = (nI t, nI u, g, l) ∧ LD sd t u 0 g) _ ⟨_, _, rfl, hg⟩ ?_ ?_
    · rintro rec2 u a hu ⟨g, l, rfl, hg⟩ hrec2
      have go : ∀ g' : Nat → Int32, LD sd t (u + 1) 0 g' → rec2 (nI t, nI u + 1, g', l) := fun g' hg' => hrec2 _ ⟨g', l, by rw [nI_1], hg'⟩
      refine bb_r (nI_ge hu (by decide)) ?_
      show w_X2_isAway (nI t / 4 * 4 + nI u / 4) 0 _
      exact s_isAway0 (bb_r (by decide) (s_raise hu ht hg go))
    · rintro rec2 a ⟨g, l, rfl, hg⟩
      exact bb_l (fun q => q (nI_le (Nat.le_refl 16) (by decide))) (hrec _ ⟨g, l, by show (nI t + 1, g, l) = _; rw [nI_1], fun i hi hq => hg i hi (by omega)⟩)
  · rintro rec a ⟨g, l, rfl, hg⟩
    refine bb_l (fun q => q (nI_le (Nat.le_refl 16) (by decide))) (s_countSolid ⟨vpL1 hL, ?_⟩)
    rw [sum_kap hg]
    unfold w_X7_landscape
    refine s_is (fun _ _ => bb_l (by decide) ?_) (fun q => ?_)
    · refine q_for 3072 (fun t a => ∃ f g : Nat → Int32, a = (nI (cnt (fun j => ¬ kap sd j = 0) t), nI t, f, g, 0)) _ ⟨_, _, rfl⟩ ?_ ?_
      · rintro rec t a ht ⟨f, g, rfl⟩ hrec
        refine bb_r (nI_ge ht (by decide)) (s_isHere ht (bb_l (by decide) ?_))
        show w_X7_land (2 + (((((7 * (nI t - nI t / 16 * 16)) + (13 * (nI t / 16 - nI t / 16 / 16 * 16))) + ((nI t - nI t / 16 * 16) * (nI t / 16 - nI t / 16 / 16 * 16))) + sd) - ((((7 * (nI t - nI t / 16 * 16)) + (13 * (nI t / 16 - nI t / 16 / 16 * 16))) + ((nI t - nI t / 16 * 16) * (nI t / 16 - nI t / 16 / 16 * 16))) + sd) / 6 * 6)) (nI t / 256) _
        rw [cx ht, cy ht, cz ht]
        refine s_land (y := nI (t / 256)) (h := hgt sd (t % 16) (t / 16 % 16)) (s_putM ht ⟨vp_in_nI ht (by decide), ?_⟩)
        rw [nI_clamp (show t < 2 ^ 31 by omega), pk_us]
        have e : cnt (fun j => ¬ kap sd j = 0) (t + 1) = cnt (fun j => ¬ kap sd j = 0) t + (if ¬ kap sd t = 0 then 1 else 0) := rfl
        have go : ∀ (v : Int32) (f' g' : Nat → Int32), v = nI (cnt (fun j => ¬ kap sd j = 0) (t + 1)) → rec (v, nI t + 1, f', g', 0) := fun v f' g' hv => hrec _ ⟨f', g', by rw [hv, nI_1]⟩
        refine ⟨fun c => ?_, fun c => ?_⟩
        · have c2 : ¬ kap sd t = 0 := c
          rw [if_pos c2] at e
          exact go (nI (cnt (fun j => ¬ kap sd j = 0) t) + 1) _ _ (by rw [e, nI_1])
        · have c2 : kap sd t = 0 := c
          rw [if_neg (fun q => q c2)] at e
          exact go (nI (cnt (fun j => ¬ kap sd j = 0) t) + 0) _ _ (by rw [e, Int32.add_zero]; try rfl)
      · rintro rec a ⟨f, g, rfl⟩
        exact bb_l (fun q => q (nI_le (Nat.le_refl 3072) (by decide))) (lw_ok hL rfl (fun _ => rfl))
    · rcases q with q | q
      · exact absurd q c
      · exact absurd q ((le_nl _ _).mp d)
