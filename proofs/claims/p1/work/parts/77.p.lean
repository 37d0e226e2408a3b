/-! light: what is open to the sky keeps 15, and what lies beside it gets at least 13 -/
def clr (x : Int32) : Prop := x = 0 ∨ x = 2 ∨ x - x / 8 * 8 = 5 ∨ x - x / 8 * 8 = 6
def clrM (x : Int32) : Prop := x = 0 ∨ x = 2 ∨ x = 5 ∨ x = 6
theorem s_isThick {x : Int32} {Q : Int32 → Prop} (h1 : (x - x / 8 * 8 = 5 ∨ x - x / 8 * 8 = 6) → Q 1) (h0 : ¬ (x - x / 8 * 8 = 5 ∨ x - x / 8 * 8 = 6) → Q 0) : w_X6_isThick x Q := by
  unfold w_X6_isThick w_X6_kindOf
  exact ⟨fun c => ⟨rfl, h1 (Or.inl c)⟩, fun c => ⟨fun d => ⟨rfl, h0 (fun h => h.elim c d)⟩, fun d => ⟨rfl, h1 (Or.inr d)⟩⟩⟩
theorem s_isClear6 {x : Int32} {Q : Int32 → Prop} (h1 : clr x → Q 1) (h0 : ¬ clr x → Q 0) : w_X6_isClear x Q := by
  unfold w_X6_isClear
  refine ⟨fun c => ⟨rfl, h1 (Or.inl c)⟩, fun c => ⟨fun d => ⟨rfl, h1 (Or.inr (Or.inl d))⟩, fun d => s_isThick (fun t => bb_r (by decide) ⟨rfl, h1 (Or.inr (Or.inr t))⟩) (fun t => bb_l (by decide) ⟨rfl, h0 ?_⟩)⟩⟩
  rintro (h | h | h)
  · exact c h
  · exact d h
  · exact t h
theorem s_isClear7 {x : Int32} {Q : Int32 → Prop} (h1 : clrM x → Q 1) (h0 : ¬ clrM x → Q 0) : w_X7_isClear x Q := by
  unfold w_X7_isClear
  refine ⟨fun c => ⟨rfl, h1 (Or.inl c)⟩, fun c => ⟨fun d => ⟨rfl, h1 (Or.inr (Or.inl d))⟩, fun d => ⟨fun e => ⟨rfl, h1 (Or.inr (Or.inr (Or.inl e)))⟩, fun e => ⟨fun i => ⟨rfl, h0 ?_⟩, fun i => ⟨rfl, h1 (Or.inr (Or.inr (Or.inr i)))⟩⟩⟩⟩⟩
  rintro (h | h | h | h)
  · exact c h
  · exact d h
  · exact e h
  · exact i h
theorem clr7 : ¬ clr 7 := by unfold clr; decide
theorem clrM1 : ¬ clrM (-1) := by unfold clrM; decide
theorem nb_u {d j i i' : Nat} (h : nb d j i) (h' : nb d j i') : i = i' := by
  unfold nb at h h'
  omega
def lit (f : Nat → Int32) (v : Int32) : Prop := ∀ i, i < 3072 → f i = v
def rg (s : Nat → Int32) : Prop := ∀ i, i < 3072 → ∃ v : Nat, v ≤ 15 ∧ s i = nI v
def sun (S : Nat → Prop) (s : Nat → Int32) : Prop := ∀ i, i < 3072 → ¬ S i → s i = 15
def lift (S C : Nat → Prop) (t : Nat) (s : Nat → Int32) : Prop := ∀ q, q < t → ¬ S q → ∀ d, d < 6 → ∀ i, i < 3072 → nb d q i → C i → 13 ≤ s i
theorem upd_self (f : Nat → Int32) (k : Nat) : upd f k (f k) = f := by
  funext j
  unfold upd
  split
  · rename_i h; rw [h]
  · rfl
theorem le_r (x : Int32) : x ≤ x := Int32.le_iff_toInt_le.mpr (Int.le_refl _)
theorem le_t {x y z : Int32} (h : x ≤ y) (h2 : y ≤ z) : x ≤ z := Int32.le_iff_toInt_le.mpr (Int.le_trans (Int32.le_iff_toInt_le.mp h) (Int32.le_iff_toInt_le.mp h2))
theorem le_of_l {x y : Int32} (h : x < y) : x ≤ y := Int32.le_iff_toInt_le.mpr (Int.le_of_lt (Int32.lt_iff_toInt_lt.mp h))
theorem le_of_nl {x y : Int32} (h : ¬ x < y) : y ≤ x := Int32.le_iff_toInt_le.mpr (Int.not_lt.mp (fun q => h (Int32.lt_iff_toInt_lt.mpr q)))
theorem put_ok {S : Nat → Prop} {g : Nat → Int32} {i : Nat} {x : Int32} (hr : rg g) (hs : sun S g) (hx : ∃ v : Nat, v ≤ 14 ∧ x = nI v) : rg (upd g i (if g i < x then x else g i)) ∧ sun S (upd g i (if g i < x then x else g i)) ∧ (∀ a, g a ≤ upd g i (if g i < x then x else g i) a) ∧ x ≤ upd g i (if g i < x then x else g i) i := by
  by_cases c : g i < x
  · rw [if_pos c]
    refine ⟨fun a ha => ?_, fun a ha hS => ?_, fun a => ?_, by rw [pk_us]; exact le_r x⟩
    · by_cases e : a = i
      · subst e
        obtain ⟨v, hv, rfl⟩ := hx
        exact ⟨v, by omega, pk_us⟩
      · rw [pk_un e]; exact hr a ha
    · by_cases e : a = i
      · subst e
        obtain ⟨v, hv, rfl⟩ := hx
        rw [hs a ha hS] at c
        exact absurd c (nI_nlt (a := 15) (by omega) (by decide))
      · rw [pk_un e]; exact hs a ha hS
    · by_cases e : a = i
      · subst e
        rw [pk_us]
        exact le_of_l c
      · rw [pk_un e]; exact le_r _
  · rw [if_neg c, upd_self]
    exact ⟨hr, hs, fun a => le_r _, le_of_nl c⟩
theorem s_spreadX3 {j : Nat} (hj : j < 3072) {f m : Nat → Int32} {Q : (Nat → Int32) → Prop} (R : Nat → (Nat → Int32) → Prop) (h0 : R 0 m)
    (hskip : ∀ (t : Nat) (g : Nat → Int32), t < 6 → R t g → (∀ i, i < 3072 → nb t j i → ¬ clr (f i)) → R (t + 1) g)
    (hput : ∀ (t : Nat) (g : Nat → Int32) (i : Nat) (s : Int32), t < 6 → R t g → i < 3072 → nb t j i → clr (f i) → (s = g j - 1 ∨ s = g j - 2) → R (t + 1) (upd g i (if g i < s then s else g i)))
    (h : ∀ g, R 6 g → Q g) : w_X3_spread (nI j) 0 f m Q := by
  unfold w_X3_spread
  refine q_for 6 (fun t a => a.1 = nI t ∧ R t a.2) _ ⟨rfl, h0⟩ ?_ ?_
  · rintro rec t ⟨v, g⟩ ht ⟨hv, hR⟩ hrec
    have hv : v = nI t := hv
    subst hv
    have hR : R t g := hR
    have skip : (∀ i, i < 3072 → nb t j i → ¬ clr (f i)) → rec (nI t + 1, g) := fun q => hrec _ ⟨nI_1 t, hskip t g ht hR q⟩
    have put : ∀ (i : Nat) (s : Int32), i < 3072 → nb t j i → clr (f i) → (s = g j - 1 ∨ s = g j - 2) → w_X3_spread_B85 (nI j) 0 f Q (fun v3 m_p1 => rec (v3, m_p1)) (w_X3_spread_B117 (nI j) 0 f Q) (nI t) (nI (j % 16) + sX t) (nI (j / 256) + sY t) (nI (j / 16 % 16) + sZ t) s g := by
      intro i s hi hn hc hs
      unfold w_X3_spread_B85 w_X6_indexOf
      rw [idx_nb hj ht hi hn]
      refine ⟨vp_in_nI hi (by decide), vp_in_nI hi (by decide), ?_⟩
      rw [nI_clamp (by omega)]
      exact hrec _ ⟨nI_1 t, hput t g i s ht hR hi hn hc hs⟩
    refine bb_r (nI_ge ht (by decide)) ?_
    show vp_in (nI t) 6 ∧ (vp_in (nI t) 6 ∧ (vp_in (nI t) 6 ∧ w_X2_stateAt ((nI j - nI j / 16 * 16) + sX (nI t).toNatClampNeg) ((nI j / 256) + sY (nI t).toNatClampNeg) ((nI j / 16 - nI j / 16 / 16 * 16) + sZ (nI t).toNatClampNeg) 0 f _))
    rw [cx hj, cy hj, cz hj, nI_clamp (show t < 2 ^ 31 by omega)]
    refine ⟨vp_in_nI ht (by decide), vp_in_nI ht (by decide), vp_in_nI ht (by decide), s_nbX2 hj ht (fun i hi hn => ?_) (fun hno => ?_)⟩
    · refine s_isClear6 (fun hc => bb_r (by decide) (s_isThick (fun _ => bb_r (by decide) ⟨vp_in_nI hj (by decide), ?_⟩) (fun _ => bb_l (by decide) ⟨vp_in_nI hj (by decide), ?_⟩))) (fun hc => bb_l (by decide) (skip fun i' hi' hn' => ?_))
      · exact put i _ hi hn hc (Or.inr (by rw [nI_clamp (by omega)]))
      · exact put i _ hi hn hc (Or.inl (by rw [nI_clamp (by omega)]))
      · rw [nb_u hn' hn]; exact hc
    · exact s_isClear6 (fun hc => absurd hc clr7) (fun _ => bb_l (by decide) (skip fun i' hi' hn' => absurd hn' (hno i' hi')))
  · rintro rec ⟨v, g⟩ ⟨hv, hR⟩
    have hv : v = nI 6 := hv
    subst hv
    exact bb_l (fun q => q (nI_le (Nat.le_refl 6) (by decide))) (h g hR)
theorem s_spreadJ {S : Nat → Prop} {j : Nat} (hj : j < 3072) {f s : Nat → Int32} (hr : rg s) (hs : sun S s) {v : Nat} (hv : 2 ≤ v ∧ v ≤ 15) (hjv : s j = nI v) {Q : (Nat → Int32) → Prop} (h : ∀ g, rg g → sun S g → (∀ a, s a ≤ g a) → (¬ S j → ∀ d, d < 6 → ∀ i, i < 3072 → nb d j i → clr (f i) → 13 ≤ g i) → Q g) : w_X3_spread (nI j) 0 f s Q := by
  refine s_spreadX3 hj (fun t g => rg g ∧ sun S g ∧ (∀ a, s a ≤ g a) ∧ (¬ S j → ∀ d, d < t → ∀ i, i < 3072 → nb d j i → clr (f i) → 13 ≤ g i)) ⟨hr, hs, fun a => le_r _, fun _ d hd => absurd hd (Nat.not_lt_zero d)⟩ ?_ ?_ ?_
  · rintro t g ht ⟨a1, a2, a3, a4⟩ hno
    refine ⟨a1, a2, a3, fun hS d hd i hi hn hc => ?_⟩
    by_cases e : d = t
    · subst e
      exact absurd hc (hno i hi hn)
    · exact a4 hS d (by omega) i hi hn hc
  · rintro t g i x ht ⟨a1, a2, a3, a4⟩ hi hn hc hx
    obtain ⟨w, hw, ew⟩ := a1 j hj
    have h2 : v ≤ w := by
      have := a3 j
      rw [hjv, ew] at this
      exact (nI_leI (by omega) (by omega)).mp this
    have hx2 : ∃ u : Nat, u ≤ 14 ∧ x = nI u := by
      rcases hx with rfl | rfl
      · exact ⟨w - 1, by omega, by rw [ew]; exact pk_sub (b := 1) (by omega)⟩
      · exact ⟨w - 2, by omega, by rw [ew]; exact pk_sub (b := 2) (by omega)⟩
    obtain ⟨b1, b2, b3, b4⟩ := put_ok (S := S) (i := i) a1 a2 hx2
    refine ⟨b1, b2, fun a => le_t (a3 a) (b3 a), fun hS d hd i' hi' hn' hc' => ?_⟩
    by_cases e : d = t
    · subst e
      rw [nb_u hn' hn]
      refine le_t ?_ b4
      have e15 := a2 j hj hS
      rcases hx with rfl | rfl
      · rw [e15]; decide
      · rw [e15]; decide
    · exact le_t (a4 hS d (by omega) i' hi' hn' hc') (b3 i')
  · rintro g ⟨a1, a2, a3, a4⟩
    exact h g a1 a2 a3 a4
theorem s_kB59 {t u b : Nat} (hu : u < 16) (hb : b < 12) (ht : t < 16) {f g s : Nat → Int32} {Q : (Nat → Int32) → (Nat → Int32) → Prop} {rec23 : Int32 → Int32 → Int32 → Int32 → (Nat → Int32) → (Nat → Int32) → Prop} {K114 : Int32 → Int32 → (Nat → Int32) → (Nat → Int32) → Prop} {k o : Int32} (h : ∀ x12 x15 : Int32, (x12 = 0 ∨ (x12 = 12 ∧ k = 3)) → ((o = 0 ∧ x15 = 0) ∨ (¬ o = 0 ∧ x15 = 15)) → rec23 (nI t) (nI u) o (nI b + (-1)) (upd g (ix u b t) x12) (upd s (ix u b t) x15)) : w_X3_kindle_B59 0 f Q rec23 K114 (nI t) (nI u) (nI b) k o g s := by
  have hi := ix_lt hu hb ht
  have go : ∀ x15 : Int32, ((o = 0 ∧ x15 = 0) ∨ (¬ o = 0 ∧ x15 = 15)) → w_X3_kindle_B83 0 f Q rec23 K114 (nI t) (nI u) o (nI b) k (nI (ix u b t)) x15 g s := by
    intro x15 h15
    unfold w_X3_kindle_B83 w_X6_indexOf w_X3_kindle_B107
    rw [ix_I]
    refine ⟨vp_in_nI hi (by decide), fun c => ⟨vp_in_nI hi (by decide), ?_⟩, fun c => ⟨vp_in_nI hi (by decide), ?_⟩⟩
    · rw [nI_clamp (show ix u b t < 2 ^ 31 by omega)]
      exact h 0 x15 (Or.inl rfl) h15
    · rw [nI_clamp (show ix u b t < 2 ^ 31 by omega)]
      exact h 12 x15 (Or.inr ⟨rfl, c⟩) h15
  unfold w_X3_kindle_B59 w_X6_indexOf
  rw [ix_I]
  exact ⟨fun c => go 0 (Or.inl ⟨c, rfl⟩), fun c => go 15 (Or.inr ⟨c, rfl⟩)⟩
def sunK (S : Nat → Prop) (t u w : Nat) (s : Nat → Int32) : Prop := ∀ i, i < 3072 → ¬ S i → (i / 16 % 16 < t ∨ (i / 16 % 16 = t ∧ (i % 16 < u ∨ (i % 16 = u ∧ 12 ≤ i / 256 + w)))) → s i = 15
theorem s_kindle {S : Nat → Prop} {nl : Prop} {f : Nat → Int32} {Q : (Nat → Int32) → (Nat → Int32) → Prop} (hS : ∀ j, j < 3072 → ¬ S j → f j = 0 ∨ f j = 2) (hU : ∀ j, j + 256 < 3072 → ¬ S j → ¬ S (j + 256)) (hL : nl → ∀ i, i < 3072 → ¬ f i = 3) (h : ∀ g s, (nl → lit g 0) → rg s → sun S s → Q g s) : w_X3_kindle (fun _ => 0) (fun _ => 0) 0 f Q := by
  unfold w_X3_kindle
  refine q_for 16 (fun t a => a.1 = nI t ∧ (nl → lit a.2.1 0) ∧ rg a.2.2 ∧ sunK S t 0 0 a.2.2) _ ⟨rfl, fun _ _ _ => rfl, fun i _ => ⟨0, by omega, rfl⟩, fun i hi _ hq => absurd hq (by omega)⟩ ?_ ?_
  · rintro rec t ⟨z, g, s⟩ ht ⟨hz, hg, hr, hs⟩ hrec
    have hz : z = nI t := hz
    subst hz
    refine bb_r (nI_ge ht (by decide)) ?_
    refine q_for 16 (fun u a => a.1 = nI t ∧ a.2.1 = nI u ∧ (nl → lit a.2.2.1 0) ∧ rg a.2.2.2 ∧ sunK S t u 0 a.2.2.2) _ ⟨rfl, rfl, hg, hr, hs⟩ ?_ ?_
    · rintro rec u ⟨z, x, g, s⟩ hu ⟨hz, hx, hg, hr, hs⟩ hrec
      have hz : z = nI t := hz
      have hx : x = nI u := hx
      subst hz; subst hx
      refine bb_r (nI_ge hu (by decide)) ?_
      refine q_for 12 (fun w a => a.1 = nI t ∧ a.2.1 = nI u ∧ a.2.2.2.1 = nI (12 - w) + (-1) ∧ (a.2.2.1 = 0 → 0 < w ∧ S (ix u (12 - w) t)) ∧ (nl → lit a.2.2.2.2.1 0) ∧ rg a.2.2.2.2.2 ∧ sunK S t u w a.2.2.2.2.2) _ ⟨rfl, rfl, by show (11 : Int32) = nI (12 - 0) + (-1); decide, fun h => absurd (show (1 : Int32) = 0 from h) (by decide), hg, hr, hs⟩ ?_ ?_
      · rintro rec w ⟨z, x, o, y, g, s⟩ hw ⟨hz, hx, hy, ho, hg, hr, hs⟩ hrec
        have hz : z = nI t := hz
        have hx : x = nI u := hx
        have hy : y = nI (12 - w) + (-1) := hy
        subst hz; subst hx; subst hy
        have hb : 11 - w < 12 := by omega
        have hi := ix_lt hu hb ht
        have ho : o = 0 → 0 < w ∧ S (ix u (12 - w) t) := ho
        have hg : nl → lit g 0 := hg
        have hr : rg s := hr
        have hs : sunK S t u w s := hs
        have fin : ∀ (K : Int32 → Int32 → (Nat → Int32) → (Nat → Int32) → Prop) (o' : Int32), (o' = 0 → S (ix u (11 - w) t)) → w_X3_kindle_B59 0 f Q (fun v2 v3 v4 v5 m_glow m_sky => rec (v2, v3, v4, v5, m_glow, m_sky)) K (nI t) (nI u) (nI (11 - w)) (f (ix u (11 - w) t)) o' g s := by
          intro K o' ho'
          refine s_kB59 hu hb ht (fun x12 x15 h12 h15 => hrec _ ⟨rfl, rfl, ?_, fun q => ⟨by omega, ?_⟩, fun hn i hi2 => ?_, fun i hi2 => ?_, fun i hi2 hSi hq => ?_⟩)
          · show nI (11 - w) + (-1) = nI (12 - (w + 1)) + (-1)
            rw [show 12 - (w + 1) = 11 - w by omega]
          · rw [show 12 - (w + 1) = 11 - w by omega]
            exact ho' q
          · show upd g (ix u (11 - w) t) x12 i = 0
            rcases h12 with rfl | ⟨-, h3⟩
            · by_cases e : i = ix u (11 - w) t
              · rw [e, pk_us]
              · rw [pk_un e]; exact hg hn i hi2
            · exact absurd h3 (hL hn _ hi)
          · show ∃ v : Nat, v ≤ 15 ∧ upd s (ix u (11 - w) t) x15 i = nI v
            by_cases e : i = ix u (11 - w) t
            · rw [e, pk_us]
              rcases h15 with ⟨-, rfl⟩ | ⟨-, rfl⟩
              · exact ⟨0, by omega, rfl⟩
              · exact ⟨15, by omega, rfl⟩
            · rw [pk_un e]; exact hr i hi2
          · show upd s (ix u (11 - w) t) x15 i = 15
            by_cases e : i = ix u (11 - w) t
            · rw [e, pk_us]
              rw [e] at hSi
              rcases h15 with ⟨h0, -⟩ | ⟨-, rfl⟩
              · exact absurd (ho' h0) hSi
              · rfl
            · rw [pk_un e]
              refine hs i hi2 hSi ?_
              unfold ix at e
              omega
        show w_X3_kindle_L23 0 f Q _ _ (nI t) (nI u) o (nI (12 - w) + (-1)) g s
        rw [of1 (show 12 - w = (11 - w) + 1 by omega)]
        refine bb_r (nI_pos (show 11 - w < 2 ^ 31 by omega)) (s_stateAt (fun a b c ha hb2 hc ea eb ec => ?_) (fun q => absurd (inW_nI hu hb ht) q))
        have ea := (nI_eq (by omega) (by omega)).mp ea
        have eb := (nI_eq (by omega) (by omega)).mp eb
        have ec := (nI_eq (by omega) (by omega)).mp ec
        rw [← ea, ← eb, ← ec]
        refine ⟨fun c0 => fin _ 0 fun _ => ?_, fun c0 => ⟨fun c1 => fin _ 1 (fun q => absurd q (by decide)), fun c1 => ⟨fun c2 => fin _ 0 fun _ => ?_, fun c2 => fin _ 1 (fun q => absurd q (by decide))⟩⟩⟩
        · obtain ⟨p1, p2⟩ := ho c0
          have e : ix u (12 - w) t = ix u (11 - w) t + 256 := by unfold ix; omega
          rw [e] at p2
          exact Classical.byContradiction fun q => hU _ (by rw [← e]; exact ix_lt hu (by omega) ht) q p2
        · exact Classical.byContradiction fun q => (hS _ hi q).elim c1 c2
      · rintro rec ⟨z, x, o, y, g, s⟩ ⟨hz, hx, hy, ho, hg, hr, hs⟩
        have hz : z = nI t := hz
        have hx : x = nI u := hx
        have hy : y = nI (12 - 12) + (-1) := hy
        subst hz; subst hx; subst hy
        show w_X3_kindle_L23 0 f Q _ _ (nI t) (nI u) o (nI (12 - 12) + (-1)) g s
        refine bb_l (by decide) (hrec _ ⟨rfl, nI_1 u, hg, hr, fun i hi hSi hq => hs i hi hSi (by omega)⟩)
    · rintro rec ⟨z, x, g, s⟩ ⟨hz, hx, hg, hr, hs⟩
      have hz : z = nI t := hz
      have hx : x = nI 16 := hx
      subst hz; subst hx
      exact bb_l (fun q => q (nI_le (Nat.le_refl 16) (by decide))) (hrec _ ⟨nI_1 t, hg, hr, fun i hi hSi hq => hs i hi hSi (by omega)⟩)
  · rintro rec ⟨z, g, s⟩ ⟨hz, hg, hr, hs⟩
    have hz : z = nI 16 := hz
    subst hz
    exact bb_l (fun q => q (nI_le (Nat.le_refl 16) (by decide))) (h g s hg hr (fun i hi hSi => hs i hi hSi (by omega)))
