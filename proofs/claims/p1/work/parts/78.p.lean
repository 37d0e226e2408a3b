theorem s_flood {S : Nat → Prop} {nl : Prop} {f : Nat → Int32} {Q : (Nat → Int32) → (Nat → Int32) → Prop} (hS : ∀ j, j < 3072 → ¬ S j → f j = 0 ∨ f j = 2) (hU : ∀ j, j + 256 < 3072 → ¬ S j → ¬ S (j + 256)) (hN : ∀ i, i < 3072 → S i → ∃ d q, d < 6 ∧ q < 3072 ∧ ¬ S q ∧ nb d q i) (hL : nl → ∀ i, i < 3072 → ¬ f i = 3) (h : ∀ g s, rg s → sun S s → (∀ i, i < 3072 → clr (f i) → 13 ≤ s i) → (nl → lit g 0) → Q g s) : w_X3_flood (fun _ => 0) (fun _ => 0) 0 f Q := by
  unfold w_X3_flood
  refine s_kindle hS hU hL (fun g s hg hr hs => ?_)
  refine q_for 14 (fun r a => a.1 = nI (15 - r) ∧ (nl → lit a.2.1 0) ∧ rg a.2.2 ∧ sun S a.2.2 ∧ (0 < r → lift S (fun i => clr (f i)) 3072 a.2.2)) _ ⟨rfl, hg, hr, hs, fun q => absurd q (by omega)⟩ ?_ ?_
  · rintro rec r ⟨v, g, s⟩ hrr ⟨hv, hg, hr, hs, hl⟩ hrec
    have hv : v = nI (15 - r) := hv
    subst hv
    refine bb_r (nI_ge (show 1 < 15 - r by omega) (by omega)) ?_
    refine q_for 3072 (fun t a => a.1 = nI (15 - r) ∧ a.2.1 = nI t ∧ (nl → lit a.2.2.1 0) ∧ rg a.2.2.2 ∧ sun S a.2.2.2 ∧ (r = 0 → lift S (fun i => clr (f i)) t a.2.2.2) ∧ (0 < r → lift S (fun i => clr (f i)) 3072 a.2.2.2)) _ ⟨rfl, rfl, hg, hr, hs, fun _ q hq => absurd hq (Nat.not_lt_zero q), hl⟩ ?_ ?_
    · rintro rec t ⟨v, w, g, s⟩ ht ⟨hv, hw, hg, hr, hs, hl0, hl⟩ hrec
      have hv : v = nI (15 - r) := hv
      have hw : w = nI t := hw
      subst hv; subst hw
      have hg : nl → lit g 0 := hg
      have hr : rg s := hr
      have hs : sun S s := hs
      have hl0 : r = 0 → lift S (fun i => clr (f i)) t s := hl0
      have hl : 0 < r → lift S (fun i => clr (f i)) 3072 s := hl
      have go : ∀ (K : Int32 → (Nat → Int32) → (Nat → Int32) → Prop) (s2 : Nat → Int32), rg s2 → sun S s2 → (r = 0 → lift S (fun i => clr (f i)) (t + 1) s2) → (0 < r → lift S (fun i => clr (f i)) 3072 s2) → w_X3_flood_B41 0 f Q (fun v2 v3 m_glow m_sky => rec (v2, v3, m_glow, m_sky)) K (nI (15 - r)) (nI t) g s2 := by
        intro K s2 a1 a2 a3 a4
        unfold w_X3_flood_B41 w_X3_flood_B60
        rw [nI_clamp (show t < 2 ^ 31 by omega)]
        refine ⟨vp_in_nI ht (by decide), fun c => hrec _ ⟨rfl, nI_1 t, hg, a1, a2, a3, a4⟩, fun c => ?_⟩
        refine s_spreadX3 ht (fun _ _ => True) trivial (fun _ _ _ _ _ => trivial) (fun _ _ _ _ _ _ _ _ _ _ => trivial) (fun g2 _ => hrec _ ⟨rfl, nI_1 t, fun hn => ?_, a1, a2, a3, a4⟩)
        have := hg hn t ht
        rw [c] at this
        exact absurd this (nI_ne0 (by omega) (by omega))
      refine bb_r (nI_ge ht (by decide)) ⟨vp_in_nI ht (by decide), ?_⟩
      rw [nI_clamp (show t < 2 ^ 31 by omega)]
      refine ⟨fun c => go _ s hr hs (fun r0 q hq hSq d hd i hi hn hc => ?_) hl, fun c => ?_⟩
      · by_cases e : q = t
        · subst e
          subst r0
          exact absurd (hs q ht hSq) c
        · exact hl0 r0 q (by omega) hSq d hd i hi hn hc
      · refine s_spreadJ ht hr hs (v := 15 - r) (by omega) c (fun s2 a1 a2 a3 a4 => go _ s2 a1 a2 (fun r0 q hq hSq d hd i hi hn hc => ?_) (fun r0 q hq hSq d hd i hi hn hc => le_t (hl r0 q hq hSq d hd i hi hn hc) (a3 i)))
        by_cases e : q = t
        · subst e
          exact a4 hSq d hd i hi hn hc
        · exact le_t (hl0 r0 q (by omega) hSq d hd i hi hn hc) (a3 i)
    · rintro rec ⟨v, w, g, s⟩ ⟨hv, hw, hg, hr, hs, hl0, hl⟩
      have hv : v = nI (15 - r) := hv
      have hw : w = nI 3072 := hw
      subst hv; subst hw
      refine bb_l (fun q => q (nI_le (Nat.le_refl 3072) (by decide))) (hrec _ ⟨of1 (by omega), hg, hr, hs, fun _ => ?_⟩)
      by_cases e : r = 0
      · exact hl0 e
      · exact hl (by omega)
  · rintro rec ⟨v, g, s⟩ ⟨hv, hg, hr, hs, hl⟩
    have hv : v = nI (15 - 14) := hv
    subst hv
    refine bb_l (fun q => q (show nI (15 - 14) ≤ nI 1 from nI_le (by omega) (by decide))) (h g s hr hs (fun i hi hc => ?_) hg)
    by_cases e : S i
    · obtain ⟨d, q, hd, hq, hSq, hn⟩ := hN i hi e
      exact hl (by decide) q hq hSq d hd i hi hn hc
    · rw [show s i = 15 from hs i hi e]; decide
theorem s_sixX7 {x : Int32} {j : Nat} (hj : j < 3072) {f m : Nat → Int32} {Q : (Nat → Int32) → Prop} {K : Int32 → (Nat → Int32) → Prop} (R : Nat → (Nat → Int32) → Prop) (h0 : R 0 m)
    (hskip : ∀ (t : Nat) (g : Nat → Int32), t < 6 → R t g → (∀ i, i < 3072 → nb t j i → ¬ clrM (f i)) → R (t + 1) g)
    (hput : ∀ (t : Nat) (g : Nat → Int32) (i : Nat) (s : Int32), t < 6 → R t g → i < 3072 → nb t j i → clrM (f i) → (s = x - 1 ∨ s = x - 2) → R (t + 1) (upd g i (if g i < s then s else g i)))
    (h : ∀ g, R 6 g → K (nI j) g) : ∃ n : Nat, q_loop (fun (rec : (Int32 × Int32 × (Nat → Int32)) → Prop) (a : Int32 × Int32 × (Nat → Int32)) => w_X7_spread_L22 x 0 f Q (fun v3 v4 m_p1 => rec (v3, v4, m_p1)) K a.1 a.2.1 a.2.2) n (nI j, 0, m) := by
  refine q_for 6 (fun t a => a.1 = nI j ∧ a.2.1 = nI t ∧ R t a.2.2) _ ⟨rfl, rfl, h0⟩ ?_ ?_
  · rintro rec t ⟨u, v, g⟩ ht ⟨hu, hv, hR⟩ hrec
    have hu : u = nI j := hu
    have hv : v = nI t := hv
    subst hu; subst hv
    have hR : R t g := hR
    have skip : (∀ i, i < 3072 → nb t j i → ¬ clrM (f i)) → rec (nI j, nI t + 1, g) := fun q => hrec _ ⟨rfl, nI_1 t, hskip t g ht hR q⟩
    refine bb_r (nI_ge ht (by decide)) (s_beside hj ht (fun i hi hn => s_kindAt hi (s_isClear7 (fun hc => bb_r (by decide) ⟨vp_in_nI hi (by decide), ?_⟩) (fun hc => bb_l (by decide) (skip fun i' hi' hn' => by rw [nb_u hn' hn]; exact hc)))) (fun hno => s_kindAtM (s_isClear7 (fun hc => absurd hc clrM1) (fun _ => bb_l (by decide) (skip fun i' hi' hn' => absurd hn' (hno i' hi'))))))
    have put : ∀ s4 : Int32, (x - s4 = x - 1 ∨ x - s4 = x - 2) → w_X7_spread_B79 x 0 f Q (fun v3 v4 m_p1 => rec (v3, v4, m_p1)) K (nI j) (nI t) (nI i) (g (nI i).toNatClampNeg) x s4 g := by
      intro s4 h4
      unfold w_X7_spread_B79 w_X7_spread_B84
      rw [nI_clamp (show i < 2 ^ 31 by omega)]
      exact ⟨vp_in_nI hi (by decide), hrec _ ⟨rfl, nI_1 t, hput t g i (x - s4) ht hR hi hn hc h4⟩⟩
    exact ⟨fun _ => put 2 (Or.inr rfl), fun _ => ⟨fun _ => put 1 (Or.inl rfl), fun _ => put 2 (Or.inr rfl)⟩⟩
  · rintro rec ⟨u, v, g⟩ ⟨hu, hv, hR⟩
    have hu : u = nI j := hu
    have hv : v = nI 6 := hv
    subst hu; subst hv
    exact bb_l (fun q => q (nI_le (Nat.le_refl 6) (by decide))) (h g hR)
theorem s_spreadX7 {x : Int32} {f m : Nat → Int32} {Q : (Nat → Int32) → Prop} (R : Nat → (Nat → Int32) → Prop) (h0 : R 0 m)
    (hno : ∀ (t : Nat) (g : Nat → Int32), t < 3072 → R t g → ¬ g t = x → R (t + 1) g)
    (hdo : ∀ (t : Nat) (g : Nat → Int32) (K : Int32 → (Nat → Int32) → Prop), t < 3072 → R t g → g t = x → (∀ g', R (t + 1) g' → K (nI t) g') → ∃ n : Nat, q_loop (fun (rec : (Int32 × Int32 × (Nat → Int32)) → Prop) (a : Int32 × Int32 × (Nat → Int32)) => w_X7_spread_L22 x 0 f Q (fun v3 v4 m_p1 => rec (v3, v4, m_p1)) K a.1 a.2.1 a.2.2) n (nI t, 0, g))
    (h : ∀ g, R 3072 g → Q g) : w_X7_spread x 0 f m Q := by
  unfold w_X7_spread
  refine q_for 3072 (fun t a => a.1 = nI t ∧ R t a.2) _ ⟨rfl, h0⟩ ?_ ?_
  · rintro rec t ⟨v, g⟩ ht ⟨hv, hR⟩ hrec
    have hv : v = nI t := hv
    subst hv
    have hR : R t g := hR
    refine bb_r (nI_ge ht (by decide)) ⟨vp_in_nI ht (by decide), ?_⟩
    rw [nI_clamp (show t < 2 ^ 31 by omega)]
    exact ⟨fun c => hdo t g _ ht hR c (fun g' hR' => hrec _ ⟨nI_1 t, hR'⟩), fun c => hrec _ ⟨nI_1 t, hno t g ht hR c⟩⟩
  · rintro rec ⟨v, g⟩ ⟨hv, hR⟩
    have hv : v = nI 3072 := hv
    subst hv
    exact bb_l (fun q => q (nI_le (Nat.le_refl 3072) (by decide))) (h g hR)
theorem s_spread7g {v : Nat} (hv : 2 ≤ v ∧ v ≤ 15) {nl : Prop} {f m : Nat → Int32} {Q : (Nat → Int32) → Prop} (hm : nl → lit m 0) (h : ∀ g, (nl → lit g 0) → Q g) : w_X7_spread (nI v) 0 f m Q := by
  refine s_spreadX7 (fun _ g => nl → lit g 0) hm (fun _ _ _ hR _ => hR) (fun t g K ht hR c hK => ?_) h
  refine s_sixX7 ht (fun _ _ => True) trivial (fun _ _ _ _ _ => trivial) (fun _ _ _ _ _ _ _ _ _ _ => trivial) (fun g2 _ => hK g2 fun hn => ?_)
  have := hR hn t ht
  rw [c] at this
  exact absurd this (nI_ne0 (by omega) (by omega))
theorem s_spread7J {S : Nat → Prop} {v : Nat} (hv : 2 ≤ v ∧ v ≤ 15) {f s : Nat → Int32} (hr : rg s) (hs : sun S s) {Q : (Nat → Int32) → Prop} (h : ∀ g, rg g → sun S g → (∀ a, s a ≤ g a) → (v = 15 → lift S (fun i => clrM (f i)) 3072 g) → Q g) : w_X7_spread (nI v) 0 f s Q := by
  refine s_spreadX7 (fun t g => rg g ∧ sun S g ∧ (∀ a, s a ≤ g a) ∧ (v = 15 → lift S (fun i => clrM (f i)) t g)) ⟨hr, hs, fun a => le_r _, fun _ q hq => absurd hq (Nat.not_lt_zero q)⟩ ?_ ?_ (fun g hR => h g hR.1 hR.2.1 hR.2.2.1 hR.2.2.2)
  · rintro t g ht ⟨a1, a2, a3, a4⟩ c
    refine ⟨a1, a2, a3, fun e q hq hSq d hd i hi hn hc => ?_⟩
    by_cases e2 : q = t
    · subst e2
      subst e
      exact absurd (a2 q ht hSq) c
    · exact a4 e q (by omega) hSq d hd i hi hn hc
  · rintro t g K ht ⟨a1, a2, a3, a4⟩ c hK
    have hx : ∀ x : Int32, (x = nI v - 1 ∨ x = nI v - 2) → ∃ u : Nat, u ≤ 14 ∧ x = nI u := by
      rintro x (rfl | rfl)
      · exact ⟨v - 1, by omega, pk_sub (b := 1) (by omega)⟩
      · exact ⟨v - 2, by omega, pk_sub (b := 2) (by omega)⟩
    refine s_sixX7 ht (fun k g' => rg g' ∧ sun S g' ∧ (∀ a, g a ≤ g' a) ∧ (v = 15 → ∀ d, d < k → ∀ i, i < 3072 → nb d t i → clrM (f i) → 13 ≤ g' i)) ⟨a1, a2, fun a => le_r _, fun _ d hd => absurd hd (Nat.not_lt_zero d)⟩ ?_ ?_ ?_
    · rintro k g' hk ⟨b1, b2, b3, b4⟩ hno
      refine ⟨b1, b2, b3, fun e d hd i hi hn hc => ?_⟩
      by_cases e2 : d = k
      · subst e2
        exact absurd hc (hno i hi hn)
      · exact b4 e d (by omega) i hi hn hc
    · rintro k g' i x hk ⟨b1, b2, b3, b4⟩ hi hn hc hxx
      obtain ⟨c1, c2, c3, c4⟩ := put_ok (S := S) (i := i) b1 b2 (hx x hxx)
      refine ⟨c1, c2, fun a => le_t (b3 a) (c3 a), fun e d hd i' hi' hn' hc' => ?_⟩
      by_cases e2 : d = k
      · subst e2
        rw [nb_u hn' hn]
        refine le_t ?_ c4
        subst e
        rcases hxx with rfl | rfl <;> decide
      · exact le_t (b4 e d (by omega) i' hi' hn' hc') (c3 i')
    · rintro g' ⟨b1, b2, b3, b4⟩
      refine hK g' ⟨b1, b2, fun a => le_t (a3 a) (b3 a), fun e q hq hSq d hd i hi hn hc => ?_⟩
      by_cases e2 : q = t
      · subst e2
        exact b4 e d hd i hi hn hc
      · exact le_t (a4 e q (by omega) hSq d hd i hi hn hc) (b3 i)
theorem s_fillJ7 {m : Nat → Int32} {Q : (Nat → Int32) → Prop} (h : ∀ g, lit g 0 → Q g) : w_J7_fill_53178 0 m Q := by
  unfold w_J7_fill_53178
  refine q_for 3072 (fun t a => a.1 = nI t ∧ a.2.1 = 3072 ∧ ∀ i, i < t → a.2.2 i = 0) _ ⟨rfl, rfl, fun i hi => absurd hi (Nat.not_lt_zero i)⟩ ?_ ?_
  · rintro rec t ⟨v, w, g⟩ ht ⟨hv, hw, hg⟩ hrec
    have hv : v = nI t := hv
    have hw : w = nI 3072 := hw
    subst hv; subst hw
    refine bb_r (nI_ge ht (by decide)) ⟨vp_in_nI ht (by decide), hrec _ ⟨nI_1 t, rfl, fun i hi => ?_⟩⟩
    show upd g (nI t).toNatClampNeg 0 i = 0
    rw [nI_clamp (by omega)]
    by_cases e : i = t
    · rw [e, pk_us]
    · rw [pk_un e]; exact hg i (by omega)
  · rintro rec ⟨v, w, g⟩ ⟨hv, hw, hg⟩
    have hv : v = nI 3072 := hv
    have hw : w = nI 3072 := hw
    subst hv; subst hw
    exact bb_l (fun q => q (nI_le (Nat.le_refl 3072) (by decide))) (h g hg)
theorem s_shine {S : Nat → Prop} {nl : Prop} {f g0 s0 : Nat → Int32} {Q : (Nat → Int32) → (Nat → Int32) → Prop} (hS : ∀ j, j < 3072 → ¬ S j → f j = 0 ∨ f j = 2) (hU : ∀ j, j + 256 < 3072 → ¬ S j → ¬ S (j + 256)) (hN : ∀ i, i < 3072 → S i → ∃ d q, d < 6 ∧ q < 3072 ∧ ¬ S q ∧ nb d q i) (hL : nl → ∀ i, i < 3072 → ¬ f i = 3) (h : ∀ g s, rg s → sun S s → (∀ i, i < 3072 → clrM (f i) → 13 ≤ s i) → (nl → lit g 0) → Q g s) : w_X7_shine 0 g0 f s0 Q := by
  unfold w_X7_shine
  refine s_fillJ7 (fun s hs => s_fillJ7 (fun g hg => ?_))
  have last : ∀ (g s : Nat → Int32), rg s → sun S s → (nl → lit g 0) → w_X7_shine_B88 0 f Q g s := by
    intro g s hr hs hg
    unfold w_X7_shine_B88
    refine q_for 14 (fun r a => a.1 = nI (15 - r) ∧ (nl → lit a.2.1 0) ∧ rg a.2.2 ∧ sun S a.2.2 ∧ (0 < r → lift S (fun i => clrM (f i)) 3072 a.2.2)) _ ⟨rfl, hg, hr, hs, fun q => absurd q (by omega)⟩ ?_ ?_
    · rintro rec r ⟨v, g, s⟩ hrr ⟨hv, hg, hr, hs, hl⟩ hrec
      have hv : v = nI (15 - r) := hv
      subst hv
      have hl : 0 < r → lift S (fun i => clrM (f i)) 3072 s := hl
      refine bb_r (nI_ge (show 1 < 15 - r by omega) (by omega)) (s_spread7J (v := 15 - r) (by omega) hr hs (fun s2 a1 a2 a3 a4 => s_spread7g (v := 15 - r) (by omega) hg (fun g2 b1 => hrec _ ⟨of1 (by omega), b1, a1, a2, fun _ => ?_⟩)))
      by_cases e : r = 0
      · exact a4 (by omega)
      · exact fun q hq hSq d hd i hi hn hc => le_t (hl (by omega) q hq hSq d hd i hi hn hc) (a3 i)
    · rintro rec ⟨v, g, s⟩ ⟨hv, hg, hr, hs, hl⟩
      have hv : v = nI (15 - 14) := hv
      subst hv
      refine bb_l (fun q => q (show nI (15 - 14) ≤ nI 1 from nI_le (by omega) (by decide))) (h g s hr hs (fun i hi hc => ?_) hg)
      by_cases e : S i
      · obtain ⟨d, q, hd, hq, hSq, hn⟩ := hN i hi e
        exact hl (by decide) q hq hSq d hd i hi hn hc
      · rw [show s i = 15 from hs i hi e]; decide
  refine q_for 3072 (fun t a => a.1 = nI (3072 - t) + (-1) ∧ (nl → lit a.2.1 0) ∧ rg a.2.2 ∧ (∀ i, i < 3072 → 3072 ≤ i + t → ¬ S i → a.2.2 i = 15)) _ ⟨by show (3071 : Int32) = nI (3072 - 0) + (-1); decide, fun _ => hg, fun i hi => ⟨0, by omega, hs i hi⟩, fun i hi h2 => absurd h2 (by omega)⟩ ?_ ?_
  · rintro rec t ⟨v, g, s⟩ ht ⟨hv, hg, hr, hs⟩ hrec
    have hv : v = nI (3072 - t) + (-1) := hv
    subst hv
    have hg : nl → lit g 0 := hg
    have hr : rg s := hr
    have hs : ∀ i, i < 3072 → 3072 ≤ i + t → ¬ S i → s i = 15 := hs
    have hj : 3071 - t < 3072 := by omega
    have fin : ∀ (g2 s2 : Nat → Int32), (nl → lit g2 0) → rg s2 → (∀ i, i < 3072 → 3072 ≤ i + t → ¬ S i → s2 i = 15) → (¬ S (3071 - t) → s2 (3071 - t) = 15) → rec (nI (3071 - t) + (-1), g2, s2) := by
      intro g2 s2 b1 b2 b3 b4
      refine hrec _ ⟨by show nI (3071 - t) + (-1) = nI (3072 - (t + 1)) + (-1); rw [show 3072 - (t + 1) = 3071 - t by omega], b1, b2, fun i hi h2 hSi => ?_⟩
      by_cases e : i = 3071 - t
      · subst e
        exact b4 hSi
      · exact b3 i hi (by omega) hSi
    have f69 : ∀ (K : (Nat → Int32) → (Nat → Int32) → Prop) (s2 : Nat → Int32), rg s2 → (∀ i, i < 3072 → 3072 ≤ i + t → ¬ S i → s2 i = 15) → (¬ S (3071 - t) → s2 (3071 - t) = 15) → w_X7_shine_B69 0 f Q (fun v1 m_glow m_sky => rec (v1, m_glow, m_sky)) K (nI (3071 - t)) (f (3071 - t)) g s2 := by
      intro K s2 b2 b3 b4
      unfold w_X7_shine_B69 w_X7_shine_B82
      refine ⟨fun _ => fin g s2 hg b2 b3 b4, fun c => ⟨vp_in_nI hj (by decide), fin _ s2 (fun hn => absurd c (hL hn _ hj)) b2 b3 b4⟩⟩
    have f61 : ∀ (K : (Nat → Int32) → (Nat → Int32) → Prop), w_X7_shine_B61 0 f Q (fun v1 m_glow m_sky => rec (v1, m_glow, m_sky)) K (nI (3071 - t)) (f (3071 - t)) g s := by
      intro K
      unfold w_X7_shine_B61
      rw [nI_clamp (show 3071 - t < 2 ^ 31 by omega)]
      refine ⟨vp_in_nI hj (by decide), f69 K _ (fun i hi => ?_) (fun i hi h2 hSi => ?_) (fun _ => pk_us)⟩
      · by_cases e : i = 3071 - t
        · rw [e, pk_us]; exact ⟨15, by omega, rfl⟩
        · rw [pk_un e]; exact hr i hi
      · rw [pk_un (by omega)]; exact hs i hi h2 hSi
    have f45 : ∀ (K : (Nat → Int32) → (Nat → Int32) → Prop) (v3 : Int32), (v3 = -1 ∨ ∃ i : Nat, i < 3072 ∧ nb 3 (3071 - t) i ∧ v3 = nI i) → w_X7_shine_B45 0 f Q (fun v1 m_glow m_sky => rec (v1, m_glow, m_sky)) K (nI (3071 - t)) (f (3071 - t)) v3 g s := by
      intro K v3 h3
      unfold w_X7_shine_B45
      refine ⟨fun _ => f61 K, fun c => ?_⟩
      rcases h3 with h3 | ⟨i, hi, hn, rfl⟩
      · exact absurd h3 c
      · rw [nI_clamp (show i < 2 ^ 31 by omega)]
        refine ⟨vp_in_nI hi (by decide), fun c2 => f69 K s hr hs (fun hSj => ?_), fun _ => f61 K⟩
        have e : i = 3071 - t + 256 := by
          unfold nb at hn
          omega
        refine absurd (hs i hi (by omega) ?_) c2
        rw [e]
        exact hU _ (by omega) hSj
    show w_X7_shine_L20 0 f Q _ _ (nI (3072 - t) + (-1)) g s
    rw [of1 (show 3072 - t = (3071 - t) + 1 by omega)]
    refine bb_r (nI_pos (show 3071 - t < 2 ^ 31 by omega)) (s_kindAt hj (s_beside hj (d := 3) (by omega) (fun i hi hn => ?_) (fun hno => ?_)))
    · refine ⟨fun _ => f45 _ _ (Or.inr ⟨i, hi, hn, rfl⟩), fun c0 => ⟨fun c2 => f69 _ s hr hs (fun hSj => ?_), fun _ => f45 _ _ (Or.inr ⟨i, hi, hn, rfl⟩)⟩⟩
      exact ((hS _ hj hSj).elim c0 c2).elim
    · refine ⟨fun _ => f45 _ _ (Or.inl rfl), fun c0 => ⟨fun c2 => f69 _ s hr hs (fun hSj => ?_), fun _ => f45 _ _ (Or.inl rfl)⟩⟩
      exact ((hS _ hj hSj).elim c0 c2).elim
  · rintro rec ⟨v, g, s⟩ ⟨hv, hg, hr, hs⟩
    have hv : v = nI (3072 - 3072) + (-1) := hv
    subst hv
    show w_X7_shine_L20 0 f Q _ _ (nI (3072 - 3072) + (-1)) g s
    exact bb_l (by decide) (last g s hr (fun i hi hSi => hs i hi (by omega) hSi) hg)
