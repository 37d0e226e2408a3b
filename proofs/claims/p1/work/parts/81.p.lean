/-! faces and quads: of AIR there are none -/
theorem s_firstX {c : Nat} (hc : c < 16) {Q : Int32 → Prop} (h : ∀ m : Nat, m ≤ 12 → Q (nI m)) : w_X6_firstX (nI c) Q := by
  have e : (nI c - nI c / 4 * 4) * 4 = nI (c % 4 * 4) := by
    rw [show (4 : Int32) = nI 4 from rfl, pk_rem (by omega) (by omega) (by omega), pk_mul]
  unfold w_X6_firstX
  rw [e]
  exact h _ (by omega)
theorem s_firstZ {c : Nat} (hc : c < 16) {Q : Int32 → Prop} (h : ∀ m : Nat, m ≤ 12 → Q (nI m)) : w_X6_firstZ (nI c) Q := by
  have e : nI c / 4 * 4 = nI (c / 4 * 4) := by
    rw [show (4 : Int32) = nI 4 from rfl, pk_div (by omega) (by omega) (by omega), pk_mul]
  unfold w_X6_firstZ
  rw [e]
  exact h _ (by omega)
theorem s_faceKind {x y z k : Int32} {Q : Int32 → Prop} (h : Q 0) : w_X4_faceKind x y z k 0 (fun _ => 0) Q := by
  unfold w_X4_faceKind w_X6_kindOf w_X4_faceKind_B24
  exact s_stateAt (fun _ _ _ _ _ _ _ _ _ => bb_l (by decide) h) (fun _ => bb_r (by decide) (bb_r (by decide) h))
theorem s_readLayer {x2 x3 ax fc sU sV : Int32} {op : Nat → Int32} {V : Nat} (hV : V ≤ 12) {Q : Int32 → (Nat → Int32) → Prop} (h : ∀ o : Nat → Int32, (∀ i, i < 4 * V → o i = 0) → Q fc o) : w_X4_readLayer x2 x3 ax fc op (nI V) sU sV 0 (fun _ => 0) Q := by
  unfold w_X4_readLayer
  refine q_for V (fun t a => a.1 = nI t ∧ a.2.1 = fc ∧ ∀ i, i < 4 * t → a.2.2 i = 0) _ ⟨rfl, rfl, fun i hi => absurd hi (by omega)⟩ ?_ ?_
  · rintro rec t ⟨v, f, o⟩ ht ⟨hv, hf, ho⟩ hrec
    have hv : v = nI t := hv
    have hf : f = fc := hf
    subst hv; subst hf
    refine bb_r (nI_ge ht (by omega)) ?_
    refine q_for 4 (fun u a => a.1 = nI t ∧ a.2.1 = nI u ∧ a.2.2.1 = f ∧ ∀ i, i < 4 * t + u → a.2.2.2 i = 0) _ ⟨rfl, rfl, rfl, ho⟩ ?_ ?_
    · rintro rec u ⟨v, w, f2, o⟩ hu ⟨hv, hw, hf, ho⟩ hrec
      have hv : v = nI t := hv
      have hw : w = nI u := hw
      have hf : f2 = f := hf
      have ho' : ∀ i, i < 4 * t + u → o i = 0 := ho
      subst hv; subst hw; subst hf
      have ei : nI t * 4 + nI u = nI (t * 4 + u) := by
        rw [show (4 : Int32) = nI 4 from rfl, pk_mul, nI_add]
      have b96 : ∀ (K : Int32 → Int32 → (Nat → Int32) → Prop) (v8 v9 s0 : Int32), w_X4_readLayer_B96 x2 x3 ax (nI V) sU sV 0 (fun _ => 0) Q (fun v4 v5 m_faces m_open => rec (v4, v5, m_faces, m_open)) K (nI t) (nI u) v8 v9 s0 f2 o := by
        intro K v8 v9 s0
        unfold w_X4_readLayer_B96
        rw [ei, nI_clamp (show t * 4 + u < 2 ^ 31 by omega)]
        refine s_faceKind ⟨vp_in_nI (by omega) (by decide), bb_l (by decide) (hrec _ ⟨rfl, nI_1 u, rfl, fun i hi => ?_⟩)⟩
        show upd o (t * 4 + u) 0 i = 0
        by_cases e : i = t * 4 + u
        · rw [e, pk_us]
        · rw [pk_un e]; exact ho' i (by omega)
      have b68 : ∀ (K : Int32 → Int32 → (Nat → Int32) → Prop) (v6 v7 v8 s0 : Int32), w_X4_readLayer_B68 x2 x3 ax (nI V) sU sV 0 (fun _ => 0) Q (fun v4 v5 m_faces m_open => rec (v4, v5, m_faces, m_open)) K (nI t) (nI u) v6 v7 v8 s0 f2 o := fun K v6 v7 v8 s0 => ⟨fun _ => ⟨fun _ => b96 _ _ _ _, fun _ => b96 _ _ _ _⟩, fun _ => b96 _ _ _ _⟩
      have b52 : ∀ (K : Int32 → Int32 → (Nat → Int32) → Prop) (v6 v7 s0 : Int32), w_X4_readLayer_B52 x2 x3 ax (nI V) sU sV 0 (fun _ => 0) Q (fun v4 v5 m_faces m_open => rec (v4, v5, m_faces, m_open)) K (nI t) (nI u) v6 v7 s0 f2 o := fun K v6 v7 s0 => ⟨fun _ => b68 _ _ _ _ _, fun _ => b68 _ _ _ _ _⟩
      exact bb_r (nI_ge hu (by decide)) ⟨fun _ => b52 _ _ _ _, fun _ => b52 _ _ _ _⟩
    · rintro rec ⟨v, w, f2, o⟩ ⟨hv, hw, hf, ho⟩
      have hv : v = nI t := hv
      have hw : w = nI 4 := hw
      subst hv; subst hw
      exact bb_l (fun q => q (nI_le (Nat.le_refl 4) (by decide))) (hrec _ ⟨nI_1 t, hf, fun i hi => ho i (by omega)⟩)
  · rintro rec ⟨v, f, o⟩ ⟨hv, hf, ho⟩
    have hv : v = nI V := hv
    have hf : f = fc := hf
    subst hv; subst hf
    exact bb_l (fun q => q (nI_le (Nat.le_refl V) (by omega))) (h o ho)
theorem s_coverLayer {x1 qd sU sV : Int32} {op nu : Nat → Int32} {V : Nat} (hV : V ≤ 12) (ho : ∀ i, i < 4 * V → op i = 0) {Q : (Nat → Int32) → (Nat → Int32) → Int32 → Prop} (h : Q nu op qd) : w_X4_coverLayer x1 nu op qd (nI V) sU sV Q := by
  unfold w_X4_coverLayer
  refine q_up V (fun t => (nI t, nu, op, qd)) _ rfl (fun rec t ht hrec => ?_) (fun rec => bb_l (fun q => q (nI_le (Nat.le_refl V) (by omega))) h)
  refine bb_r (nI_ge ht (by omega)) ?_
  refine q_up 4 (fun u => (nI t, nI u, nu, op, qd)) _ rfl (fun rec2 u hu hrec2 => ?_) (fun rec2 => ?_)
  · have ei : nI t * 4 + nI u = nI (t * 4 + u) := by
      rw [show (4 : Int32) = nI 4 from rfl, pk_mul, nI_add]
    refine bb_r (nI_ge hu (by decide)) ?_
    show vp_in (nI t * 4 + nI u) 48 ∧ (_ ∧ _)
    rw [ei]
    refine ⟨vp_in_nI (by omega) (by decide), bb_l (fun q => q ?_) ?_⟩
    · rw [nI_clamp (show t * 4 + u < 2 ^ 31 by omega)]
      exact ho _ (by omega)
    · show rec2 (nI t, nI u + 1, nu, op, qd)
      rw [nI_1]
      exact hrec2
  · refine bb_l (fun q => q (nI_le (Nat.le_refl 4) (by decide))) ?_
    show rec (nI t + 1, nu, op, qd)
    rw [nI_1]
    exact hrec
theorem s_layLoop {x2 x3 ax sU sV : Int32} {op nu : Nat → Int32} {s n V : Nat} (hs : s + n ≤ 24) (hV : V ≤ 12) {Q : Int32 → Int32 → (Nat → Int32) → (Nat → Int32) → Int32 → Int32 → Int32 → Int32 → Prop} (h : ∀ y1 y3 y4 y6 y7 y8, Q y1 0 y3 y4 0 y6 y7 y8) : w_X4_lay_B123 x2 x3 0 (fun _ => 0) Q (nI s) (nI n) ax 0 nu op 0 (nI V) sU sV := by
  unfold w_X4_lay_B123
  refine q_for n (fun t a => ∃ o : Nat → Int32, a = (nI s, nI n, nI (s + t), ax, 0, nu, o, 0, nI V, sU, sV)) _ ⟨op, rfl⟩ ?_ ?_
  · rintro rec t a ht ⟨o, rfl⟩ hrec
    refine bb_r (up_no ht (by omega)) (s_readLayer hV (fun o2 ho2 => s_coverLayer hV ho2 (hrec _ ⟨o2, ?_⟩)))
    show (nI s, nI n, nI (s + t) + 1, ax, (0 : Int32), nu, o2, (0 : Int32), nI V, sU, sV) = _
    rw [nI_1]
    rfl
  · rintro rec a ⟨o, rfl⟩
    exact bb_l (fun q => q (up_yes (by omega))) (h _ _ _ _ _ _)
theorem s_lay {c : Nat} (hc : c < 16) {x3 ax fc qd zV sU sV : Int32} {op nu : Nat → Int32} {Q : Int32 → Int32 → (Nat → Int32) → (Nat → Int32) → Int32 → Int32 → Int32 → Int32 → Prop} (h : ∀ y1 y3 y4 y6 y7 y8, Q y1 0 y3 y4 0 y6 y7 y8) : w_X4_lay (nI c) x3 ax fc nu op qd zV sU sV 0 (fun _ => 0) Q := by
  have b107 : ∀ (m V : Nat) (ax sU sV : Int32), m ≤ 12 → V ≤ 12 → w_X4_lay_B107 (nI c) x3 0 (fun _ => 0) Q (nI m) ax 0 nu op 0 (nI V) sU sV := fun m V ax sU sV hm hV => ⟨fun _ => s_layLoop (n := 4) (by omega) hV h, fun _ => s_layLoop (n := 12) (by omega) hV h⟩
  have b74 : ∀ (V : Nat) (ax zV sU sV : Int32), V ≤ 12 → w_X4_lay_B74 (nI c) x3 0 (fun _ => 0) Q (nI V) ax 0 nu op 0 zV sU sV := fun V ax zV sU sV hV => ⟨fun _ => ⟨fun _ => s_firstZ hc (fun m hm => b107 m V ax sU sV hm hV), fun _ => b107 0 V ax sU sV (by omega) hV⟩, fun _ => s_firstX hc (fun m hm => b107 m V ax sU sV hm hV)⟩
  have b56 : ∀ (s1 ax zV sU sV : Int32), w_X4_lay_B56 (nI c) x3 0 (fun _ => 0) Q s1 ax 0 nu op 0 zV sU sV := fun s1 ax zV sU sV => ⟨fun _ => b74 12 _ _ _ _ (by omega), fun _ => b74 4 _ _ _ _ (by omega)⟩
  have b36 : ∀ (s1 ax zV sU sV : Int32), w_X4_lay_B36 (nI c) x3 0 (fun _ => 0) Q s1 ax 0 nu op 0 zV sU sV := fun s1 ax zV sU sV => ⟨fun _ => b56 _ _ _ _ _, fun _ => s_firstZ hc (fun m _ => b56 _ _ _ _ _)⟩
  exact ⟨fun _ => s_firstX hc (fun m _ => b36 _ _ _ _ _), fun _ => s_firstZ hc (fun m _ => b36 _ _ _ _ _)⟩
theorem s_isFace0 {j : Nat} (hj : j < 3072) {x2 : Int32} {Q : Int32 → Prop} (h : Q 0) : w_X7_isFace (nI j) x2 0 (fun _ => 0) Q := by
  unfold w_X7_isFace
  exact s_kindAt hj (bb_r (by decide) h)
theorem s_facesNow {c : Nat} (hc : c < 16) {x2 : Int32} {Q : Int32 → Prop} (h : Q 0) : w_X7_facesNow (nI c) x2 0 (fun _ => 0) Q := by
  unfold w_X7_facesNow
  refine q_up 192 (fun t => ((0 : Int32), nI t)) _ rfl (fun rec t ht hrec => ?_) (fun rec => bb_l (fun q => q (nI_le (Nat.le_refl 192) (by decide))) h)
  refine bb_r (nI_ge ht (by decide)) (s_cellOf hc ht (fun i hi => s_isFace0 hi (bb_l (by decide) ?_)))
  show rec (0 + 0, nI t + 1)
  rw [nI_1]
  exact hrec
def lN4 (k : Nat) : Nat := if 2 ≤ k ∧ k < 4 then 12 else 4
def hN4 (k : Nat) : Nat := if 2 ≤ k ∧ k < 4 then 4 else 12
theorem s_layers {k : Nat} (hk : k < 6) {Q : Int32 → Prop} (h : Q (nI (lN4 k))) : w_X7_layers (nI k) Q := by
  rcases (show k = 0 ∨ k = 1 ∨ k = 2 ∨ k = 3 ∨ k = 4 ∨ k = 5 by omega) with rfl | rfl | rfl | rfl | rfl | rfl
  · exact bb_r (by decide) (bb_l (by decide) h)
  · exact bb_r (by decide) (bb_l (by decide) h)
  · exact bb_l (by decide) h
  · exact bb_r (by decide) (bb_r (by decide) h)
  · exact bb_r (by decide) (bb_l (by decide) h)
  · exact bb_r (by decide) (bb_l (by decide) h)
theorem s_highest {k : Nat} (hk : k < 6) {Q : Int32 → Prop} (h : Q (nI (hN4 k))) : w_X7_highest (nI k) Q := by
  rcases (show k = 0 ∨ k = 1 ∨ k = 2 ∨ k = 3 ∨ k = 4 ∨ k = 5 by omega) with rfl | rfl | rfl | rfl | rfl | rfl
  · exact bb_r (by decide) (bb_l (by decide) h)
  · exact bb_r (by decide) (bb_l (by decide) h)
  · exact bb_l (by decide) h
  · exact bb_r (by decide) (bb_r (by decide) h)
  · exact bb_r (by decide) (bb_l (by decide) h)
  · exact bb_r (by decide) (bb_l (by decide) h)
theorem s_cellOf_ {c k t u w : Nat} (hc : c < 16) (hk : k < 6) (ht : t < lN4 k) (hu : u < hN4 k) (hw : w < 4) {Q : Int32 → Prop} (h : ∀ i : Nat, i < 3072 → Q (nI i)) : w_X7_cellOf_ (nI c) (nI k) (nI t) (nI w) (nI u) Q := by
  have eX : (nI c - nI c / 4 * 4) * 4 = nI (c % 4 * 4) := by
    rw [show (4 : Int32) = nI 4 from rfl, pk_rem (by omega) (by omega) (by omega), pk_mul]
  have eZ : nI c / 4 * 4 = nI (c / 4 * 4) := by
    rw [show (4 : Int32) = nI 4 from rfl, pk_div (by omega) (by omega) (by omega), pk_mul]
  have at_ : ∀ a b d : Nat, a < 16 → b < 12 → d < 16 → w_X7_at (nI a) (nI b) (nI d) Q := fun a b d ha hb hd => by
    unfold w_X7_at
    rw [ix_M]
    exact h _ (ix_lt ha hb hd)
  unfold w_X7_cellOf_ w_X7_cellOf__B67
  rw [eX, eZ]
  unfold lN4 at ht
  unfold hN4 at hu
  refine ⟨fun c1 => ⟨fun c2 => ?_, fun c2 => ?_⟩, fun c1 => ?_⟩
  · have c2 := (nI_leI (a := 4) (by omega) (by omega)).mp c2
    rw [if_neg (by omega)] at ht hu
    rw [nI_add, nI_add]
    exact at_ _ _ _ (by omega) (by omega) (by omega)
  · have c1 := (nI_leI (a := 2) (by omega) (by omega)).mp c1
    have c2 : ¬ 4 ≤ k := fun q => c2 ((nI_leI (a := 4) (by omega) (by omega)).mpr q)
    rw [if_pos (by omega)] at ht hu
    rw [nI_add, nI_add]
    exact at_ _ _ _ (by omega) (by omega) (by omega)
  · have c1 : ¬ 2 ≤ k := fun q => c1 ((nI_leI (a := 2) (by omega) (by omega)).mpr q)
    rw [if_neg (by omega)] at ht hu
    rw [nI_add, nI_add]
    exact at_ _ _ _ (by omega) (by omega) (by omega)
theorem pset0 {F : Nat → Nat → Int32} (hF : ∀ a b, F a b = 0) {i j : Nat} : ∀ a b, q_pset F i j 0 a b = 0 := by
  intro a b
  show (if a = i then upd (F i) j 0 else F a) b = 0
  by_cases e : a = i
  · rw [if_pos e]
    by_cases e2 : b = j
    · rw [e2, pk_us]
    · rw [pk_un e2]; exact hF _ _
  · rw [if_neg e]; exact hF _ _
theorem s_quadsNow {c k : Nat} (hc : c < 16) (hk : k < 6) {Q : Int32 → Prop} (h : Q 0) : w_X7_quadsNow (nI c) (nI k) 0 (fun _ => 0) Q := by
  have h12 : hN4 k ≤ 12 := by unfold hN4; split <;> omega
  have l12 : lN4 k ≤ 12 := by unfold lN4; split <;> omega
  unfold w_X7_quadsNow
  refine q_for (lN4 k) (fun t a => a.1 = 0 ∧ a.2.1 = nI t ∧ ∀ i j, a.2.2 i j = 0) _ ⟨rfl, rfl, fun _ _ => rfl⟩ ?_ ?_
  · rintro rec t ⟨v, y, F⟩ ht ⟨hv, hy, hF⟩ hrec
    have hv : v = 0 := hv
    have hy : y = nI t := hy
    subst hv; subst hy
    refine s_layers hk (bb_r (nI_ge ht (by omega)) ?_)
    refine q_for (hN4 k) (fun u a => a.1 = 0 ∧ a.2.1 = nI t ∧ a.2.2.1 = nI u ∧ ∀ i j, a.2.2.2 i j = 0) _ ⟨rfl, rfl, rfl, hF⟩ ?_ ?_
    · rintro rec u ⟨v, y, z, F⟩ hu ⟨hv, hy, hz, hF⟩ hrec
      have hv : v = 0 := hv
      have hy : y = nI t := hy
      have hz : z = nI u := hz
      subst hv; subst hy; subst hz
      refine s_highest hk (bb_r (nI_ge hu (by omega)) ?_)
      refine q_for 4 (fun w a => a.1 = 0 ∧ a.2.1 = nI t ∧ a.2.2.1 = nI u ∧ a.2.2.2.1 = nI w ∧ ∀ i j, a.2.2.2.2 i j = 0) _ ⟨rfl, rfl, rfl, rfl, hF⟩ ?_ ?_
      · rintro rec w ⟨v, y, z, x, F⟩ hw ⟨hv, hy, hz, hx, hF⟩ hrec
        have hv : v = 0 := hv
        have hy : y = nI t := hy
        have hz : z = nI u := hz
        have hx : x = nI w := hx
        subst hv; subst hy; subst hz; subst hx
        refine bb_r (nI_ge hw (by decide)) (s_cellOf_ hc hk ht hu hw (fun i hi => ⟨vp_in_nI (by omega) (by decide), s_isFace0 hi (bb_l (by decide) ?_)⟩))
        refine ⟨?_, vp_in_nI hw (by decide), hrec _ ⟨rfl, rfl, rfl, nI_1 w, pset0 hF⟩⟩
        show (nI u).toNatClampNeg < 12
        rw [nI_clamp (by omega)]
        omega
      · rintro rec ⟨v, y, z, x, F⟩ ⟨hv, hy, hz, hx, hF⟩
        have hv : v = 0 := hv
        have hy : y = nI t := hy
        have hz : z = nI u := hz
        have hx : x = nI 4 := hx
        subst hv; subst hy; subst hz; subst hx
        exact bb_l (fun q => q (nI_le (Nat.le_refl 4) (by decide))) (hrec _ ⟨rfl, rfl, nI_1 u, hF⟩)
    · rintro rec0 ⟨v, y, z, F⟩ ⟨hv, hy, hz, hF⟩
      have hv : v = 0 := hv
      have hy : y = nI t := hy
      have hz : z = nI (hN4 k) := hz
      subst hv; subst hy; subst hz
      refine s_highest hk (bb_l (fun q => q (nI_le (Nat.le_refl _) (by omega))) ?_)
      refine q_for (hN4 k) (fun u a => a.1 = 0 ∧ a.2.1 = nI t ∧ a.2.2.1 = nI u ∧ ∀ i j, a.2.2.2 i j = 0) _ ⟨rfl, rfl, rfl, hF⟩ ?_ ?_
      · rintro rec u ⟨v, y, z, F⟩ hu ⟨hv, hy, hz, hF⟩ hrec
        have hv : v = 0 := hv
        have hy : y = nI t := hy
        have hz : z = nI u := hz
        subst hv; subst hy; subst hz
        refine s_highest hk (bb_r (nI_ge hu (by omega)) ?_)
        refine q_for 4 (fun w a => a.1 = 0 ∧ a.2.1 = nI t ∧ a.2.2.1 = nI u ∧ a.2.2.2.1 = nI w ∧ ∀ i j, a.2.2.2.2 i j = 0) _ ⟨rfl, rfl, rfl, rfl, hF⟩ ?_ ?_
        · rintro rec w ⟨v, y, z, x, F⟩ hw ⟨hv, hy, hz, hx, hF⟩ hrec
          have hv : v = 0 := hv
          have hy : y = nI t := hy
          have hz : z = nI u := hz
          have hx : x = nI w := hx
          subst hv; subst hy; subst hz; subst hx
          refine bb_r (nI_ge hw (by decide)) ⟨vp_in_nI (by omega) (by decide), ?_, vp_in_nI hw (by decide), bb_r (fun q => q (hF _ _)) (hrec _ ⟨rfl, rfl, rfl, nI_1 w, hF⟩)⟩
          show (nI u).toNatClampNeg < 12
          rw [nI_clamp (by omega)]
          omega
        · rintro rec ⟨v, y, z, x, F⟩ ⟨hv, hy, hz, hx, hF⟩
          have hv : v = 0 := hv
          have hy : y = nI t := hy
          have hz : z = nI u := hz
          have hx : x = nI 4 := hx
          subst hv; subst hy; subst hz; subst hx
          exact bb_l (fun q => q (nI_le (Nat.le_refl 4) (by decide))) (hrec _ ⟨rfl, rfl, nI_1 u, hF⟩)
      · rintro rec1 ⟨v, y, z, F⟩ ⟨hv, hy, hz, hF⟩
        have hv : v = 0 := hv
        have hy : y = nI t := hy
        have hz : z = nI (hN4 k) := hz
        subst hv; subst hy; subst hz
        exact s_highest hk (bb_l (fun q => q (nI_le (Nat.le_refl _) (by omega))) (hrec _ ⟨rfl, nI_1 t, hF⟩))
  · rintro rec ⟨v, y, F⟩ ⟨hv, hy, hF⟩
    have hv : v = 0 := hv
    have hy : y = nI (lN4 k) := hy
    subst hv; subst hy
    exact s_layers hk (bb_l (fun q => q (nI_le (Nat.le_refl _) (by omega))) h)
theorem s_isChunkM {x : Int32} {Q : Int32 → Prop} (h1 : ∀ c : Nat, c < 16 → x = nI c → Q 1) (h0 : (x < 0 ∨ 15 < x) → Q 0) : w_X7_isChunk x Q := by
  unfold w_X7_isChunk
  exact s_isChunk (fun c hc e => ⟨rfl, h1 c hc e⟩) (fun q => ⟨rfl, h0 q⟩)
theorem p_case_17 {L : Nat} (hL : L = 8) (xs : Nat → Int32) : w_case_17 L xs := by
  unfold w_case_17
  refine ⟨vpL1 hL, vpL2 hL, ?_⟩
  generalize xs (Int32.toNatClampNeg (0 + 1)) = x
  generalize xs (Int32.toNatClampNeg (0 + 2)) = k
  unfold w_L_faces w_X6_faces
  refine s_requireChunk (fun c hc e => s_requireSide (fun k0 hk e2 => ?_) (fun hk => Or.inr ⟨rfl, vpL1 hL, vpL2 hL, ?_⟩)) (fun hx => Or.inl ⟨rfl, vpL1 hL, vpL2 hL, ?_⟩)
  · subst e; subst e2
    refine s_lay hc (fun y1 y3 y4 y6 y7 y8 => ⟨vpL1 hL, vpL2 hL, ?_⟩)
    unfold w_X7_faces
    exact s_isChunkM (fun c' hc' e => bb_l (by decide) (s_isSide (fun k' hk' e2 => bb_r (by decide) (s_facesNow hc (lw_ok hL rfl (fun _ => rfl)))) (fun q => (side_no hk rfl q).elim))) (fun q => (chunk_no hc rfl q).elim)
  · unfold w_X7_faces
    exact s_isChunkM (fun c' hc' e => bb_l (by decide) (s_isSide (fun k' hk' e2 => (side_no hk' e2 hk).elim) (fun q => bb_l (by decide) (lw_ok hL rfl (fun q => absurd q (by decide)))))) (fun q => (chunk_no hc e q).elim)
  · unfold w_X7_faces
    exact s_isChunkM (fun c' hc' e => (chunk_no hc' e hx).elim) (fun q => bb_r (by decide) (lw_ok hL rfl (fun q => absurd q (by decide))))
theorem p_case_18 {L : Nat} (hL : L = 8) (xs : Nat → Int32) : w_case_18 L xs := by
  unfold w_case_18
  refine ⟨vpL1 hL, vpL2 hL, ?_⟩
  generalize xs (Int32.toNatClampNeg (0 + 1)) = x
  generalize xs (Int32.toNatClampNeg (0 + 2)) = k
  unfold w_L_quads w_X6_quads
  refine s_requireChunk (fun c hc e => s_requireSide (fun k0 hk e2 => ?_) (fun hk => Or.inr ⟨rfl, vpL1 hL, vpL2 hL, ?_⟩)) (fun hx => Or.inl ⟨rfl, vpL1 hL, vpL2 hL, ?_⟩)
  · subst e; subst e2
    refine s_lay hc (fun y1 y3 y4 y6 y7 y8 => ⟨vpL1 hL, vpL2 hL, ?_⟩)
    unfold w_X7_quads
    exact s_isChunkM (fun c' hc' e => bb_l (by decide) (s_isSide (fun k' hk' e2 => bb_r (by decide) (s_quadsNow hc hk (lw_ok hL rfl (fun _ => rfl)))) (fun q => (side_no hk rfl q).elim))) (fun q => (chunk_no hc rfl q).elim)
  · unfold w_X7_quads
    exact s_isChunkM (fun c' hc' e => bb_l (by decide) (s_isSide (fun k' hk' e2 => (side_no hk' e2 hk).elim) (fun q => bb_l (by decide) (lw_ok hL rfl (fun q => absurd q (by decide)))))) (fun q => (chunk_no hc e q).elim)
  · unfold w_X7_quads
    exact s_isChunkM (fun c' hc' e => (chunk_no hc' e hx).elim) (fun q => bb_r (by decide) (lw_ok hL rfl (fun q => absurd q (by decide))))
theorem p_case_19 {L : Nat} (hL : L = 8) (xs : Nat → Int32) : w_case_19 L xs := by
  unfold w_case_19
  refine ⟨vpL1 hL, vpL2 hL, vpL3 hL, vpL4 hL, ?_⟩
  generalize xs (Int32.toNatClampNeg (0 + 1)) = x
  generalize xs (Int32.toNatClampNeg (0 + 2)) = k
  generalize xs (Int32.toNatClampNeg (0 + 3)) = i
  generalize xs (Int32.toNatClampNeg (0 + 4)) = j
  unfold w_L_quad w_X6_quad
  refine s_requireChunk (fun c hc e => s_requireSide (fun k0 hk e2 => ?_) (fun hk => Or.inr ⟨rfl, vpL1 hL, vpL2 hL, vpL3 hL, vpL4 hL, ?_⟩)) (fun hx => Or.inl ⟨rfl, vpL1 hL, vpL2 hL, vpL3 hL, vpL4 hL, ?_⟩)
  · subst e; subst e2
    have no : ∀ z : Int32, ¬ z < 0 → ¬ (0 - 1 : Int32) < z → False := by
      intro z h1 h2
      rw [Int32.lt_iff_toInt_lt] at h1 h2
      have e0 : (0 : Int32).toInt = 0 := by decide
      have e1 : (0 - 1 : Int32).toInt = -1 := by decide
      omega
    refine s_lay hc (fun y1 y3 y4 y6 y7 y8 => ?_)
    have m : w_X7_quad (nI c) (nI k0) i j 0 (fun _ => 0) 0 (fun r103 y104 => w_X7_thrown y104 (fun r105 => ((r105 = 1 → ((¬ (1 : Int32) = 0 → ((((Int32.ofNat L) - 8) < (0 + 8) → True) ∧ (¬ ((Int32.ofNat L) - 8) < (0 + 8) → False))) ∧ ((1 : Int32) = 0 → (((lg_cmp ((fun _ => 0 : Nat → Int64) (Int32.toNatClampNeg 0)) (Int32.toInt64 r103)) = 0 → ((((Int32.ofNat L) - 8) < (0 + 8) → True) ∧ (¬ ((Int32.ofNat L) - 8) < (0 + 8) → False))) ∧ (¬ (lg_cmp ((fun _ => 0 : Nat → Int64) (Int32.toNatClampNeg 0)) (Int32.toInt64 r103)) = 0 → False))))) ∧ (¬ r105 = 1 → False)))) := by
      unfold w_X7_quad
      exact s_isChunkM (fun c' hc' e => bb_l (by decide) (s_isSide (fun k' hk' e2 => bb_l (by decide) (s_quadsNow hc hk (s_is (fun a b => (no _ a b).elim) (fun _ => bb_r (by decide) (lw_ok hL rfl (fun q => absurd q (by decide))))))) (fun q => (side_no hk rfl q).elim))) (fun q => (chunk_no hc rfl q).elim)
    refine ⟨fun _ => Or.inl ⟨rfl, vpL1 hL, vpL2 hL, vpL3 hL, vpL4 hL, m⟩, fun c1 => ?_⟩
    exact bb_r c1 (Or.inl ⟨rfl, vpL1 hL, vpL2 hL, vpL3 hL, vpL4 hL, m⟩)
  · unfold w_X7_quad
    exact s_isChunkM (fun c' hc' e => bb_l (by decide) (s_isSide (fun k' hk' e2 => (side_no hk' e2 hk).elim) (fun q => bb_r (by decide) (lw_ok hL rfl (fun q => absurd q (by decide)))))) (fun q => (chunk_no hc e q).elim)
  · unfold w_X7_quad
    exact s_isChunkM (fun c' hc' e => (chunk_no hc' e hx).elim) (fun q => bb_r (by decide) (lw_ok hL rfl (fun q => absurd q (by decide))))
theorem p_case_20 {L : Nat} (hL : L = 8) (xs : Nat → Int32) : w_case_20 L xs := by
  unfold w_case_20 w_X6_gain
  refine q_for 16 (fun t a => a.1 = 0 ∧ a.2.1 = 0 ∧ a.2.2.1 = nI t) _ ⟨rfl, rfl, rfl⟩ ?_ ?_
  · rintro rec t ⟨v1, v2, v3, a4, a5, a6, a7, a8, a9, a10, a11⟩ ht ⟨h1, h2, h3⟩ hrec
    have h1 : v1 = 0 := h1
    have h2 : v2 = 0 := h2
    have h3 : v3 = nI t := h3
    subst h1; subst h2; subst h3
    refine bb_r (nI_ge ht (by decide)) ?_
    refine q_for 6 (fun u a => a.1 = 0 ∧ a.2.1 = 0 ∧ a.2.2.1 = nI t ∧ a.2.2.2.1 = nI u) _ ⟨rfl, rfl, rfl, rfl⟩ ?_ ?_
    · rintro rec u ⟨v1, v2, v3, v4, a4, a5, a6, a7, a8, a9, a10, a11⟩ hu ⟨h1, h2, h3, h4⟩ hrec
      have h1 : v1 = 0 := h1
      have h2 : v2 = 0 := h2
      have h3 : v3 = nI t := h3
      have h4 : v4 = nI u := h4
      subst h1; subst h2; subst h3; subst h4
      exact bb_r (nI_ge hu (by decide)) (s_lay ht (fun y1 y3 y4 y6 y7 y8 => hrec _ ⟨rfl, rfl, rfl, nI_1 u⟩))
    · rintro rec ⟨v1, v2, v3, v4, a4, a5, a6, a7, a8, a9, a10, a11⟩ ⟨h1, h2, h3, h4⟩
      have h1 : v1 = 0 := h1
      have h2 : v2 = 0 := h2
      have h3 : v3 = nI t := h3
      have h4 : v4 = nI 6 := h4
      subst h1; subst h2; subst h3; subst h4
      exact bb_l (fun q => q (nI_le (Nat.le_refl 6) (by decide))) (hrec _ ⟨rfl, rfl, nI_1 t⟩)
  · rintro rec ⟨v1, v2, v3, a4, a5, a6, a7, a8, a9, a10, a11⟩ ⟨h1, h2, h3⟩
    have h1 : v1 = 0 := h1
    have h2 : v2 = 0 := h2
    have h3 : v3 = nI 16 := h3
    subst h1; subst h2; subst h3
    refine bb_l (fun q => q (nI_le (Nat.le_refl 16) (by decide))) ?_
    show w_X6_gain_B68 _ _ _ 0 0 _ _ _ _ _ _ _ _
    unfold w_X6_gain_B68 w_X6_gain_B81
    refine bb_r (by decide) ?_
    unfold w_X7_gain
    refine q_up 16 (fun t => ((0 : Int32), (0 : Int32), nI t, 78 * t, 360 * t, (0 : Int32))) _ rfl (fun rec t ht hrec => ?_) (fun rec => ?_)
    · refine bb_r (nI_ge ht (by decide)) ?_
      refine q_up 6 (fun u => ((0 : Int32), (0 : Int32), nI t, nI u, 78 * t + 13 * u, 360 * t + 60 * u, (0 : Int32))) _ rfl (fun rec2 u hu hrec2 => ?_) (fun rec2 => ?_)
      · refine bb_r (nI_ge hu (by decide)) ⟨?_, s_facesNow ht ⟨?_, s_quadsNow ht hu ?_⟩⟩
        · show 78 * t + 13 * u + 0 ≤ 1248 ∧ 360 * t + 60 * u + 0 ≤ 5760
          omega
        · show 78 * t + 13 * u + 13 ≤ 1248 ∧ 360 * t + 60 * u + 60 ≤ 5760
          omega
        · show rec2 (0 + 0, 0 + 0, nI t, nI u + 1, 78 * t + 13 * u + 13, 360 * t + 60 * u + 60, 0)
          rw [nI_1]
          exact hrec2
      · refine bb_l (fun q => q (nI_le (Nat.le_refl 6) (by decide))) ?_
        show rec (0, 0, nI t + 1, 78 * t + 13 * 6, 360 * t + 60 * 6, 0)
        rw [nI_1]
        exact hrec
    · refine bb_l (fun q => q (nI_le (Nat.le_refl 16) (by decide))) ?_
      refine bb_r (by decide) ⟨?_, ?_⟩
      · show 78 * 16 ≤ 1248 ∧ 360 * 16 ≤ 5760
        omega
      · exact bb_l (fun q => q (by decide +kernel)) (lw_over hL)
