theorem lkF_RX7_33 : Cond.fieldLink RX7 33 RX7 (TX7 0).2.1 (TX7 0).2.2.1 ∈ GW := mw (i := 892) (by decide +kernel) (by decide +kernel)
theorem lkS_RX7_37 : q_LS RX7 37 yX7_is cX7_is 3 (some .boolean) 3 := ⟨mw (i := 946) (by decide +kernel) (by decide +kernel), mw (i := 947) (by decide +kernel) (by decide +kernel), mw (i := 54) (by decide +kernel) (by decide +kernel), mw (i := 948) (by decide +kernel) (by decide +kernel), ⟨by decide, by decide, by decide +kernel⟩⟩
theorem lkF_RX7_41 : Cond.fieldLink RX7 41 RX7 (TX7 3).2.1 (TX7 3).2.2.1 ∈ GW := mw (i := 895) (by decide +kernel) (by decide +kernel)
theorem lkS_RX7_44 : q_LS RX7 44 yX7_xOf cX7_xOf 1 (some .int) 1 := ⟨mw (i := 960) (by decide +kernel) (by decide +kernel), mw (i := 961) (by decide +kernel) (by decide +kernel), mw (i := 54) (by decide +kernel) (by decide +kernel), mw (i := 962) (by decide +kernel) (by decide +kernel), ⟨by decide, by decide, by decide +kernel⟩⟩
theorem lkS_RX7_48 : q_LS RX7 48 yX7_zOf cX7_zOf 1 (some .int) 1 := ⟨mw (i := 963) (by decide +kernel) (by decide +kernel), mw (i := 964) (by decide +kernel) (by decide +kernel), mw (i := 54) (by decide +kernel) (by decide +kernel), mw (i := 965) (by decide +kernel) (by decide +kernel), ⟨by decide, by decide, by decide +kernel⟩⟩
theorem lkS_RX7_51 : q_LS RX7 51 yX7_chunkOf cX7_chunkOf 2 (some .int) 2 := ⟨mw (i := 966) (by decide +kernel) (by decide +kernel), mw (i := 967) (by decide +kernel) (by decide +kernel), mw (i := 54) (by decide +kernel) (by decide +kernel), mw (i := 968) (by decide +kernel) (by decide +kernel), ⟨by decide, by decide, by decide +kernel⟩⟩
theorem lkV_RX7_55 : q_LV RX7 55 RX7 yX7_isAway cX7_isAway 2 (some .boolean) 1 := ⟨mw (i := 969) (by decide +kernel) (by decide +kernel), mw (i := 971) (by decide +kernel) (by decide +kernel), mw (i := 21) (by decide +kernel) (by decide +kernel), mw (i := 54) (by decide +kernel) (by decide +kernel), mw (i := 972) (by decide +kernel) (by decide +kernel), ⟨by decide, by decide, by decide +kernel⟩⟩
theorem lkS_RX7_62 : q_LS RX7 62 yX7_isWorld cX7_isWorld 3 (some .boolean) 3 := ⟨mw (i := 943) (by decide +kernel) (by decide +kernel), mw (i := 944) (by decide +kernel) (by decide +kernel), mw (i := 54) (by decide +kernel) (by decide +kernel), mw (i := 945) (by decide +kernel) (by decide +kernel), ⟨by decide, by decide, by decide +kernel⟩⟩
theorem lkS_RX7_65 : q_LS RX7 65 yX7_at cX7_at 3 (some .int) 3 := ⟨mw (i := 953) (by decide +kernel) (by decide +kernel), mw (i := 954) (by decide +kernel) (by decide +kernel), mw (i := 54) (by decide +kernel) (by decide +kernel), mw (i := 955) (by decide +kernel) (by decide +kernel), ⟨by decide, by decide, by decide +kernel⟩⟩
theorem lkS_RX7_59 : q_LS RX7 59 yX7_yOf cX7_yOf 1 (some .int) 1 := ⟨mw (i := 992) (by decide +kernel) (by decide +kernel), mw (i := 993) (by decide +kernel) (by decide +kernel), mw (i := 54) (by decide +kernel) (by decide +kernel), mw (i := 994) (by decide +kernel) (by decide +kernel), ⟨by decide, by decide, by decide +kernel⟩⟩
def w_X7_thrown (m_thrown : Int32) (Q : Int32 → Prop) : Prop := Q m_thrown
set_option maxHeartbeats 4000000 in
set_option maxRecDepth 100000 in
theorem c_X7_thrown {γ : q_G} (a_self : Nat) (g_kind : Nat) (g_level : Nat) (g_away : Int32) (g_ticks : Int32) (g_wide : Int32) (g_tall : Int32) (g_deep : Int32) (g_clipKind : Nat) (g_clipLevel : Nat) (g_sky : Nat) (g_glow : Nat) (g_quad : Nat) (g_sum : Int64) (m_thrown : Int32) {Q : Int32 → Prop} (h : w_X7_thrown  m_thrown Q) : ctR γ yX7_thrown cX7_thrown 1 (some .int) ({ frames := 1, cells := 0, slots := 0, locals := 60 }) [.ref a_self] [(a_self, .inr (7, [.int m_thrown, .ref g_kind, .ref g_level, .int g_away, .int g_ticks, .int g_wide, .int g_tall, .int g_deep, .ref g_clipKind, .ref g_clipLevel, .ref g_sky, .ref g_glow, .ref g_quad, .long g_sum]))] (fun r w1 => ∃ r0 : Int32, r = some (.int r0) ∧ w1 = [(a_self, .inr (7, [.int m_thrown, .ref g_kind, .ref g_level, .int g_away, .int g_ticks, .int g_wide, .int g_tall, .int g_deep, .ref g_clipKind, .ref g_clipLevel, .ref g_sky, .ref g_glow, .ref g_quad, .long g_sum]))] ∧ Q r0) := by
  refine ctR_of (by decide +kernel) (by simp [lg_sl, Value.category]) ?_
  intro g C E hi
  have C : q_C γ g RX7 cX7_thrown ({ frames := 1, cells := 0, slots := 0, locals := 60 }) 1 := C
  show V g 0 [(0, .ref a_self)] [] [(a_self, .inr (7, [.int m_thrown, .ref g_kind, .ref g_level, .int g_away, .int g_ticks, .int g_wide, .int g_tall, .int g_deep, .ref g_clipKind, .ref g_clipLevel, .ref g_sky, .ref g_glow, .ref g_quad, .long g_sum]))] 0 0
  unfold w_X7_thrown at h
  refine v_run C [(.aload_n 0, 1, 0, 0)] (pc' := 1) (lv' := [(0, .ref a_self)]) (st' := [.ref a_self]) (by decide +kernel) (by rfl) ?_
  refine v_get C kX7 0 0 (idx := 33) lkF_RX7_33 ⟨by decide, rfl⟩ rfl rfl (by decide +kernel) ?_
  exact v_iret C E (Nat.le_of_ble_eq_true rfl) (Nat.le_of_ble_eq_true rfl) ⟨m_thrown, rfl, rfl, h⟩ (by decide +kernel)
def w_X7_refuse (x1 : Int32) (m_thrown : Int32) (Q : Int32 → Int32 → Prop) : Prop := Q 0 x1
set_option maxHeartbeats 4000000 in
set_option maxRecDepth 100000 in
theorem c_X7_refuse {γ : q_G} (a_self : Nat) (g_kind : Nat) (g_level : Nat) (g_away : Int32) (g_ticks : Int32) (g_wide : Int32) (g_tall : Int32) (g_deep : Int32) (g_clipKind : Nat) (g_clipLevel : Nat) (g_sky : Nat) (g_glow : Nat) (g_quad : Nat) (g_sum : Int64) (x1 : Int32) (m_thrown : Int32) {Q : Int32 → Int32 → Prop} (h : w_X7_refuse x1 m_thrown Q) : ctR γ yX7_refuse cX7_refuse 2 (some .int) ({ frames := 1, cells := 0, slots := 0, locals := 60 }) [.ref a_self, .int x1] [(a_self, .inr (7, [.int m_thrown, .ref g_kind, .ref g_level, .int g_away, .int g_ticks, .int g_wide, .int g_tall, .int g_deep, .ref g_clipKind, .ref g_clipLevel, .ref g_sky, .ref g_glow, .ref g_quad, .long g_sum]))] (fun r w1 => ∃ r0 : Int32, ∃ m_thrown' : Int32, r = some (.int r0) ∧ w1 = [(a_self, .inr (7, [.int m_thrown', .ref g_kind, .ref g_level, .int g_away, .int g_ticks, .int g_wide, .int g_tall, .int g_deep, .ref g_clipKind, .ref g_clipLevel, .ref g_sky, .ref g_glow, .ref g_quad, .long g_sum]))] ∧ Q r0 m_thrown') := by
  refine ctR_of (by decide +kernel) (by simp [lg_sl, Value.category]) ?_
  intro g C E hi
  have C : q_C γ g RX7 cX7_refuse ({ frames := 1, cells := 0, slots := 0, locals := 60 }) 2 := C
  show V g 0 [(0, .ref a_self), (1, .int x1)] [] [(a_self, .inr (7, [.int m_thrown, .ref g_kind, .ref g_level, .int g_away, .int g_ticks, .int g_wide, .int g_tall, .int g_deep, .ref g_clipKind, .ref g_clipLevel, .ref g_sky, .ref g_glow, .ref g_quad, .long g_sum]))] 0 0
  unfold w_X7_refuse at h
  refine v_run C [(.aload_n 0, 1, 0, 0), (.iload_n 1, 1, 0, 0)] (pc' := 2) (lv' := [(0, .ref a_self), (1, .int x1)]) (st' := [.int x1, .ref a_self]) (by decide +kernel) (by rfl) ?_
  refine v_put C kX7 0 0 (idx := 33) lkF_RX7_33 ⟨by decide, rfl, rfl⟩ rfl rfl rfl (Nat.le_of_ble_eq_true rfl) (w' := [(a_self, .inr (7, [.int x1, .ref g_kind, .ref g_level, .int g_away, .int g_ticks, .int g_wide, .int g_tall, .int g_deep, .ref g_clipKind, .ref g_clipLevel, .ref g_sky, .ref g_glow, .ref g_quad, .long g_sum]))]) rfl (by decide +kernel) ?_
  refine v_run C [(.iconst 0, 1, 0, 0)] (pc' := 6) (lv' := [(0, .ref a_self), (1, .int x1)]) (st' := [.int 0]) (by decide +kernel) (by rfl) ?_
  exact v_iret C E (Nat.le_of_ble_eq_true rfl) (Nat.le_of_ble_eq_true rfl) ⟨0, x1, rfl, rfl, h⟩ (by decide +kernel)
def w_X7_is_B15 (x0 : Int32) (x1 : Int32) (x2 : Int32) (Q : Int32 → Prop) (s0 : Int32) : Prop := (narrow .boolean (.int s0) = .int s0 ∧ Q s0)
def w_X7_is_B14 (x0 : Int32) (x1 : Int32) (x2 : Int32) (Q : Int32 → Prop) : Prop := w_X7_is_B15 x0 x1 x2 Q 0
def w_X7_is (x0 : Int32) (x1 : Int32) (x2 : Int32) (Q : Int32 → Prop) : Prop := ((x0 < x1 → (w_X7_is_B14 x0 x1 x2 Q )) ∧ (¬ x0 < x1 → ((x2 < x0 → (w_X7_is_B14 x0 x1 x2 Q )) ∧ (¬ x2 < x0 → (w_X7_is_B15 x0 x1 x2 Q 1)))))
set_option maxHeartbeats 4000000 in
set_option maxRecDepth 100000 in
theorem c_X7_is {γ : q_G} (x0 : Int32) (x1 : Int32) (x2 : Int32) {Q : Int32 → Prop} (h : w_X7_is x0 x1 x2  Q) : ctR γ yX7_is cX7_is 3 (some .boolean) ({ frames := 1, cells := 0, slots := 0, locals := 60 }) [.int x0, .int x1, .int x2] [] (fun r w1 => ∃ r0 : Int32, r = some (.int r0) ∧ w1 = [] ∧ Q r0) := by
  refine ctR_of (by decide +kernel) (by simp [lg_sl, Value.category]) ?_
  intro g C E hi
  have C : q_C γ g RX7 cX7_is ({ frames := 1, cells := 0, slots := 0, locals := 60 }) 3 := C
  show V g 0 [(0, .int x0), (1, .int x1), (2, .int x2)] [] [] 0 0
  have B15 : ∀ (s0 : Int32), w_X7_is_B15 x0 x1 x2 Q s0 → V g 15 [] [.int s0] [] 0 0 := by
    intro s0 h
    unfold w_X7_is_B15 at h
    obtain ⟨hz, h⟩ := h
    exact v_zret C E hz (Nat.le_of_ble_eq_true rfl) (Nat.le_of_ble_eq_true rfl) ⟨s0, rfl, rfl, h⟩ (by decide +kernel)
  have B14 : w_X7_is_B14 x0 x1 x2 Q  → V g 14 [] [] [] 0 0 := by
    intro h
    unfold w_X7_is_B14 at h
    refine v_run C [(.iconst 0, 1, 0, 0)] (pc' := 15) (lv' := []) (st' := [.int 0]) (by decide +kernel) (by rfl) ?_
    exact B15 0 h
  unfold w_X7_is at h
  refine v_run C [(.iload_n 0, 1, 0, 0), (.iload_n 1, 1, 0, 0)] (pc' := 2) (lv' := [(0, .int x0), (1, .int x1), (2, .int x2)]) (st' := [.int x1, .int x0]) (by decide +kernel) (by rfl) ?_
  refine v_icmp_lt C (tgt := 14) (off := 12) (by decide +kernel) (fun c => ?_) (fun c => ?_)
  · have h := h.1 c
    refine v_nm [] [] (lv' := []) (w' := []) (k' := 0) (n' := 0) rfl rfl rfl (Nat.le_of_ble_eq_true rfl) (Nat.le_of_ble_eq_true rfl) ?_
    exact B14  h
  · have h := h.2 c
    refine v_run C [(.iload_n 0, 1, 0, 0), (.iload_n 2, 1, 0, 0)] (pc' := 7) (lv' := [(0, .int x0), (1, .int x1), (2, .int x2)]) (st' := [.int x2, .int x0]) (by decide +kernel) (by rfl) ?_
    refine v_icmp_gt C (tgt := 14) (off := 7) (by decide +kernel) (fun c => ?_) (fun c => ?_)
    · have h := h.1 c
      refine v_nm [] [] (lv' := []) (w' := []) (k' := 0) (n' := 0) rfl rfl rfl (Nat.le_of_ble_eq_true rfl) (Nat.le_of_ble_eq_true rfl) ?_
      exact B14  h
    · have h := h.2 c
      refine v_run C [(.iconst 1, 1, 1, 0), (.goto 4, 3, 0, 15)] (pc' := 15) (lv' := [(0, .int x0), (1, .int x1), (2, .int x2)]) (st' := [.int 1]) (by decide +kernel) (by rfl) ?_
      refine v_nm [] [] (lv' := []) (w' := []) (k' := 0) (n' := 0) rfl rfl rfl (Nat.le_of_ble_eq_true rfl) (Nat.le_of_ble_eq_true rfl) ?_
      exact B15 1 h
def w_X7_isWorld_B35 (x0 : Int32) (x1 : Int32) (x2 : Int32) (Q : Int32 → Prop) (s0 : Int32) : Prop := (narrow .boolean (.int s0) = .int s0 ∧ Q s0)
def w_X7_isWorld_B34 (x0 : Int32) (x1 : Int32) (x2 : Int32) (Q : Int32 → Prop) : Prop := w_X7_isWorld_B35 x0 x1 x2 Q 0
def w_X7_isWorld (x0 : Int32) (x1 : Int32) (x2 : Int32) (Q : Int32 → Prop) : Prop := w_X7_is x0 0 15 (fun r1 => ((r1 = 0 → (w_X7_isWorld_B34 x0 x1 x2 Q )) ∧ (¬ r1 = 0 → (w_X7_is x1 0 11 (fun r2 => ((r2 = 0 → (w_X7_isWorld_B34 x0 x1 x2 Q )) ∧ (¬ r2 = 0 → (w_X7_is x2 0 15 (fun r3 => ((r3 = 0 → (w_X7_isWorld_B34 x0 x1 x2 Q )) ∧ (¬ r3 = 0 → (w_X7_isWorld_B35 x0 x1 x2 Q 1))))))))))))
set_option maxHeartbeats 4000000 in
set_option maxRecDepth 100000 in
theorem c_X7_isWorld {γ : q_G} (x0 : Int32) (x1 : Int32) (x2 : Int32) {Q : Int32 → Prop} (h : w_X7_isWorld x0 x1 x2  Q) : ctR γ yX7_isWorld cX7_isWorld 3 (some .boolean) ({ frames := 2, cells := 0, slots := 0, locals := 120 }) [.int x0, .int x1, .int x2] [] (fun r w1 => ∃ r0 : Int32, r = some (.int r0) ∧ w1 = [] ∧ Q r0) := by
  refine ctR_of (by decide +kernel) (by simp [lg_sl, Value.category]) ?_
  intro g C E hi
  have C : q_C γ g RX7 cX7_isWorld ({ frames := 2, cells := 0, slots := 0, locals := 120 }) 3 := C
  show V g 0 [(0, .int x0), (1, .int x1), (2, .int x2)] [] [] 0 0
  have B35 : ∀ (s0 : Int32), w_X7_isWorld_B35 x0 x1 x2 Q s0 → V g 35 [] [.int s0] [] 0 0 := by
    intro s0 h
    unfold w_X7_isWorld_B35 at h
    obtain ⟨hz, h⟩ := h
    exact v_zret C E hz (Nat.le_of_ble_eq_true rfl) (Nat.le_of_ble_eq_true rfl) ⟨s0, rfl, rfl, h⟩ (by decide +kernel)
  have B34 : w_X7_isWorld_B34 x0 x1 x2 Q  → V g 34 [] [] [] 0 0 := by
    intro h
    unfold w_X7_isWorld_B34 at h
    refine v_run C [(.iconst 0, 1, 0, 0)] (pc' := 35) (lv' := []) (st' := [.int 0]) (by decide +kernel) (by rfl) ?_
    exact B35 0 h
  unfold w_X7_isWorld at h
  refine v_run C [(.iload_n 0, 1, 0, 0), (.iconst 0, 1, 0, 0), (.bipush 15, 2, 15, 0)] (pc' := 4) (lv' := [(0, .int x0), (1, .int x1), (2, .int x2)]) (st' := [.int 15, .int 0, .int x0]) (by decide +kernel) (by rfl) ?_
  refine v_callS C lkS_RX7_37 (As := [.int x0, .int 0, .int 15]) (rest := []) (wr := []) (c_X7_is x0 0 15 h) [] [] rfl rfl (by decide) (by decide) (Nat.le_of_ble_eq_true rfl) (Nat.le_of_ble_eq_true rfl) rfl rfl (Nat.le_of_ble_eq_true rfl) (by decide +kernel) (fun r w1 hq => ?_)
  obtain ⟨r1, rfl, rfl, h⟩ := hq
  refine v_nc [0, 1, 2] [] (pc' := 7) (lv' := [(0, .int x0), (1, .int x1), (2, .int x2)]) (st' := [.int r1]) (w' := []) (k' := 0) (n' := 0) rfl rfl rfl rfl rfl (Nat.le_of_ble_eq_true rfl) (Nat.le_of_ble_eq_true rfl) ?_
  refine v_if_eq C (tgt := 34) (off := 27) (by decide +kernel) (fun c => ?_) (fun c => ?_)
  · have h := h.1 c
    refine v_nm [] [] (lv' := []) (w' := []) (k' := 0) (n' := 0) rfl rfl rfl (Nat.le_of_ble_eq_true rfl) (Nat.le_of_ble_eq_true rfl) ?_
    exact B34  h
  · have h := h.2 c
    refine v_run C [(.iload_n 1, 1, 0, 0), (.iconst 0, 1, 0, 0), (.bipush 11, 2, 11, 0)] (pc' := 14) (lv' := [(0, .int x0), (1, .int x1), (2, .int x2)]) (st' := [.int 11, .int 0, .int x1]) (by decide +kernel) (by rfl) ?_
    refine v_callS C lkS_RX7_37 (As := [.int x1, .int 0, .int 11]) (rest := []) (wr := []) (c_X7_is x1 0 11 h) [] [] rfl rfl (by decide) (by decide) (Nat.le_of_ble_eq_true rfl) (Nat.le_of_ble_eq_true rfl) rfl rfl (Nat.le_of_ble_eq_true rfl) (by decide +kernel) (fun r w1 hq => ?_)
    obtain ⟨r2, rfl, rfl, h⟩ := hq
    refine v_nc [0, 1, 2] [] (pc' := 17) (lv' := [(0, .int x0), (1, .int x1), (2, .int x2)]) (st' := [.int r2]) (w' := []) (k' := 0) (n' := 0) rfl rfl rfl rfl rfl (Nat.le_of_ble_eq_true rfl) (Nat.le_of_ble_eq_true rfl) ?_
    refine v_if_eq C (tgt := 34) (off := 17) (by decide +kernel) (fun c => ?_) (fun c => ?_)
    · have h := h.1 c
      refine v_nm [] [] (lv' := []) (w' := []) (k' := 0) (n' := 0) rfl rfl rfl (Nat.le_of_ble_eq_true rfl) (Nat.le_of_ble_eq_true rfl) ?_
      exact B34  h
    · have h := h.2 c
      refine v_run C [(.iload_n 2, 1, 0, 0), (.iconst 0, 1, 0, 0), (.bipush 15, 2, 15, 0)] (pc' := 24) (lv' := [(0, .int x0), (1, .int x1), (2, .int x2)]) (st' := [.int 15, .int 0, .int x2]) (by decide +kernel) (by rfl) ?_
      refine v_callS C lkS_RX7_37 (As := [.int x2, .int 0, .int 15]) (rest := []) (wr := []) (c_X7_is x2 0 15 h) [] [] rfl rfl (by decide) (by decide) (Nat.le_of_ble_eq_true rfl) (Nat.le_of_ble_eq_true rfl) rfl rfl (Nat.le_of_ble_eq_true rfl) (by decide +kernel) (fun r w1 hq => ?_)
      obtain ⟨r3, rfl, rfl, h⟩ := hq
      refine v_nc [0, 1, 2] [] (pc' := 27) (lv' := [(0, .int x0), (1, .int x1), (2, .int x2)]) (st' := [.int r3]) (w' := []) (k' := 0) (n' := 0) rfl rfl rfl rfl rfl (Nat.le_of_ble_eq_true rfl) (Nat.le_of_ble_eq_true rfl) ?_
      refine v_if_eq C (tgt := 34) (off := 7) (by decide +kernel) (fun c => ?_) (fun c => ?_)
      · have h := h.1 c
        refine v_nm [] [] (lv' := []) (w' := []) (k' := 0) (n' := 0) rfl rfl rfl (Nat.le_of_ble_eq_true rfl) (Nat.le_of_ble_eq_true rfl) ?_
        exact B34  h
      · have h := h.2 c
        refine v_run C [(.iconst 1, 1, 1, 0), (.goto 4, 3, 0, 35)] (pc' := 35) (lv' := [(0, .int x0), (1, .int x1), (2, .int x2)]) (st' := [.int 1]) (by decide +kernel) (by rfl) ?_
        refine v_nm [] [] (lv' := []) (w' := []) (k' := 0) (n' := 0) rfl rfl rfl (Nat.le_of_ble_eq_true rfl) (Nat.le_of_ble_eq_true rfl) ?_
        exact B35 1 h
def w_X7_at (x0 : Int32) (x1 : Int32) (x2 : Int32) (Q : Int32 → Prop) : Prop := Q (((x1 * 256) + (x2 * 16)) + x0)
set_option maxHeartbeats 4000000 in
set_option maxRecDepth 100000 in
theorem c_X7_at {γ : q_G} (x0 : Int32) (x1 : Int32) (x2 : Int32) {Q : Int32 → Prop} (h : w_X7_at x0 x1 x2  Q) : ctR γ yX7_at cX7_at 3 (some .int) ({ frames := 1, cells := 0, slots := 0, locals := 60 }) [.int x0, .int x1, .int x2] [] (fun r w1 => ∃ r0 : Int32, r = some (.int r0) ∧ w1 = [] ∧ Q r0) := by
  refine ctR_of (by decide +kernel) (by simp [lg_sl, Value.category]) ?_
  intro g C E hi
  have C : q_C γ g RX7 cX7_at ({ frames := 1, cells := 0, slots := 0, locals := 60 }) 3 := C
  show V g 0 [(0, .int x0), (1, .int x1), (2, .int x2)] [] [] 0 0
  unfold w_X7_at at h
  refine v_run C [(.iload_n 1, 1, 0, 0), (.sipush 256, 3, 256, 0), (.imul, 1, 0, 0), (.iload_n 2, 1, 0, 0), (.bipush 16, 2, 16, 0), (.imul, 1, 0, 0), (.iadd, 1, 0, 0), (.iload_n 0, 1, 0, 0), (.iadd, 1, 0, 0)] (pc' := 12) (lv' := [(0, .int x0), (1, .int x1), (2, .int x2)]) (st' := [.int (((x1 * 256) + (x2 * 16)) + x0)]) (by decide +kernel) (by rfl) ?_
  exact v_iret C E (Nat.le_of_ble_eq_true rfl) (Nat.le_of_ble_eq_true rfl) ⟨((x1 * 256) + (x2 * 16)) + x0, rfl, rfl, h⟩ (by decide +kernel)
def w_X7_xOf (x0 : Int32) (Q : Int32 → Prop) : Prop := Q (x0 - x0 / 16 * 16)
set_option maxHeartbeats 4000000 in
set_option maxRecDepth 100000 in
theorem c_X7_xOf {γ : q_G} (x0 : Int32) {Q : Int32 → Prop} (h : w_X7_xOf x0  Q) : ctR γ yX7_xOf cX7_xOf 1 (some .int) ({ frames := 1, cells := 0, slots := 0, locals := 60 }) [.int x0] [] (fun r w1 => ∃ r0 : Int32, r = some (.int r0) ∧ w1 = [] ∧ Q r0) := by
  refine ctR_of (by decide +kernel) (by simp [lg_sl, Value.category]) ?_
  intro g C E hi
  have C : q_C γ g RX7 cX7_xOf ({ frames := 1, cells := 0, slots := 0, locals := 60 }) 1 := C
  show V g 0 [(0, .int x0)] [] [] 0 0
  unfold w_X7_xOf at h
  refine v_run C [(.iload_n 0, 1, 0, 0), (.bipush 16, 2, 16, 0)] (pc' := 3) (lv' := [(0, .int x0)]) (st' := [.int 16, .int x0]) (by decide +kernel) (by rfl) ?_
  refine v_irem C (by decide) (by decide +kernel) ?_
  exact v_iret C E (Nat.le_of_ble_eq_true rfl) (Nat.le_of_ble_eq_true rfl) ⟨x0 - x0 / 16 * 16, rfl, rfl, h⟩ (by decide +kernel)
def w_X7_yOf (x0 : Int32) (Q : Int32 → Prop) : Prop := Q (x0 / 256)
set_option maxHeartbeats 4000000 in
set_option maxRecDepth 100000 in
theorem c_X7_yOf {γ : q_G} (x0 : Int32) {Q : Int32 → Prop} (h : w_X7_yOf x0  Q) : ctR γ yX7_yOf cX7_yOf 1 (some .int) ({ frames := 1, cells := 0, slots := 0, locals := 60 }) [.int x0] [] (fun r w1 => ∃ r0 : Int32, r = some (.int r0) ∧ w1 = [] ∧ Q r0) := by
  refine ctR_of (by decide +kernel) (by simp [lg_sl, Value.category]) ?_
  intro g C E hi
  have C : q_C γ g RX7 cX7_yOf ({ frames := 1, cells := 0, slots := 0, locals := 60 }) 1 := C
  show V g 0 [(0, .int x0)] [] [] 0 0
  unfold w_X7_yOf at h
  refine v_run C [(.iload_n 0, 1, 0, 0), (.sipush 256, 3, 256, 0)] (pc' := 4) (lv' := [(0, .int x0)]) (st' := [.int 256, .int x0]) (by decide +kernel) (by rfl) ?_
  refine v_idiv C (by decide) (by decide +kernel) ?_
  exact v_iret C E (Nat.le_of_ble_eq_true rfl) (Nat.le_of_ble_eq_true rfl) ⟨x0 / 256, rfl, rfl, h⟩ (by decide +kernel)
def w_X7_zOf (x0 : Int32) (Q : Int32 → Prop) : Prop := Q ((x0 / 16) - (x0 / 16) / 16 * 16)
set_option maxHeartbeats 4000000 in
set_option maxRecDepth 100000 in
theorem c_X7_zOf {γ : q_G} (x0 : Int32) {Q : Int32 → Prop} (h : w_X7_zOf x0  Q) : ctR γ yX7_zOf cX7_zOf 1 (some .int) ({ frames := 1, cells := 0, slots := 0, locals := 60 }) [.int x0] [] (fun r w1 => ∃ r0 : Int32, r = some (.int r0) ∧ w1 = [] ∧ Q r0) := by
  refine ctR_of (by decide +kernel) (by simp [lg_sl, Value.category]) ?_
  intro g C E hi
  have C : q_C γ g RX7 cX7_zOf ({ frames := 1, cells := 0, slots := 0, locals := 60 }) 1 := C
  show V g 0 [(0, .int x0)] [] [] 0 0
  unfold w_X7_zOf at h
  refine v_run C [(.iload_n 0, 1, 0, 0), (.bipush 16, 2, 16, 0)] (pc' := 3) (lv' := [(0, .int x0)]) (st' := [.int 16, .int x0]) (by decide +kernel) (by rfl) ?_
  refine v_idiv C (by decide) (by decide +kernel) ?_
  refine v_run C [(.bipush 16, 2, 16, 0)] (pc' := 6) (lv' := [(0, .int x0)]) (st' := [.int 16, .int (x0 / 16)]) (by decide +kernel) (by rfl) ?_
  refine v_irem C (by decide) (by decide +kernel) ?_
  exact v_iret C E (Nat.le_of_ble_eq_true rfl) (Nat.le_of_ble_eq_true rfl) ⟨(x0 / 16) - (x0 / 16) / 16 * 16, rfl, rfl, h⟩ (by decide +kernel)
def w_X7_chunkOf (x0 : Int32) (x1 : Int32) (Q : Int32 → Prop) : Prop := Q (((x1 / 4) * 4) + (x0 / 4))
set_option maxHeartbeats 4000000 in
set_option maxRecDepth 100000 in
theorem c_X7_chunkOf {γ : q_G} (x0 : Int32) (x1 : Int32) {Q : Int32 → Prop} (h : w_X7_chunkOf x0 x1  Q) : ctR γ yX7_chunkOf cX7_chunkOf 2 (some .int) ({ frames := 1, cells := 0, slots := 0, locals := 60 }) [.int x0, .int x1] [] (fun r w1 => ∃ r0 : Int32, r = some (.int r0) ∧ w1 = [] ∧ Q r0) := by
  refine ctR_of (by decide +kernel) (by simp [lg_sl, Value.category]) ?_
  intro g C E hi
  have C : q_C γ g RX7 cX7_chunkOf ({ frames := 1, cells := 0, slots := 0, locals := 60 }) 2 := C
  show V g 0 [(0, .int x0), (1, .int x1)] [] [] 0 0
  unfold w_X7_chunkOf at h
  refine v_run C [(.iload_n 1, 1, 0, 0), (.iconst 4, 1, 4, 0)] (pc' := 2) (lv' := [(0, .int x0), (1, .int x1)]) (st' := [.int 4, .int x1]) (by decide +kernel) (by rfl) ?_
  refine v_idiv C (by decide) (by decide +kernel) ?_
  refine v_run C [(.iconst 4, 1, 4, 0), (.imul, 1, 0, 0), (.iload_n 0, 1, 0, 0), (.iconst 4, 1, 4, 0)] (pc' := 7) (lv' := [(0, .int x0), (1, .int x1)]) (st' := [.int 4, .int x0, .int ((x1 / 4) * 4)]) (by decide +kernel) (by rfl) ?_
  refine v_idiv C (by decide) (by decide +kernel) ?_
  refine v_run C [(.iadd, 1, 0, 0)] (pc' := 9) (lv' := [(0, .int x0), (1, .int x1)]) (st' := [.int (((x1 / 4) * 4) + (x0 / 4))]) (by decide +kernel) (by rfl) ?_
  exact v_iret C E (Nat.le_of_ble_eq_true rfl) (Nat.le_of_ble_eq_true rfl) ⟨((x1 / 4) * 4) + (x0 / 4), rfl, rfl, h⟩ (by decide +kernel)
def w_X7_isAway_B16 (x1 : Int32) (m_away : Int32) (Q : Int32 → Prop) (s0 : Int32) : Prop := (narrow .boolean (.int s0) = .int s0 ∧ Q s0)
def w_X7_isAway (x1 : Int32) (m_away : Int32) (Q : Int32 → Prop) : Prop := ((((m_away >>> (x1 &&& 31)) &&& 1) = 0 → (w_X7_isAway_B16 x1 m_away Q 0)) ∧ (¬ ((m_away >>> (x1 &&& 31)) &&& 1) = 0 → (w_X7_isAway_B16 x1 m_away Q 1)))
set_option maxHeartbeats 4000000 in
set_option maxRecDepth 100000 in
theorem c_X7_isAway {γ : q_G} (a_self : Nat) (g_thrown : Int32) (g_kind : Nat) (g_level : Nat) (g_ticks : Int32) (g_wide : Int32) (g_tall : Int32) (g_deep : Int32) (g_clipKind : Nat) (g_clipLevel : Nat) (g_sky : Nat) (g_glow : Nat) (g_quad : Nat) (g_sum : Int64) (x1 : Int32) (m_away : Int32) {Q : Int32 → Prop} (h : w_X7_isAway x1 m_away Q) : ctR γ yX7_isAway cX7_isAway 2 (some .boolean) ({ frames := 1, cells := 0, slots := 0, locals := 60 }) [.ref a_self, .int x1] [(a_self, .inr (7, [.int g_thrown, .ref g_kind, .ref g_level, .int m_away, .int g_ticks, .int g_wide, .int g_tall, .int g_deep, .ref g_clipKind, .ref g_clipLevel, .ref g_sky, .ref g_glow, .ref g_quad, .long g_sum]))] (fun r w1 => ∃ r0 : Int32, r = some (.int r0) ∧ w1 = [(a_self, .inr (7, [.int g_thrown, .ref g_kind, .ref g_level, .int m_away, .int g_ticks, .int g_wide, .int g_tall, .int g_deep, .ref g_clipKind, .ref g_clipLevel, .ref g_sky, .ref g_glow, .ref g_quad, .long g_sum]))] ∧ Q r0) := by
  refine ctR_of (by decide +kernel) (by simp [lg_sl, Value.category]) ?_
  intro g C E hi
  have C : q_C γ g RX7 cX7_isAway ({ frames := 1, cells := 0, slots := 0, locals := 60 }) 2 := C
  show V g 0 [(0, .ref a_self), (1, .int x1)] [] [(a_self, .inr (7, [.int g_thrown, .ref g_kind, .ref g_level, .int m_away, .int g_ticks, .int g_wide, .int g_tall, .int g_deep, .ref g_clipKind, .ref g_clipLevel, .ref g_sky, .ref g_glow, .ref g_quad, .long g_sum]))] 0 0
  have B16 : ∀ (s0 : Int32), w_X7_isAway_B16 x1 m_away Q s0 → V g 16 [] [.int s0] [(a_self, .inr (7, [.int g_thrown, .ref g_kind, .ref g_level, .int m_away, .int g_ticks, .int g_wide, .int g_tall, .int g_deep, .ref g_clipKind, .ref g_clipLevel, .ref g_sky, .ref g_glow, .ref g_quad, .long g_sum]))] 0 0 := by
    intro s0 h
    unfold w_X7_isAway_B16 at h
    obtain ⟨hz, h⟩ := h
    exact v_zret C E hz (Nat.le_of_ble_eq_true rfl) (Nat.le_of_ble_eq_true rfl) ⟨s0, rfl, rfl, h⟩ (by decide +kernel)
  unfold w_X7_isAway at h
  refine v_run C [(.aload_n 0, 1, 0, 0)] (pc' := 1) (lv' := [(0, .ref a_self), (1, .int x1)]) (st' := [.ref a_self]) (by decide +kernel) (by rfl) ?_
  refine v_get C kX7 0 3 (idx := 41) lkF_RX7_41 ⟨by decide, rfl⟩ rfl rfl (by decide +kernel) ?_
  refine v_run C [(.iload_n 1, 1, 0, 0), (.ishr, 1, 0, 0), (.iconst 1, 1, 1, 0), (.iand, 1, 0, 0)] (pc' := 8) (lv' := [(0, .ref a_self), (1, .int x1)]) (st' := [.int ((m_away >>> (x1 &&& 31)) &&& 1)]) (by decide +kernel) (by rfl) ?_
  refine v_if_eq C (tgt := 15) (off := 7) (by decide +kernel) (fun c => ?_) (fun c => ?_)
  · have h := h.1 c
    refine v_run C [(.iconst 0, 1, 0, 0)] (pc' := 16) (lv' := [(0, .ref a_self), (1, .int x1)]) (st' := [.int 0]) (by decide +kernel) (by rfl) ?_
    refine v_nm [] [0] (lv' := []) (w' := [(a_self, .inr (7, [.int g_thrown, .ref g_kind, .ref g_level, .int m_away, .int g_ticks, .int g_wide, .int g_tall, .int g_deep, .ref g_clipKind, .ref g_clipLevel, .ref g_sky, .ref g_glow, .ref g_quad, .long g_sum]))]) (k' := 0) (n' := 0) rfl rfl rfl (Nat.le_of_ble_eq_true rfl) (Nat.le_of_ble_eq_true rfl) ?_
    exact B16 0 h
  · have h := h.2 c
    refine v_run C [(.iconst 1, 1, 1, 0), (.goto 4, 3, 0, 16)] (pc' := 16) (lv' := [(0, .ref a_self), (1, .int x1)]) (st' := [.int 1]) (by decide +kernel) (by rfl) ?_
    refine v_nm [] [0] (lv' := []) (w' := [(a_self, .inr (7, [.int g_thrown, .ref g_kind, .ref g_level, .int m_away, .int g_ticks, .int g_wide, .int g_tall, .int g_deep, .ref g_clipKind, .ref g_clipLevel, .ref g_sky, .ref g_glow, .ref g_quad, .long g_sum]))]) (k' := 0) (n' := 0) rfl rfl rfl (Nat.le_of_ble_eq_true rfl) (Nat.le_of_ble_eq_true rfl) ?_
    exact B16 1 h
def w_X7_isHere_B28 (x1 : Int32) (m_away : Int32) (Q : Int32 → Prop) (s0 : Int32) : Prop := (narrow .boolean (.int s0) = .int s0 ∧ Q s0)
def w_X7_isHere_B27 (x1 : Int32) (m_away : Int32) (Q : Int32 → Prop) : Prop := w_X7_isHere_B28 x1 m_away Q 0
def w_X7_isHere (x1 : Int32) (m_away : Int32) (Q : Int32 → Prop) : Prop := ((x1 = (-1) → (w_X7_isHere_B27 x1 m_away Q )) ∧ (¬ x1 = (-1) → (w_X7_xOf x1 (fun r1 => w_X7_zOf x1 (fun r2 => w_X7_chunkOf r1 r2 (fun r3 => w_X7_isAway r3 m_away (fun r4 => ((¬ r4 = 0 → (w_X7_isHere_B27 x1 m_away Q )) ∧ (r4 = 0 → (w_X7_isHere_B28 x1 m_away Q 1))))))))))
set_option maxHeartbeats 4000000 in
set_option maxRecDepth 100000 in
theorem c_X7_isHere {γ : q_G} (a_self : Nat) (g_thrown : Int32) (g_kind : Nat) (g_level : Nat) (g_ticks : Int32) (g_wide : Int32) (g_tall : Int32) (g_deep : Int32) (g_clipKind : Nat) (g_clipLevel : Nat) (g_sky : Nat) (g_glow : Nat) (g_quad : Nat) (g_sum : Int64) (x1 : Int32) (m_away : Int32) {Q : Int32 → Prop} (h : w_X7_isHere x1 m_away Q) : ctR γ yX7_isHere cX7_isHere 2 (some .boolean) ({ frames := 2, cells := 0, slots := 0, locals := 120 }) [.ref a_self, .int x1] [(a_self, .inr (7, [.int g_thrown, .ref g_kind, .ref g_level, .int m_away, .int g_ticks, .int g_wide, .int g_tall, .int g_deep, .ref g_clipKind, .ref g_clipLevel, .ref g_sky, .ref g_glow, .ref g_quad, .long g_sum]))] (fun r w1 => ∃ r0 : Int32, r = some (.int r0) ∧ w1 = [(a_self, .inr (7, [.int g_thrown, .ref g_kind, .ref g_level, .int m_away, .int g_ticks, .int g_wide, .int g_tall, .int g_deep, .ref g_clipKind, .ref g_clipLevel, .ref g_sky, .ref g_glow, .ref g_quad, .long g_sum]))] ∧ Q r0) := by
  refine ctR_of (by decide +kernel) (by simp [lg_sl, Value.category]) ?_
  intro g C E hi
  have C : q_C γ g RX7 cX7_isHere ({ frames := 2, cells := 0, slots := 0, locals := 120 }) 2 := C
  show V g 0 [(0, .ref a_self), (1, .int x1)] [] [(a_self, .inr (7, [.int g_thrown, .ref g_kind, .ref g_level, .int m_away, .int g_ticks, .int g_wide, .int g_tall, .int g_deep, .ref g_clipKind, .ref g_clipLevel, .ref g_sky, .ref g_glow, .ref g_quad, .long g_sum]))] 0 0
  have B28 : ∀ (s0 : Int32), w_X7_isHere_B28 x1 m_away Q s0 → V g 28 [] [.int s0] [(a_self, .inr (7, [.int g_thrown, .ref g_kind, .ref g_level, .int m_away, .int g_ticks, .int g_wide, .int g_tall, .int g_deep, .ref g_clipKind, .ref g_clipLevel, .ref g_sky, .ref g_glow, .ref g_quad, .long g_sum]))] 0 0 := by
    intro s0 h
    unfold w_X7_isHere_B28 at h
    obtain ⟨hz, h⟩ := h
    exact v_zret C E hz (Nat.le_of_ble_eq_true rfl) (Nat.le_of_ble_eq_true rfl) ⟨s0, rfl, rfl, h⟩ (by decide +kernel)
  have B27 : w_X7_isHere_B27 x1 m_away Q  → V g 27 [] [] [(a_self, .inr (7, [.int g_thrown, .ref g_kind, .ref g_level, .int m_away, .int g_ticks, .int g_wide, .int g_tall, .int g_deep, .ref g_clipKind, .ref g_clipLevel, .ref g_sky, .ref g_glow, .ref g_quad, .long g_sum]))] 0 0 := by
    intro h
    unfold w_X7_isHere_B27 at h
    refine v_run C [(.iconst 0, 1, 0, 0)] (pc' := 28) (lv' := []) (st' := [.int 0]) (by decide +kernel) (by rfl) ?_
    exact B28 0 h
  unfold w_X7_isHere at h
  refine v_run C [(.iload_n 1, 1, 0, 0), (.iconst (-1), 1, (-1), 0)] (pc' := 2) (lv' := [(0, .ref a_self), (1, .int x1)]) (st' := [.int (-1), .int x1]) (by decide +kernel) (by rfl) ?_
  refine v_icmp_eq C (tgt := 27) (off := 25) (by decide +kernel) (fun c => ?_) (fun c => ?_)
  · have h := h.1 c
    refine v_nm [] [0] (lv' := []) (w' := [(a_self, .inr (7, [.int g_thrown, .ref g_kind, .ref g_level, .int m_away, .int g_ticks, .int g_wide, .int g_tall, .int g_deep, .ref g_clipKind, .ref g_clipLevel, .ref g_sky, .ref g_glow, .ref g_quad, .long g_sum]))]) (k' := 0) (n' := 0) rfl rfl rfl (Nat.le_of_ble_eq_true rfl) (Nat.le_of_ble_eq_true rfl) ?_
    exact B27  h
  · have h := h.2 c
    refine v_run C [(.aload_n 0, 1, 0, 0), (.iload_n 1, 1, 0, 0)] (pc' := 7) (lv' := [(0, .ref a_self), (1, .int x1)]) (st' := [.int x1, .ref a_self]) (by decide +kernel) (by rfl) ?_
    refine v_callS C lkS_RX7_44 (As := [.int x1]) (rest := [.ref a_self]) (wr := [(a_self, .inr (7, [.int g_thrown, .ref g_kind, .ref g_level, .int m_away, .int g_ticks, .int g_wide, .int g_tall, .int g_deep, .ref g_clipKind, .ref g_clipLevel, .ref g_sky, .ref g_glow, .ref g_quad, .long g_sum]))]) (c_X7_xOf x1 h) [] [0] rfl rfl (by decide) (by decide) (Nat.le_of_ble_eq_true rfl) (Nat.le_of_ble_eq_true rfl) rfl rfl (Nat.le_of_ble_eq_true rfl) (by decide +kernel) (fun r w1 hq => ?_)
    obtain ⟨r1, rfl, rfl, h⟩ := hq
    refine v_nc [0, 1] [0] (pc' := 10) (lv' := [(0, .ref a_self), (1, .int x1)]) (st' := [.int r1, .ref a_self]) (w' := [(a_self, .inr (7, [.int g_thrown, .ref g_kind, .ref g_level, .int m_away, .int g_ticks, .int g_wide, .int g_tall, .int g_deep, .ref g_clipKind, .ref g_clipLevel, .ref g_sky, .ref g_glow, .ref g_quad, .long g_sum]))]) (k' := 0) (n' := 0) rfl rfl rfl rfl rfl (Nat.le_of_ble_eq_true rfl) (Nat.le_of_ble_eq_true rfl) ?_
    refine v_run C [(.iload_n 1, 1, 0, 0)] (pc' := 11) (lv' := [(0, .ref a_self), (1, .int x1)]) (st' := [.int x1, .int r1, .ref a_self]) (by decide +kernel) (by rfl) ?_
    refine v_callS C lkS_RX7_48 (As := [.int x1]) (rest := [.int r1, .ref a_self]) (wr := [(a_self, .inr (7, [.int g_thrown, .ref g_kind, .ref g_level, .int m_away, .int g_ticks, .int g_wide, .int g_tall, .int g_deep, .ref g_clipKind, .ref g_clipLevel, .ref g_sky, .ref g_glow, .ref g_quad, .long g_sum]))]) (c_X7_zOf x1 h) [] [0] rfl rfl (by decide) (by decide) (Nat.le_of_ble_eq_true rfl) (Nat.le_of_ble_eq_true rfl) rfl rfl (Nat.le_of_ble_eq_true rfl) (by decide +kernel) (fun r w1 hq => ?_)
    obtain ⟨r2, rfl, rfl, h⟩ := hq
    refine v_nc [0, 1] [0] (pc' := 14) (lv' := [(0, .ref a_self), (1, .int x1)]) (st' := [.int r2, .int r1, .ref a_self]) (w' := [(a_self, .inr (7, [.int g_thrown, .ref g_kind, .ref g_level, .int m_away, .int g_ticks, .int g_wide, .int g_tall, .int g_deep, .ref g_clipKind, .ref g_clipLevel, .ref g_sky, .ref g_glow, .ref g_quad, .long g_sum]))]) (k' := 0) (n' := 0) rfl rfl rfl rfl rfl (Nat.le_of_ble_eq_true rfl) (Nat.le_of_ble_eq_true rfl) ?_
    refine v_callS C lkS_RX7_51 (As := [.int r1, .int r2]) (rest := [.ref a_self]) (wr := [(a_self, .inr (7, [.int g_thrown, .ref g_kind, .ref g_level, .int m_away, .int g_ticks, .int g_wide, .int g_tall, .int g_deep, .ref g_clipKind, .ref g_clipLevel, .ref g_sky, .ref g_glow, .ref g_quad, .long g_sum]))]) (c_X7_chunkOf r1 r2 h) [] [0] rfl rfl (by decide) (by decide) (Nat.le_of_ble_eq_true rfl) (Nat.le_of_ble_eq_true rfl) rfl rfl (Nat.le_of_ble_eq_true rfl) (by decide +kernel) (fun r w1 hq => ?_)
    obtain ⟨r3, rfl, rfl, h⟩ := hq
    refine v_nc [0, 1] [0] (pc' := 17) (lv' := [(0, .ref a_self), (1, .int x1)]) (st' := [.int r3, .ref a_self]) (w' := [(a_self, .inr (7, [.int g_thrown, .ref g_kind, .ref g_level, .int m_away, .int g_ticks, .int g_wide, .int g_tall, .int g_deep, .ref g_clipKind, .ref g_clipLevel, .ref g_sky, .ref g_glow, .ref g_quad, .long g_sum]))]) (k' := 0) (n' := 0) rfl rfl rfl rfl rfl (Nat.le_of_ble_eq_true rfl) (Nat.le_of_ble_eq_true rfl) ?_
    refine v_callV C kX7 lkV_RX7_55 0 rfl (As := [.int r3]) (rest := []) (wr := []) (c_X7_isAway a_self g_thrown g_kind g_level g_ticks g_wide g_tall g_deep g_clipKind g_clipLevel g_sky g_glow g_quad g_sum r3 m_away h) [0] [] rfl rfl (by decide) (by decide) (Nat.le_of_ble_eq_true rfl) (Nat.le_of_ble_eq_true rfl) rfl rfl (Nat.le_of_ble_eq_true rfl) (by decide +kernel) (fun r w1 hq => ?_)
    obtain ⟨r4, rfl, rfl, h⟩ := hq
    refine v_nc [0, 1] [0] (pc' := 20) (lv' := [(0, .ref a_self), (1, .int x1)]) (st' := [.int r4]) (w' := [(a_self, .inr (7, [.int g_thrown, .ref g_kind, .ref g_level, .int m_away, .int g_ticks, .int g_wide, .int g_tall, .int g_deep, .ref g_clipKind, .ref g_clipLevel, .ref g_sky, .ref g_glow, .ref g_quad, .long g_sum]))]) (k' := 0) (n' := 0) rfl rfl rfl rfl rfl (Nat.le_of_ble_eq_true rfl) (Nat.le_of_ble_eq_true rfl) ?_
    refine v_if_ne C (tgt := 27) (off := 7) (by decide +kernel) (fun c => ?_) (fun c => ?_)
    · have h := h.1 c
      refine v_nm [] [0] (lv' := []) (w' := [(a_self, .inr (7, [.int g_thrown, .ref g_kind, .ref g_level, .int m_away, .int g_ticks, .int g_wide, .int g_tall, .int g_deep, .ref g_clipKind, .ref g_clipLevel, .ref g_sky, .ref g_glow, .ref g_quad, .long g_sum]))]) (k' := 0) (n' := 0) rfl rfl rfl (Nat.le_of_ble_eq_true rfl) (Nat.le_of_ble_eq_true rfl) ?_
      exact B27  h
    · have h := h.2 c
      refine v_run C [(.iconst 1, 1, 1, 0), (.goto 4, 3, 0, 28)] (pc' := 28) (lv' := [(0, .ref a_self), (1, .int x1)]) (st' := [.int 1]) (by decide +kernel) (by rfl) ?_
      refine v_nm [] [0] (lv' := []) (w' := [(a_self, .inr (7, [.int g_thrown, .ref g_kind, .ref g_level, .int m_away, .int g_ticks, .int g_wide, .int g_tall, .int g_deep, .ref g_clipKind, .ref g_clipLevel, .ref g_sky, .ref g_glow, .ref g_quad, .long g_sum]))]) (k' := 0) (n' := 0) rfl rfl rfl (Nat.le_of_ble_eq_true rfl) (Nat.le_of_ble_eq_true rfl) ?_
      exact B28 1 h
def w_X7_beside_B90 (x0 : Int32) (x1 : Int32) (Q : Int32 → Prop) (s0 : Int32) : Prop := Q s0
def w_X7_beside_B64 (x0 : Int32) (x1 : Int32) (Q : Int32 → Prop) (v3 : Int32) (v4 : Int32) (s0 : Int32) (s1 : Int32) : Prop := w_X7_isWorld v3 v4 (s0 + s1) (fun r1 => ((r1 = 0 → (w_X7_beside_B90 x0 x1 Q (-1))) ∧ (¬ r1 = 0 → (w_X7_at v3 v4 (s0 + s1) (fun r2 => w_X7_beside_B90 x0 x1 Q r2)))))
def w_X7_beside_B47 (x0 : Int32) (x1 : Int32) (Q : Int32 → Prop) (v2 : Int32) (v3 : Int32) (s0 : Int32) (s1 : Int32) : Prop := w_X7_zOf x0 (fun r3 => ((x1 ≤ 3 → (w_X7_beside_B64 x0 x1 Q v3 (s0 + s1) r3 0)) ∧ (¬ x1 ≤ 3 → (w_X7_beside_B64 x0 x1 Q v3 (s0 + s1) r3 v2))))
def w_X7_beside_B42 (x0 : Int32) (x1 : Int32) (Q : Int32 → Prop) (v2 : Int32) (v3 : Int32) (s0 : Int32) : Prop := w_X7_beside_B47 x0 x1 Q v2 v3 s0 v2
def w_X7_beside_B26 (x0 : Int32) (x1 : Int32) (Q : Int32 → Prop) (v2 : Int32) (s0 : Int32) (s1 : Int32) : Prop := w_X7_yOf x0 (fun r4 => ((x1 = 2 → (w_X7_beside_B42 x0 x1 Q v2 (s0 + s1) r4)) ∧ (¬ x1 = 2 → ((¬ x1 = 3 → (w_X7_beside_B47 x0 x1 Q v2 (s0 + s1) r4 0)) ∧ (x1 = 3 → (w_X7_beside_B42 x0 x1 Q v2 (s0 + s1) r4))))))
def w_X7_beside_B11 (x0 : Int32) (x1 : Int32) (Q : Int32 → Prop) (s0 : Int32) : Prop := w_X7_xOf x0 (fun r5 => ((2 ≤ x1 → (w_X7_beside_B26 x0 x1 Q s0 r5 0)) ∧ (¬ 2 ≤ x1 → (w_X7_beside_B26 x0 x1 Q s0 r5 s0))))
def w_X7_beside (x0 : Int32) (x1 : Int32) (Q : Int32 → Prop) : Prop := ((¬ (x1 - x1 / 2 * 2) = 0 → (w_X7_beside_B11 x0 x1 Q 1)) ∧ ((x1 - x1 / 2 * 2) = 0 → (w_X7_beside_B11 x0 x1 Q (-1))))
set_option maxHeartbeats 4000000 in
set_option maxRecDepth 100000 in
theorem c_X7_beside {γ : q_G} (x0 : Int32) (x1 : Int32) {Q : Int32 → Prop} (h : w_X7_beside x0 x1  Q) : ctR γ yX7_beside cX7_beside 6 (some .int) ({ frames := 3, cells := 0, slots := 0, locals := 180 }) [.int x0, .int x1] [] (fun r w1 => ∃ r0 : Int32, r = some (.int r0) ∧ w1 = [] ∧ Q r0) := by
  refine ctR_of (by decide +kernel) (by simp [lg_sl, Value.category]) ?_
  intro g C E hi
  have C : q_C γ g RX7 cX7_beside ({ frames := 3, cells := 0, slots := 0, locals := 180 }) 6 := C
  show V g 0 [(0, .int x0), (1, .int x1)] [] [] 0 0
  have B90 : ∀ (s0 : Int32), w_X7_beside_B90 x0 x1 Q s0 → V g 90 [] [.int s0] [] 0 0 := by
    intro s0 h
    unfold w_X7_beside_B90 at h
    exact v_iret C E (Nat.le_of_ble_eq_true rfl) (Nat.le_of_ble_eq_true rfl) ⟨s0, rfl, rfl, h⟩ (by decide +kernel)
  have B64 : ∀ (v3 : Int32) (v4 : Int32) (s0 : Int32) (s1 : Int32), w_X7_beside_B64 x0 x1 Q v3 v4 s0 s1 → V g 64 [(3, .int v3), (4, .int v4)] [.int s1, .int s0] [] 0 0 := by
    intro v3 v4 s0 s1 h
    unfold w_X7_beside_B64 at h
    refine v_run C [(.iadd, 1, 0, 0), (.istore 5, 2, 0, 0), (.iload_n 3, 1, 0, 0), (.iload 4, 2, 0, 0), (.iload 5, 2, 0, 0)] (pc' := 72) (lv' := [(5, .int (s0 + s1)), (3, .int v3), (4, .int v4)]) (st' := [.int (s0 + s1), .int v4, .int v3]) (by decide +kernel) (by rfl) ?_
    refine v_callS C lkS_RX7_62 (As := [.int v3, .int v4, .int (s0 + s1)]) (rest := []) (wr := []) (c_X7_isWorld v3 v4 (s0 + s1) h) [] [] rfl rfl (by decide) (by decide) (Nat.le_of_ble_eq_true rfl) (Nat.le_of_ble_eq_true rfl) rfl rfl (Nat.le_of_ble_eq_true rfl) (by decide +kernel) (fun r w1 hq => ?_)
    obtain ⟨r1, rfl, rfl, h⟩ := hq
    refine v_nc [0, 1, 2] [] (pc' := 75) (lv' := [(5, .int (s0 + s1)), (3, .int v3), (4, .int v4)]) (st' := [.int r1]) (w' := []) (k' := 0) (n' := 0) rfl rfl rfl rfl rfl (Nat.le_of_ble_eq_true rfl) (Nat.le_of_ble_eq_true rfl) ?_
    refine v_if_eq C (tgt := 89) (off := 14) (by decide +kernel) (fun c => ?_) (fun c => ?_)
    · have h := h.1 c
      refine v_run C [(.iconst (-1), 1, (-1), 0)] (pc' := 90) (lv' := [(5, .int (s0 + s1)), (3, .int v3), (4, .int v4)]) (st' := [.int (-1)]) (by decide +kernel) (by rfl) ?_
      refine v_nm [] [] (lv' := []) (w' := []) (k' := 0) (n' := 0) rfl rfl rfl (Nat.le_of_ble_eq_true rfl) (Nat.le_of_ble_eq_true rfl) ?_
      exact B90 (-1) h
    · have h := h.2 c
      refine v_run C [(.iload_n 3, 1, 0, 0), (.iload 4, 2, 0, 0), (.iload 5, 2, 0, 0)] (pc' := 83) (lv' := [(5, .int (s0 + s1)), (3, .int v3), (4, .int v4)]) (st' := [.int (s0 + s1), .int v4, .int v3]) (by decide +kernel) (by rfl) ?_
      refine v_callS C lkS_RX7_65 (As := [.int v3, .int v4, .int (s0 + s1)]) (rest := []) (wr := []) (c_X7_at v3 v4 (s0 + s1) h) [] [] rfl rfl (by decide) (by decide) (Nat.le_of_ble_eq_true rfl) (Nat.le_of_ble_eq_true rfl) rfl rfl (Nat.le_of_ble_eq_true rfl) (by decide +kernel) (fun r w1 hq => ?_)
      obtain ⟨r2, rfl, rfl, h⟩ := hq
      refine v_nc [0, 1, 2] [] (pc' := 86) (lv' := [(5, .int (s0 + s1)), (3, .int v3), (4, .int v4)]) (st' := [.int r2]) (w' := []) (k' := 0) (n' := 0) rfl rfl rfl rfl rfl (Nat.le_of_ble_eq_true rfl) (Nat.le_of_ble_eq_true rfl) ?_
      refine v_run C [(.goto 4, 3, 0, 90)] (pc' := 90) (lv' := [(5, .int (s0 + s1)), (3, .int v3), (4, .int v4)]) (st' := [.int r2]) (by decide +kernel) (by rfl) ?_
      refine v_nm [] [] (lv' := []) (w' := []) (k' := 0) (n' := 0) rfl rfl rfl (Nat.le_of_ble_eq_true rfl) (Nat.le_of_ble_eq_true rfl) ?_
      exact B90 r2 h
  have B47 : ∀ (v2 : Int32) (v3 : Int32) (s0 : Int32) (s1 : Int32), w_X7_beside_B47 x0 x1 Q v2 v3 s0 s1 → V g 47 [(0, .int x0), (1, .int x1), (2, .int v2), (3, .int v3)] [.int s1, .int s0] [] 0 0 := by
    intro v2 v3 s0 s1 h
    unfold w_X7_beside_B47 at h
    refine v_run C [(.iadd, 1, 0, 0), (.istore 4, 2, 0, 0), (.iload_n 0, 1, 0, 0)] (pc' := 51) (lv' := [(4, .int (s0 + s1)), (0, .int x0), (1, .int x1), (2, .int v2), (3, .int v3)]) (st' := [.int x0]) (by decide +kernel) (by rfl) ?_
    refine v_callS C lkS_RX7_48 (As := [.int x0]) (rest := []) (wr := []) (c_X7_zOf x0 h) [] [] rfl rfl (by decide) (by decide) (Nat.le_of_ble_eq_true rfl) (Nat.le_of_ble_eq_true rfl) rfl rfl (Nat.le_of_ble_eq_true rfl) (by decide +kernel) (fun r w1 hq => ?_)
    obtain ⟨r3, rfl, rfl, h⟩ := hq
    refine v_nc [0, 1, 2, 3, 4] [] (pc' := 54) (lv' := [(4, .int (s0 + s1)), (0, .int x0), (1, .int x1), (2, .int v2), (3, .int v3)]) (st' := [.int r3]) (w' := []) (k' := 0) (n' := 0) rfl rfl rfl rfl rfl (Nat.le_of_ble_eq_true rfl) (Nat.le_of_ble_eq_true rfl) ?_
    refine v_run C [(.iload_n 1, 1, 0, 0), (.iconst 3, 1, 3, 0)] (pc' := 56) (lv' := [(4, .int (s0 + s1)), (0, .int x0), (1, .int x1), (2, .int v2), (3, .int v3)]) (st' := [.int 3, .int x1, .int r3]) (by decide +kernel) (by rfl) ?_
    refine v_icmp_le C (tgt := 63) (off := 7) (by decide +kernel) (fun c => ?_) (fun c => ?_)
    · have h := h.1 c
      refine v_run C [(.iconst 0, 1, 0, 0)] (pc' := 64) (lv' := [(4, .int (s0 + s1)), (0, .int x0), (1, .int x1), (2, .int v2), (3, .int v3)]) (st' := [.int 0, .int r3]) (by decide +kernel) (by rfl) ?_
      refine v_nm [4, 0] [] (lv' := [(3, .int v3), (4, .int (s0 + s1))]) (w' := []) (k' := 0) (n' := 0) rfl rfl rfl (Nat.le_of_ble_eq_true rfl) (Nat.le_of_ble_eq_true rfl) ?_
      exact B64 v3 (s0 + s1) r3 0 h
    · have h := h.2 c
      refine v_run C [(.iload_n 2, 1, 0, 0), (.goto 4, 3, 0, 64)] (pc' := 64) (lv' := [(4, .int (s0 + s1)), (0, .int x0), (1, .int x1), (2, .int v2), (3, .int v3)]) (st' := [.int v2, .int r3]) (by decide +kernel) (by rfl) ?_
      refine v_nm [4, 0] [] (lv' := [(3, .int v3), (4, .int (s0 + s1))]) (w' := []) (k' := 0) (n' := 0) rfl rfl rfl (Nat.le_of_ble_eq_true rfl) (Nat.le_of_ble_eq_true rfl) ?_
      exact B64 v3 (s0 + s1) r3 v2 h
  have B42 : ∀ (v2 : Int32) (v3 : Int32) (s0 : Int32), w_X7_beside_B42 x0 x1 Q v2 v3 s0 → V g 42 [(0, .int x0), (1, .int x1), (2, .int v2), (3, .int v3)] [.int s0] [] 0 0 := by
    intro v2 v3 s0 h
    unfold w_X7_beside_B42 at h
    refine v_run C [(.iload_n 2, 1, 0, 0), (.goto 4, 3, 0, 47)] (pc' := 47) (lv' := [(0, .int x0), (1, .int x1), (2, .int v2), (3, .int v3)]) (st' := [.int v2, .int s0]) (by decide +kernel) (by rfl) ?_
    exact B47 v2 v3 s0 v2 h
  have B26 : ∀ (v2 : Int32) (s0 : Int32) (s1 : Int32), w_X7_beside_B26 x0 x1 Q v2 s0 s1 → V g 26 [(0, .int x0), (1, .int x1), (2, .int v2)] [.int s1, .int s0] [] 0 0 := by
    intro v2 s0 s1 h
    unfold w_X7_beside_B26 at h
    refine v_run C [(.iadd, 1, 0, 0), (.istore_n 3, 1, 0, 0), (.iload_n 0, 1, 0, 0)] (pc' := 29) (lv' := [(3, .int (s0 + s1)), (0, .int x0), (1, .int x1), (2, .int v2)]) (st' := [.int x0]) (by decide +kernel) (by rfl) ?_
    refine v_callS C lkS_RX7_59 (As := [.int x0]) (rest := []) (wr := []) (c_X7_yOf x0 h) [] [] rfl rfl (by decide) (by decide) (Nat.le_of_ble_eq_true rfl) (Nat.le_of_ble_eq_true rfl) rfl rfl (Nat.le_of_ble_eq_true rfl) (by decide +kernel) (fun r w1 hq => ?_)
    obtain ⟨r4, rfl, rfl, h⟩ := hq
    refine v_nc [0, 1, 2, 3] [] (pc' := 32) (lv' := [(3, .int (s0 + s1)), (0, .int x0), (1, .int x1), (2, .int v2)]) (st' := [.int r4]) (w' := []) (k' := 0) (n' := 0) rfl rfl rfl rfl rfl (Nat.le_of_ble_eq_true rfl) (Nat.le_of_ble_eq_true rfl) ?_
    refine v_run C [(.iload_n 1, 1, 0, 0), (.iconst 2, 1, 2, 0)] (pc' := 34) (lv' := [(3, .int (s0 + s1)), (0, .int x0), (1, .int x1), (2, .int v2)]) (st' := [.int 2, .int x1, .int r4]) (by decide +kernel) (by rfl) ?_
    refine v_icmp_eq C (tgt := 42) (off := 8) (by decide +kernel) (fun c => ?_) (fun c => ?_)
    · have h := h.1 c
      refine v_nm [1, 2, 3, 0] [] (lv' := [(0, .int x0), (1, .int x1), (2, .int v2), (3, .int (s0 + s1))]) (w' := []) (k' := 0) (n' := 0) rfl rfl rfl (Nat.le_of_ble_eq_true rfl) (Nat.le_of_ble_eq_true rfl) ?_
      exact B42 v2 (s0 + s1) r4 h
    · have h := h.2 c
      refine v_run C [(.iload_n 1, 1, 0, 0), (.iconst 3, 1, 3, 0)] (pc' := 39) (lv' := [(3, .int (s0 + s1)), (0, .int x0), (1, .int x1), (2, .int v2)]) (st' := [.int 3, .int x1, .int r4]) (by decide +kernel) (by rfl) ?_
      refine v_icmp_ne C (tgt := 46) (off := 7) (by decide +kernel) (fun c => ?_) (fun c => ?_)
      · have h := h.1 c
        refine v_run C [(.iconst 0, 1, 0, 0)] (pc' := 47) (lv' := [(3, .int (s0 + s1)), (0, .int x0), (1, .int x1), (2, .int v2)]) (st' := [.int 0, .int r4]) (by decide +kernel) (by rfl) ?_
        refine v_nm [1, 2, 3, 0] [] (lv' := [(0, .int x0), (1, .int x1), (2, .int v2), (3, .int (s0 + s1))]) (w' := []) (k' := 0) (n' := 0) rfl rfl rfl (Nat.le_of_ble_eq_true rfl) (Nat.le_of_ble_eq_true rfl) ?_
        exact B47 v2 (s0 + s1) r4 0 h
      · have h := h.2 c
        refine v_nm [1, 2, 3, 0] [] (lv' := [(0, .int x0), (1, .int x1), (2, .int v2), (3, .int (s0 + s1))]) (w' := []) (k' := 0) (n' := 0) rfl rfl rfl (Nat.le_of_ble_eq_true rfl) (Nat.le_of_ble_eq_true rfl) ?_
        exact B42 v2 (s0 + s1) r4 h
  have B11 : ∀ (s0 : Int32), w_X7_beside_B11 x0 x1 Q s0 → V g 11 [(0, .int x0), (1, .int x1)] [.int s0] [] 0 0 := by
    intro s0 h
    unfold w_X7_beside_B11 at h
    refine v_run C [(.istore_n 2, 1, 0, 0), (.iload_n 0, 1, 0, 0)] (pc' := 13) (lv' := [(2, .int s0), (0, .int x0), (1, .int x1)]) (st' := [.int x0]) (by decide +kernel) (by rfl) ?_
    refine v_callS C lkS_RX7_44 (As := [.int x0]) (rest := []) (wr := []) (c_X7_xOf x0 h) [] [] rfl rfl (by decide) (by decide) (Nat.le_of_ble_eq_true rfl) (Nat.le_of_ble_eq_true rfl) rfl rfl (Nat.le_of_ble_eq_true rfl) (by decide +kernel) (fun r w1 hq => ?_)
    obtain ⟨r5, rfl, rfl, h⟩ := hq
    refine v_nc [0, 1, 2] [] (pc' := 16) (lv' := [(2, .int s0), (0, .int x0), (1, .int x1)]) (st' := [.int r5]) (w' := []) (k' := 0) (n' := 0) rfl rfl rfl rfl rfl (Nat.le_of_ble_eq_true rfl) (Nat.le_of_ble_eq_true rfl) ?_
    refine v_run C [(.iload_n 1, 1, 0, 0), (.iconst 2, 1, 2, 0)] (pc' := 18) (lv' := [(2, .int s0), (0, .int x0), (1, .int x1)]) (st' := [.int 2, .int x1, .int r5]) (by decide +kernel) (by rfl) ?_
    refine v_icmp_ge C (tgt := 25) (off := 7) (by decide +kernel) (fun c => ?_) (fun c => ?_)
    · have h := h.1 c
      refine v_run C [(.iconst 0, 1, 0, 0)] (pc' := 26) (lv' := [(2, .int s0), (0, .int x0), (1, .int x1)]) (st' := [.int 0, .int r5]) (by decide +kernel) (by rfl) ?_
      refine v_nm [1, 2, 0] [] (lv' := [(0, .int x0), (1, .int x1), (2, .int s0)]) (w' := []) (k' := 0) (n' := 0) rfl rfl rfl (Nat.le_of_ble_eq_true rfl) (Nat.le_of_ble_eq_true rfl) ?_
      exact B26 s0 r5 0 h
    · have h := h.2 c
      refine v_run C [(.iload_n 2, 1, 0, 0), (.goto 4, 3, 0, 26)] (pc' := 26) (lv' := [(2, .int s0), (0, .int x0), (1, .int x1)]) (st' := [.int s0, .int r5]) (by decide +kernel) (by rfl) ?_
      refine v_nm [1, 2, 0] [] (lv' := [(0, .int x0), (1, .int x1), (2, .int s0)]) (w' := []) (k' := 0) (n' := 0) rfl rfl rfl (Nat.le_of_ble_eq_true rfl) (Nat.le_of_ble_eq_true rfl) ?_
      exact B26 s0 r5 s0 h
  unfold w_X7_beside at h
  refine v_run C [(.iload_n 1, 1, 0, 0), (.iconst 2, 1, 2, 0)] (pc' := 2) (lv' := [(0, .int x0), (1, .int x1)]) (st' := [.int 2, .int x1]) (by decide +kernel) (by rfl) ?_
  refine v_irem C (by decide) (by decide +kernel) ?_
  refine v_if_ne C (tgt := 10) (off := 7) (by decide +kernel) (fun c => ?_) (fun c => ?_)
  · have h := h.1 c
    refine v_run C [(.iconst 1, 1, 1, 0)] (pc' := 11) (lv' := [(0, .int x0), (1, .int x1)]) (st' := [.int 1]) (by decide +kernel) (by rfl) ?_
    exact B11 1 h
  · have h := h.2 c
    refine v_run C [(.iconst (-1), 1, (-1), 0), (.goto 4, 3, 0, 11)] (pc' := 11) (lv' := [(0, .int x0), (1, .int x1)]) (st' := [.int (-1)]) (by decide +kernel) (by rfl) ?_
    exact B11 (-1) h
