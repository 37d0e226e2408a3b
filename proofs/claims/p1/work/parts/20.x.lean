theorem lkF_RX0_18 : Cond.fieldLink RX0 18 RX0 (TX0 2).2.1 (TX0 2).2.2.1 ∈ GW := mw (i := 175) (by decide +kernel) (by decide +kernel)
theorem lkF_RX0_22 : Cond.fieldLink RX0 22 RX0 (TX0 3).2.1 (TX0 3).2.2.1 ∈ GW := mw (i := 176) (by decide +kernel) (by decide +kernel)
theorem lkF_RX0_25 : Cond.fieldLink RX0 25 RX0 (TX0 4).2.1 (TX0 4).2.2.1 ∈ GW := mw (i := 177) (by decide +kernel) (by decide +kernel)
theorem lkS_RX0_28 : q_LS RX0 28 yX0_isPlace cX0_isPlace 3 (some .boolean) 3 := ⟨mw (i := 814) (by decide +kernel) (by decide +kernel), mw (i := 815) (by decide +kernel) (by decide +kernel), mw (i := 53) (by decide +kernel) (by decide +kernel), mw (i := 816) (by decide +kernel) (by decide +kernel), ⟨by decide, by decide, by decide +kernel⟩⟩
theorem lkF_RX0_9 : Cond.fieldLink RX0 9 RX0 (TX0 0).2.1 (TX0 0).2.2.1 ∈ GW := mw (i := 173) (by decide +kernel) (by decide +kernel)
theorem lkS_RX0_32 : q_LS RX0 32 yX0_placeOf cX0_placeOf 3 (some .int) 3 := ⟨mw (i := 817) (by decide +kernel) (by decide +kernel), mw (i := 818) (by decide +kernel) (by decide +kernel), mw (i := 53) (by decide +kernel) (by decide +kernel), mw (i := 819) (by decide +kernel) (by decide +kernel), ⟨by decide, by decide, by decide +kernel⟩⟩
theorem lkF_RX0_15 : Cond.fieldLink RX0 15 RX0 (TX0 1).2.1 (TX0 1).2.2.1 ∈ GW := mw (i := 174) (by decide +kernel) (by decide +kernel)
theorem lkcpy_RX0_36 : q_cpy RX0 36 := ⟨mw (i := 840) (by decide +kernel) (by decide +kernel), mw (i := 549) (by decide +kernel) (by decide +kernel), mw (i := 548) (by decide +kernel) (by decide +kernel), mw (i := 68) (by decide +kernel) (by decide +kernel)⟩
theorem lkV_RX0_42 : q_LV RX0 42 RX0 yX0_resize cX0_resize 4 none 3 := ⟨mw (i := 841) (by decide +kernel) (by decide +kernel), mw (i := 807) (by decide +kernel) (by decide +kernel), mw (i := 808) (by decide +kernel) (by decide +kernel), mw (i := 53) (by decide +kernel) (by decide +kernel), mw (i := 809) (by decide +kernel) (by decide +kernel), ⟨by decide, by decide, by decide +kernel⟩⟩
theorem lkF_RX2_15 : Cond.fieldLink RX2 15 RX2 (TX2 1).2.1 (TX2 1).2.2.1 ∈ GW := mw (i := 90) (by decide +kernel) (by decide +kernel)
def w_X0_isNone_B12 (m_w : Int32) (Q : Int32 → Prop) (s0 : Int32) : Prop := (narrow .boolean (.int s0) = .int s0 ∧ Q s0)
def w_X0_isNone (m_w : Int32) (Q : Int32 → Prop) : Prop := ((¬ m_w = 0 → (w_X0_isNone_B12 m_w Q 0)) ∧ (m_w = 0 → (w_X0_isNone_B12 m_w Q 1)))
set_option maxHeartbeats 4000000 in
set_option maxRecDepth 100000 in
theorem c_X0_isNone {γ : q_G} (a_self : Nat) (g_states : Nat) (g_turned : Nat) (g_h : Int32) (g_d : Int32) (m_w : Int32) {Q : Int32 → Prop} (h : w_X0_isNone  m_w Q) : ctR γ yX0_isNone cX0_isNone 1 (some .boolean) ({ frames := 1, cells := 0, slots := 0, locals := 60 }) [.ref a_self] [(a_self, .inr (0, [.ref g_states, .ref g_turned, .int m_w, .int g_h, .int g_d]))] (fun r w1 => ∃ r0 : Int32, r = some (.int r0) ∧ w1 = [(a_self, .inr (0, [.ref g_states, .ref g_turned, .int m_w, .int g_h, .int g_d]))] ∧ Q r0) := by
  refine ctR_of (by decide +kernel) (by simp [lg_sl, Value.category]) ?_
  intro g C E hi
  have C : q_C γ g RX0 cX0_isNone ({ frames := 1, cells := 0, slots := 0, locals := 60 }) 1 := C
  show V g 0 [(0, .ref a_self)] [] [(a_self, .inr (0, [.ref g_states, .ref g_turned, .int m_w, .int g_h, .int g_d]))] 0 0
  have B12 : ∀ (s0 : Int32), w_X0_isNone_B12 m_w Q s0 → V g 12 [] [.int s0] [(a_self, .inr (0, [.ref g_states, .ref g_turned, .int m_w, .int g_h, .int g_d]))] 0 0 := by
    intro s0 h
    unfold w_X0_isNone_B12 at h
    obtain ⟨hz, h⟩ := h
    exact v_zret C E hz (Nat.le_of_ble_eq_true rfl) (Nat.le_of_ble_eq_true rfl) ⟨s0, rfl, rfl, h⟩ (by decide +kernel)
  unfold w_X0_isNone at h
  refine v_run C [(.aload_n 0, 1, 0, 0)] (pc' := 1) (lv' := [(0, .ref a_self)]) (st' := [.ref a_self]) (by decide +kernel) (by rfl) ?_
  refine v_get C kX0 0 2 (idx := 18) lkF_RX0_18 ⟨by decide, rfl⟩ rfl rfl (by decide +kernel) ?_
  refine v_if_ne C (tgt := 11) (off := 7) (by decide +kernel) (fun c => ?_) (fun c => ?_)
  · have h := h.1 c
    refine v_run C [(.iconst 0, 1, 0, 0)] (pc' := 12) (lv' := [(0, .ref a_self)]) (st' := [.int 0]) (by decide +kernel) (by rfl) ?_
    refine v_nm [] [0] (lv' := []) (w' := [(a_self, .inr (0, [.ref g_states, .ref g_turned, .int m_w, .int g_h, .int g_d]))]) (k' := 0) (n' := 0) rfl rfl rfl (Nat.le_of_ble_eq_true rfl) (Nat.le_of_ble_eq_true rfl) ?_
    exact B12 0 h
  · have h := h.2 c
    refine v_run C [(.iconst 1, 1, 1, 0), (.goto 4, 3, 0, 12)] (pc' := 12) (lv' := [(0, .ref a_self)]) (st' := [.int 1]) (by decide +kernel) (by rfl) ?_
    refine v_nm [] [0] (lv' := []) (w' := [(a_self, .inr (0, [.ref g_states, .ref g_turned, .int m_w, .int g_h, .int g_d]))]) (k' := 0) (n' := 0) rfl rfl rfl (Nat.le_of_ble_eq_true rfl) (Nat.le_of_ble_eq_true rfl) ?_
    exact B12 1 h
def w_X0_width (m_w : Int32) (Q : Int32 → Prop) : Prop := Q m_w
set_option maxHeartbeats 4000000 in
set_option maxRecDepth 100000 in
theorem c_X0_width {γ : q_G} (a_self : Nat) (g_states : Nat) (g_turned : Nat) (g_h : Int32) (g_d : Int32) (m_w : Int32) {Q : Int32 → Prop} (h : w_X0_width  m_w Q) : ctR γ yX0_width cX0_width 1 (some .int) ({ frames := 1, cells := 0, slots := 0, locals := 60 }) [.ref a_self] [(a_self, .inr (0, [.ref g_states, .ref g_turned, .int m_w, .int g_h, .int g_d]))] (fun r w1 => ∃ r0 : Int32, r = some (.int r0) ∧ w1 = [(a_self, .inr (0, [.ref g_states, .ref g_turned, .int m_w, .int g_h, .int g_d]))] ∧ Q r0) := by
  refine ctR_of (by decide +kernel) (by simp [lg_sl, Value.category]) ?_
  intro g C E hi
  have C : q_C γ g RX0 cX0_width ({ frames := 1, cells := 0, slots := 0, locals := 60 }) 1 := C
  show V g 0 [(0, .ref a_self)] [] [(a_self, .inr (0, [.ref g_states, .ref g_turned, .int m_w, .int g_h, .int g_d]))] 0 0
  unfold w_X0_width at h
  refine v_run C [(.aload_n 0, 1, 0, 0)] (pc' := 1) (lv' := [(0, .ref a_self)]) (st' := [.ref a_self]) (by decide +kernel) (by rfl) ?_
  refine v_get C kX0 0 2 (idx := 18) lkF_RX0_18 ⟨by decide, rfl⟩ rfl rfl (by decide +kernel) ?_
  exact v_iret C E (Nat.le_of_ble_eq_true rfl) (Nat.le_of_ble_eq_true rfl) ⟨m_w, rfl, rfl, h⟩ (by decide +kernel)
def w_X0_height (m_h : Int32) (Q : Int32 → Prop) : Prop := Q m_h
set_option maxHeartbeats 4000000 in
set_option maxRecDepth 100000 in
theorem c_X0_height {γ : q_G} (a_self : Nat) (g_states : Nat) (g_turned : Nat) (g_w : Int32) (g_d : Int32) (m_h : Int32) {Q : Int32 → Prop} (h : w_X0_height  m_h Q) : ctR γ yX0_height cX0_height 1 (some .int) ({ frames := 1, cells := 0, slots := 0, locals := 60 }) [.ref a_self] [(a_self, .inr (0, [.ref g_states, .ref g_turned, .int g_w, .int m_h, .int g_d]))] (fun r w1 => ∃ r0 : Int32, r = some (.int r0) ∧ w1 = [(a_self, .inr (0, [.ref g_states, .ref g_turned, .int g_w, .int m_h, .int g_d]))] ∧ Q r0) := by
  refine ctR_of (by decide +kernel) (by simp [lg_sl, Value.category]) ?_
  intro g C E hi
  have C : q_C γ g RX0 cX0_height ({ frames := 1, cells := 0, slots := 0, locals := 60 }) 1 := C
  show V g 0 [(0, .ref a_self)] [] [(a_self, .inr (0, [.ref g_states, .ref g_turned, .int g_w, .int m_h, .int g_d]))] 0 0
  unfold w_X0_height at h
  refine v_run C [(.aload_n 0, 1, 0, 0)] (pc' := 1) (lv' := [(0, .ref a_self)]) (st' := [.ref a_self]) (by decide +kernel) (by rfl) ?_
  refine v_get C kX0 0 3 (idx := 22) lkF_RX0_22 ⟨by decide, rfl⟩ rfl rfl (by decide +kernel) ?_
  exact v_iret C E (Nat.le_of_ble_eq_true rfl) (Nat.le_of_ble_eq_true rfl) ⟨m_h, rfl, rfl, h⟩ (by decide +kernel)
def w_X0_depth (m_d : Int32) (Q : Int32 → Prop) : Prop := Q m_d
set_option maxHeartbeats 4000000 in
set_option maxRecDepth 100000 in
theorem c_X0_depth {γ : q_G} (a_self : Nat) (g_states : Nat) (g_turned : Nat) (g_w : Int32) (g_h : Int32) (m_d : Int32) {Q : Int32 → Prop} (h : w_X0_depth  m_d Q) : ctR γ yX0_depth cX0_depth 1 (some .int) ({ frames := 1, cells := 0, slots := 0, locals := 60 }) [.ref a_self] [(a_self, .inr (0, [.ref g_states, .ref g_turned, .int g_w, .int g_h, .int m_d]))] (fun r w1 => ∃ r0 : Int32, r = some (.int r0) ∧ w1 = [(a_self, .inr (0, [.ref g_states, .ref g_turned, .int g_w, .int g_h, .int m_d]))] ∧ Q r0) := by
  refine ctR_of (by decide +kernel) (by simp [lg_sl, Value.category]) ?_
  intro g C E hi
  have C : q_C γ g RX0 cX0_depth ({ frames := 1, cells := 0, slots := 0, locals := 60 }) 1 := C
  show V g 0 [(0, .ref a_self)] [] [(a_self, .inr (0, [.ref g_states, .ref g_turned, .int g_w, .int g_h, .int m_d]))] 0 0
  unfold w_X0_depth at h
  refine v_run C [(.aload_n 0, 1, 0, 0)] (pc' := 1) (lv' := [(0, .ref a_self)]) (st' := [.ref a_self]) (by decide +kernel) (by rfl) ?_
  refine v_get C kX0 0 4 (idx := 25) lkF_RX0_25 ⟨by decide, rfl⟩ rfl rfl (by decide +kernel) ?_
  exact v_iret C E (Nat.le_of_ble_eq_true rfl) (Nat.le_of_ble_eq_true rfl) ⟨m_d, rfl, rfl, h⟩ (by decide +kernel)
def w_X0_resize (x1 : Int32) (x2 : Int32) (x3 : Int32) (m_d : Int32) (m_h : Int32) (m_w : Int32) (Q : Int32 → Int32 → Int32 → Prop) : Prop := Q x3 x2 x1
set_option maxHeartbeats 4000000 in
set_option maxRecDepth 100000 in
theorem c_X0_resize {γ : q_G} (a_self : Nat) (g_states : Nat) (g_turned : Nat) (x1 : Int32) (x2 : Int32) (x3 : Int32) (m_d : Int32) (m_h : Int32) (m_w : Int32) {Q : Int32 → Int32 → Int32 → Prop} (h : w_X0_resize x1 x2 x3 m_d m_h m_w Q) : ctR γ yX0_resize cX0_resize 4 none ({ frames := 1, cells := 0, slots := 0, locals := 60 }) [.ref a_self, .int x1, .int x2, .int x3] [(a_self, .inr (0, [.ref g_states, .ref g_turned, .int m_w, .int m_h, .int m_d]))] (fun r w1 => ∃ m_d' : Int32, ∃ m_h' : Int32, ∃ m_w' : Int32, r = none ∧ w1 = [(a_self, .inr (0, [.ref g_states, .ref g_turned, .int m_w', .int m_h', .int m_d']))] ∧ Q m_d' m_h' m_w') := by
  refine ctR_of (by decide +kernel) (by simp [lg_sl, Value.category]) ?_
  intro g C E hi
  have C : q_C γ g RX0 cX0_resize ({ frames := 1, cells := 0, slots := 0, locals := 60 }) 4 := C
  show V g 0 [(0, .ref a_self), (1, .int x1), (2, .int x2), (3, .int x3)] [] [(a_self, .inr (0, [.ref g_states, .ref g_turned, .int m_w, .int m_h, .int m_d]))] 0 0
  unfold w_X0_resize at h
  refine v_run C [(.aload_n 0, 1, 0, 0), (.iload_n 1, 1, 0, 0)] (pc' := 2) (lv' := [(0, .ref a_self), (1, .int x1), (2, .int x2), (3, .int x3)]) (st' := [.int x1, .ref a_self]) (by decide +kernel) (by rfl) ?_
  refine v_put C kX0 0 2 (idx := 18) lkF_RX0_18 ⟨by decide, rfl, rfl⟩ rfl rfl rfl (Nat.le_of_ble_eq_true rfl) (w' := [(a_self, .inr (0, [.ref g_states, .ref g_turned, .int x1, .int m_h, .int m_d]))]) rfl (by decide +kernel) ?_
  refine v_run C [(.aload_n 0, 1, 0, 0), (.iload_n 2, 1, 0, 0)] (pc' := 7) (lv' := [(0, .ref a_self), (1, .int x1), (2, .int x2), (3, .int x3)]) (st' := [.int x2, .ref a_self]) (by decide +kernel) (by rfl) ?_
  refine v_put C kX0 0 3 (idx := 22) lkF_RX0_22 ⟨by decide, rfl, rfl⟩ rfl rfl rfl (Nat.le_of_ble_eq_true rfl) (w' := [(a_self, .inr (0, [.ref g_states, .ref g_turned, .int x1, .int x2, .int m_d]))]) rfl (by decide +kernel) ?_
  refine v_run C [(.aload_n 0, 1, 0, 0), (.iload_n 3, 1, 0, 0)] (pc' := 12) (lv' := [(0, .ref a_self), (1, .int x1), (2, .int x2), (3, .int x3)]) (st' := [.int x3, .ref a_self]) (by decide +kernel) (by rfl) ?_
  refine v_put C kX0 0 4 (idx := 25) lkF_RX0_25 ⟨by decide, rfl, rfl⟩ rfl rfl rfl (Nat.le_of_ble_eq_true rfl) (w' := [(a_self, .inr (0, [.ref g_states, .ref g_turned, .int x1, .int x2, .int x3]))]) rfl (by decide +kernel) ?_
  exact v_vret C E (Nat.le_of_ble_eq_true rfl) (Nat.le_of_ble_eq_true rfl) ⟨x3, x2, x1, rfl, rfl, h⟩ (by decide +kernel)
def w_X0_placeOf (x0 : Int32) (x1 : Int32) (x2 : Int32) (Q : Int32 → Prop) : Prop := Q ((((x1 * 8) + x2) * 8) + x0)
set_option maxHeartbeats 4000000 in
set_option maxRecDepth 100000 in
theorem c_X0_placeOf {γ : q_G} (x0 : Int32) (x1 : Int32) (x2 : Int32) {Q : Int32 → Prop} (h : w_X0_placeOf x0 x1 x2  Q) : ctR γ yX0_placeOf cX0_placeOf 3 (some .int) ({ frames := 1, cells := 0, slots := 0, locals := 60 }) [.int x0, .int x1, .int x2] [] (fun r w1 => ∃ r0 : Int32, r = some (.int r0) ∧ w1 = [] ∧ Q r0) := by
  refine ctR_of (by decide +kernel) (by simp [lg_sl, Value.category]) ?_
  intro g C E hi
  have C : q_C γ g RX0 cX0_placeOf ({ frames := 1, cells := 0, slots := 0, locals := 60 }) 3 := C
  show V g 0 [(0, .int x0), (1, .int x1), (2, .int x2)] [] [] 0 0
  unfold w_X0_placeOf at h
  refine v_run C [(.iload_n 1, 1, 0, 0), (.bipush 8, 2, 8, 0), (.imul, 1, 0, 0), (.iload_n 2, 1, 0, 0), (.iadd, 1, 0, 0), (.bipush 8, 2, 8, 0), (.imul, 1, 0, 0), (.iload_n 0, 1, 0, 0), (.iadd, 1, 0, 0)] (pc' := 11) (lv' := [(0, .int x0), (1, .int x1), (2, .int x2)]) (st' := [.int ((((x1 * 8) + x2) * 8) + x0)]) (by decide +kernel) (by rfl) ?_
  exact v_iret C E (Nat.le_of_ble_eq_true rfl) (Nat.le_of_ble_eq_true rfl) ⟨(((x1 * 8) + x2) * 8) + x0, rfl, rfl, h⟩ (by decide +kernel)
def w_X0_isPlace_B35 (x0 : Int32) (x1 : Int32) (x2 : Int32) (Q : Int32 → Prop) (s0 : Int32) : Prop := (narrow .boolean (.int s0) = .int s0 ∧ Q s0)
def w_X0_isPlace_B34 (x0 : Int32) (x1 : Int32) (x2 : Int32) (Q : Int32 → Prop) : Prop := w_X0_isPlace_B35 x0 x1 x2 Q 0
def w_X0_isPlace (x0 : Int32) (x1 : Int32) (x2 : Int32) (Q : Int32 → Prop) : Prop := ((x0 < 0 → (w_X0_isPlace_B34 x0 x1 x2 Q )) ∧ (¬ x0 < 0 → ((8 ≤ x0 → (w_X0_isPlace_B34 x0 x1 x2 Q )) ∧ (¬ 8 ≤ x0 → ((x1 < 0 → (w_X0_isPlace_B34 x0 x1 x2 Q )) ∧ (¬ x1 < 0 → ((8 ≤ x1 → (w_X0_isPlace_B34 x0 x1 x2 Q )) ∧ (¬ 8 ≤ x1 → ((x2 < 0 → (w_X0_isPlace_B34 x0 x1 x2 Q )) ∧ (¬ x2 < 0 → ((8 ≤ x2 → (w_X0_isPlace_B34 x0 x1 x2 Q )) ∧ (¬ 8 ≤ x2 → (w_X0_isPlace_B35 x0 x1 x2 Q 1)))))))))))))
set_option maxHeartbeats 4000000 in
set_option maxRecDepth 100000 in
theorem c_X0_isPlace {γ : q_G} (x0 : Int32) (x1 : Int32) (x2 : Int32) {Q : Int32 → Prop} (h : w_X0_isPlace x0 x1 x2  Q) : ctR γ yX0_isPlace cX0_isPlace 3 (some .boolean) ({ frames := 1, cells := 0, slots := 0, locals := 60 }) [.int x0, .int x1, .int x2] [] (fun r w1 => ∃ r0 : Int32, r = some (.int r0) ∧ w1 = [] ∧ Q r0) := by
  refine ctR_of (by decide +kernel) (by simp [lg_sl, Value.category]) ?_
  intro g C E hi
  have C : q_C γ g RX0 cX0_isPlace ({ frames := 1, cells := 0, slots := 0, locals := 60 }) 3 := C
  show V g 0 [(0, .int x0), (1, .int x1), (2, .int x2)] [] [] 0 0
  have B35 : ∀ (s0 : Int32), w_X0_isPlace_B35 x0 x1 x2 Q s0 → V g 35 [] [.int s0] [] 0 0 := by
    intro s0 h
    unfold w_X0_isPlace_B35 at h
    obtain ⟨hz, h⟩ := h
    exact v_zret C E hz (Nat.le_of_ble_eq_true rfl) (Nat.le_of_ble_eq_true rfl) ⟨s0, rfl, rfl, h⟩ (by decide +kernel)
  have B34 : w_X0_isPlace_B34 x0 x1 x2 Q  → V g 34 [] [] [] 0 0 := by
    intro h
    unfold w_X0_isPlace_B34 at h
    refine v_run C [(.iconst 0, 1, 0, 0)] (pc' := 35) (lv' := []) (st' := [.int 0]) (by decide +kernel) (by rfl) ?_
    exact B35 0 h
  unfold w_X0_isPlace at h
  refine v_run C [(.iload_n 0, 1, 0, 0)] (pc' := 1) (lv' := [(0, .int x0), (1, .int x1), (2, .int x2)]) (st' := [.int x0]) (by decide +kernel) (by rfl) ?_
  refine v_if_lt C (tgt := 34) (off := 33) (by decide +kernel) (fun c => ?_) (fun c => ?_)
  · have h := h.1 c
    refine v_nm [] [] (lv' := []) (w' := []) (k' := 0) (n' := 0) rfl rfl rfl (Nat.le_of_ble_eq_true rfl) (Nat.le_of_ble_eq_true rfl) ?_
    exact B34  h
  · have h := h.2 c
    refine v_run C [(.iload_n 0, 1, 0, 0), (.bipush 8, 2, 8, 0)] (pc' := 7) (lv' := [(0, .int x0), (1, .int x1), (2, .int x2)]) (st' := [.int 8, .int x0]) (by decide +kernel) (by rfl) ?_
    refine v_icmp_ge C (tgt := 34) (off := 27) (by decide +kernel) (fun c => ?_) (fun c => ?_)
    · have h := h.1 c
      refine v_nm [] [] (lv' := []) (w' := []) (k' := 0) (n' := 0) rfl rfl rfl (Nat.le_of_ble_eq_true rfl) (Nat.le_of_ble_eq_true rfl) ?_
      exact B34  h
    · have h := h.2 c
      refine v_run C [(.iload_n 1, 1, 0, 0)] (pc' := 11) (lv' := [(0, .int x0), (1, .int x1), (2, .int x2)]) (st' := [.int x1]) (by decide +kernel) (by rfl) ?_
      refine v_if_lt C (tgt := 34) (off := 23) (by decide +kernel) (fun c => ?_) (fun c => ?_)
      · have h := h.1 c
        refine v_nm [] [] (lv' := []) (w' := []) (k' := 0) (n' := 0) rfl rfl rfl (Nat.le_of_ble_eq_true rfl) (Nat.le_of_ble_eq_true rfl) ?_
        exact B34  h
      · have h := h.2 c
        refine v_run C [(.iload_n 1, 1, 0, 0), (.bipush 8, 2, 8, 0)] (pc' := 17) (lv' := [(0, .int x0), (1, .int x1), (2, .int x2)]) (st' := [.int 8, .int x1]) (by decide +kernel) (by rfl) ?_
        refine v_icmp_ge C (tgt := 34) (off := 17) (by decide +kernel) (fun c => ?_) (fun c => ?_)
        · have h := h.1 c
          refine v_nm [] [] (lv' := []) (w' := []) (k' := 0) (n' := 0) rfl rfl rfl (Nat.le_of_ble_eq_true rfl) (Nat.le_of_ble_eq_true rfl) ?_
          exact B34  h
        · have h := h.2 c
          refine v_run C [(.iload_n 2, 1, 0, 0)] (pc' := 21) (lv' := [(0, .int x0), (1, .int x1), (2, .int x2)]) (st' := [.int x2]) (by decide +kernel) (by rfl) ?_
          refine v_if_lt C (tgt := 34) (off := 13) (by decide +kernel) (fun c => ?_) (fun c => ?_)
          · have h := h.1 c
            refine v_nm [] [] (lv' := []) (w' := []) (k' := 0) (n' := 0) rfl rfl rfl (Nat.le_of_ble_eq_true rfl) (Nat.le_of_ble_eq_true rfl) ?_
            exact B34  h
          · have h := h.2 c
            refine v_run C [(.iload_n 2, 1, 0, 0), (.bipush 8, 2, 8, 0)] (pc' := 27) (lv' := [(0, .int x0), (1, .int x1), (2, .int x2)]) (st' := [.int 8, .int x2]) (by decide +kernel) (by rfl) ?_
            refine v_icmp_ge C (tgt := 34) (off := 7) (by decide +kernel) (fun c => ?_) (fun c => ?_)
            · have h := h.1 c
              refine v_nm [] [] (lv' := []) (w' := []) (k' := 0) (n' := 0) rfl rfl rfl (Nat.le_of_ble_eq_true rfl) (Nat.le_of_ble_eq_true rfl) ?_
              exact B34  h
            · have h := h.2 c
              refine v_run C [(.iconst 1, 1, 1, 0), (.goto 4, 3, 0, 35)] (pc' := 35) (lv' := [(0, .int x0), (1, .int x1), (2, .int x2)]) (st' := [.int 1]) (by decide +kernel) (by rfl) ?_
              refine v_nm [] [] (lv' := []) (w' := []) (k' := 0) (n' := 0) rfl rfl rfl (Nat.le_of_ble_eq_true rfl) (Nat.le_of_ble_eq_true rfl) ?_
              exact B35 1 h
def w_X0_stateAt_B24 (x1 : Int32) (x2 : Int32) (x3 : Int32) (m_states : Nat → Int32) (Q : Int32 → Prop) (s0 : Int32) : Prop := Q s0
def w_X0_stateAt (x1 : Int32) (x2 : Int32) (x3 : Int32) (m_states : Nat → Int32) (Q : Int32 → Prop) : Prop := w_X0_isPlace x1 x2 x3 (fun r1 => ((r1 = 0 → (w_X0_stateAt_B24 x1 x2 x3 m_states Q 0)) ∧ (¬ r1 = 0 → (w_X0_placeOf x1 x2 x3 (fun r2 => (vp_in r2 512 ∧ (w_X0_stateAt_B24 x1 x2 x3 m_states Q (m_states r2.toNatClampNeg))))))))
set_option maxHeartbeats 4000000 in
set_option maxRecDepth 100000 in
theorem c_X0_stateAt {γ : q_G} (a_self a_states : Nat) (g_turned : Nat) (g_w : Int32) (g_h : Int32) (g_d : Int32) (x1 : Int32) (x2 : Int32) (x3 : Int32) (m_states : Nat → Int32) {Q : Int32 → Prop} (h : w_X0_stateAt x1 x2 x3 m_states Q) : ctR γ yX0_stateAt cX0_stateAt 4 (some .int) ({ frames := 2, cells := 0, slots := 0, locals := 120 }) [.ref a_self, .int x1, .int x2, .int x3] [(a_self, .inr (0, [.ref a_states, .ref g_turned, .int g_w, .int g_h, .int g_d])), (a_states, .inl (γ.2.2.1.1, 512, .inl m_states))] (fun r w1 => ∃ r0 : Int32, r = some (.int r0) ∧ w1 = [(a_self, .inr (0, [.ref a_states, .ref g_turned, .int g_w, .int g_h, .int g_d])), (a_states, .inl (γ.2.2.1.1, 512, .inl m_states))] ∧ Q r0) := by
  refine ctR_of (by decide +kernel) (by simp [lg_sl, Value.category]) ?_
  intro g C E hi
  have C : q_C γ g RX0 cX0_stateAt ({ frames := 2, cells := 0, slots := 0, locals := 120 }) 4 := C
  show V g 0 [(0, .ref a_self), (1, .int x1), (2, .int x2), (3, .int x3)] [] [(a_self, .inr (0, [.ref a_states, .ref g_turned, .int g_w, .int g_h, .int g_d])), (a_states, .inl (γ.2.2.1.1, 512, .inl m_states))] 0 0
  have B24 : ∀ (s0 : Int32), w_X0_stateAt_B24 x1 x2 x3 m_states Q s0 → V g 24 [] [.int s0] [(a_self, .inr (0, [.ref a_states, .ref g_turned, .int g_w, .int g_h, .int g_d])), (a_states, .inl (γ.2.2.1.1, 512, .inl m_states))] 0 0 := by
    intro s0 h
    unfold w_X0_stateAt_B24 at h
    exact v_iret C E (Nat.le_of_ble_eq_true rfl) (Nat.le_of_ble_eq_true rfl) ⟨s0, rfl, rfl, h⟩ (by decide +kernel)
  unfold w_X0_stateAt at h
  refine v_run C [(.iload_n 1, 1, 0, 0), (.iload_n 2, 1, 0, 0), (.iload_n 3, 1, 0, 0)] (pc' := 3) (lv' := [(0, .ref a_self), (1, .int x1), (2, .int x2), (3, .int x3)]) (st' := [.int x3, .int x2, .int x1]) (by decide +kernel) (by rfl) ?_
  refine v_callS C lkS_RX0_28 (As := [.int x1, .int x2, .int x3]) (rest := []) (wr := [(a_self, .inr (0, [.ref a_states, .ref g_turned, .int g_w, .int g_h, .int g_d])), (a_states, .inl (γ.2.2.1.1, 512, .inl m_states))]) (c_X0_isPlace x1 x2 x3 h) [] [0, 1] rfl rfl (by decide) (by decide) (Nat.le_of_ble_eq_true rfl) (Nat.le_of_ble_eq_true rfl) rfl rfl (Nat.le_of_ble_eq_true rfl) (by decide +kernel) (fun r w1 hq => ?_)
  obtain ⟨r1, rfl, rfl, h⟩ := hq
  refine v_nc [0, 1, 2, 3] [0, 1] (pc' := 6) (lv' := [(0, .ref a_self), (1, .int x1), (2, .int x2), (3, .int x3)]) (st' := [.int r1]) (w' := [(a_self, .inr (0, [.ref a_states, .ref g_turned, .int g_w, .int g_h, .int g_d])), (a_states, .inl (γ.2.2.1.1, 512, .inl m_states))]) (k' := 0) (n' := 0) rfl rfl rfl rfl rfl (Nat.le_of_ble_eq_true rfl) (Nat.le_of_ble_eq_true rfl) ?_
  refine v_if_eq C (tgt := 23) (off := 17) (by decide +kernel) (fun c => ?_) (fun c => ?_)
  · have h := h.1 c
    refine v_run C [(.iconst 0, 1, 0, 0)] (pc' := 24) (lv' := [(0, .ref a_self), (1, .int x1), (2, .int x2), (3, .int x3)]) (st' := [.int 0]) (by decide +kernel) (by rfl) ?_
    refine v_nm [] [0, 1] (lv' := []) (w' := [(a_self, .inr (0, [.ref a_states, .ref g_turned, .int g_w, .int g_h, .int g_d])), (a_states, .inl (γ.2.2.1.1, 512, .inl m_states))]) (k' := 0) (n' := 0) rfl rfl rfl (Nat.le_of_ble_eq_true rfl) (Nat.le_of_ble_eq_true rfl) ?_
    exact B24 0 h
  · have h := h.2 c
    refine v_run C [(.aload_n 0, 1, 0, 0)] (pc' := 10) (lv' := [(0, .ref a_self), (1, .int x1), (2, .int x2), (3, .int x3)]) (st' := [.ref a_self]) (by decide +kernel) (by rfl) ?_
    refine v_get C kX0 0 0 (idx := 9) lkF_RX0_9 ⟨by decide, rfl⟩ rfl rfl (by decide +kernel) ?_
    refine v_run C [(.iload_n 1, 1, 0, 0), (.iload_n 2, 1, 0, 0), (.iload_n 3, 1, 0, 0)] (pc' := 16) (lv' := [(0, .ref a_self), (1, .int x1), (2, .int x2), (3, .int x3)]) (st' := [.int x3, .int x2, .int x1, .ref a_states]) (by decide +kernel) (by rfl) ?_
    refine v_callS C lkS_RX0_32 (As := [.int x1, .int x2, .int x3]) (rest := [.ref a_states]) (wr := [(a_self, .inr (0, [.ref a_states, .ref g_turned, .int g_w, .int g_h, .int g_d])), (a_states, .inl (γ.2.2.1.1, 512, .inl m_states))]) (c_X0_placeOf x1 x2 x3 h) [] [0, 1] rfl rfl (by decide) (by decide) (Nat.le_of_ble_eq_true rfl) (Nat.le_of_ble_eq_true rfl) rfl rfl (Nat.le_of_ble_eq_true rfl) (by decide +kernel) (fun r w1 hq => ?_)
    obtain ⟨r2, rfl, rfl, h⟩ := hq
    refine v_nc [0, 1, 2, 3] [0, 1] (pc' := 19) (lv' := [(0, .ref a_self), (1, .int x1), (2, .int x2), (3, .int x3)]) (st' := [.int r2, .ref a_states]) (w' := [(a_self, .inr (0, [.ref a_states, .ref g_turned, .int g_w, .int g_h, .int g_d])), (a_states, .inl (γ.2.2.1.1, 512, .inl m_states))]) (k' := 0) (n' := 0) rfl rfl rfl rfl rfl (Nat.le_of_ble_eq_true rfl) (Nat.le_of_ble_eq_true rfl) ?_
    obtain ⟨hin, h⟩ := h
    refine v_iald C 1 rfl hin (by decide +kernel) ?_
    refine v_run C [(.goto 4, 3, 0, 24)] (pc' := 24) (lv' := [(0, .ref a_self), (1, .int x1), (2, .int x2), (3, .int x3)]) (st' := [.int (m_states r2.toNatClampNeg)]) (by decide +kernel) (by rfl) ?_
    refine v_nm [] [0, 1] (lv' := []) (w' := [(a_self, .inr (0, [.ref a_states, .ref g_turned, .int g_w, .int g_h, .int g_d])), (a_states, .inl (γ.2.2.1.1, 512, .inl m_states))]) (k' := 0) (n' := 0) rfl rfl rfl (Nat.le_of_ble_eq_true rfl) (Nat.le_of_ble_eq_true rfl) ?_
    exact B24 (m_states r2.toNatClampNeg) h
def w_X0_put_B22 (x1 : Int32) (x2 : Int32) (x3 : Int32) (x4 : Int32) (Q : (Nat → Int32) → Prop) (m_states : Nat → Int32) : Prop := Q m_states
def w_X0_put (x1 : Int32) (x2 : Int32) (x3 : Int32) (x4 : Int32) (m_states : Nat → Int32) (Q : (Nat → Int32) → Prop) : Prop := w_X0_isPlace x1 x2 x3 (fun r1 => ((r1 = 0 → (w_X0_put_B22 x1 x2 x3 x4 Q m_states)) ∧ (¬ r1 = 0 → (w_X0_placeOf x1 x2 x3 (fun r2 => (vp_in r2 512 ∧ (w_X0_put_B22 x1 x2 x3 x4 Q (upd m_states r2.toNatClampNeg x4))))))))
set_option maxHeartbeats 4000000 in
set_option maxRecDepth 100000 in
theorem c_X0_put {γ : q_G} (a_self a_states : Nat) (g_turned : Nat) (g_w : Int32) (g_h : Int32) (g_d : Int32) (x1 : Int32) (x2 : Int32) (x3 : Int32) (x4 : Int32) (m_states : Nat → Int32) {Q : (Nat → Int32) → Prop} (h : w_X0_put x1 x2 x3 x4 m_states Q) : ctR γ yX0_put cX0_put 5 none ({ frames := 2, cells := 0, slots := 0, locals := 120 }) [.ref a_self, .int x1, .int x2, .int x3, .int x4] [(a_self, .inr (0, [.ref a_states, .ref g_turned, .int g_w, .int g_h, .int g_d])), (a_states, .inl (γ.2.2.1.1, 512, .inl m_states))] (fun r w1 => ∃ m_states' : Nat → Int32, r = none ∧ w1 = [(a_self, .inr (0, [.ref a_states, .ref g_turned, .int g_w, .int g_h, .int g_d])), (a_states, .inl (γ.2.2.1.1, 512, .inl m_states'))] ∧ Q m_states') := by
  refine ctR_of (by decide +kernel) (by simp [lg_sl, Value.category]) ?_
  intro g C E hi
  have C : q_C γ g RX0 cX0_put ({ frames := 2, cells := 0, slots := 0, locals := 120 }) 5 := C
  show V g 0 [(0, .ref a_self), (1, .int x1), (2, .int x2), (3, .int x3), (4, .int x4)] [] [(a_self, .inr (0, [.ref a_states, .ref g_turned, .int g_w, .int g_h, .int g_d])), (a_states, .inl (γ.2.2.1.1, 512, .inl m_states))] 0 0
  have B22 : ∀ (m_states : Nat → Int32), w_X0_put_B22 x1 x2 x3 x4 Q m_states → V g 22 [] [] [(a_self, .inr (0, [.ref a_states, .ref g_turned, .int g_w, .int g_h, .int g_d])), (a_states, .inl (γ.2.2.1.1, 512, .inl m_states))] 0 0 := by
    intro m_states h
    unfold w_X0_put_B22 at h
    exact v_vret C E (Nat.le_of_ble_eq_true rfl) (Nat.le_of_ble_eq_true rfl) ⟨m_states, rfl, rfl, h⟩ (by decide +kernel)
  unfold w_X0_put at h
  refine v_run C [(.iload_n 1, 1, 0, 0), (.iload_n 2, 1, 0, 0), (.iload_n 3, 1, 0, 0)] (pc' := 3) (lv' := [(0, .ref a_self), (1, .int x1), (2, .int x2), (3, .int x3), (4, .int x4)]) (st' := [.int x3, .int x2, .int x1]) (by decide +kernel) (by rfl) ?_
  refine v_callS C lkS_RX0_28 (As := [.int x1, .int x2, .int x3]) (rest := []) (wr := [(a_self, .inr (0, [.ref a_states, .ref g_turned, .int g_w, .int g_h, .int g_d])), (a_states, .inl (γ.2.2.1.1, 512, .inl m_states))]) (c_X0_isPlace x1 x2 x3 h) [] [0, 1] rfl rfl (by decide) (by decide) (Nat.le_of_ble_eq_true rfl) (Nat.le_of_ble_eq_true rfl) rfl rfl (Nat.le_of_ble_eq_true rfl) (by decide +kernel) (fun r w1 hq => ?_)
  obtain ⟨r1, rfl, rfl, h⟩ := hq
  refine v_nc [0, 1, 2, 3, 4] [0, 1] (pc' := 6) (lv' := [(0, .ref a_self), (1, .int x1), (2, .int x2), (3, .int x3), (4, .int x4)]) (st' := [.int r1]) (w' := [(a_self, .inr (0, [.ref a_states, .ref g_turned, .int g_w, .int g_h, .int g_d])), (a_states, .inl (γ.2.2.1.1, 512, .inl m_states))]) (k' := 0) (n' := 0) rfl rfl rfl rfl rfl (Nat.le_of_ble_eq_true rfl) (Nat.le_of_ble_eq_true rfl) ?_
  refine v_if_eq C (tgt := 22) (off := 16) (by decide +kernel) (fun c => ?_) (fun c => ?_)
  · have h := h.1 c
    refine v_nm [] [0, 1] (lv' := []) (w' := [(a_self, .inr (0, [.ref a_states, .ref g_turned, .int g_w, .int g_h, .int g_d])), (a_states, .inl (γ.2.2.1.1, 512, .inl m_states))]) (k' := 0) (n' := 0) rfl rfl rfl (Nat.le_of_ble_eq_true rfl) (Nat.le_of_ble_eq_true rfl) ?_
    exact B22 m_states h
  · have h := h.2 c
    refine v_run C [(.aload_n 0, 1, 0, 0)] (pc' := 10) (lv' := [(0, .ref a_self), (1, .int x1), (2, .int x2), (3, .int x3), (4, .int x4)]) (st' := [.ref a_self]) (by decide +kernel) (by rfl) ?_
    refine v_get C kX0 0 0 (idx := 9) lkF_RX0_9 ⟨by decide, rfl⟩ rfl rfl (by decide +kernel) ?_
    refine v_run C [(.iload_n 1, 1, 0, 0), (.iload_n 2, 1, 0, 0), (.iload_n 3, 1, 0, 0)] (pc' := 16) (lv' := [(0, .ref a_self), (1, .int x1), (2, .int x2), (3, .int x3), (4, .int x4)]) (st' := [.int x3, .int x2, .int x1, .ref a_states]) (by decide +kernel) (by rfl) ?_
    refine v_callS C lkS_RX0_32 (As := [.int x1, .int x2, .int x3]) (rest := [.ref a_states]) (wr := [(a_self, .inr (0, [.ref a_states, .ref g_turned, .int g_w, .int g_h, .int g_d])), (a_states, .inl (γ.2.2.1.1, 512, .inl m_states))]) (c_X0_placeOf x1 x2 x3 h) [] [0, 1] rfl rfl (by decide) (by decide) (Nat.le_of_ble_eq_true rfl) (Nat.le_of_ble_eq_true rfl) rfl rfl (Nat.le_of_ble_eq_true rfl) (by decide +kernel) (fun r w1 hq => ?_)
    obtain ⟨r2, rfl, rfl, h⟩ := hq
    refine v_nc [0, 1, 2, 3, 4] [0, 1] (pc' := 19) (lv' := [(0, .ref a_self), (1, .int x1), (2, .int x2), (3, .int x3), (4, .int x4)]) (st' := [.int r2, .ref a_states]) (w' := [(a_self, .inr (0, [.ref a_states, .ref g_turned, .int g_w, .int g_h, .int g_d])), (a_states, .inl (γ.2.2.1.1, 512, .inl m_states))]) (k' := 0) (n' := 0) rfl rfl rfl rfl rfl (Nat.le_of_ble_eq_true rfl) (Nat.le_of_ble_eq_true rfl) ?_
    refine v_run C [(.iload 4, 2, 0, 0)] (pc' := 21) (lv' := [(0, .ref a_self), (1, .int x1), (2, .int x2), (3, .int x3), (4, .int x4)]) (st' := [.int x4, .int r2, .ref a_states]) (by decide +kernel) (by rfl) ?_
    obtain ⟨hin, h⟩ := h
    refine v_iast C 1 rfl hin (w' := [(a_self, .inr (0, [.ref a_states, .ref g_turned, .int g_w, .int g_h, .int g_d])), (a_states, .inl (γ.2.2.1.1, 512, .inl (upd m_states r2.toNatClampNeg x4)))]) rfl (by decide +kernel) ?_
    refine v_nm [] [0, 1] (lv' := []) (w' := [(a_self, .inr (0, [.ref a_states, .ref g_turned, .int g_w, .int g_h, .int g_d])), (a_states, .inl (γ.2.2.1.1, 512, .inl (upd m_states r2.toNatClampNeg x4)))]) (k' := 0) (n' := 0) rfl rfl rfl (Nat.le_of_ble_eq_true rfl) (Nat.le_of_ble_eq_true rfl) ?_
    exact B22 (upd m_states r2.toNatClampNeg x4) h
def w_X0_rotate_B77 (Q : Int32 → Int32 → (Nat → Int32) → (Nat → Int32) → Int32 → Prop) (m_d : Int32) (m_h : Int32) (m_states : Nat → Int32) (m_turned : Nat → Int32) (m_w : Int32) : Prop := w_X0_resize m_d m_h m_w m_d m_h m_w (fun y1 y2 y3 => Q y1 y2 (va_cpy m_turned m_states (Int32.toNatClampNeg 0) (Int32.toNatClampNeg 0) (Int32.toNatClampNeg 512)) m_turned y3)
def w_X0_rotate_B71 (Q : Int32 → Int32 → (Nat → Int32) → (Nat → Int32) → Int32 → Prop) (rec2 : Int32 → Int32 → Int32 → (Nat → Int32) → (Nat → Int32) → Int32 → Prop) (K77 : Int32 → Int32 → (Nat → Int32) → (Nat → Int32) → Int32 → Prop) (v1 : Int32) (m_d : Int32) (m_h : Int32) (m_states : Nat → Int32) (m_turned : Nat → Int32) (m_w : Int32) : Prop := rec2 (v1 + 1) m_d m_h m_states m_turned m_w
def w_X0_rotate_B65 (Q : Int32 → Int32 → (Nat → Int32) → (Nat → Int32) → Int32 → Prop) (rec12 : Int32 → Int32 → Int32 → Int32 → (Nat → Int32) → (Nat → Int32) → Int32 → Prop) (K71 : Int32 → Int32 → Int32 → (Nat → Int32) → (Nat → Int32) → Int32 → Prop) (v1 : Int32) (v2 : Int32) (m_d : Int32) (m_h : Int32) (m_states : Nat → Int32) (m_turned : Nat → Int32) (m_w : Int32) : Prop := rec12 v1 (v2 + 1) m_d m_h m_states m_turned m_w
def w_X0_rotate_L22 (Q : Int32 → Int32 → (Nat → Int32) → (Nat → Int32) → Int32 → Prop) (rec22 : Int32 → Int32 → Int32 → Int32 → Int32 → (Nat → Int32) → (Nat → Int32) → Int32 → Prop) (K65 : Int32 → Int32 → Int32 → Int32 → (Nat → Int32) → (Nat → Int32) → Int32 → Prop) (v1 : Int32) (v2 : Int32) (v3 : Int32) (m_d : Int32) (m_h : Int32) (m_states : Nat → Int32) (m_turned : Nat → Int32) (m_w : Int32) : Prop := ((m_w ≤ v3 → (K65 v1 v2 m_d m_h m_states m_turned m_w)) ∧ (¬ m_w ≤ v3 → (w_X0_placeOf ((m_d - 1) - v2) v1 v3 (fun r4 => w_X0_placeOf v3 v1 v2 (fun r5 => (vp_in r5 512 ∧ (vp_in r4 512 ∧ (rec22 v1 v2 (v3 + 1) m_d m_h m_states (upd m_turned r4.toNatClampNeg (m_states r5.toNatClampNeg)) m_w))))))))
def w_X0_rotate_L12 (Q : Int32 → Int32 → (Nat → Int32) → (Nat → Int32) → Int32 → Prop) (rec12 : Int32 → Int32 → Int32 → Int32 → (Nat → Int32) → (Nat → Int32) → Int32 → Prop) (K71 : Int32 → Int32 → Int32 → (Nat → Int32) → (Nat → Int32) → Int32 → Prop) (v1 : Int32) (v2 : Int32) (m_d : Int32) (m_h : Int32) (m_states : Nat → Int32) (m_turned : Nat → Int32) (m_w : Int32) : Prop := ((m_d ≤ v2 → (K71 v1 m_d m_h m_states m_turned m_w)) ∧ (¬ m_d ≤ v2 → (∃ n : Nat, q_loop (fun (rec : (Int32 × Int32 × Int32 × Int32 × Int32 × (Nat → Int32) × (Nat → Int32) × Int32) → Prop) (a : Int32 × Int32 × Int32 × Int32 × Int32 × (Nat → Int32) × (Nat → Int32) × Int32) => w_X0_rotate_L22 Q (fun v1 v2 v3 m_d m_h m_states m_turned m_w => rec (v1, v2, v3, m_d, m_h, m_states, m_turned, m_w)) (w_X0_rotate_B65 Q rec12 K71) a.1 a.2.1 a.2.2.1 a.2.2.2.1 a.2.2.2.2.1 a.2.2.2.2.2.1 a.2.2.2.2.2.2.1 a.2.2.2.2.2.2.2) n (v1, v2, 0, m_d, m_h, m_states, m_turned, m_w))))
def w_X0_rotate_L2 (Q : Int32 → Int32 → (Nat → Int32) → (Nat → Int32) → Int32 → Prop) (rec2 : Int32 → Int32 → Int32 → (Nat → Int32) → (Nat → Int32) → Int32 → Prop) (K77 : Int32 → Int32 → (Nat → Int32) → (Nat → Int32) → Int32 → Prop) (v1 : Int32) (m_d : Int32) (m_h : Int32) (m_states : Nat → Int32) (m_turned : Nat → Int32) (m_w : Int32) : Prop := ((m_h ≤ v1 → (K77 m_d m_h m_states m_turned m_w)) ∧ (¬ m_h ≤ v1 → (∃ n : Nat, q_loop (fun (rec : (Int32 × Int32 × Int32 × Int32 × (Nat → Int32) × (Nat → Int32) × Int32) → Prop) (a : Int32 × Int32 × Int32 × Int32 × (Nat → Int32) × (Nat → Int32) × Int32) => w_X0_rotate_L12 Q (fun v1 v2 m_d m_h m_states m_turned m_w => rec (v1, v2, m_d, m_h, m_states, m_turned, m_w)) (w_X0_rotate_B71 Q rec2 K77) a.1 a.2.1 a.2.2.1 a.2.2.2.1 a.2.2.2.2.1 a.2.2.2.2.2.1 a.2.2.2.2.2.2) n (v1, 0, m_d, m_h, m_states, m_turned, m_w))))
def w_X0_rotate (m_d : Int32) (m_h : Int32) (m_states : Nat → Int32) (m_turned : Nat → Int32) (m_w : Int32) (Q : Int32 → Int32 → (Nat → Int32) → (Nat → Int32) → Int32 → Prop) : Prop := ∃ n : Nat, q_loop (fun (rec : (Int32 × Int32 × Int32 × (Nat → Int32) × (Nat → Int32) × Int32) → Prop) (a : Int32 × Int32 × Int32 × (Nat → Int32) × (Nat → Int32) × Int32) => w_X0_rotate_L2 Q (fun v1 m_d m_h m_states m_turned m_w => rec (v1, m_d, m_h, m_states, m_turned, m_w)) (w_X0_rotate_B77 Q) a.1 a.2.1 a.2.2.1 a.2.2.2.1 a.2.2.2.2.1 a.2.2.2.2.2) n (0, m_d, m_h, m_states, m_turned, m_w)
set_option maxHeartbeats 4000000 in
set_option maxRecDepth 100000 in
theorem c_X0_rotate {γ : q_G} (a_self a_states a_turned : Nat) (m_d : Int32) (m_h : Int32) (m_states : Nat → Int32) (m_turned : Nat → Int32) (m_w : Int32) {Q : Int32 → Int32 → (Nat → Int32) → (Nat → Int32) → Int32 → Prop} (h : w_X0_rotate  m_d m_h m_states m_turned m_w Q) : ctR γ yX0_rotate cX0_rotate 4 none ({ frames := 2, cells := 0, slots := 0, locals := 120 }) [.ref a_self] [(a_self, .inr (0, [.ref a_states, .ref a_turned, .int m_w, .int m_h, .int m_d])), (a_states, .inl (γ.2.2.1.1, 512, .inl m_states)), (a_turned, .inl (γ.2.2.1.1, 512, .inl m_turned))] (fun r w1 => ∃ m_d' : Int32, ∃ m_h' : Int32, ∃ m_states' : Nat → Int32, ∃ m_turned' : Nat → Int32, ∃ m_w' : Int32, r = none ∧ w1 = [(a_self, .inr (0, [.ref a_states, .ref a_turned, .int m_w', .int m_h', .int m_d'])), (a_states, .inl (γ.2.2.1.1, 512, .inl m_states')), (a_turned, .inl (γ.2.2.1.1, 512, .inl m_turned'))] ∧ Q m_d' m_h' m_states' m_turned' m_w') := by
  refine ctR_of (by decide +kernel) (by simp [lg_sl, Value.category]) ?_
  intro g C E hi
  have C : q_C γ g RX0 cX0_rotate ({ frames := 2, cells := 0, slots := 0, locals := 120 }) 4 := C
  show V g 0 [(0, .ref a_self)] [] [(a_self, .inr (0, [.ref a_states, .ref a_turned, .int m_w, .int m_h, .int m_d])), (a_states, .inl (γ.2.2.1.1, 512, .inl m_states)), (a_turned, .inl (γ.2.2.1.1, 512, .inl m_turned))] 0 0
  have B77 : ∀ (m_d : Int32) (m_h : Int32) (m_states : Nat → Int32) (m_turned : Nat → Int32) (m_w : Int32), w_X0_rotate_B77 Q m_d m_h m_states m_turned m_w → V g 77 [(0, .ref a_self)] [] [(a_self, .inr (0, [.ref a_states, .ref a_turned, .int m_w, .int m_h, .int m_d])), (a_states, .inl (γ.2.2.1.1, 512, .inl m_states)), (a_turned, .inl (γ.2.2.1.1, 512, .inl m_turned))] 0 0 := by
    intro m_d m_h m_states m_turned m_w h
    unfold w_X0_rotate_B77 at h
    refine v_run C [(.aload_n 0, 1, 0, 0)] (pc' := 78) (lv' := [(0, .ref a_self)]) (st' := [.ref a_self]) (by decide +kernel) (by rfl) ?_
    refine v_get C kX0 0 1 (idx := 15) lkF_RX0_15 ⟨by decide, rfl⟩ rfl rfl (by decide +kernel) ?_
    refine v_run C [(.iconst 0, 1, 0, 0), (.aload_n 0, 1, 0, 0)] (pc' := 83) (lv' := [(0, .ref a_self)]) (st' := [.ref a_self, .int 0, .ref a_turned]) (by decide +kernel) (by rfl) ?_
    refine v_get C kX0 0 0 (idx := 9) lkF_RX0_9 ⟨by decide, rfl⟩ rfl rfl (by decide +kernel) ?_
    refine v_run C [(.iconst 0, 1, 0, 0), (.aload_n 0, 1, 0, 0)] (pc' := 88) (lv' := [(0, .ref a_self)]) (st' := [.ref a_self, .int 0, .ref a_states, .int 0, .ref a_turned]) (by decide +kernel) (by rfl) ?_
    refine v_get C kX0 0 0 (idx := 9) lkF_RX0_9 ⟨by decide, rfl⟩ rfl rfl (by decide +kernel) ?_
    refine v_alen C 1 (v := 512) rfl rfl (by decide +kernel) ?_
    refine v_copyI C lkcpy_RX0_36 2 1 rfl rfl (by decide) (by decide) (by decide) (by decide) (by decide) ⟨Nat.le_of_ble_eq_true rfl, Nat.le_of_ble_eq_true rfl⟩ (w' := [(a_self, .inr (0, [.ref a_states, .ref a_turned, .int m_w, .int m_h, .int m_d])), (a_states, .inl (γ.2.2.1.1, 512, .inl (va_cpy m_turned m_states (Int32.toNatClampNeg 0) (Int32.toNatClampNeg 0) (Int32.toNatClampNeg 512)))), (a_turned, .inl (γ.2.2.1.1, 512, .inl m_turned))]) rfl (by decide +kernel) ?_
    refine v_run C [(.aload_n 0, 1, 0, 0), (.aload_n 0, 1, 0, 0)] (pc' := 97) (lv' := [(0, .ref a_self)]) (st' := [.ref a_self, .ref a_self]) (by decide +kernel) (by rfl) ?_
    refine v_get C kX0 0 4 (idx := 25) lkF_RX0_25 ⟨by decide, rfl⟩ rfl rfl (by decide +kernel) ?_
    refine v_run C [(.aload_n 0, 1, 0, 0)] (pc' := 101) (lv' := [(0, .ref a_self)]) (st' := [.ref a_self, .int m_d, .ref a_self]) (by decide +kernel) (by rfl) ?_
    refine v_get C kX0 0 3 (idx := 22) lkF_RX0_22 ⟨by decide, rfl⟩ rfl rfl (by decide +kernel) ?_
    refine v_run C [(.aload_n 0, 1, 0, 0)] (pc' := 105) (lv' := [(0, .ref a_self)]) (st' := [.ref a_self, .int m_h, .int m_d, .ref a_self]) (by decide +kernel) (by rfl) ?_
    refine v_get C kX0 0 2 (idx := 18) lkF_RX0_18 ⟨by decide, rfl⟩ rfl rfl (by decide +kernel) ?_
    refine v_callV C kX0 lkV_RX0_42 0 rfl (As := [.int m_d, .int m_h, .int m_w]) (rest := []) (wr := [(a_states, .inl (γ.2.2.1.1, 512, .inl (va_cpy m_turned m_states (Int32.toNatClampNeg 0) (Int32.toNatClampNeg 0) (Int32.toNatClampNeg 512)))), (a_turned, .inl (γ.2.2.1.1, 512, .inl m_turned))]) (c_X0_resize a_self a_states a_turned m_d m_h m_w m_d m_h m_w h) [0] [1, 2] rfl rfl (by decide) (by decide) (Nat.le_of_ble_eq_true rfl) (Nat.le_of_ble_eq_true rfl) rfl rfl (Nat.le_of_ble_eq_true rfl) (by decide +kernel) (fun r w1 hq => ?_)
    obtain ⟨y1, y2, y3, rfl, rfl, h⟩ := hq
    refine v_nc [0] [2, 0, 1] (pc' := 111) (lv' := [(0, .ref a_self)]) (st' := []) (w' := [(a_self, .inr (0, [.ref a_states, .ref a_turned, .int y3, .int y2, .int y1])), (a_states, .inl (γ.2.2.1.1, 512, .inl (va_cpy m_turned m_states (Int32.toNatClampNeg 0) (Int32.toNatClampNeg 0) (Int32.toNatClampNeg 512)))), (a_turned, .inl (γ.2.2.1.1, 512, .inl m_turned))]) (k' := 0) (n' := 0) rfl rfl rfl rfl rfl (Nat.le_of_ble_eq_true rfl) (Nat.le_of_ble_eq_true rfl) ?_
    exact v_vret C E (Nat.le_of_ble_eq_true rfl) (Nat.le_of_ble_eq_true rfl) ⟨y1, y2, va_cpy m_turned m_states (Int32.toNatClampNeg 0) (Int32.toNatClampNeg 0) (Int32.toNatClampNeg 512), m_turned, y3, rfl, rfl, h⟩ (by decide +kernel)
  have L2 : ∀ (n : Nat) (v1 : Int32) (m_d : Int32) (m_h : Int32) (m_states : Nat → Int32) (m_turned : Nat → Int32) (m_w : Int32), q_loop (fun (rec : (Int32 × Int32 × Int32 × (Nat → Int32) × (Nat → Int32) × Int32) → Prop) (a : Int32 × Int32 × Int32 × (Nat → Int32) × (Nat → Int32) × Int32) => w_X0_rotate_L2 Q (fun v1 m_d m_h m_states m_turned m_w => rec (v1, m_d, m_h, m_states, m_turned, m_w)) (w_X0_rotate_B77 Q) a.1 a.2.1 a.2.2.1 a.2.2.2.1 a.2.2.2.2.1 a.2.2.2.2.2) n (v1, m_d, m_h, m_states, m_turned, m_w) → V g 2 [(0, .ref a_self), (1, .int v1)] [] [(a_self, .inr (0, [.ref a_states, .ref a_turned, .int m_w, .int m_h, .int m_d])), (a_states, .inl (γ.2.2.1.1, 512, .inl m_states)), (a_turned, .inl (γ.2.2.1.1, 512, .inl m_turned))] 0 0 := by
    intro n
    induction n with
    | zero =>
      intro v1 m_d m_h m_states m_turned m_w h
      exact (show False from h).elim
    | succ n2 ih2 =>
      have B71 : ∀ (v1 : Int32) (m_d : Int32) (m_h : Int32) (m_states : Nat → Int32) (m_turned : Nat → Int32) (m_w : Int32), w_X0_rotate_B71 Q (fun v1 m_d m_h m_states m_turned m_w => q_loop (fun (rec : (Int32 × Int32 × Int32 × (Nat → Int32) × (Nat → Int32) × Int32) → Prop) (a : Int32 × Int32 × Int32 × (Nat → Int32) × (Nat → Int32) × Int32) => w_X0_rotate_L2 Q (fun v1 m_d m_h m_states m_turned m_w => rec (v1, m_d, m_h, m_states, m_turned, m_w)) (w_X0_rotate_B77 Q) a.1 a.2.1 a.2.2.1 a.2.2.2.1 a.2.2.2.2.1 a.2.2.2.2.2) n2 (v1, m_d, m_h, m_states, m_turned, m_w)) (w_X0_rotate_B77 Q) v1 m_d m_h m_states m_turned m_w → V g 71 [(0, .ref a_self), (1, .int v1)] [] [(a_self, .inr (0, [.ref a_states, .ref a_turned, .int m_w, .int m_h, .int m_d])), (a_states, .inl (γ.2.2.1.1, 512, .inl m_states)), (a_turned, .inl (γ.2.2.1.1, 512, .inl m_turned))] 0 0 := by
        intro v1 m_d m_h m_states m_turned m_w h
        unfold w_X0_rotate_B71 at h
        refine v_run C [(.iinc 1 1, 3, 1, 0), (.goto (-72), 3, 0, 2)] (pc' := 2) (lv' := [(1, .int (v1 + 1)), (0, .ref a_self)]) (st' := []) (by decide +kernel) (by rfl) ?_
        refine v_nm [1, 0] [0, 1, 2] (lv' := [(0, .ref a_self), (1, .int (v1 + 1))]) (w' := [(a_self, .inr (0, [.ref a_states, .ref a_turned, .int m_w, .int m_h, .int m_d])), (a_states, .inl (γ.2.2.1.1, 512, .inl m_states)), (a_turned, .inl (γ.2.2.1.1, 512, .inl m_turned))]) (k' := 0) (n' := 0) rfl rfl rfl (Nat.le_of_ble_eq_true rfl) (Nat.le_of_ble_eq_true rfl) ?_
        exact ih2 (v1 + 1) m_d m_h m_states m_turned m_w h
      have L12 : ∀ (n : Nat) (v1 : Int32) (v2 : Int32) (m_d : Int32) (m_h : Int32) (m_states : Nat → Int32) (m_turned : Nat → Int32) (m_w : Int32), q_loop (fun (rec : (Int32 × Int32 × Int32 × Int32 × (Nat → Int32) × (Nat → Int32) × Int32) → Prop) (a : Int32 × Int32 × Int32 × Int32 × (Nat → Int32) × (Nat → Int32) × Int32) => w_X0_rotate_L12 Q (fun v1 v2 m_d m_h m_states m_turned m_w => rec (v1, v2, m_d, m_h, m_states, m_turned, m_w)) (w_X0_rotate_B71 Q (fun v1 m_d m_h m_states m_turned m_w => q_loop (fun (rec : (Int32 × Int32 × Int32 × (Nat → Int32) × (Nat → Int32) × Int32) → Prop) (a : Int32 × Int32 × Int32 × (Nat → Int32) × (Nat → Int32) × Int32) => w_X0_rotate_L2 Q (fun v1 m_d m_h m_states m_turned m_w => rec (v1, m_d, m_h, m_states, m_turned, m_w)) (w_X0_rotate_B77 Q) a.1 a.2.1 a.2.2.1 a.2.2.2.1 a.2.2.2.2.1 a.2.2.2.2.2) n2 (v1, m_d, m_h, m_states, m_turned, m_w)) (w_X0_rotate_B77 Q)) a.1 a.2.1 a.2.2.1 a.2.2.2.1 a.2.2.2.2.1 a.2.2.2.2.2.1 a.2.2.2.2.2.2) n (v1, v2, m_d, m_h, m_states, m_turned, m_w) → V g 12 [(0, .ref a_self), (1, .int v1), (2, .int v2)] [] [(a_self, .inr (0, [.ref a_states, .ref a_turned, .int m_w, .int m_h, .int m_d])), (a_states, .inl (γ.2.2.1.1, 512, .inl m_states)), (a_turned, .inl (γ.2.2.1.1, 512, .inl m_turned))] 0 0 := by
        intro n
        induction n with
        | zero =>
          intro v1 v2 m_d m_h m_states m_turned m_w h
          exact (show False from h).elim
        | succ n12 ih12 =>
          have B65 : ∀ (v1 : Int32) (v2 : Int32) (m_d : Int32) (m_h : Int32) (m_states : Nat → Int32) (m_turned : Nat → Int32) (m_w : Int32), w_X0_rotate_B65 Q (fun v1 v2 m_d m_h m_states m_turned m_w => q_loop (fun (rec : (Int32 × Int32 × Int32 × Int32 × (Nat → Int32) × (Nat → Int32) × Int32) → Prop) (a : Int32 × Int32 × Int32 × Int32 × (Nat → Int32) × (Nat → Int32) × Int32) => w_X0_rotate_L12 Q (fun v1 v2 m_d m_h m_states m_turned m_w => rec (v1, v2, m_d, m_h, m_states, m_turned, m_w)) (w_X0_rotate_B71 Q (fun v1 m_d m_h m_states m_turned m_w => q_loop (fun (rec : (Int32 × Int32 × Int32 × (Nat → Int32) × (Nat → Int32) × Int32) → Prop) (a : Int32 × Int32 × Int32 × (Nat → Int32) × (Nat → Int32) × Int32) => w_X0_rotate_L2 Q (fun v1 m_d m_h m_states m_turned m_w => rec (v1, m_d, m_h, m_states, m_turned, m_w)) (w_X0_rotate_B77 Q) a.1 a.2.1 a.2.2.1 a.2.2.2.1 a.2.2.2.2.1 a.2.2.2.2.2) n2 (v1, m_d, m_h, m_states, m_turned, m_w)) (w_X0_rotate_B77 Q)) a.1 a.2.1 a.2.2.1 a.2.2.2.1 a.2.2.2.2.1 a.2.2.2.2.2.1 a.2.2.2.2.2.2) n12 (v1, v2, m_d, m_h, m_states, m_turned, m_w)) (w_X0_rotate_B71 Q (fun v1 m_d m_h m_states m_turned m_w => q_loop (fun (rec : (Int32 × Int32 × Int32 × (Nat → Int32) × (Nat → Int32) × Int32) → Prop) (a : Int32 × Int32 × Int32 × (Nat → Int32) × (Nat → Int32) × Int32) => w_X0_rotate_L2 Q (fun v1 m_d m_h m_states m_turned m_w => rec (v1, m_d, m_h, m_states, m_turned, m_w)) (w_X0_rotate_B77 Q) a.1 a.2.1 a.2.2.1 a.2.2.2.1 a.2.2.2.2.1 a.2.2.2.2.2) n2 (v1, m_d, m_h, m_states, m_turned, m_w)) (w_X0_rotate_B77 Q)) v1 v2 m_d m_h m_states m_turned m_w → V g 65 [(0, .ref a_self), (1, .int v1), (2, .int v2)] [] [(a_self, .inr (0, [.ref a_states, .ref a_turned, .int m_w, .int m_h, .int m_d])), (a_states, .inl (γ.2.2.1.1, 512, .inl m_states)), (a_turned, .inl (γ.2.2.1.1, 512, .inl m_turned))] 0 0 := by
            intro v1 v2 m_d m_h m_states m_turned m_w h
            unfold w_X0_rotate_B65 at h
            refine v_run C [(.iinc 2 1, 3, 1, 0), (.goto (-56), 3, 0, 12)] (pc' := 12) (lv' := [(2, .int (v2 + 1)), (0, .ref a_self), (1, .int v1)]) (st' := []) (by decide +kernel) (by rfl) ?_
            refine v_nm [1, 2, 0] [0, 1, 2] (lv' := [(0, .ref a_self), (1, .int v1), (2, .int (v2 + 1))]) (w' := [(a_self, .inr (0, [.ref a_states, .ref a_turned, .int m_w, .int m_h, .int m_d])), (a_states, .inl (γ.2.2.1.1, 512, .inl m_states)), (a_turned, .inl (γ.2.2.1.1, 512, .inl m_turned))]) (k' := 0) (n' := 0) rfl rfl rfl (Nat.le_of_ble_eq_true rfl) (Nat.le_of_ble_eq_true rfl) ?_
            exact ih12 v1 (v2 + 1) m_d m_h m_states m_turned m_w h
          have L22 : ∀ (n : Nat) (v1 : Int32) (v2 : Int32) (v3 : Int32) (m_d : Int32) (m_h : Int32) (m_states : Nat → Int32) (m_turned : Nat → Int32) (m_w : Int32), q_loop (fun (rec : (Int32 × Int32 × Int32 × Int32 × Int32 × (Nat → Int32) × (Nat → Int32) × Int32) → Prop) (a : Int32 × Int32 × Int32 × Int32 × Int32 × (Nat → Int32) × (Nat → Int32) × Int32) => w_X0_rotate_L22 Q (fun v1 v2 v3 m_d m_h m_states m_turned m_w => rec (v1, v2, v3, m_d, m_h, m_states, m_turned, m_w)) (w_X0_rotate_B65 Q (fun v1 v2 m_d m_h m_states m_turned m_w => q_loop (fun (rec : (Int32 × Int32 × Int32 × Int32 × (Nat → Int32) × (Nat → Int32) × Int32) → Prop) (a : Int32 × Int32 × Int32 × Int32 × (Nat → Int32) × (Nat → Int32) × Int32) => w_X0_rotate_L12 Q (fun v1 v2 m_d m_h m_states m_turned m_w => rec (v1, v2, m_d, m_h, m_states, m_turned, m_w)) (w_X0_rotate_B71 Q (fun v1 m_d m_h m_states m_turned m_w => q_loop (fun (rec : (Int32 × Int32 × Int32 × (Nat → Int32) × (Nat → Int32) × Int32) → Prop) (a : Int32 × Int32 × Int32 × (Nat → Int32) × (Nat → Int32) × Int32) => w_X0_rotate_L2 Q (fun v1 m_d m_h m_states m_turned m_w => rec (v1, m_d, m_h, m_states, m_turned, m_w)) (w_X0_rotate_B77 Q) a.1 a.2.1 a.2.2.1 a.2.2.2.1 a.2.2.2.2.1 a.2.2.2.2.2) n2 (v1, m_d, m_h, m_states, m_turned, m_w)) (w_X0_rotate_B77 Q)) a.1 a.2.1 a.2.2.1 a.2.2.2.1 a.2.2.2.2.1 a.2.2.2.2.2.1 a.2.2.2.2.2.2) n12 (v1, v2, m_d, m_h, m_states, m_turned, m_w)) (w_X0_rotate_B71 Q (fun v1 m_d m_h m_states m_turned m_w => q_loop (fun (rec : (Int32 × Int32 × Int32 × (Nat → Int32) × (Nat → Int32) × Int32) → Prop) (a : Int32 × Int32 × Int32 × (Nat → Int32) × (Nat → Int32) × Int32) => w_X0_rotate_L2 Q (fun v1 m_d m_h m_states m_turned m_w => rec (v1, m_d, m_h, m_states, m_turned, m_w)) (w_X0_rotate_B77 Q) a.1 a.2.1 a.2.2.1 a.2.2.2.1 a.2.2.2.2.1 a.2.2.2.2.2) n2 (v1, m_d, m_h, m_states, m_turned, m_w)) (w_X0_rotate_B77 Q))) a.1 a.2.1 a.2.2.1 a.2.2.2.1 a.2.2.2.2.1 a.2.2.2.2.2.1 a.2.2.2.2.2.2.1 a.2.2.2.2.2.2.2) n (v1, v2, v3, m_d, m_h, m_states, m_turned, m_w) → V g 22 [(0, .ref a_self), (1, .int v1), (2, .int v2), (3, .int v3)] [] [(a_self, .inr (0, [.ref a_states, .ref a_turned, .int m_w, .int m_h, .int m_d])), (a_states, .inl (γ.2.2.1.1, 512, .inl m_states)), (a_turned, .inl (γ.2.2.1.1, 512, .inl m_turned))] 0 0 := by
            intro n
            induction n with
            | zero =>
              intro v1 v2 v3 m_d m_h m_states m_turned m_w h
              exact (show False from h).elim
            | succ n22 ih22 =>
              intro v1 v2 v3 m_d m_h m_states m_turned m_w h
              have h : w_X0_rotate_L22 Q (fun v1 v2 v3 m_d m_h m_states m_turned m_w => q_loop (fun (rec : (Int32 × Int32 × Int32 × Int32 × Int32 × (Nat → Int32) × (Nat → Int32) × Int32) → Prop) (a : Int32 × Int32 × Int32 × Int32 × Int32 × (Nat → Int32) × (Nat → Int32) × Int32) => w_X0_rotate_L22 Q (fun v1 v2 v3 m_d m_h m_states m_turned m_w => rec (v1, v2, v3, m_d, m_h, m_states, m_turned, m_w)) (w_X0_rotate_B65 Q (fun v1 v2 m_d m_h m_states m_turned m_w => q_loop (fun (rec : (Int32 × Int32 × Int32 × Int32 × (Nat → Int32) × (Nat → Int32) × Int32) → Prop) (a : Int32 × Int32 × Int32 × Int32 × (Nat → Int32) × (Nat → Int32) × Int32) => w_X0_rotate_L12 Q (fun v1 v2 m_d m_h m_states m_turned m_w => rec (v1, v2, m_d, m_h, m_states, m_turned, m_w)) (w_X0_rotate_B71 Q (fun v1 m_d m_h m_states m_turned m_w => q_loop (fun (rec : (Int32 × Int32 × Int32 × (Nat → Int32) × (Nat → Int32) × Int32) → Prop) (a : Int32 × Int32 × Int32 × (Nat → Int32) × (Nat → Int32) × Int32) => w_X0_rotate_L2 Q (fun v1 m_d m_h m_states m_turned m_w => rec (v1, m_d, m_h, m_states, m_turned, m_w)) (w_X0_rotate_B77 Q) a.1 a.2.1 a.2.2.1 a.2.2.2.1 a.2.2.2.2.1 a.2.2.2.2.2) n2 (v1, m_d, m_h, m_states, m_turned, m_w)) (w_X0_rotate_B77 Q)) a.1 a.2.1 a.2.2.1 a.2.2.2.1 a.2.2.2.2.1 a.2.2.2.2.2.1 a.2.2.2.2.2.2) n12 (v1, v2, m_d, m_h, m_states, m_turned, m_w)) (w_X0_rotate_B71 Q (fun v1 m_d m_h m_states m_turned m_w => q_loop (fun (rec : (Int32 × Int32 × Int32 × (Nat → Int32) × (Nat → Int32) × Int32) → Prop) (a : Int32 × Int32 × Int32 × (Nat → Int32) × (Nat → Int32) × Int32) => w_X0_rotate_L2 Q (fun v1 m_d m_h m_states m_turned m_w => rec (v1, m_d, m_h, m_states, m_turned, m_w)) (w_X0_rotate_B77 Q) a.1 a.2.1 a.2.2.1 a.2.2.2.1 a.2.2.2.2.1 a.2.2.2.2.2) n2 (v1, m_d, m_h, m_states, m_turned, m_w)) (w_X0_rotate_B77 Q))) a.1 a.2.1 a.2.2.1 a.2.2.2.1 a.2.2.2.2.1 a.2.2.2.2.2.1 a.2.2.2.2.2.2.1 a.2.2.2.2.2.2.2) n22 (v1, v2, v3, m_d, m_h, m_states, m_turned, m_w)) (w_X0_rotate_B65 Q (fun v1 v2 m_d m_h m_states m_turned m_w => q_loop (fun (rec : (Int32 × Int32 × Int32 × Int32 × (Nat → Int32) × (Nat → Int32) × Int32) → Prop) (a : Int32 × Int32 × Int32 × Int32 × (Nat → Int32) × (Nat → Int32) × Int32) => w_X0_rotate_L12 Q (fun v1 v2 m_d m_h m_states m_turned m_w => rec (v1, v2, m_d, m_h, m_states, m_turned, m_w)) (w_X0_rotate_B71 Q (fun v1 m_d m_h m_states m_turned m_w => q_loop (fun (rec : (Int32 × Int32 × Int32 × (Nat → Int32) × (Nat → Int32) × Int32) → Prop) (a : Int32 × Int32 × Int32 × (Nat → Int32) × (Nat → Int32) × Int32) => w_X0_rotate_L2 Q (fun v1 m_d m_h m_states m_turned m_w => rec (v1, m_d, m_h, m_states, m_turned, m_w)) (w_X0_rotate_B77 Q) a.1 a.2.1 a.2.2.1 a.2.2.2.1 a.2.2.2.2.1 a.2.2.2.2.2) n2 (v1, m_d, m_h, m_states, m_turned, m_w)) (w_X0_rotate_B77 Q)) a.1 a.2.1 a.2.2.1 a.2.2.2.1 a.2.2.2.2.1 a.2.2.2.2.2.1 a.2.2.2.2.2.2) n12 (v1, v2, m_d, m_h, m_states, m_turned, m_w)) (w_X0_rotate_B71 Q (fun v1 m_d m_h m_states m_turned m_w => q_loop (fun (rec : (Int32 × Int32 × Int32 × (Nat → Int32) × (Nat → Int32) × Int32) → Prop) (a : Int32 × Int32 × Int32 × (Nat → Int32) × (Nat → Int32) × Int32) => w_X0_rotate_L2 Q (fun v1 m_d m_h m_states m_turned m_w => rec (v1, m_d, m_h, m_states, m_turned, m_w)) (w_X0_rotate_B77 Q) a.1 a.2.1 a.2.2.1 a.2.2.2.1 a.2.2.2.2.1 a.2.2.2.2.2) n2 (v1, m_d, m_h, m_states, m_turned, m_w)) (w_X0_rotate_B77 Q))) v1 v2 v3 m_d m_h m_states m_turned m_w := h
              unfold w_X0_rotate_L22 at h
              refine v_run C [(.iload_n 3, 1, 0, 0), (.aload_n 0, 1, 0, 0)] (pc' := 24) (lv' := [(0, .ref a_self), (1, .int v1), (2, .int v2), (3, .int v3)]) (st' := [.ref a_self, .int v3]) (by decide +kernel) (by rfl) ?_
              refine v_get C kX0 0 2 (idx := 18) lkF_RX0_18 ⟨by decide, rfl⟩ rfl rfl (by decide +kernel) ?_
              refine v_icmp_ge C (tgt := 65) (off := 38) (by decide +kernel) (fun c => ?_) (fun c => ?_)
              · have h := h.1 c
                refine v_nm [0, 1, 2] [0, 1, 2] (lv' := [(0, .ref a_self), (1, .int v1), (2, .int v2)]) (w' := [(a_self, .inr (0, [.ref a_states, .ref a_turned, .int m_w, .int m_h, .int m_d])), (a_states, .inl (γ.2.2.1.1, 512, .inl m_states)), (a_turned, .inl (γ.2.2.1.1, 512, .inl m_turned))]) (k' := 0) (n' := 0) rfl rfl rfl (Nat.le_of_ble_eq_true rfl) (Nat.le_of_ble_eq_true rfl) ?_
                exact B65 v1 v2 m_d m_h m_states m_turned m_w h
              · have h := h.2 c
                refine v_run C [(.aload_n 0, 1, 0, 0)] (pc' := 31) (lv' := [(0, .ref a_self), (1, .int v1), (2, .int v2), (3, .int v3)]) (st' := [.ref a_self]) (by decide +kernel) (by rfl) ?_
                refine v_get C kX0 0 1 (idx := 15) lkF_RX0_15 ⟨by decide, rfl⟩ rfl rfl (by decide +kernel) ?_
                refine v_run C [(.aload_n 0, 1, 0, 0)] (pc' := 35) (lv' := [(0, .ref a_self), (1, .int v1), (2, .int v2), (3, .int v3)]) (st' := [.ref a_self, .ref a_turned]) (by decide +kernel) (by rfl) ?_
                refine v_get C kX0 0 4 (idx := 25) lkF_RX0_25 ⟨by decide, rfl⟩ rfl rfl (by decide +kernel) ?_
                refine v_run C [(.iconst 1, 1, 1, 0), (.isub, 1, 0, 0), (.iload_n 2, 1, 0, 0), (.isub, 1, 0, 0), (.iload_n 1, 1, 0, 0), (.iload_n 3, 1, 0, 0)] (pc' := 44) (lv' := [(0, .ref a_self), (1, .int v1), (2, .int v2), (3, .int v3)]) (st' := [.int v3, .int v1, .int ((m_d - 1) - v2), .ref a_turned]) (by decide +kernel) (by rfl) ?_
                refine v_callS C lkS_RX0_32 (As := [.int ((m_d - 1) - v2), .int v1, .int v3]) (rest := [.ref a_turned]) (wr := [(a_self, .inr (0, [.ref a_states, .ref a_turned, .int m_w, .int m_h, .int m_d])), (a_states, .inl (γ.2.2.1.1, 512, .inl m_states)), (a_turned, .inl (γ.2.2.1.1, 512, .inl m_turned))]) (c_X0_placeOf ((m_d - 1) - v2) v1 v3 h) [] [0, 1, 2] rfl rfl (by decide) (by decide) (Nat.le_of_ble_eq_true rfl) (Nat.le_of_ble_eq_true rfl) rfl rfl (Nat.le_of_ble_eq_true rfl) (by decide +kernel) (fun r w1 hq => ?_)
                obtain ⟨r4, rfl, rfl, h⟩ := hq
                refine v_nc [0, 1, 2, 3] [0, 1, 2] (pc' := 47) (lv' := [(0, .ref a_self), (1, .int v1), (2, .int v2), (3, .int v3)]) (st' := [.int r4, .ref a_turned]) (w' := [(a_self, .inr (0, [.ref a_states, .ref a_turned, .int m_w, .int m_h, .int m_d])), (a_states, .inl (γ.2.2.1.1, 512, .inl m_states)), (a_turned, .inl (γ.2.2.1.1, 512, .inl m_turned))]) (k' := 0) (n' := 0) rfl rfl rfl rfl rfl (Nat.le_of_ble_eq_true rfl) (Nat.le_of_ble_eq_true rfl) ?_
                refine v_run C [(.aload_n 0, 1, 0, 0)] (pc' := 48) (lv' := [(0, .ref a_self), (1, .int v1), (2, .int v2), (3, .int v3)]) (st' := [.ref a_self, .int r4, .ref a_turned]) (by decide +kernel) (by rfl) ?_
                refine v_get C kX0 0 0 (idx := 9) lkF_RX0_9 ⟨by decide, rfl⟩ rfl rfl (by decide +kernel) ?_
                refine v_run C [(.iload_n 3, 1, 0, 0), (.iload_n 1, 1, 0, 0), (.iload_n 2, 1, 0, 0)] (pc' := 54) (lv' := [(0, .ref a_self), (1, .int v1), (2, .int v2), (3, .int v3)]) (st' := [.int v2, .int v1, .int v3, .ref a_states, .int r4, .ref a_turned]) (by decide +kernel) (by rfl) ?_
                refine v_callS C lkS_RX0_32 (As := [.int v3, .int v1, .int v2]) (rest := [.ref a_states, .int r4, .ref a_turned]) (wr := [(a_self, .inr (0, [.ref a_states, .ref a_turned, .int m_w, .int m_h, .int m_d])), (a_states, .inl (γ.2.2.1.1, 512, .inl m_states)), (a_turned, .inl (γ.2.2.1.1, 512, .inl m_turned))]) (c_X0_placeOf v3 v1 v2 h) [] [0, 1, 2] rfl rfl (by decide) (by decide) (Nat.le_of_ble_eq_true rfl) (Nat.le_of_ble_eq_true rfl) rfl rfl (Nat.le_of_ble_eq_true rfl) (by decide +kernel) (fun r w1 hq => ?_)
                obtain ⟨r5, rfl, rfl, h⟩ := hq
                refine v_nc [0, 1, 2, 3] [0, 1, 2] (pc' := 57) (lv' := [(0, .ref a_self), (1, .int v1), (2, .int v2), (3, .int v3)]) (st' := [.int r5, .ref a_states, .int r4, .ref a_turned]) (w' := [(a_self, .inr (0, [.ref a_states, .ref a_turned, .int m_w, .int m_h, .int m_d])), (a_states, .inl (γ.2.2.1.1, 512, .inl m_states)), (a_turned, .inl (γ.2.2.1.1, 512, .inl m_turned))]) (k' := 0) (n' := 0) rfl rfl rfl rfl rfl (Nat.le_of_ble_eq_true rfl) (Nat.le_of_ble_eq_true rfl) ?_
                obtain ⟨hin, h⟩ := h
                refine v_iald C 1 rfl hin (by decide +kernel) ?_
                obtain ⟨hin, h⟩ := h
                refine v_iast C 2 rfl hin (w' := [(a_self, .inr (0, [.ref a_states, .ref a_turned, .int m_w, .int m_h, .int m_d])), (a_states, .inl (γ.2.2.1.1, 512, .inl m_states)), (a_turned, .inl (γ.2.2.1.1, 512, .inl (upd m_turned r4.toNatClampNeg (m_states r5.toNatClampNeg))))]) rfl (by decide +kernel) ?_
                refine v_run C [(.iinc 3 1, 3, 1, 0), (.goto (-40), 3, 0, 22)] (pc' := 22) (lv' := [(3, .int (v3 + 1)), (0, .ref a_self), (1, .int v1), (2, .int v2)]) (st' := []) (by decide +kernel) (by rfl) ?_
                refine v_nm [1, 2, 3, 0] [0, 1, 2] (lv' := [(0, .ref a_self), (1, .int v1), (2, .int v2), (3, .int (v3 + 1))]) (w' := [(a_self, .inr (0, [.ref a_states, .ref a_turned, .int m_w, .int m_h, .int m_d])), (a_states, .inl (γ.2.2.1.1, 512, .inl m_states)), (a_turned, .inl (γ.2.2.1.1, 512, .inl (upd m_turned r4.toNatClampNeg (m_states r5.toNatClampNeg))))]) (k' := 0) (n' := 0) rfl rfl rfl (Nat.le_of_ble_eq_true rfl) (Nat.le_of_ble_eq_true rfl) ?_
                exact ih22 v1 v2 (v3 + 1) m_d m_h m_states (upd m_turned r4.toNatClampNeg (m_states r5.toNatClampNeg)) m_w h
          intro v1 v2 m_d m_h m_states m_turned m_w h
          have h : w_X0_rotate_L12 Q (fun v1 v2 m_d m_h m_states m_turned m_w => q_loop (fun (rec : (Int32 × Int32 × Int32 × Int32 × (Nat → Int32) × (Nat → Int32) × Int32) → Prop) (a : Int32 × Int32 × Int32 × Int32 × (Nat → Int32) × (Nat → Int32) × Int32) => w_X0_rotate_L12 Q (fun v1 v2 m_d m_h m_states m_turned m_w => rec (v1, v2, m_d, m_h, m_states, m_turned, m_w)) (w_X0_rotate_B71 Q (fun v1 m_d m_h m_states m_turned m_w => q_loop (fun (rec : (Int32 × Int32 × Int32 × (Nat → Int32) × (Nat → Int32) × Int32) → Prop) (a : Int32 × Int32 × Int32 × (Nat → Int32) × (Nat → Int32) × Int32) => w_X0_rotate_L2 Q (fun v1 m_d m_h m_states m_turned m_w => rec (v1, m_d, m_h, m_states, m_turned, m_w)) (w_X0_rotate_B77 Q) a.1 a.2.1 a.2.2.1 a.2.2.2.1 a.2.2.2.2.1 a.2.2.2.2.2) n2 (v1, m_d, m_h, m_states, m_turned, m_w)) (w_X0_rotate_B77 Q)) a.1 a.2.1 a.2.2.1 a.2.2.2.1 a.2.2.2.2.1 a.2.2.2.2.2.1 a.2.2.2.2.2.2) n12 (v1, v2, m_d, m_h, m_states, m_turned, m_w)) (w_X0_rotate_B71 Q (fun v1 m_d m_h m_states m_turned m_w => q_loop (fun (rec : (Int32 × Int32 × Int32 × (Nat → Int32) × (Nat → Int32) × Int32) → Prop) (a : Int32 × Int32 × Int32 × (Nat → Int32) × (Nat → Int32) × Int32) => w_X0_rotate_L2 Q (fun v1 m_d m_h m_states m_turned m_w => rec (v1, m_d, m_h, m_states, m_turned, m_w)) (w_X0_rotate_B77 Q) a.1 a.2.1 a.2.2.1 a.2.2.2.1 a.2.2.2.2.1 a.2.2.2.2.2) n2 (v1, m_d, m_h, m_states, m_turned, m_w)) (w_X0_rotate_B77 Q)) v1 v2 m_d m_h m_states m_turned m_w := h
          unfold w_X0_rotate_L12 at h
          refine v_run C [(.iload_n 2, 1, 0, 0), (.aload_n 0, 1, 0, 0)] (pc' := 14) (lv' := [(0, .ref a_self), (1, .int v1), (2, .int v2)]) (st' := [.ref a_self, .int v2]) (by decide +kernel) (by rfl) ?_
          refine v_get C kX0 0 4 (idx := 25) lkF_RX0_25 ⟨by decide, rfl⟩ rfl rfl (by decide +kernel) ?_
          refine v_icmp_ge C (tgt := 71) (off := 54) (by decide +kernel) (fun c => ?_) (fun c => ?_)
          · have h := h.1 c
            refine v_nm [0, 1] [0, 1, 2] (lv' := [(0, .ref a_self), (1, .int v1)]) (w' := [(a_self, .inr (0, [.ref a_states, .ref a_turned, .int m_w, .int m_h, .int m_d])), (a_states, .inl (γ.2.2.1.1, 512, .inl m_states)), (a_turned, .inl (γ.2.2.1.1, 512, .inl m_turned))]) (k' := 0) (n' := 0) rfl rfl rfl (Nat.le_of_ble_eq_true rfl) (Nat.le_of_ble_eq_true rfl) ?_
            exact B71 v1 m_d m_h m_states m_turned m_w h
          · have h := h.2 c
            refine v_run C [(.iconst 0, 1, 0, 0), (.istore_n 3, 1, 0, 0)] (pc' := 22) (lv' := [(3, .int 0), (0, .ref a_self), (1, .int v1), (2, .int v2)]) (st' := []) (by decide +kernel) (by rfl) ?_
            refine v_nm [1, 2, 3, 0] [0, 1, 2] (lv' := [(0, .ref a_self), (1, .int v1), (2, .int v2), (3, .int 0)]) (w' := [(a_self, .inr (0, [.ref a_states, .ref a_turned, .int m_w, .int m_h, .int m_d])), (a_states, .inl (γ.2.2.1.1, 512, .inl m_states)), (a_turned, .inl (γ.2.2.1.1, 512, .inl m_turned))]) (k' := 0) (n' := 0) rfl rfl rfl (Nat.le_of_ble_eq_true rfl) (Nat.le_of_ble_eq_true rfl) ?_
            obtain ⟨n, h⟩ := h
            exact L22 n v1 v2 0 m_d m_h m_states m_turned m_w h
      intro v1 m_d m_h m_states m_turned m_w h
      have h : w_X0_rotate_L2 Q (fun v1 m_d m_h m_states m_turned m_w => q_loop (fun (rec : (Int32 × Int32 × Int32 × (Nat → Int32) × (Nat → Int32) × Int32) → Prop) (a : Int32 × Int32 × Int32 × (Nat → Int32) × (Nat → Int32) × Int32) => w_X0_rotate_L2 Q (fun v1 m_d m_h m_states m_turned m_w => rec (v1, m_d, m_h, m_states, m_turned, m_w)) (w_X0_rotate_B77 Q) a.1 a.2.1 a.2.2.1 a.2.2.2.1 a.2.2.2.2.1 a.2.2.2.2.2) n2 (v1, m_d, m_h, m_states, m_turned, m_w)) (w_X0_rotate_B77 Q) v1 m_d m_h m_states m_turned m_w := h
      unfold w_X0_rotate_L2 at h
      refine v_run C [(.iload_n 1, 1, 0, 0), (.aload_n 0, 1, 0, 0)] (pc' := 4) (lv' := [(0, .ref a_self), (1, .int v1)]) (st' := [.ref a_self, .int v1]) (by decide +kernel) (by rfl) ?_
      refine v_get C kX0 0 3 (idx := 22) lkF_RX0_22 ⟨by decide, rfl⟩ rfl rfl (by decide +kernel) ?_
      refine v_icmp_ge C (tgt := 77) (off := 70) (by decide +kernel) (fun c => ?_) (fun c => ?_)
      · have h := h.1 c
        refine v_nm [0] [0, 1, 2] (lv' := [(0, .ref a_self)]) (w' := [(a_self, .inr (0, [.ref a_states, .ref a_turned, .int m_w, .int m_h, .int m_d])), (a_states, .inl (γ.2.2.1.1, 512, .inl m_states)), (a_turned, .inl (γ.2.2.1.1, 512, .inl m_turned))]) (k' := 0) (n' := 0) rfl rfl rfl (Nat.le_of_ble_eq_true rfl) (Nat.le_of_ble_eq_true rfl) ?_
        exact B77 m_d m_h m_states m_turned m_w h
      · have h := h.2 c
        refine v_run C [(.iconst 0, 1, 0, 0), (.istore_n 2, 1, 0, 0)] (pc' := 12) (lv' := [(2, .int 0), (0, .ref a_self), (1, .int v1)]) (st' := []) (by decide +kernel) (by rfl) ?_
        refine v_nm [1, 2, 0] [0, 1, 2] (lv' := [(0, .ref a_self), (1, .int v1), (2, .int 0)]) (w' := [(a_self, .inr (0, [.ref a_states, .ref a_turned, .int m_w, .int m_h, .int m_d])), (a_states, .inl (γ.2.2.1.1, 512, .inl m_states)), (a_turned, .inl (γ.2.2.1.1, 512, .inl m_turned))]) (k' := 0) (n' := 0) rfl rfl rfl (Nat.le_of_ble_eq_true rfl) (Nat.le_of_ble_eq_true rfl) ?_
        obtain ⟨n, h⟩ := h
        exact L12 n v1 0 m_d m_h m_states m_turned m_w h
  unfold w_X0_rotate at h
  refine v_run C [(.iconst 0, 1, 0, 0), (.istore_n 1, 1, 0, 0)] (pc' := 2) (lv' := [(1, .int 0), (0, .ref a_self)]) (st' := []) (by decide +kernel) (by rfl) ?_
  refine v_nm [1, 0] [0, 1, 2] (lv' := [(0, .ref a_self), (1, .int 0)]) (w' := [(a_self, .inr (0, [.ref a_states, .ref a_turned, .int m_w, .int m_h, .int m_d])), (a_states, .inl (γ.2.2.1.1, 512, .inl m_states)), (a_turned, .inl (γ.2.2.1.1, 512, .inl m_turned))]) (k' := 0) (n' := 0) rfl rfl rfl (Nat.le_of_ble_eq_true rfl) (Nat.le_of_ble_eq_true rfl) ?_
  obtain ⟨n, h⟩ := h
  exact L2 n 0 m_d m_h m_states m_turned m_w h
def w_X6_xOf (x0 : Int32) (Q : Int32 → Prop) : Prop := Q (x0 - x0 / 16 * 16)
set_option maxHeartbeats 4000000 in
set_option maxRecDepth 100000 in
theorem c_X6_xOf {γ : q_G} (x0 : Int32) {Q : Int32 → Prop} (h : w_X6_xOf x0  Q) : ctR γ yX6_xOf cX6_xOf 1 (some .int) ({ frames := 1, cells := 0, slots := 0, locals := 60 }) [.int x0] [] (fun r w1 => ∃ r0 : Int32, r = some (.int r0) ∧ w1 = [] ∧ Q r0) := by
  refine ctR_of (by decide +kernel) (by simp [lg_sl, Value.category]) ?_
  intro g C E hi
  have C : q_C γ g RX6 cX6_xOf ({ frames := 1, cells := 0, slots := 0, locals := 60 }) 1 := C
  show V g 0 [(0, .int x0)] [] [] 0 0
  unfold w_X6_xOf at h
  refine v_run C [(.iload_n 0, 1, 0, 0), (.bipush 16, 2, 16, 0)] (pc' := 3) (lv' := [(0, .int x0)]) (st' := [.int 16, .int x0]) (by decide +kernel) (by rfl) ?_
  refine v_irem C (by decide) (by decide +kernel) ?_
  exact v_iret C E (Nat.le_of_ble_eq_true rfl) (Nat.le_of_ble_eq_true rfl) ⟨x0 - x0 / 16 * 16, rfl, rfl, h⟩ (by decide +kernel)
def w_X6_zOf (x0 : Int32) (Q : Int32 → Prop) : Prop := Q ((x0 / 16) - (x0 / 16) / 16 * 16)
set_option maxHeartbeats 4000000 in
set_option maxRecDepth 100000 in
theorem c_X6_zOf {γ : q_G} (x0 : Int32) {Q : Int32 → Prop} (h : w_X6_zOf x0  Q) : ctR γ yX6_zOf cX6_zOf 1 (some .int) ({ frames := 1, cells := 0, slots := 0, locals := 60 }) [.int x0] [] (fun r w1 => ∃ r0 : Int32, r = some (.int r0) ∧ w1 = [] ∧ Q r0) := by
  refine ctR_of (by decide +kernel) (by simp [lg_sl, Value.category]) ?_
  intro g C E hi
  have C : q_C γ g RX6 cX6_zOf ({ frames := 1, cells := 0, slots := 0, locals := 60 }) 1 := C
  show V g 0 [(0, .int x0)] [] [] 0 0
  unfold w_X6_zOf at h
  refine v_run C [(.iload_n 0, 1, 0, 0), (.bipush 16, 2, 16, 0)] (pc' := 3) (lv' := [(0, .int x0)]) (st' := [.int 16, .int x0]) (by decide +kernel) (by rfl) ?_
  refine v_idiv C (by decide) (by decide +kernel) ?_
  refine v_run C [(.bipush 16, 2, 16, 0)] (pc' := 6) (lv' := [(0, .int x0)]) (st' := [.int 16, .int (x0 / 16)]) (by decide +kernel) (by rfl) ?_
  refine v_irem C (by decide) (by decide +kernel) ?_
  exact v_iret C E (Nat.le_of_ble_eq_true rfl) (Nat.le_of_ble_eq_true rfl) ⟨(x0 / 16) - (x0 / 16) / 16 * 16, rfl, rfl, h⟩ (by decide +kernel)
def w_X6_chunkOf (x0 : Int32) (x1 : Int32) (Q : Int32 → Prop) : Prop := Q (((x1 / 4) * 4) + (x0 / 4))
set_option maxHeartbeats 4000000 in
set_option maxRecDepth 100000 in
theorem c_X6_chunkOf {γ : q_G} (x0 : Int32) (x1 : Int32) {Q : Int32 → Prop} (h : w_X6_chunkOf x0 x1  Q) : ctR γ yX6_chunkOf cX6_chunkOf 2 (some .int) ({ frames := 1, cells := 0, slots := 0, locals := 60 }) [.int x0, .int x1] [] (fun r w1 => ∃ r0 : Int32, r = some (.int r0) ∧ w1 = [] ∧ Q r0) := by
  refine ctR_of (by decide +kernel) (by simp [lg_sl, Value.category]) ?_
  intro g C E hi
  have C : q_C γ g RX6 cX6_chunkOf ({ frames := 1, cells := 0, slots := 0, locals := 60 }) 2 := C
  show V g 0 [(0, .int x0), (1, .int x1)] [] [] 0 0
  unfold w_X6_chunkOf at h
  refine v_run C [(.iload_n 1, 1, 0, 0), (.iconst 4, 1, 4, 0)] (pc' := 2) (lv' := [(0, .int x0), (1, .int x1)]) (st' := [.int 4, .int x1]) (by decide +kernel) (by rfl) ?_
  refine v_idiv C (by decide) (by decide +kernel) ?_
  refine v_run C [(.iconst 4, 1, 4, 0), (.imul, 1, 0, 0), (.iload_n 0, 1, 0, 0), (.iconst 4, 1, 4, 0)] (pc' := 7) (lv' := [(0, .int x0), (1, .int x1)]) (st' := [.int 4, .int x0, .int ((x1 / 4) * 4)]) (by decide +kernel) (by rfl) ?_
  refine v_idiv C (by decide) (by decide +kernel) ?_
  refine v_run C [(.iadd, 1, 0, 0)] (pc' := 9) (lv' := [(0, .int x0), (1, .int x1)]) (st' := [.int (((x1 / 4) * 4) + (x0 / 4))]) (by decide +kernel) (by rfl) ?_
  exact v_iret C E (Nat.le_of_ble_eq_true rfl) (Nat.le_of_ble_eq_true rfl) ⟨((x1 / 4) * 4) + (x0 / 4), rfl, rfl, h⟩ (by decide +kernel)
def w_X2_isAway_B17 (x1 : Int32) (m_awayChunks : Int32) (Q : Int32 → Prop) (s0 : Int32) : Prop := (narrow .boolean (.int s0) = .int s0 ∧ Q s0)
def w_X2_isAway (x1 : Int32) (m_awayChunks : Int32) (Q : Int32 → Prop) : Prop := ((¬ ((m_awayChunks >>> (x1 &&& 31)) &&& 1) = 1 → (w_X2_isAway_B17 x1 m_awayChunks Q 0)) ∧ (((m_awayChunks >>> (x1 &&& 31)) &&& 1) = 1 → (w_X2_isAway_B17 x1 m_awayChunks Q 1)))
set_option maxHeartbeats 4000000 in
set_option maxRecDepth 100000 in
theorem c_X2_isAway {γ : q_G} (a_self : Nat) (g_states : Nat) (x1 : Int32) (m_awayChunks : Int32) {Q : Int32 → Prop} (h : w_X2_isAway x1 m_awayChunks Q) : ctR γ yX2_isAway cX2_isAway 2 (some .boolean) ({ frames := 1, cells := 0, slots := 0, locals := 60 }) [.ref a_self, .int x1] [(a_self, .inr (2, [.ref g_states, .int m_awayChunks]))] (fun r w1 => ∃ r0 : Int32, r = some (.int r0) ∧ w1 = [(a_self, .inr (2, [.ref g_states, .int m_awayChunks]))] ∧ Q r0) := by
  refine ctR_of (by decide +kernel) (by simp [lg_sl, Value.category]) ?_
  intro g C E hi
  have C : q_C γ g RX2 cX2_isAway ({ frames := 1, cells := 0, slots := 0, locals := 60 }) 2 := C
  show V g 0 [(0, .ref a_self), (1, .int x1)] [] [(a_self, .inr (2, [.ref g_states, .int m_awayChunks]))] 0 0
  have B17 : ∀ (s0 : Int32), w_X2_isAway_B17 x1 m_awayChunks Q s0 → V g 17 [] [.int s0] [(a_self, .inr (2, [.ref g_states, .int m_awayChunks]))] 0 0 := by
    intro s0 h
    unfold w_X2_isAway_B17 at h
    obtain ⟨hz, h⟩ := h
    exact v_zret C E hz (Nat.le_of_ble_eq_true rfl) (Nat.le_of_ble_eq_true rfl) ⟨s0, rfl, rfl, h⟩ (by decide +kernel)
  unfold w_X2_isAway at h
  refine v_run C [(.aload_n 0, 1, 0, 0)] (pc' := 1) (lv' := [(0, .ref a_self), (1, .int x1)]) (st' := [.ref a_self]) (by decide +kernel) (by rfl) ?_
  refine v_get C kX2 0 1 (idx := 15) lkF_RX2_15 ⟨by decide, rfl⟩ rfl rfl (by decide +kernel) ?_
  refine v_run C [(.iload_n 1, 1, 0, 0), (.ishr, 1, 0, 0), (.iconst 1, 1, 1, 0), (.iand, 1, 0, 0), (.iconst 1, 1, 1, 0)] (pc' := 9) (lv' := [(0, .ref a_self), (1, .int x1)]) (st' := [.int 1, .int ((m_awayChunks >>> (x1 &&& 31)) &&& 1)]) (by decide +kernel) (by rfl) ?_
  refine v_icmp_ne C (tgt := 16) (off := 7) (by decide +kernel) (fun c => ?_) (fun c => ?_)
  · have h := h.1 c
    refine v_run C [(.iconst 0, 1, 0, 0)] (pc' := 17) (lv' := [(0, .ref a_self), (1, .int x1)]) (st' := [.int 0]) (by decide +kernel) (by rfl) ?_
    refine v_nm [] [0] (lv' := []) (w' := [(a_self, .inr (2, [.ref g_states, .int m_awayChunks]))]) (k' := 0) (n' := 0) rfl rfl rfl (Nat.le_of_ble_eq_true rfl) (Nat.le_of_ble_eq_true rfl) ?_
    exact B17 0 h
  · have h := h.2 c
    refine v_run C [(.iconst 1, 1, 1, 0), (.goto 4, 3, 0, 17)] (pc' := 17) (lv' := [(0, .ref a_self), (1, .int x1)]) (st' := [.int 1]) (by decide +kernel) (by rfl) ?_
    refine v_nm [] [0] (lv' := []) (w' := [(a_self, .inr (2, [.ref g_states, .int m_awayChunks]))]) (k' := 0) (n' := 0) rfl rfl rfl (Nat.le_of_ble_eq_true rfl) (Nat.le_of_ble_eq_true rfl) ?_
    exact B17 1 h
