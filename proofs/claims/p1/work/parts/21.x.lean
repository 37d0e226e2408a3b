theorem lkSN_RX2_35 : q_LSN RX2 35 yX6_xOf "CobbleWorld" cX6_xOf 1 (some .int) 1 := ⟨mnw (i := 319) (by decide +kernel) (by decide +kernel), mw (i := 337) (by decide +kernel) (by decide +kernel), mw (i := 47) (by decide +kernel) (by decide +kernel), mw (i := 338) (by decide +kernel) (by decide +kernel), ⟨by decide, by decide, by decide +kernel⟩⟩
theorem lkSN_RX2_39 : q_LSN RX2 39 yX6_zOf "CobbleWorld" cX6_zOf 1 (some .int) 1 := ⟨mnw (i := 320) (by decide +kernel) (by decide +kernel), mw (i := 345) (by decide +kernel) (by decide +kernel), mw (i := 47) (by decide +kernel) (by decide +kernel), mw (i := 346) (by decide +kernel) (by decide +kernel), ⟨by decide, by decide, by decide +kernel⟩⟩
theorem lkSN_RX2_19 : q_LSN RX2 19 yX6_chunkOf "CobbleWorld" cX6_chunkOf 2 (some .int) 2 := ⟨mnw (i := 211) (by decide +kernel) (by decide +kernel), mw (i := 258) (by decide +kernel) (by decide +kernel), mw (i := 47) (by decide +kernel) (by decide +kernel), mw (i := 259) (by decide +kernel) (by decide +kernel), ⟨by decide, by decide, by decide +kernel⟩⟩
theorem lkV_RX2_23 : q_LV RX2 23 RX2 yX2_isAway cX2_isAway 2 (some .boolean) 1 := ⟨mw (i := 260) (by decide +kernel) (by decide +kernel), mw (i := 261) (by decide +kernel) (by decide +kernel), mw (i := 262) (by decide +kernel) (by decide +kernel), mw (i := 48) (by decide +kernel) (by decide +kernel), mw (i := 263) (by decide +kernel) (by decide +kernel), ⟨by decide, by decide, by decide +kernel⟩⟩
theorem lkF_RX2_9 : Cond.fieldLink RX2 9 RX2 (TX2 0).2.1 (TX2 0).2.2.1 ∈ GW := mw (i := 88) (by decide +kernel) (by decide +kernel)
theorem lkSN_RX1_35 : q_LSN RX1 35 yX6_kindOf "CobbleWorld" cX6_kindOf 1 (some .int) 1 := ⟨mnw (i := 515) (by decide +kernel) (by decide +kernel), mw (i := 268) (by decide +kernel) (by decide +kernel), mw (i := 47) (by decide +kernel) (by decide +kernel), mw (i := 269) (by decide +kernel) (by decide +kernel), ⟨by decide, by decide, by decide +kernel⟩⟩
theorem lkV_RX1_22 : q_LV RX1 22 RX2 yX2_stateOfCell cX2_stateOfCell 2 (some .int) 1 := ⟨mw (i := 557) (by decide +kernel) (by decide +kernel), mw (i := 362) (by decide +kernel) (by decide +kernel), mw (i := 363) (by decide +kernel) (by decide +kernel), mw (i := 48) (by decide +kernel) (by decide +kernel), mw (i := 364) (by decide +kernel) (by decide +kernel), ⟨by decide, by decide, by decide +kernel⟩⟩
theorem lkS_RX1_28 : q_LS RX1 28 yX1_canSink cX1_canSink 1 (some .boolean) 1 := ⟨mw (i := 558) (by decide +kernel) (by decide +kernel), mw (i := 559) (by decide +kernel) (by decide +kernel), mw (i := 49) (by decide +kernel) (by decide +kernel), mw (i := 560) (by decide +kernel) (by decide +kernel), ⟨by decide, by decide, by decide +kernel⟩⟩
theorem lkFN_RX1_32 : Cond.fieldLinkNest RX1 32 RX2 (TX2 0).2.1 (TX2 0).2.2.1 "CobbleWorld" ∈ NW := mnw (i := 43) (by decide +kernel) (by decide +kernel)
theorem lkSN_RX2_27 : q_LSN RX2 27 yX6_isInWorld "CobbleWorld" cX6_isInWorld 3 (some .boolean) 3 := ⟨mnw (i := 208) (by decide +kernel) (by decide +kernel), mw (i := 255) (by decide +kernel) (by decide +kernel), mw (i := 47) (by decide +kernel) (by decide +kernel), mw (i := 256) (by decide +kernel) (by decide +kernel), ⟨by decide, by decide, by decide +kernel⟩⟩
theorem lkSN_RX2_31 : q_LSN RX2 31 yX6_indexOf "CobbleWorld" cX6_indexOf 3 (some .int) 3 := ⟨mnw (i := 218) (by decide +kernel) (by decide +kernel), mw (i := 265) (by decide +kernel) (by decide +kernel), mw (i := 47) (by decide +kernel) (by decide +kernel), mw (i := 266) (by decide +kernel) (by decide +kernel), ⟨by decide, by decide, by decide +kernel⟩⟩
theorem lkSN_RX1_83 : q_LSN RX1 83 yX6_isFirm "CobbleWorld" cX6_isFirm 1 (some .boolean) 1 := ⟨mnw (i := 535) (by decide +kernel) (by decide +kernel), mw (i := 582) (by decide +kernel) (by decide +kernel), mw (i := 47) (by decide +kernel) (by decide +kernel), mw (i := 583) (by decide +kernel) (by decide +kernel), ⟨by decide, by decide, by decide +kernel⟩⟩
theorem lkV_RX1_64 : q_LV RX1 64 RX2 yX2_stateAt cX2_stateAt 4 (some .int) 3 := ⟨mw (i := 577) (by decide +kernel) (by decide +kernel), mw (i := 251) (by decide +kernel) (by decide +kernel), mw (i := 252) (by decide +kernel) (by decide +kernel), mw (i := 48) (by decide +kernel) (by decide +kernel), mw (i := 253) (by decide +kernel) (by decide +kernel), ⟨by decide, by decide, by decide +kernel⟩⟩
theorem lkSN_RX1_80 : q_LSN RX1 80 yX6_waterOf "CobbleWorld" cX6_waterOf 1 (some .int) 1 := ⟨mnw (i := 540) (by decide +kernel) (by decide +kernel), mw (i := 587) (by decide +kernel) (by decide +kernel), mw (i := 47) (by decide +kernel) (by decide +kernel), mw (i := 588) (by decide +kernel) (by decide +kernel), ⟨by decide, by decide, by decide +kernel⟩⟩
theorem lkS_RX1_68 : q_LS RX1 68 yX1_bearsWater cX1_bearsWater 1 (some .boolean) 1 := ⟨mw (i := 578) (by decide +kernel) (by decide +kernel), mw (i := 579) (by decide +kernel) (by decide +kernel), mw (i := 49) (by decide +kernel) (by decide +kernel), mw (i := 580) (by decide +kernel) (by decide +kernel), ⟨by decide, by decide, by decide +kernel⟩⟩
theorem lkSN_RX1_71 : q_LSN RX1 71 yX6_levelOf "CobbleWorld" cX6_levelOf 1 (some .int) 1 := ⟨mnw (i := 538) (by decide +kernel) (by decide +kernel), mw (i := 416) (by decide +kernel) (by decide +kernel), mw (i := 47) (by decide +kernel) (by decide +kernel), mw (i := 417) (by decide +kernel) (by decide +kernel), ⟨by decide, by decide, by decide +kernel⟩⟩
theorem lkmax_RX1_74 : q_max RX1 74 := ⟨mw (i := 585) (by decide +kernel) (by decide +kernel), mw (i := 351) (by decide +kernel) (by decide +kernel), mw (i := 61) (by decide +kernel) (by decide +kernel), mw (i := 352) (by decide +kernel) (by decide +kernel)⟩
theorem lkFN_RX1_58 : Cond.fieldLinkNest RX1 58 "CobbleWorld" "STEP_X" "[I" "CobbleWorld" ∈ NW := mnw (i := 529) (by decide +kernel) (by decide +kernel)
theorem lkFN_RX1_61 : Cond.fieldLinkNest RX1 61 "CobbleWorld" "STEP_Z" "[I" "CobbleWorld" ∈ NW := mnw (i := 530) (by decide +kernel) (by decide +kernel)
def w_X2_stateOfCell_B29 (x1 : Int32) (m_awayChunks : Int32) (m_states : Nat → Int32) (Q : Int32 → Prop) (s0 : Int32) : Prop := Q s0
def w_X2_stateOfCell (x1 : Int32) (m_awayChunks : Int32) (m_states : Nat → Int32) (Q : Int32 → Prop) : Prop := w_X6_xOf x1 (fun r1 => w_X6_zOf x1 (fun r2 => w_X6_chunkOf r1 r2 (fun r3 => w_X2_isAway r3 m_awayChunks (fun r4 => ((r4 = 0 → (vp_in x1 3072 ∧ (w_X2_stateOfCell_B29 x1 m_awayChunks m_states Q (m_states x1.toNatClampNeg)))) ∧ (¬ r4 = 0 → (w_X2_stateOfCell_B29 x1 m_awayChunks m_states Q 7)))))))
set_option maxHeartbeats 4000000 in
set_option maxRecDepth 100000 in
theorem c_X2_stateOfCell {γ : q_G} (a_self a_states : Nat) (x1 : Int32) (m_awayChunks : Int32) (m_states : Nat → Int32) {Q : Int32 → Prop} (h : w_X2_stateOfCell x1 m_awayChunks m_states Q) : ctR γ yX2_stateOfCell cX2_stateOfCell 2 (some .int) ({ frames := 2, cells := 0, slots := 0, locals := 120 }) [.ref a_self, .int x1] [(a_self, .inr (2, [.ref a_states, .int m_awayChunks])), (a_states, .inl (γ.2.2.1.1, 3072, .inl m_states))] (fun r w1 => ∃ r0 : Int32, r = some (.int r0) ∧ w1 = [(a_self, .inr (2, [.ref a_states, .int m_awayChunks])), (a_states, .inl (γ.2.2.1.1, 3072, .inl m_states))] ∧ Q r0) := by
  refine ctR_of (by decide +kernel) (by simp [lg_sl, Value.category]) ?_
  intro g C E hi
  have C : q_C γ g RX2 cX2_stateOfCell ({ frames := 2, cells := 0, slots := 0, locals := 120 }) 2 := C
  show V g 0 [(0, .ref a_self), (1, .int x1)] [] [(a_self, .inr (2, [.ref a_states, .int m_awayChunks])), (a_states, .inl (γ.2.2.1.1, 3072, .inl m_states))] 0 0
  have B29 : ∀ (s0 : Int32), w_X2_stateOfCell_B29 x1 m_awayChunks m_states Q s0 → V g 29 [] [.int s0] [(a_self, .inr (2, [.ref a_states, .int m_awayChunks])), (a_states, .inl (γ.2.2.1.1, 3072, .inl m_states))] 0 0 := by
    intro s0 h
    unfold w_X2_stateOfCell_B29 at h
    exact v_iret C E (Nat.le_of_ble_eq_true rfl) (Nat.le_of_ble_eq_true rfl) ⟨s0, rfl, rfl, h⟩ (by decide +kernel)
  unfold w_X2_stateOfCell at h
  refine v_run C [(.aload_n 0, 1, 0, 0), (.iload_n 1, 1, 0, 0)] (pc' := 2) (lv' := [(0, .ref a_self), (1, .int x1)]) (st' := [.int x1, .ref a_self]) (by decide +kernel) (by rfl) ?_
  refine v_callSN C lkSN_RX2_35 (As := [.int x1]) (rest := [.ref a_self]) (wr := [(a_self, .inr (2, [.ref a_states, .int m_awayChunks])), (a_states, .inl (γ.2.2.1.1, 3072, .inl m_states))]) (c_X6_xOf x1 h) [] [0, 1] rfl rfl (by decide) (by decide) (Nat.le_of_ble_eq_true rfl) (Nat.le_of_ble_eq_true rfl) rfl rfl (Nat.le_of_ble_eq_true rfl) (by decide +kernel) (fun r w1 hq => ?_)
  obtain ⟨r1, rfl, rfl, h⟩ := hq
  refine v_nc [0, 1] [0, 1] (pc' := 5) (lv' := [(0, .ref a_self), (1, .int x1)]) (st' := [.int r1, .ref a_self]) (w' := [(a_self, .inr (2, [.ref a_states, .int m_awayChunks])), (a_states, .inl (γ.2.2.1.1, 3072, .inl m_states))]) (k' := 0) (n' := 0) rfl rfl rfl rfl rfl (Nat.le_of_ble_eq_true rfl) (Nat.le_of_ble_eq_true rfl) ?_
  refine v_run C [(.iload_n 1, 1, 0, 0)] (pc' := 6) (lv' := [(0, .ref a_self), (1, .int x1)]) (st' := [.int x1, .int r1, .ref a_self]) (by decide +kernel) (by rfl) ?_
  refine v_callSN C lkSN_RX2_39 (As := [.int x1]) (rest := [.int r1, .ref a_self]) (wr := [(a_self, .inr (2, [.ref a_states, .int m_awayChunks])), (a_states, .inl (γ.2.2.1.1, 3072, .inl m_states))]) (c_X6_zOf x1 h) [] [0, 1] rfl rfl (by decide) (by decide) (Nat.le_of_ble_eq_true rfl) (Nat.le_of_ble_eq_true rfl) rfl rfl (Nat.le_of_ble_eq_true rfl) (by decide +kernel) (fun r w1 hq => ?_)
  obtain ⟨r2, rfl, rfl, h⟩ := hq
  refine v_nc [0, 1] [0, 1] (pc' := 9) (lv' := [(0, .ref a_self), (1, .int x1)]) (st' := [.int r2, .int r1, .ref a_self]) (w' := [(a_self, .inr (2, [.ref a_states, .int m_awayChunks])), (a_states, .inl (γ.2.2.1.1, 3072, .inl m_states))]) (k' := 0) (n' := 0) rfl rfl rfl rfl rfl (Nat.le_of_ble_eq_true rfl) (Nat.le_of_ble_eq_true rfl) ?_
  refine v_callSN C lkSN_RX2_19 (As := [.int r1, .int r2]) (rest := [.ref a_self]) (wr := [(a_self, .inr (2, [.ref a_states, .int m_awayChunks])), (a_states, .inl (γ.2.2.1.1, 3072, .inl m_states))]) (c_X6_chunkOf r1 r2 h) [] [0, 1] rfl rfl (by decide) (by decide) (Nat.le_of_ble_eq_true rfl) (Nat.le_of_ble_eq_true rfl) rfl rfl (Nat.le_of_ble_eq_true rfl) (by decide +kernel) (fun r w1 hq => ?_)
  obtain ⟨r3, rfl, rfl, h⟩ := hq
  refine v_nc [0, 1] [0, 1] (pc' := 12) (lv' := [(0, .ref a_self), (1, .int x1)]) (st' := [.int r3, .ref a_self]) (w' := [(a_self, .inr (2, [.ref a_states, .int m_awayChunks])), (a_states, .inl (γ.2.2.1.1, 3072, .inl m_states))]) (k' := 0) (n' := 0) rfl rfl rfl rfl rfl (Nat.le_of_ble_eq_true rfl) (Nat.le_of_ble_eq_true rfl) ?_
  refine v_callV C kX2 lkV_RX2_23 0 rfl (As := [.int r3]) (rest := []) (wr := [(a_states, .inl (γ.2.2.1.1, 3072, .inl m_states))]) (c_X2_isAway a_self a_states r3 m_awayChunks h) [0] [1] rfl rfl (by decide) (by decide) (Nat.le_of_ble_eq_true rfl) (Nat.le_of_ble_eq_true rfl) rfl rfl (Nat.le_of_ble_eq_true rfl) (by decide +kernel) (fun r w1 hq => ?_)
  obtain ⟨r4, rfl, rfl, h⟩ := hq
  refine v_nc [0, 1] [1, 0] (pc' := 15) (lv' := [(0, .ref a_self), (1, .int x1)]) (st' := [.int r4]) (w' := [(a_self, .inr (2, [.ref a_states, .int m_awayChunks])), (a_states, .inl (γ.2.2.1.1, 3072, .inl m_states))]) (k' := 0) (n' := 0) rfl rfl rfl rfl rfl (Nat.le_of_ble_eq_true rfl) (Nat.le_of_ble_eq_true rfl) ?_
  refine v_if_eq C (tgt := 23) (off := 8) (by decide +kernel) (fun c => ?_) (fun c => ?_)
  · have h := h.1 c
    refine v_run C [(.aload_n 0, 1, 0, 0)] (pc' := 24) (lv' := [(0, .ref a_self), (1, .int x1)]) (st' := [.ref a_self]) (by decide +kernel) (by rfl) ?_
    refine v_get C kX2 0 0 (idx := 9) lkF_RX2_9 ⟨by decide, rfl⟩ rfl rfl (by decide +kernel) ?_
    refine v_run C [(.iload_n 1, 1, 0, 0)] (pc' := 28) (lv' := [(0, .ref a_self), (1, .int x1)]) (st' := [.int x1, .ref a_states]) (by decide +kernel) (by rfl) ?_
    obtain ⟨hin, h⟩ := h
    refine v_iald C 1 rfl hin (by decide +kernel) ?_
    refine v_nm [] [0, 1] (lv' := []) (w' := [(a_self, .inr (2, [.ref a_states, .int m_awayChunks])), (a_states, .inl (γ.2.2.1.1, 3072, .inl m_states))]) (k' := 0) (n' := 0) rfl rfl rfl (Nat.le_of_ble_eq_true rfl) (Nat.le_of_ble_eq_true rfl) ?_
    exact B29 (m_states x1.toNatClampNeg) h
  · have h := h.2 c
    refine v_run C [(.bipush 7, 2, 7, 0), (.goto 9, 3, 0, 29)] (pc' := 29) (lv' := [(0, .ref a_self), (1, .int x1)]) (st' := [.int 7]) (by decide +kernel) (by rfl) ?_
    refine v_nm [] [0, 1] (lv' := []) (w' := [(a_self, .inr (2, [.ref a_states, .int m_awayChunks])), (a_states, .inl (γ.2.2.1.1, 3072, .inl m_states))]) (k' := 0) (n' := 0) rfl rfl rfl (Nat.le_of_ble_eq_true rfl) (Nat.le_of_ble_eq_true rfl) ?_
    exact B29 7 h
def w_X6_kindOf (x0 : Int32) (Q : Int32 → Prop) : Prop := Q (x0 - x0 / 8 * 8)
set_option maxHeartbeats 4000000 in
set_option maxRecDepth 100000 in
theorem c_X6_kindOf {γ : q_G} (x0 : Int32) {Q : Int32 → Prop} (h : w_X6_kindOf x0  Q) : ctR γ yX6_kindOf cX6_kindOf 1 (some .int) ({ frames := 1, cells := 0, slots := 0, locals := 60 }) [.int x0] [] (fun r w1 => ∃ r0 : Int32, r = some (.int r0) ∧ w1 = [] ∧ Q r0) := by
  refine ctR_of (by decide +kernel) (by simp [lg_sl, Value.category]) ?_
  intro g C E hi
  have C : q_C γ g RX6 cX6_kindOf ({ frames := 1, cells := 0, slots := 0, locals := 60 }) 1 := C
  show V g 0 [(0, .int x0)] [] [] 0 0
  unfold w_X6_kindOf at h
  refine v_run C [(.iload_n 0, 1, 0, 0), (.bipush 8, 2, 8, 0)] (pc' := 3) (lv' := [(0, .int x0)]) (st' := [.int 8, .int x0]) (by decide +kernel) (by rfl) ?_
  refine v_irem C (by decide) (by decide +kernel) ?_
  exact v_iret C E (Nat.le_of_ble_eq_true rfl) (Nat.le_of_ble_eq_true rfl) ⟨x0 - x0 / 8 * 8, rfl, rfl, h⟩ (by decide +kernel)
def w_X1_canSink_B18 (x0 : Int32) (Q : Int32 → Prop) (s0 : Int32) : Prop := (narrow .boolean (.int s0) = .int s0 ∧ Q s0)
def w_X1_canSink_B13 (x0 : Int32) (Q : Int32 → Prop) : Prop := w_X1_canSink_B18 x0 Q 1
def w_X1_canSink (x0 : Int32) (Q : Int32 → Prop) : Prop := ((x0 = 0 → (w_X1_canSink_B13 x0 Q )) ∧ (¬ x0 = 0 → (w_X6_kindOf x0 (fun r1 => ((¬ r1 = 6 → (w_X1_canSink_B18 x0 Q 0)) ∧ (r1 = 6 → (w_X1_canSink_B13 x0 Q )))))))
set_option maxHeartbeats 4000000 in
set_option maxRecDepth 100000 in
theorem c_X1_canSink {γ : q_G} (x0 : Int32) {Q : Int32 → Prop} (h : w_X1_canSink x0  Q) : ctR γ yX1_canSink cX1_canSink 1 (some .boolean) ({ frames := 2, cells := 0, slots := 0, locals := 120 }) [.int x0] [] (fun r w1 => ∃ r0 : Int32, r = some (.int r0) ∧ w1 = [] ∧ Q r0) := by
  refine ctR_of (by decide +kernel) (by simp [lg_sl, Value.category]) ?_
  intro g C E hi
  have C : q_C γ g RX1 cX1_canSink ({ frames := 2, cells := 0, slots := 0, locals := 120 }) 1 := C
  show V g 0 [(0, .int x0)] [] [] 0 0
  have B18 : ∀ (s0 : Int32), w_X1_canSink_B18 x0 Q s0 → V g 18 [] [.int s0] [] 0 0 := by
    intro s0 h
    unfold w_X1_canSink_B18 at h
    obtain ⟨hz, h⟩ := h
    exact v_zret C E hz (Nat.le_of_ble_eq_true rfl) (Nat.le_of_ble_eq_true rfl) ⟨s0, rfl, rfl, h⟩ (by decide +kernel)
  have B13 : w_X1_canSink_B13 x0 Q  → V g 13 [] [] [] 0 0 := by
    intro h
    unfold w_X1_canSink_B13 at h
    refine v_run C [(.iconst 1, 1, 1, 0), (.goto 4, 3, 0, 18)] (pc' := 18) (lv' := []) (st' := [.int 1]) (by decide +kernel) (by rfl) ?_
    exact B18 1 h
  unfold w_X1_canSink at h
  refine v_run C [(.iload_n 0, 1, 0, 0)] (pc' := 1) (lv' := [(0, .int x0)]) (st' := [.int x0]) (by decide +kernel) (by rfl) ?_
  refine v_if_eq C (tgt := 13) (off := 12) (by decide +kernel) (fun c => ?_) (fun c => ?_)
  · have h := h.1 c
    refine v_nm [] [] (lv' := []) (w' := []) (k' := 0) (n' := 0) rfl rfl rfl (Nat.le_of_ble_eq_true rfl) (Nat.le_of_ble_eq_true rfl) ?_
    exact B13  h
  · have h := h.2 c
    refine v_run C [(.iload_n 0, 1, 0, 0)] (pc' := 5) (lv' := [(0, .int x0)]) (st' := [.int x0]) (by decide +kernel) (by rfl) ?_
    refine v_callSN C lkSN_RX1_35 (As := [.int x0]) (rest := []) (wr := []) (c_X6_kindOf x0 h) [] [] rfl rfl (by decide) (by decide) (Nat.le_of_ble_eq_true rfl) (Nat.le_of_ble_eq_true rfl) rfl rfl (Nat.le_of_ble_eq_true rfl) (by decide +kernel) (fun r w1 hq => ?_)
    obtain ⟨r1, rfl, rfl, h⟩ := hq
    refine v_nc [0] [] (pc' := 8) (lv' := [(0, .int x0)]) (st' := [.int r1]) (w' := []) (k' := 0) (n' := 0) rfl rfl rfl rfl rfl (Nat.le_of_ble_eq_true rfl) (Nat.le_of_ble_eq_true rfl) ?_
    refine v_run C [(.bipush 6, 2, 6, 0)] (pc' := 10) (lv' := [(0, .int x0)]) (st' := [.int 6, .int r1]) (by decide +kernel) (by rfl) ?_
    refine v_icmp_ne C (tgt := 17) (off := 7) (by decide +kernel) (fun c => ?_) (fun c => ?_)
    · have h := h.1 c
      refine v_run C [(.iconst 0, 1, 0, 0)] (pc' := 18) (lv' := [(0, .int x0)]) (st' := [.int 0]) (by decide +kernel) (by rfl) ?_
      refine v_nm [] [] (lv' := []) (w' := []) (k' := 0) (n' := 0) rfl rfl rfl (Nat.le_of_ble_eq_true rfl) (Nat.le_of_ble_eq_true rfl) ?_
      exact B18 0 h
    · have h := h.2 c
      refine v_nm [] [] (lv' := []) (w' := []) (k' := 0) (n' := 0) rfl rfl rfl (Nat.le_of_ble_eq_true rfl) (Nat.le_of_ble_eq_true rfl) ?_
      exact B13  h
def w_X1_dropSand_B61 (m_awayChunks : Int32) (Q : Int32 → (Nat → Int32) → Prop) (v1 : Int32) (m_states : Nat → Int32) : Prop := (narrow .boolean (.int v1) = .int v1 ∧ Q v1 m_states)
def w_X1_dropSand_B55 (m_awayChunks : Int32) (Q : Int32 → (Nat → Int32) → Prop) (rec6 : Int32 → Int32 → (Nat → Int32) → Prop) (K61 : Int32 → (Nat → Int32) → Prop) (v1 : Int32) (v2 : Int32) (m_states : Nat → Int32) : Prop := rec6 v1 (v2 + 1) m_states
def w_X1_dropSand_L6 (m_awayChunks : Int32) (Q : Int32 → (Nat → Int32) → Prop) (rec6 : Int32 → Int32 → (Nat → Int32) → Prop) (K61 : Int32 → (Nat → Int32) → Prop) (v1 : Int32) (v2 : Int32) (m_states : Nat → Int32) : Prop := ((3072 ≤ v2 → (K61 v1 m_states)) ∧ (¬ 3072 ≤ v2 → (w_X2_stateOfCell v2 m_awayChunks m_states (fun r1 => ((¬ r1 = 4 → (w_X1_dropSand_B55 m_awayChunks Q rec6 K61 v1 v2 m_states)) ∧ (r1 = 4 → (w_X2_stateOfCell (v2 - 256) m_awayChunks m_states (fun r2 => w_X1_canSink r2 (fun r3 => ((r3 = 0 → (w_X1_dropSand_B55 m_awayChunks Q rec6 K61 v1 v2 m_states)) ∧ (¬ r3 = 0 → (vp_in (v2 - 256) 3072 ∧ (vp_in v2 3072 ∧ (w_X1_dropSand_B55 m_awayChunks Q rec6 K61 1 v2 (upd (upd m_states ((v2 - 256).toNatClampNeg) 4) v2.toNatClampNeg 0)))))))))))))))
def w_X1_dropSand (m_awayChunks : Int32) (m_states : Nat → Int32) (Q : Int32 → (Nat → Int32) → Prop) : Prop := ∃ n : Nat, q_loop (fun (rec : (Int32 × Int32 × (Nat → Int32)) → Prop) (a : Int32 × Int32 × (Nat → Int32)) => w_X1_dropSand_L6 m_awayChunks Q (fun v1 v2 m_states => rec (v1, v2, m_states)) (w_X1_dropSand_B61 m_awayChunks Q) a.1 a.2.1 a.2.2) n (0, 256, m_states)
set_option maxHeartbeats 4000000 in
set_option maxRecDepth 100000 in
theorem c_X1_dropSand {γ : q_G} (a_self a_states : Nat) (m_awayChunks : Int32) (m_states : Nat → Int32) {Q : Int32 → (Nat → Int32) → Prop} (h : w_X1_dropSand  m_awayChunks m_states Q) : ctR γ yX1_dropSand cX1_dropSand 4 (some .boolean) ({ frames := 3, cells := 0, slots := 0, locals := 180 }) [.ref a_self] [(a_self, .inr (2, [.ref a_states, .int m_awayChunks])), (a_states, .inl (γ.2.2.1.1, 3072, .inl m_states))] (fun r w1 => ∃ r0 : Int32, ∃ m_states' : Nat → Int32, r = some (.int r0) ∧ w1 = [(a_self, .inr (2, [.ref a_states, .int m_awayChunks])), (a_states, .inl (γ.2.2.1.1, 3072, .inl m_states'))] ∧ Q r0 m_states') := by
  refine ctR_of (by decide +kernel) (by simp [lg_sl, Value.category]) ?_
  intro g C E hi
  have C : q_C γ g RX1 cX1_dropSand ({ frames := 3, cells := 0, slots := 0, locals := 180 }) 4 := C
  show V g 0 [(0, .ref a_self)] [] [(a_self, .inr (2, [.ref a_states, .int m_awayChunks])), (a_states, .inl (γ.2.2.1.1, 3072, .inl m_states))] 0 0
  have B61 : ∀ (v1 : Int32) (m_states : Nat → Int32), w_X1_dropSand_B61 m_awayChunks Q v1 m_states → V g 61 [(1, .int v1)] [] [(a_self, .inr (2, [.ref a_states, .int m_awayChunks])), (a_states, .inl (γ.2.2.1.1, 3072, .inl m_states))] 0 0 := by
    intro v1 m_states h
    unfold w_X1_dropSand_B61 at h
    refine v_run C [(.iload_n 1, 1, 0, 0)] (pc' := 62) (lv' := [(1, .int v1)]) (st' := [.int v1]) (by decide +kernel) (by rfl) ?_
    obtain ⟨hz, h⟩ := h
    exact v_zret C E hz (Nat.le_of_ble_eq_true rfl) (Nat.le_of_ble_eq_true rfl) ⟨v1, m_states, rfl, rfl, h⟩ (by decide +kernel)
  have L6 : ∀ (n : Nat) (v1 : Int32) (v2 : Int32) (m_states : Nat → Int32), q_loop (fun (rec : (Int32 × Int32 × (Nat → Int32)) → Prop) (a : Int32 × Int32 × (Nat → Int32)) => w_X1_dropSand_L6 m_awayChunks Q (fun v1 v2 m_states => rec (v1, v2, m_states)) (w_X1_dropSand_B61 m_awayChunks Q) a.1 a.2.1 a.2.2) n (v1, v2, m_states) → V g 6 [(0, .ref a_self), (1, .int v1), (2, .int v2)] [] [(a_self, .inr (2, [.ref a_states, .int m_awayChunks])), (a_states, .inl (γ.2.2.1.1, 3072, .inl m_states))] 0 0 := by
    intro n
    induction n with
    | zero =>
      intro v1 v2 m_states h
      exact (show False from h).elim
    | succ n6 ih6 =>
      have B55 : ∀ (v1 : Int32) (v2 : Int32) (m_states : Nat → Int32), w_X1_dropSand_B55 m_awayChunks Q (fun v1 v2 m_states => q_loop (fun (rec : (Int32 × Int32 × (Nat → Int32)) → Prop) (a : Int32 × Int32 × (Nat → Int32)) => w_X1_dropSand_L6 m_awayChunks Q (fun v1 v2 m_states => rec (v1, v2, m_states)) (w_X1_dropSand_B61 m_awayChunks Q) a.1 a.2.1 a.2.2) n6 (v1, v2, m_states)) (w_X1_dropSand_B61 m_awayChunks Q) v1 v2 m_states → V g 55 [(0, .ref a_self), (1, .int v1), (2, .int v2)] [] [(a_self, .inr (2, [.ref a_states, .int m_awayChunks])), (a_states, .inl (γ.2.2.1.1, 3072, .inl m_states))] 0 0 := by
        intro v1 v2 m_states h
        unfold w_X1_dropSand_B55 at h
        refine v_run C [(.iinc 2 1, 3, 1, 0), (.goto (-52), 3, 0, 6)] (pc' := 6) (lv' := [(2, .int (v2 + 1)), (0, .ref a_self), (1, .int v1)]) (st' := []) (by decide +kernel) (by rfl) ?_
        refine v_nm [1, 2, 0] [0, 1] (lv' := [(0, .ref a_self), (1, .int v1), (2, .int (v2 + 1))]) (w' := [(a_self, .inr (2, [.ref a_states, .int m_awayChunks])), (a_states, .inl (γ.2.2.1.1, 3072, .inl m_states))]) (k' := 0) (n' := 0) rfl rfl rfl (Nat.le_of_ble_eq_true rfl) (Nat.le_of_ble_eq_true rfl) ?_
        exact ih6 v1 (v2 + 1) m_states h
      intro v1 v2 m_states h
      have h : w_X1_dropSand_L6 m_awayChunks Q (fun v1 v2 m_states => q_loop (fun (rec : (Int32 × Int32 × (Nat → Int32)) → Prop) (a : Int32 × Int32 × (Nat → Int32)) => w_X1_dropSand_L6 m_awayChunks Q (fun v1 v2 m_states => rec (v1, v2, m_states)) (w_X1_dropSand_B61 m_awayChunks Q) a.1 a.2.1 a.2.2) n6 (v1, v2, m_states)) (w_X1_dropSand_B61 m_awayChunks Q) v1 v2 m_states := h
      unfold w_X1_dropSand_L6 at h
      refine v_run C [(.iload_n 2, 1, 0, 0), (.sipush 3072, 3, 3072, 0)] (pc' := 10) (lv' := [(0, .ref a_self), (1, .int v1), (2, .int v2)]) (st' := [.int 3072, .int v2]) (by decide +kernel) (by rfl) ?_
      refine v_icmp_ge C (tgt := 61) (off := 51) (by decide +kernel) (fun c => ?_) (fun c => ?_)
      · have h := h.1 c
        refine v_nm [1] [0, 1] (lv' := [(1, .int v1)]) (w' := [(a_self, .inr (2, [.ref a_states, .int m_awayChunks])), (a_states, .inl (γ.2.2.1.1, 3072, .inl m_states))]) (k' := 0) (n' := 0) rfl rfl rfl (Nat.le_of_ble_eq_true rfl) (Nat.le_of_ble_eq_true rfl) ?_
        exact B61 v1 m_states h
      · have h := h.2 c
        refine v_run C [(.iload_n 2, 1, 0, 0), (.sipush 256, 3, 256, 0), (.isub, 1, 0, 0), (.istore_n 3, 1, 0, 0), (.aload_n 0, 1, 0, 0), (.iload_n 2, 1, 0, 0)] (pc' := 21) (lv' := [(3, .int (v2 - 256)), (0, .ref a_self), (1, .int v1), (2, .int v2)]) (st' := [.int v2, .ref a_self]) (by decide +kernel) (by rfl) ?_
        refine v_callV C kX2 lkV_RX1_22 0 rfl (As := [.int v2]) (rest := []) (wr := []) (c_X2_stateOfCell a_self a_states v2 m_awayChunks m_states h) [0, 1] [] rfl rfl (by decide) (by decide) (Nat.le_of_ble_eq_true rfl) (Nat.le_of_ble_eq_true rfl) rfl rfl (Nat.le_of_ble_eq_true rfl) (by decide +kernel) (fun r w1 hq => ?_)
        obtain ⟨r1, rfl, rfl, h⟩ := hq
        refine v_nc [0, 1, 2, 3] [0, 1] (pc' := 24) (lv' := [(3, .int (v2 - 256)), (0, .ref a_self), (1, .int v1), (2, .int v2)]) (st' := [.int r1]) (w' := [(a_self, .inr (2, [.ref a_states, .int m_awayChunks])), (a_states, .inl (γ.2.2.1.1, 3072, .inl m_states))]) (k' := 0) (n' := 0) rfl rfl rfl rfl rfl (Nat.le_of_ble_eq_true rfl) (Nat.le_of_ble_eq_true rfl) ?_
        refine v_run C [(.iconst 4, 1, 4, 0)] (pc' := 25) (lv' := [(3, .int (v2 - 256)), (0, .ref a_self), (1, .int v1), (2, .int v2)]) (st' := [.int 4, .int r1]) (by decide +kernel) (by rfl) ?_
        refine v_icmp_ne C (tgt := 55) (off := 30) (by decide +kernel) (fun c => ?_) (fun c => ?_)
        · have h := h.1 c
          refine v_nm [1, 2, 3] [0, 1] (lv' := [(0, .ref a_self), (1, .int v1), (2, .int v2)]) (w' := [(a_self, .inr (2, [.ref a_states, .int m_awayChunks])), (a_states, .inl (γ.2.2.1.1, 3072, .inl m_states))]) (k' := 0) (n' := 0) rfl rfl rfl (Nat.le_of_ble_eq_true rfl) (Nat.le_of_ble_eq_true rfl) ?_
          exact B55 v1 v2 m_states h
        · have h := h.2 c
          refine v_run C [(.aload_n 0, 1, 0, 0), (.iload_n 3, 1, 0, 0)] (pc' := 30) (lv' := [(3, .int (v2 - 256)), (0, .ref a_self), (1, .int v1), (2, .int v2)]) (st' := [.int (v2 - 256), .ref a_self]) (by decide +kernel) (by rfl) ?_
          refine v_callV C kX2 lkV_RX1_22 0 rfl (As := [.int (v2 - 256)]) (rest := []) (wr := []) (c_X2_stateOfCell a_self a_states (v2 - 256) m_awayChunks m_states h) [0, 1] [] rfl rfl (by decide) (by decide) (Nat.le_of_ble_eq_true rfl) (Nat.le_of_ble_eq_true rfl) rfl rfl (Nat.le_of_ble_eq_true rfl) (by decide +kernel) (fun r w1 hq => ?_)
          obtain ⟨r2, rfl, rfl, h⟩ := hq
          refine v_nc [0, 1, 2, 3] [0, 1] (pc' := 33) (lv' := [(3, .int (v2 - 256)), (0, .ref a_self), (1, .int v1), (2, .int v2)]) (st' := [.int r2]) (w' := [(a_self, .inr (2, [.ref a_states, .int m_awayChunks])), (a_states, .inl (γ.2.2.1.1, 3072, .inl m_states))]) (k' := 0) (n' := 0) rfl rfl rfl rfl rfl (Nat.le_of_ble_eq_true rfl) (Nat.le_of_ble_eq_true rfl) ?_
          refine v_callS C lkS_RX1_28 (As := [.int r2]) (rest := []) (wr := [(a_self, .inr (2, [.ref a_states, .int m_awayChunks])), (a_states, .inl (γ.2.2.1.1, 3072, .inl m_states))]) (c_X1_canSink r2 h) [] [0, 1] rfl rfl (by decide) (by decide) (Nat.le_of_ble_eq_true rfl) (Nat.le_of_ble_eq_true rfl) rfl rfl (Nat.le_of_ble_eq_true rfl) (by decide +kernel) (fun r w1 hq => ?_)
          obtain ⟨r3, rfl, rfl, h⟩ := hq
          refine v_nc [0, 1, 2, 3] [0, 1] (pc' := 36) (lv' := [(3, .int (v2 - 256)), (0, .ref a_self), (1, .int v1), (2, .int v2)]) (st' := [.int r3]) (w' := [(a_self, .inr (2, [.ref a_states, .int m_awayChunks])), (a_states, .inl (γ.2.2.1.1, 3072, .inl m_states))]) (k' := 0) (n' := 0) rfl rfl rfl rfl rfl (Nat.le_of_ble_eq_true rfl) (Nat.le_of_ble_eq_true rfl) ?_
          refine v_if_eq C (tgt := 55) (off := 19) (by decide +kernel) (fun c => ?_) (fun c => ?_)
          · have h := h.1 c
            refine v_nm [1, 2, 3] [0, 1] (lv' := [(0, .ref a_self), (1, .int v1), (2, .int v2)]) (w' := [(a_self, .inr (2, [.ref a_states, .int m_awayChunks])), (a_states, .inl (γ.2.2.1.1, 3072, .inl m_states))]) (k' := 0) (n' := 0) rfl rfl rfl (Nat.le_of_ble_eq_true rfl) (Nat.le_of_ble_eq_true rfl) ?_
            exact B55 v1 v2 m_states h
          · have h := h.2 c
            refine v_run C [(.aload_n 0, 1, 0, 0)] (pc' := 40) (lv' := [(3, .int (v2 - 256)), (0, .ref a_self), (1, .int v1), (2, .int v2)]) (st' := [.ref a_self]) (by decide +kernel) (by rfl) ?_
            refine v_getN C kX2 0 0 (idx := 32) lkFN_RX1_32 ⟨by decide, rfl⟩ rfl rfl (by decide +kernel) ?_
            refine v_run C [(.iload_n 3, 1, 0, 0), (.iconst 4, 1, 4, 0)] (pc' := 45) (lv' := [(3, .int (v2 - 256)), (0, .ref a_self), (1, .int v1), (2, .int v2)]) (st' := [.int 4, .int (v2 - 256), .ref a_states]) (by decide +kernel) (by rfl) ?_
            obtain ⟨hin, h⟩ := h
            refine v_iast C 1 rfl hin (w' := [(a_self, .inr (2, [.ref a_states, .int m_awayChunks])), (a_states, .inl (γ.2.2.1.1, 3072, .inl (upd m_states ((v2 - 256).toNatClampNeg) 4)))]) rfl (by decide +kernel) ?_
            refine v_run C [(.aload_n 0, 1, 0, 0)] (pc' := 47) (lv' := [(3, .int (v2 - 256)), (0, .ref a_self), (1, .int v1), (2, .int v2)]) (st' := [.ref a_self]) (by decide +kernel) (by rfl) ?_
            refine v_getN C kX2 0 0 (idx := 32) lkFN_RX1_32 ⟨by decide, rfl⟩ rfl rfl (by decide +kernel) ?_
            refine v_run C [(.iload_n 2, 1, 0, 0), (.iconst 0, 1, 0, 0)] (pc' := 52) (lv' := [(3, .int (v2 - 256)), (0, .ref a_self), (1, .int v1), (2, .int v2)]) (st' := [.int 0, .int v2, .ref a_states]) (by decide +kernel) (by rfl) ?_
            obtain ⟨hin, h⟩ := h
            refine v_iast C 1 rfl hin (w' := [(a_self, .inr (2, [.ref a_states, .int m_awayChunks])), (a_states, .inl (γ.2.2.1.1, 3072, .inl (upd (upd m_states ((v2 - 256).toNatClampNeg) 4) v2.toNatClampNeg 0)))]) rfl (by decide +kernel) ?_
            refine v_run C [(.iconst 1, 1, 1, 0), (.istore_n 1, 1, 0, 0)] (pc' := 55) (lv' := [(1, .int 1), (3, .int (v2 - 256)), (0, .ref a_self), (2, .int v2)]) (st' := []) (by decide +kernel) (by rfl) ?_
            refine v_nm [2, 0, 3] [0, 1] (lv' := [(0, .ref a_self), (1, .int 1), (2, .int v2)]) (w' := [(a_self, .inr (2, [.ref a_states, .int m_awayChunks])), (a_states, .inl (γ.2.2.1.1, 3072, .inl (upd (upd m_states ((v2 - 256).toNatClampNeg) 4) v2.toNatClampNeg 0)))]) (k' := 0) (n' := 0) rfl rfl rfl (Nat.le_of_ble_eq_true rfl) (Nat.le_of_ble_eq_true rfl) ?_
            exact B55 1 v2 (upd (upd m_states ((v2 - 256).toNatClampNeg) 4) v2.toNatClampNeg 0) h
  unfold w_X1_dropSand at h
  refine v_run C [(.iconst 0, 1, 0, 0), (.istore_n 1, 1, 0, 0), (.sipush 256, 3, 256, 0), (.istore_n 2, 1, 0, 0)] (pc' := 6) (lv' := [(2, .int 256), (1, .int 0), (0, .ref a_self)]) (st' := []) (by decide +kernel) (by rfl) ?_
  refine v_nm [2, 1, 0] [0, 1] (lv' := [(0, .ref a_self), (1, .int 0), (2, .int 256)]) (w' := [(a_self, .inr (2, [.ref a_states, .int m_awayChunks])), (a_states, .inl (γ.2.2.1.1, 3072, .inl m_states))]) (k' := 0) (n' := 0) rfl rfl rfl (Nat.le_of_ble_eq_true rfl) (Nat.le_of_ble_eq_true rfl) ?_
  obtain ⟨n, h⟩ := h
  exact L6 n 0 256 m_states h
def w_X1_canFlow_B24 (x0 : Int32) (Q : Int32 → Prop) (s0 : Int32) : Prop := (narrow .boolean (.int s0) = .int s0 ∧ Q s0)
def w_X1_canFlow_B19 (x0 : Int32) (Q : Int32 → Prop) : Prop := w_X1_canFlow_B24 x0 Q 1
def w_X1_canFlow_B23 (x0 : Int32) (Q : Int32 → Prop) : Prop := w_X1_canFlow_B24 x0 Q 0
def w_X1_canFlow (x0 : Int32) (Q : Int32 → Prop) : Prop := ((x0 = 0 → (w_X1_canFlow_B19 x0 Q )) ∧ (¬ x0 = 0 → (w_X6_kindOf x0 (fun r1 => ((¬ r1 = 6 → (w_X1_canFlow_B23 x0 Q )) ∧ (r1 = 6 → ((x0 = 70 → (w_X1_canFlow_B23 x0 Q )) ∧ (¬ x0 = 70 → (w_X1_canFlow_B19 x0 Q )))))))))
set_option maxHeartbeats 4000000 in
set_option maxRecDepth 100000 in
theorem c_X1_canFlow {γ : q_G} (x0 : Int32) {Q : Int32 → Prop} (h : w_X1_canFlow x0  Q) : ctR γ yX1_canFlow cX1_canFlow 1 (some .boolean) ({ frames := 2, cells := 0, slots := 0, locals := 120 }) [.int x0] [] (fun r w1 => ∃ r0 : Int32, r = some (.int r0) ∧ w1 = [] ∧ Q r0) := by
  refine ctR_of (by decide +kernel) (by simp [lg_sl, Value.category]) ?_
  intro g C E hi
  have C : q_C γ g RX1 cX1_canFlow ({ frames := 2, cells := 0, slots := 0, locals := 120 }) 1 := C
  show V g 0 [(0, .int x0)] [] [] 0 0
  have B24 : ∀ (s0 : Int32), w_X1_canFlow_B24 x0 Q s0 → V g 24 [] [.int s0] [] 0 0 := by
    intro s0 h
    unfold w_X1_canFlow_B24 at h
    obtain ⟨hz, h⟩ := h
    exact v_zret C E hz (Nat.le_of_ble_eq_true rfl) (Nat.le_of_ble_eq_true rfl) ⟨s0, rfl, rfl, h⟩ (by decide +kernel)
  have B19 : w_X1_canFlow_B19 x0 Q  → V g 19 [] [] [] 0 0 := by
    intro h
    unfold w_X1_canFlow_B19 at h
    refine v_run C [(.iconst 1, 1, 1, 0), (.goto 4, 3, 0, 24)] (pc' := 24) (lv' := []) (st' := [.int 1]) (by decide +kernel) (by rfl) ?_
    exact B24 1 h
  have B23 : w_X1_canFlow_B23 x0 Q  → V g 23 [] [] [] 0 0 := by
    intro h
    unfold w_X1_canFlow_B23 at h
    refine v_run C [(.iconst 0, 1, 0, 0)] (pc' := 24) (lv' := []) (st' := [.int 0]) (by decide +kernel) (by rfl) ?_
    exact B24 0 h
  unfold w_X1_canFlow at h
  refine v_run C [(.iload_n 0, 1, 0, 0)] (pc' := 1) (lv' := [(0, .int x0)]) (st' := [.int x0]) (by decide +kernel) (by rfl) ?_
  refine v_if_eq C (tgt := 19) (off := 18) (by decide +kernel) (fun c => ?_) (fun c => ?_)
  · have h := h.1 c
    refine v_nm [] [] (lv' := []) (w' := []) (k' := 0) (n' := 0) rfl rfl rfl (Nat.le_of_ble_eq_true rfl) (Nat.le_of_ble_eq_true rfl) ?_
    exact B19  h
  · have h := h.2 c
    refine v_run C [(.iload_n 0, 1, 0, 0)] (pc' := 5) (lv' := [(0, .int x0)]) (st' := [.int x0]) (by decide +kernel) (by rfl) ?_
    refine v_callSN C lkSN_RX1_35 (As := [.int x0]) (rest := []) (wr := []) (c_X6_kindOf x0 h) [] [] rfl rfl (by decide) (by decide) (Nat.le_of_ble_eq_true rfl) (Nat.le_of_ble_eq_true rfl) rfl rfl (Nat.le_of_ble_eq_true rfl) (by decide +kernel) (fun r w1 hq => ?_)
    obtain ⟨r1, rfl, rfl, h⟩ := hq
    refine v_nc [0] [] (pc' := 8) (lv' := [(0, .int x0)]) (st' := [.int r1]) (w' := []) (k' := 0) (n' := 0) rfl rfl rfl rfl rfl (Nat.le_of_ble_eq_true rfl) (Nat.le_of_ble_eq_true rfl) ?_
    refine v_run C [(.bipush 6, 2, 6, 0)] (pc' := 10) (lv' := [(0, .int x0)]) (st' := [.int 6, .int r1]) (by decide +kernel) (by rfl) ?_
    refine v_icmp_ne C (tgt := 23) (off := 13) (by decide +kernel) (fun c => ?_) (fun c => ?_)
    · have h := h.1 c
      refine v_nm [] [] (lv' := []) (w' := []) (k' := 0) (n' := 0) rfl rfl rfl (Nat.le_of_ble_eq_true rfl) (Nat.le_of_ble_eq_true rfl) ?_
      exact B23  h
    · have h := h.2 c
      refine v_run C [(.iload_n 0, 1, 0, 0), (.bipush 70, 2, 70, 0)] (pc' := 16) (lv' := [(0, .int x0)]) (st' := [.int 70, .int x0]) (by decide +kernel) (by rfl) ?_
      refine v_icmp_eq C (tgt := 23) (off := 7) (by decide +kernel) (fun c => ?_) (fun c => ?_)
      · have h := h.1 c
        refine v_nm [] [] (lv' := []) (w' := []) (k' := 0) (n' := 0) rfl rfl rfl (Nat.le_of_ble_eq_true rfl) (Nat.le_of_ble_eq_true rfl) ?_
        exact B23  h
      · have h := h.2 c
        refine v_nm [] [] (lv' := []) (w' := []) (k' := 0) (n' := 0) rfl rfl rfl (Nat.le_of_ble_eq_true rfl) (Nat.le_of_ble_eq_true rfl) ?_
        exact B19  h
def w_X6_yOf (x0 : Int32) (Q : Int32 → Prop) : Prop := Q (x0 / 256)
set_option maxHeartbeats 4000000 in
set_option maxRecDepth 100000 in
theorem c_X6_yOf {γ : q_G} (x0 : Int32) {Q : Int32 → Prop} (h : w_X6_yOf x0  Q) : ctR γ yX6_yOf cX6_yOf 1 (some .int) ({ frames := 1, cells := 0, slots := 0, locals := 60 }) [.int x0] [] (fun r w1 => ∃ r0 : Int32, r = some (.int r0) ∧ w1 = [] ∧ Q r0) := by
  refine ctR_of (by decide +kernel) (by simp [lg_sl, Value.category]) ?_
  intro g C E hi
  have C : q_C γ g RX6 cX6_yOf ({ frames := 1, cells := 0, slots := 0, locals := 60 }) 1 := C
  show V g 0 [(0, .int x0)] [] [] 0 0
  unfold w_X6_yOf at h
  refine v_run C [(.iload_n 0, 1, 0, 0), (.sipush 256, 3, 256, 0)] (pc' := 4) (lv' := [(0, .int x0)]) (st' := [.int 256, .int x0]) (by decide +kernel) (by rfl) ?_
  refine v_idiv C (by decide) (by decide +kernel) ?_
  exact v_iret C E (Nat.le_of_ble_eq_true rfl) (Nat.le_of_ble_eq_true rfl) ⟨x0 / 256, rfl, rfl, h⟩ (by decide +kernel)
def w_X6_isInWorld_B35 (x0 : Int32) (x1 : Int32) (x2 : Int32) (Q : Int32 → Prop) (s0 : Int32) : Prop := (narrow .boolean (.int s0) = .int s0 ∧ Q s0)
def w_X6_isInWorld_B34 (x0 : Int32) (x1 : Int32) (x2 : Int32) (Q : Int32 → Prop) : Prop := w_X6_isInWorld_B35 x0 x1 x2 Q 0
def w_X6_isInWorld (x0 : Int32) (x1 : Int32) (x2 : Int32) (Q : Int32 → Prop) : Prop := ((x0 < 0 → (w_X6_isInWorld_B34 x0 x1 x2 Q )) ∧ (¬ x0 < 0 → ((16 ≤ x0 → (w_X6_isInWorld_B34 x0 x1 x2 Q )) ∧ (¬ 16 ≤ x0 → ((x1 < 0 → (w_X6_isInWorld_B34 x0 x1 x2 Q )) ∧ (¬ x1 < 0 → ((12 ≤ x1 → (w_X6_isInWorld_B34 x0 x1 x2 Q )) ∧ (¬ 12 ≤ x1 → ((x2 < 0 → (w_X6_isInWorld_B34 x0 x1 x2 Q )) ∧ (¬ x2 < 0 → ((16 ≤ x2 → (w_X6_isInWorld_B34 x0 x1 x2 Q )) ∧ (¬ 16 ≤ x2 → (w_X6_isInWorld_B35 x0 x1 x2 Q 1)))))))))))))
set_option maxHeartbeats 4000000 in
set_option maxRecDepth 100000 in
theorem c_X6_isInWorld {γ : q_G} (x0 : Int32) (x1 : Int32) (x2 : Int32) {Q : Int32 → Prop} (h : w_X6_isInWorld x0 x1 x2  Q) : ctR γ yX6_isInWorld cX6_isInWorld 3 (some .boolean) ({ frames := 1, cells := 0, slots := 0, locals := 60 }) [.int x0, .int x1, .int x2] [] (fun r w1 => ∃ r0 : Int32, r = some (.int r0) ∧ w1 = [] ∧ Q r0) := by
  refine ctR_of (by decide +kernel) (by simp [lg_sl, Value.category]) ?_
  intro g C E hi
  have C : q_C γ g RX6 cX6_isInWorld ({ frames := 1, cells := 0, slots := 0, locals := 60 }) 3 := C
  show V g 0 [(0, .int x0), (1, .int x1), (2, .int x2)] [] [] 0 0
  have B35 : ∀ (s0 : Int32), w_X6_isInWorld_B35 x0 x1 x2 Q s0 → V g 35 [] [.int s0] [] 0 0 := by
    intro s0 h
    unfold w_X6_isInWorld_B35 at h
    obtain ⟨hz, h⟩ := h
    exact v_zret C E hz (Nat.le_of_ble_eq_true rfl) (Nat.le_of_ble_eq_true rfl) ⟨s0, rfl, rfl, h⟩ (by decide +kernel)
  have B34 : w_X6_isInWorld_B34 x0 x1 x2 Q  → V g 34 [] [] [] 0 0 := by
    intro h
    unfold w_X6_isInWorld_B34 at h
    refine v_run C [(.iconst 0, 1, 0, 0)] (pc' := 35) (lv' := []) (st' := [.int 0]) (by decide +kernel) (by rfl) ?_
    exact B35 0 h
  unfold w_X6_isInWorld at h
  refine v_run C [(.iload_n 0, 1, 0, 0)] (pc' := 1) (lv' := [(0, .int x0), (1, .int x1), (2, .int x2)]) (st' := [.int x0]) (by decide +kernel) (by rfl) ?_
  refine v_if_lt C (tgt := 34) (off := 33) (by decide +kernel) (fun c => ?_) (fun c => ?_)
  · have h := h.1 c
    refine v_nm [] [] (lv' := []) (w' := []) (k' := 0) (n' := 0) rfl rfl rfl (Nat.le_of_ble_eq_true rfl) (Nat.le_of_ble_eq_true rfl) ?_
    exact B34  h
  · have h := h.2 c
    refine v_run C [(.iload_n 0, 1, 0, 0), (.bipush 16, 2, 16, 0)] (pc' := 7) (lv' := [(0, .int x0), (1, .int x1), (2, .int x2)]) (st' := [.int 16, .int x0]) (by decide +kernel) (by rfl) ?_
    refine v_icmp_ge C (tgt := 34) (off := 27) (by decide +kernel) (fun c => ?_) (fun c => ?_)
    · have h := h.1 c
      refine v_nm [] [] (lv' := []) (w' := []) (k' := 0) (n' := 0) rfl rfl rfl (Nat.le_of_ble_eq_true rfl) (Nat.le_of_ble_eq_true rfl) ?_
      exact B34  h
    · have h := h.2 c
      refine v_run C [(.iload_n 1, 1, 0, 0)] (pc' := 11) (lv' := [(0, .int x0), (1, .int x1), (2, .int x2)]) (st' := [.int x1]) (by decide +kernel) (by rfl) ?_
      refine v_if_lt C (tgt := 34) (off := 23) (by decide +kernel) (fun c => ?_) (fun c => ?_)
      · have h := h.1 c
        refine v_nm [] [] (lv' := []) (w' := []) (k' := 0) (n' := 0) rfl rfl rfl (Nat.le_of_ble_eq_true rfl) (Nat.le_of_ble_eq_true rfl) ?_
        exact B34  h
      · have h := h.2 c
        refine v_run C [(.iload_n 1, 1, 0, 0), (.bipush 12, 2, 12, 0)] (pc' := 17) (lv' := [(0, .int x0), (1, .int x1), (2, .int x2)]) (st' := [.int 12, .int x1]) (by decide +kernel) (by rfl) ?_
        refine v_icmp_ge C (tgt := 34) (off := 17) (by decide +kernel) (fun c => ?_) (fun c => ?_)
        · have h := h.1 c
          refine v_nm [] [] (lv' := []) (w' := []) (k' := 0) (n' := 0) rfl rfl rfl (Nat.le_of_ble_eq_true rfl) (Nat.le_of_ble_eq_true rfl) ?_
          exact B34  h
        · have h := h.2 c
          refine v_run C [(.iload_n 2, 1, 0, 0)] (pc' := 21) (lv' := [(0, .int x0), (1, .int x1), (2, .int x2)]) (st' := [.int x2]) (by decide +kernel) (by rfl) ?_
          refine v_if_lt C (tgt := 34) (off := 13) (by decide +kernel) (fun c => ?_) (fun c => ?_)
          · have h := h.1 c
            refine v_nm [] [] (lv' := []) (w' := []) (k' := 0) (n' := 0) rfl rfl rfl (Nat.le_of_ble_eq_true rfl) (Nat.le_of_ble_eq_true rfl) ?_
            exact B34  h
          · have h := h.2 c
            refine v_run C [(.iload_n 2, 1, 0, 0), (.bipush 16, 2, 16, 0)] (pc' := 27) (lv' := [(0, .int x0), (1, .int x1), (2, .int x2)]) (st' := [.int 16, .int x2]) (by decide +kernel) (by rfl) ?_
            refine v_icmp_ge C (tgt := 34) (off := 7) (by decide +kernel) (fun c => ?_) (fun c => ?_)
            · have h := h.1 c
              refine v_nm [] [] (lv' := []) (w' := []) (k' := 0) (n' := 0) rfl rfl rfl (Nat.le_of_ble_eq_true rfl) (Nat.le_of_ble_eq_true rfl) ?_
              exact B34  h
            · have h := h.2 c
              refine v_run C [(.iconst 1, 1, 1, 0), (.goto 4, 3, 0, 35)] (pc' := 35) (lv' := [(0, .int x0), (1, .int x1), (2, .int x2)]) (st' := [.int 1]) (by decide +kernel) (by rfl) ?_
              refine v_nm [] [] (lv' := []) (w' := []) (k' := 0) (n' := 0) rfl rfl rfl (Nat.le_of_ble_eq_true rfl) (Nat.le_of_ble_eq_true rfl) ?_
              exact B35 1 h
def w_X6_indexOf (x0 : Int32) (x1 : Int32) (x2 : Int32) (Q : Int32 → Prop) : Prop := Q ((((x1 * 16) + x2) * 16) + x0)
set_option maxHeartbeats 4000000 in
set_option maxRecDepth 100000 in
theorem c_X6_indexOf {γ : q_G} (x0 : Int32) (x1 : Int32) (x2 : Int32) {Q : Int32 → Prop} (h : w_X6_indexOf x0 x1 x2  Q) : ctR γ yX6_indexOf cX6_indexOf 3 (some .int) ({ frames := 1, cells := 0, slots := 0, locals := 60 }) [.int x0, .int x1, .int x2] [] (fun r w1 => ∃ r0 : Int32, r = some (.int r0) ∧ w1 = [] ∧ Q r0) := by
  refine ctR_of (by decide +kernel) (by simp [lg_sl, Value.category]) ?_
  intro g C E hi
  have C : q_C γ g RX6 cX6_indexOf ({ frames := 1, cells := 0, slots := 0, locals := 60 }) 3 := C
  show V g 0 [(0, .int x0), (1, .int x1), (2, .int x2)] [] [] 0 0
  unfold w_X6_indexOf at h
  refine v_run C [(.iload_n 1, 1, 0, 0), (.bipush 16, 2, 16, 0), (.imul, 1, 0, 0), (.iload_n 2, 1, 0, 0), (.iadd, 1, 0, 0), (.bipush 16, 2, 16, 0), (.imul, 1, 0, 0), (.iload_n 0, 1, 0, 0), (.iadd, 1, 0, 0)] (pc' := 11) (lv' := [(0, .int x0), (1, .int x1), (2, .int x2)]) (st' := [.int ((((x1 * 16) + x2) * 16) + x0)]) (by decide +kernel) (by rfl) ?_
  exact v_iret C E (Nat.le_of_ble_eq_true rfl) (Nat.le_of_ble_eq_true rfl) ⟨(((x1 * 16) + x2) * 16) + x0, rfl, rfl, h⟩ (by decide +kernel)
def w_X2_stateAt_B21 (x1 : Int32) (x2 : Int32) (x3 : Int32) (m_awayChunks : Int32) (m_states : Nat → Int32) (Q : Int32 → Prop) : Prop := Q 7
def w_X2_stateAt (x1 : Int32) (x2 : Int32) (x3 : Int32) (m_awayChunks : Int32) (m_states : Nat → Int32) (Q : Int32 → Prop) : Prop := w_X6_isInWorld x1 x2 x3 (fun r1 => ((r1 = 0 → (w_X2_stateAt_B21 x1 x2 x3 m_awayChunks m_states Q )) ∧ (¬ r1 = 0 → (w_X6_chunkOf x1 x3 (fun r2 => w_X2_isAway r2 m_awayChunks (fun r3 => ((r3 = 0 → (w_X6_indexOf x1 x2 x3 (fun r4 => (vp_in r4 3072 ∧ (Q (m_states r4.toNatClampNeg)))))) ∧ (¬ r3 = 0 → (w_X2_stateAt_B21 x1 x2 x3 m_awayChunks m_states Q )))))))))
set_option maxHeartbeats 4000000 in
set_option maxRecDepth 100000 in
theorem c_X2_stateAt {γ : q_G} (a_self a_states : Nat) (x1 : Int32) (x2 : Int32) (x3 : Int32) (m_awayChunks : Int32) (m_states : Nat → Int32) {Q : Int32 → Prop} (h : w_X2_stateAt x1 x2 x3 m_awayChunks m_states Q) : ctR γ yX2_stateAt cX2_stateAt 4 (some .int) ({ frames := 2, cells := 0, slots := 0, locals := 120 }) [.ref a_self, .int x1, .int x2, .int x3] [(a_self, .inr (2, [.ref a_states, .int m_awayChunks])), (a_states, .inl (γ.2.2.1.1, 3072, .inl m_states))] (fun r w1 => ∃ r0 : Int32, r = some (.int r0) ∧ w1 = [(a_self, .inr (2, [.ref a_states, .int m_awayChunks])), (a_states, .inl (γ.2.2.1.1, 3072, .inl m_states))] ∧ Q r0) := by
  refine ctR_of (by decide +kernel) (by simp [lg_sl, Value.category]) ?_
  intro g C E hi
  have C : q_C γ g RX2 cX2_stateAt ({ frames := 2, cells := 0, slots := 0, locals := 120 }) 4 := C
  show V g 0 [(0, .ref a_self), (1, .int x1), (2, .int x2), (3, .int x3)] [] [(a_self, .inr (2, [.ref a_states, .int m_awayChunks])), (a_states, .inl (γ.2.2.1.1, 3072, .inl m_states))] 0 0
  have B21 : w_X2_stateAt_B21 x1 x2 x3 m_awayChunks m_states Q  → V g 21 [] [] [(a_self, .inr (2, [.ref a_states, .int m_awayChunks])), (a_states, .inl (γ.2.2.1.1, 3072, .inl m_states))] 0 0 := by
    intro h
    unfold w_X2_stateAt_B21 at h
    refine v_run C [(.bipush 7, 2, 7, 0)] (pc' := 23) (lv' := []) (st' := [.int 7]) (by decide +kernel) (by rfl) ?_
    exact v_iret C E (Nat.le_of_ble_eq_true rfl) (Nat.le_of_ble_eq_true rfl) ⟨7, rfl, rfl, h⟩ (by decide +kernel)
  unfold w_X2_stateAt at h
  refine v_run C [(.iload_n 1, 1, 0, 0), (.iload_n 2, 1, 0, 0), (.iload_n 3, 1, 0, 0)] (pc' := 3) (lv' := [(0, .ref a_self), (1, .int x1), (2, .int x2), (3, .int x3)]) (st' := [.int x3, .int x2, .int x1]) (by decide +kernel) (by rfl) ?_
  refine v_callSN C lkSN_RX2_27 (As := [.int x1, .int x2, .int x3]) (rest := []) (wr := [(a_self, .inr (2, [.ref a_states, .int m_awayChunks])), (a_states, .inl (γ.2.2.1.1, 3072, .inl m_states))]) (c_X6_isInWorld x1 x2 x3 h) [] [0, 1] rfl rfl (by decide) (by decide) (Nat.le_of_ble_eq_true rfl) (Nat.le_of_ble_eq_true rfl) rfl rfl (Nat.le_of_ble_eq_true rfl) (by decide +kernel) (fun r w1 hq => ?_)
  obtain ⟨r1, rfl, rfl, h⟩ := hq
  refine v_nc [0, 1, 2, 3] [0, 1] (pc' := 6) (lv' := [(0, .ref a_self), (1, .int x1), (2, .int x2), (3, .int x3)]) (st' := [.int r1]) (w' := [(a_self, .inr (2, [.ref a_states, .int m_awayChunks])), (a_states, .inl (γ.2.2.1.1, 3072, .inl m_states))]) (k' := 0) (n' := 0) rfl rfl rfl rfl rfl (Nat.le_of_ble_eq_true rfl) (Nat.le_of_ble_eq_true rfl) ?_
  refine v_if_eq C (tgt := 21) (off := 15) (by decide +kernel) (fun c => ?_) (fun c => ?_)
  · have h := h.1 c
    refine v_nm [] [0, 1] (lv' := []) (w' := [(a_self, .inr (2, [.ref a_states, .int m_awayChunks])), (a_states, .inl (γ.2.2.1.1, 3072, .inl m_states))]) (k' := 0) (n' := 0) rfl rfl rfl (Nat.le_of_ble_eq_true rfl) (Nat.le_of_ble_eq_true rfl) ?_
    exact B21  h
  · have h := h.2 c
    refine v_run C [(.aload_n 0, 1, 0, 0), (.iload_n 1, 1, 0, 0), (.iload_n 3, 1, 0, 0)] (pc' := 12) (lv' := [(0, .ref a_self), (1, .int x1), (2, .int x2), (3, .int x3)]) (st' := [.int x3, .int x1, .ref a_self]) (by decide +kernel) (by rfl) ?_
    refine v_callSN C lkSN_RX2_19 (As := [.int x1, .int x3]) (rest := [.ref a_self]) (wr := [(a_self, .inr (2, [.ref a_states, .int m_awayChunks])), (a_states, .inl (γ.2.2.1.1, 3072, .inl m_states))]) (c_X6_chunkOf x1 x3 h) [] [0, 1] rfl rfl (by decide) (by decide) (Nat.le_of_ble_eq_true rfl) (Nat.le_of_ble_eq_true rfl) rfl rfl (Nat.le_of_ble_eq_true rfl) (by decide +kernel) (fun r w1 hq => ?_)
    obtain ⟨r2, rfl, rfl, h⟩ := hq
    refine v_nc [0, 1, 2, 3] [0, 1] (pc' := 15) (lv' := [(0, .ref a_self), (1, .int x1), (2, .int x2), (3, .int x3)]) (st' := [.int r2, .ref a_self]) (w' := [(a_self, .inr (2, [.ref a_states, .int m_awayChunks])), (a_states, .inl (γ.2.2.1.1, 3072, .inl m_states))]) (k' := 0) (n' := 0) rfl rfl rfl rfl rfl (Nat.le_of_ble_eq_true rfl) (Nat.le_of_ble_eq_true rfl) ?_
    refine v_callV C kX2 lkV_RX2_23 0 rfl (As := [.int r2]) (rest := []) (wr := [(a_states, .inl (γ.2.2.1.1, 3072, .inl m_states))]) (c_X2_isAway a_self a_states r2 m_awayChunks h) [0] [1] rfl rfl (by decide) (by decide) (Nat.le_of_ble_eq_true rfl) (Nat.le_of_ble_eq_true rfl) rfl rfl (Nat.le_of_ble_eq_true rfl) (by decide +kernel) (fun r w1 hq => ?_)
    obtain ⟨r3, rfl, rfl, h⟩ := hq
    refine v_nc [0, 1, 2, 3] [1, 0] (pc' := 18) (lv' := [(0, .ref a_self), (1, .int x1), (2, .int x2), (3, .int x3)]) (st' := [.int r3]) (w' := [(a_self, .inr (2, [.ref a_states, .int m_awayChunks])), (a_states, .inl (γ.2.2.1.1, 3072, .inl m_states))]) (k' := 0) (n' := 0) rfl rfl rfl rfl rfl (Nat.le_of_ble_eq_true rfl) (Nat.le_of_ble_eq_true rfl) ?_
    refine v_if_eq C (tgt := 24) (off := 6) (by decide +kernel) (fun c => ?_) (fun c => ?_)
    · have h := h.1 c
      refine v_run C [(.aload_n 0, 1, 0, 0)] (pc' := 25) (lv' := [(0, .ref a_self), (1, .int x1), (2, .int x2), (3, .int x3)]) (st' := [.ref a_self]) (by decide +kernel) (by rfl) ?_
      refine v_get C kX2 0 0 (idx := 9) lkF_RX2_9 ⟨by decide, rfl⟩ rfl rfl (by decide +kernel) ?_
      refine v_run C [(.iload_n 1, 1, 0, 0), (.iload_n 2, 1, 0, 0), (.iload_n 3, 1, 0, 0)] (pc' := 31) (lv' := [(0, .ref a_self), (1, .int x1), (2, .int x2), (3, .int x3)]) (st' := [.int x3, .int x2, .int x1, .ref a_states]) (by decide +kernel) (by rfl) ?_
      refine v_callSN C lkSN_RX2_31 (As := [.int x1, .int x2, .int x3]) (rest := [.ref a_states]) (wr := [(a_self, .inr (2, [.ref a_states, .int m_awayChunks])), (a_states, .inl (γ.2.2.1.1, 3072, .inl m_states))]) (c_X6_indexOf x1 x2 x3 h) [] [0, 1] rfl rfl (by decide) (by decide) (Nat.le_of_ble_eq_true rfl) (Nat.le_of_ble_eq_true rfl) rfl rfl (Nat.le_of_ble_eq_true rfl) (by decide +kernel) (fun r w1 hq => ?_)
      obtain ⟨r4, rfl, rfl, h⟩ := hq
      refine v_nc [0, 1, 2, 3] [0, 1] (pc' := 34) (lv' := [(0, .ref a_self), (1, .int x1), (2, .int x2), (3, .int x3)]) (st' := [.int r4, .ref a_states]) (w' := [(a_self, .inr (2, [.ref a_states, .int m_awayChunks])), (a_states, .inl (γ.2.2.1.1, 3072, .inl m_states))]) (k' := 0) (n' := 0) rfl rfl rfl rfl rfl (Nat.le_of_ble_eq_true rfl) (Nat.le_of_ble_eq_true rfl) ?_
      obtain ⟨hin, h⟩ := h
      refine v_iald C 1 rfl hin (by decide +kernel) ?_
      exact v_iret C E (Nat.le_of_ble_eq_true rfl) (Nat.le_of_ble_eq_true rfl) ⟨m_states r4.toNatClampNeg, rfl, rfl, h⟩ (by decide +kernel)
    · have h := h.2 c
      refine v_nm [] [0, 1] (lv' := []) (w' := [(a_self, .inr (2, [.ref a_states, .int m_awayChunks])), (a_states, .inl (γ.2.2.1.1, 3072, .inl m_states))]) (k' := 0) (n' := 0) rfl rfl rfl (Nat.le_of_ble_eq_true rfl) (Nat.le_of_ble_eq_true rfl) ?_
      exact B21  h
def w_X6_isFirm_B15 (x0 : Int32) (Q : Int32 → Prop) (s0 : Int32) : Prop := (narrow .boolean (.int s0) = .int s0 ∧ Q s0)
def w_X6_isFirm_B14 (x0 : Int32) (Q : Int32 → Prop) : Prop := w_X6_isFirm_B15 x0 Q 0
def w_X6_isFirm (x0 : Int32) (Q : Int32 → Prop) : Prop := ((x0 < 1 → (w_X6_isFirm_B14 x0 Q )) ∧ (¬ x0 < 1 → ((5 < x0 → (w_X6_isFirm_B14 x0 Q )) ∧ (¬ 5 < x0 → (w_X6_isFirm_B15 x0 Q 1)))))
set_option maxHeartbeats 4000000 in
set_option maxRecDepth 100000 in
theorem c_X6_isFirm {γ : q_G} (x0 : Int32) {Q : Int32 → Prop} (h : w_X6_isFirm x0  Q) : ctR γ yX6_isFirm cX6_isFirm 1 (some .boolean) ({ frames := 1, cells := 0, slots := 0, locals := 60 }) [.int x0] [] (fun r w1 => ∃ r0 : Int32, r = some (.int r0) ∧ w1 = [] ∧ Q r0) := by
  refine ctR_of (by decide +kernel) (by simp [lg_sl, Value.category]) ?_
  intro g C E hi
  have C : q_C γ g RX6 cX6_isFirm ({ frames := 1, cells := 0, slots := 0, locals := 60 }) 1 := C
  show V g 0 [(0, .int x0)] [] [] 0 0
  have B15 : ∀ (s0 : Int32), w_X6_isFirm_B15 x0 Q s0 → V g 15 [] [.int s0] [] 0 0 := by
    intro s0 h
    unfold w_X6_isFirm_B15 at h
    obtain ⟨hz, h⟩ := h
    exact v_zret C E hz (Nat.le_of_ble_eq_true rfl) (Nat.le_of_ble_eq_true rfl) ⟨s0, rfl, rfl, h⟩ (by decide +kernel)
  have B14 : w_X6_isFirm_B14 x0 Q  → V g 14 [] [] [] 0 0 := by
    intro h
    unfold w_X6_isFirm_B14 at h
    refine v_run C [(.iconst 0, 1, 0, 0)] (pc' := 15) (lv' := []) (st' := [.int 0]) (by decide +kernel) (by rfl) ?_
    exact B15 0 h
  unfold w_X6_isFirm at h
  refine v_run C [(.iload_n 0, 1, 0, 0), (.iconst 1, 1, 1, 0)] (pc' := 2) (lv' := [(0, .int x0)]) (st' := [.int 1, .int x0]) (by decide +kernel) (by rfl) ?_
  refine v_icmp_lt C (tgt := 14) (off := 12) (by decide +kernel) (fun c => ?_) (fun c => ?_)
  · have h := h.1 c
    refine v_nm [] [] (lv' := []) (w' := []) (k' := 0) (n' := 0) rfl rfl rfl (Nat.le_of_ble_eq_true rfl) (Nat.le_of_ble_eq_true rfl) ?_
    exact B14  h
  · have h := h.2 c
    refine v_run C [(.iload_n 0, 1, 0, 0), (.iconst 5, 1, 5, 0)] (pc' := 7) (lv' := [(0, .int x0)]) (st' := [.int 5, .int x0]) (by decide +kernel) (by rfl) ?_
    refine v_icmp_gt C (tgt := 14) (off := 7) (by decide +kernel) (fun c => ?_) (fun c => ?_)
    · have h := h.1 c
      refine v_nm [] [] (lv' := []) (w' := []) (k' := 0) (n' := 0) rfl rfl rfl (Nat.le_of_ble_eq_true rfl) (Nat.le_of_ble_eq_true rfl) ?_
      exact B14  h
    · have h := h.2 c
      refine v_run C [(.iconst 1, 1, 1, 0), (.goto 4, 3, 0, 15)] (pc' := 15) (lv' := [(0, .int x0)]) (st' := [.int 1]) (by decide +kernel) (by rfl) ?_
      refine v_nm [] [] (lv' := []) (w' := []) (k' := 0) (n' := 0) rfl rfl rfl (Nat.le_of_ble_eq_true rfl) (Nat.le_of_ble_eq_true rfl) ?_
      exact B15 1 h
def w_X1_bearsWater_B24 (x0 : Int32) (Q : Int32 → Prop) (s0 : Int32) : Prop := (narrow .boolean (.int s0) = .int s0 ∧ Q s0)
def w_X1_bearsWater_B19 (x0 : Int32) (Q : Int32 → Prop) : Prop := w_X1_bearsWater_B24 x0 Q 1
def w_X1_bearsWater (x0 : Int32) (Q : Int32 → Prop) : Prop := w_X6_isFirm x0 (fun r1 => ((¬ r1 = 0 → (w_X1_bearsWater_B19 x0 Q )) ∧ (r1 = 0 → ((x0 = 7 → (w_X1_bearsWater_B19 x0 Q )) ∧ (¬ x0 = 7 → ((¬ x0 = 70 → (w_X1_bearsWater_B24 x0 Q 0)) ∧ (x0 = 70 → (w_X1_bearsWater_B19 x0 Q ))))))))
set_option maxHeartbeats 4000000 in
set_option maxRecDepth 100000 in
theorem c_X1_bearsWater {γ : q_G} (x0 : Int32) {Q : Int32 → Prop} (h : w_X1_bearsWater x0  Q) : ctR γ yX1_bearsWater cX1_bearsWater 1 (some .boolean) ({ frames := 2, cells := 0, slots := 0, locals := 120 }) [.int x0] [] (fun r w1 => ∃ r0 : Int32, r = some (.int r0) ∧ w1 = [] ∧ Q r0) := by
  refine ctR_of (by decide +kernel) (by simp [lg_sl, Value.category]) ?_
  intro g C E hi
  have C : q_C γ g RX1 cX1_bearsWater ({ frames := 2, cells := 0, slots := 0, locals := 120 }) 1 := C
  show V g 0 [(0, .int x0)] [] [] 0 0
  have B24 : ∀ (s0 : Int32), w_X1_bearsWater_B24 x0 Q s0 → V g 24 [] [.int s0] [] 0 0 := by
    intro s0 h
    unfold w_X1_bearsWater_B24 at h
    obtain ⟨hz, h⟩ := h
    exact v_zret C E hz (Nat.le_of_ble_eq_true rfl) (Nat.le_of_ble_eq_true rfl) ⟨s0, rfl, rfl, h⟩ (by decide +kernel)
  have B19 : w_X1_bearsWater_B19 x0 Q  → V g 19 [] [] [] 0 0 := by
    intro h
    unfold w_X1_bearsWater_B19 at h
    refine v_run C [(.iconst 1, 1, 1, 0), (.goto 4, 3, 0, 24)] (pc' := 24) (lv' := []) (st' := [.int 1]) (by decide +kernel) (by rfl) ?_
    exact B24 1 h
  unfold w_X1_bearsWater at h
  refine v_run C [(.iload_n 0, 1, 0, 0)] (pc' := 1) (lv' := [(0, .int x0)]) (st' := [.int x0]) (by decide +kernel) (by rfl) ?_
  refine v_callSN C lkSN_RX1_83 (As := [.int x0]) (rest := []) (wr := []) (c_X6_isFirm x0 h) [] [] rfl rfl (by decide) (by decide) (Nat.le_of_ble_eq_true rfl) (Nat.le_of_ble_eq_true rfl) rfl rfl (Nat.le_of_ble_eq_true rfl) (by decide +kernel) (fun r w1 hq => ?_)
  obtain ⟨r1, rfl, rfl, h⟩ := hq
  refine v_nc [0] [] (pc' := 4) (lv' := [(0, .int x0)]) (st' := [.int r1]) (w' := []) (k' := 0) (n' := 0) rfl rfl rfl rfl rfl (Nat.le_of_ble_eq_true rfl) (Nat.le_of_ble_eq_true rfl) ?_
  refine v_if_ne C (tgt := 19) (off := 15) (by decide +kernel) (fun c => ?_) (fun c => ?_)
  · have h := h.1 c
    refine v_nm [] [] (lv' := []) (w' := []) (k' := 0) (n' := 0) rfl rfl rfl (Nat.le_of_ble_eq_true rfl) (Nat.le_of_ble_eq_true rfl) ?_
    exact B19  h
  · have h := h.2 c
    refine v_run C [(.iload_n 0, 1, 0, 0), (.bipush 7, 2, 7, 0)] (pc' := 10) (lv' := [(0, .int x0)]) (st' := [.int 7, .int x0]) (by decide +kernel) (by rfl) ?_
    refine v_icmp_eq C (tgt := 19) (off := 9) (by decide +kernel) (fun c => ?_) (fun c => ?_)
    · have h := h.1 c
      refine v_nm [] [] (lv' := []) (w' := []) (k' := 0) (n' := 0) rfl rfl rfl (Nat.le_of_ble_eq_true rfl) (Nat.le_of_ble_eq_true rfl) ?_
      exact B19  h
    · have h := h.2 c
      refine v_run C [(.iload_n 0, 1, 0, 0), (.bipush 70, 2, 70, 0)] (pc' := 16) (lv' := [(0, .int x0)]) (st' := [.int 70, .int x0]) (by decide +kernel) (by rfl) ?_
      refine v_icmp_ne C (tgt := 23) (off := 7) (by decide +kernel) (fun c => ?_) (fun c => ?_)
      · have h := h.1 c
        refine v_run C [(.iconst 0, 1, 0, 0)] (pc' := 24) (lv' := [(0, .int x0)]) (st' := [.int 0]) (by decide +kernel) (by rfl) ?_
        refine v_nm [] [] (lv' := []) (w' := []) (k' := 0) (n' := 0) rfl rfl rfl (Nat.le_of_ble_eq_true rfl) (Nat.le_of_ble_eq_true rfl) ?_
        exact B24 0 h
      · have h := h.2 c
        refine v_nm [] [] (lv' := []) (w' := []) (k' := 0) (n' := 0) rfl rfl rfl (Nat.le_of_ble_eq_true rfl) (Nat.le_of_ble_eq_true rfl) ?_
        exact B19  h
def w_X6_levelOf (x0 : Int32) (Q : Int32 → Prop) : Prop := Q (x0 / 8)
set_option maxHeartbeats 4000000 in
set_option maxRecDepth 100000 in
theorem c_X6_levelOf {γ : q_G} (x0 : Int32) {Q : Int32 → Prop} (h : w_X6_levelOf x0  Q) : ctR γ yX6_levelOf cX6_levelOf 1 (some .int) ({ frames := 1, cells := 0, slots := 0, locals := 60 }) [.int x0] [] (fun r w1 => ∃ r0 : Int32, r = some (.int r0) ∧ w1 = [] ∧ Q r0) := by
  refine ctR_of (by decide +kernel) (by simp [lg_sl, Value.category]) ?_
  intro g C E hi
  have C : q_C γ g RX6 cX6_levelOf ({ frames := 1, cells := 0, slots := 0, locals := 60 }) 1 := C
  show V g 0 [(0, .int x0)] [] [] 0 0
  unfold w_X6_levelOf at h
  refine v_run C [(.iload_n 0, 1, 0, 0), (.bipush 8, 2, 8, 0)] (pc' := 3) (lv' := [(0, .int x0)]) (st' := [.int 8, .int x0]) (by decide +kernel) (by rfl) ?_
  refine v_idiv C (by decide) (by decide +kernel) ?_
  exact v_iret C E (Nat.le_of_ble_eq_true rfl) (Nat.le_of_ble_eq_true rfl) ⟨x0 / 8, rfl, rfl, h⟩ (by decide +kernel)
def w_X6_waterOf (x0 : Int32) (Q : Int32 → Prop) : Prop := Q (6 + (8 * x0))
set_option maxHeartbeats 4000000 in
set_option maxRecDepth 100000 in
theorem c_X6_waterOf {γ : q_G} (x0 : Int32) {Q : Int32 → Prop} (h : w_X6_waterOf x0  Q) : ctR γ yX6_waterOf cX6_waterOf 1 (some .int) ({ frames := 1, cells := 0, slots := 0, locals := 60 }) [.int x0] [] (fun r w1 => ∃ r0 : Int32, r = some (.int r0) ∧ w1 = [] ∧ Q r0) := by
  refine ctR_of (by decide +kernel) (by simp [lg_sl, Value.category]) ?_
  intro g C E hi
  have C : q_C γ g RX6 cX6_waterOf ({ frames := 1, cells := 0, slots := 0, locals := 60 }) 1 := C
  show V g 0 [(0, .int x0)] [] [] 0 0
  unfold w_X6_waterOf at h
  refine v_run C [(.bipush 6, 2, 6, 0), (.bipush 8, 2, 8, 0), (.iload_n 0, 1, 0, 0), (.imul, 1, 0, 0), (.iadd, 1, 0, 0)] (pc' := 7) (lv' := [(0, .int x0)]) (st' := [.int (6 + (8 * x0))]) (by decide +kernel) (by rfl) ?_
  exact v_iret C E (Nat.le_of_ble_eq_true rfl) (Nat.le_of_ble_eq_true rfl) ⟨6 + (8 * x0), rfl, rfl, h⟩ (by decide +kernel)
def w_X1_flowAt_B168 (x1 : Int32) (x2 : Int32) (x3 : Int32) (m_awayChunks : Int32) (m_states : Nat → Int32) (Q : Int32 → Prop) (s0 : Int32) : Prop := Q s0
def w_X1_flowAt_B128 (x1 : Int32) (x2 : Int32) (x3 : Int32) (m_awayChunks : Int32) (m_states : Nat → Int32) (Q : Int32 → Prop) (v5 : Int32) : Prop := w_X2_stateAt x1 (x2 + 1) x3 m_awayChunks m_states (fun r1 => w_X6_kindOf r1 (fun r2 => ((¬ r2 = 6 → ((v5 ≤ 1 → (w_X1_flowAt_B168 x1 x2 x3 m_awayChunks m_states Q 0)) ∧ (¬ v5 ≤ 1 → (w_X6_waterOf (v5 - 1) (fun r3 => w_X1_flowAt_B168 x1 x2 x3 m_awayChunks m_states Q r3))))) ∧ (r2 = 6 → (w_X6_waterOf 7 (fun r4 => Q r4))))))
def w_X1_flowAt_B104 (x1 : Int32) (x2 : Int32) (x3 : Int32) (m_awayChunks : Int32) (m_states : Nat → Int32) (Q : Int32 → Prop) (v4 : Int32) (v5 : Int32) : Prop := ((v4 < 2 → (w_X1_flowAt_B128 x1 x2 x3 m_awayChunks m_states Q v5)) ∧ (¬ v4 < 2 → (w_X2_stateAt x1 (x2 - 1) x3 m_awayChunks m_states (fun r5 => w_X1_bearsWater r5 (fun r6 => ((r6 = 0 → (w_X1_flowAt_B128 x1 x2 x3 m_awayChunks m_states Q v5)) ∧ (¬ r6 = 0 → (Q 70))))))))
def w_X1_flowAt_B98 (x1 : Int32) (x2 : Int32) (x3 : Int32) (m_awayChunks : Int32) (m_states : Nat → Int32) (Q : Int32 → Prop) (rec9 : Int32 → Int32 → Int32 → Prop) (K104 : Int32 → Int32 → Prop) (v4 : Int32) (v5 : Int32) (v6 : Int32) : Prop := rec9 v4 v5 (v6 + 1)
def w_X1_flowAt_B69 (x1 : Int32) (x2 : Int32) (x3 : Int32) (m_awayChunks : Int32) (m_states : Nat → Int32) (Q : Int32 → Prop) (rec9 : Int32 → Int32 → Int32 → Prop) (K104 : Int32 → Int32 → Prop) (v4 : Int32) (v5 : Int32) (v6 : Int32) (v7 : Int32) (v8 : Int32) (v9 : Int32) : Prop := w_X2_stateAt v7 (x2 - 1) v8 m_awayChunks m_states (fun r7 => w_X1_bearsWater r7 (fun r8 => ((r8 = 0 → (w_X1_flowAt_B98 x1 x2 x3 m_awayChunks m_states Q rec9 K104 v4 v5 v6)) ∧ (¬ r8 = 0 → (w_X6_levelOf v9 (fun r9 => w_X1_flowAt_B98 x1 x2 x3 m_awayChunks m_states Q rec9 K104 v4 (if v5 < r9 then r9 else v5) v6))))))
def w_X1_flowAt_L9 (x1 : Int32) (x2 : Int32) (x3 : Int32) (m_awayChunks : Int32) (m_states : Nat → Int32) (Q : Int32 → Prop) (rec9 : Int32 → Int32 → Int32 → Prop) (K104 : Int32 → Int32 → Prop) (v4 : Int32) (v5 : Int32) (v6 : Int32) : Prop := ((6 ≤ v6 → (K104 v4 v5)) ∧ (¬ 6 ≤ v6 → ((v6 = 2 → (w_X1_flowAt_B98 x1 x2 x3 m_awayChunks m_states Q rec9 K104 v4 v5 v6)) ∧ (¬ v6 = 2 → ((v6 = 3 → (w_X1_flowAt_B98 x1 x2 x3 m_awayChunks m_states Q rec9 K104 v4 v5 v6)) ∧ (¬ v6 = 3 → (vp_in v6 6 ∧ (vp_in v6 6 ∧ (w_X2_stateAt (x1 + (sX v6.toNatClampNeg)) x2 (x3 + (sZ v6.toNatClampNeg)) m_awayChunks m_states (fun r10 => ((¬ r10 = 70 → (w_X1_flowAt_B69 x1 x2 x3 m_awayChunks m_states Q rec9 K104 v4 v5 v6 (x1 + (sX v6.toNatClampNeg)) (x3 + (sZ v6.toNatClampNeg)) r10)) ∧ (r10 = 70 → (w_X1_flowAt_B69 x1 x2 x3 m_awayChunks m_states Q rec9 K104 (v4 + 1) v5 v6 (x1 + (sX v6.toNatClampNeg)) (x3 + (sZ v6.toNatClampNeg)) r10)))))))))))))
def w_X1_flowAt (x1 : Int32) (x2 : Int32) (x3 : Int32) (m_awayChunks : Int32) (m_states : Nat → Int32) (Q : Int32 → Prop) : Prop := ∃ n : Nat, q_loop (fun (rec : (Int32 × Int32 × Int32) → Prop) (a : Int32 × Int32 × Int32) => w_X1_flowAt_L9 x1 x2 x3 m_awayChunks m_states Q (fun v4 v5 v6 => rec (v4, v5, v6)) (w_X1_flowAt_B104 x1 x2 x3 m_awayChunks m_states Q) a.1 a.2.1 a.2.2) n (0, 0, 0)
set_option maxHeartbeats 4000000 in
set_option maxRecDepth 100000 in
theorem c_X1_flowAt {γ : q_G} (a_self a_states : Nat) (x1 : Int32) (x2 : Int32) (x3 : Int32) (m_awayChunks : Int32) (m_states : Nat → Int32) {Q : Int32 → Prop} (h : w_X1_flowAt x1 x2 x3 m_awayChunks m_states Q) : ctR γ yX1_flowAt cX1_flowAt 10 (some .int) ({ frames := 3, cells := 0, slots := 0, locals := 180 }) [.ref a_self, .int x1, .int x2, .int x3] [(a_self, .inr (2, [.ref a_states, .int m_awayChunks])), (a_states, .inl (γ.2.2.1.1, 3072, .inl m_states))] (fun r w1 => ∃ r0 : Int32, r = some (.int r0) ∧ w1 = [(a_self, .inr (2, [.ref a_states, .int m_awayChunks])), (a_states, .inl (γ.2.2.1.1, 3072, .inl m_states))] ∧ Q r0) := by
  refine ctR_of (by decide +kernel) (by simp [lg_sl, Value.category]) ?_
  intro g C E hi
  have C : q_C γ g RX1 cX1_flowAt ({ frames := 3, cells := 0, slots := 0, locals := 180 }) 10 := C
  show V g 0 [(0, .ref a_self), (1, .int x1), (2, .int x2), (3, .int x3)] [] [(a_self, .inr (2, [.ref a_states, .int m_awayChunks])), (a_states, .inl (γ.2.2.1.1, 3072, .inl m_states))] 0 0
  have B168 : ∀ (s0 : Int32), w_X1_flowAt_B168 x1 x2 x3 m_awayChunks m_states Q s0 → V g 168 [] [.int s0] [(a_self, .inr (2, [.ref a_states, .int m_awayChunks])), (a_states, .inl (γ.2.2.1.1, 3072, .inl m_states))] 0 0 := by
    intro s0 h
    unfold w_X1_flowAt_B168 at h
    exact v_iret C E (Nat.le_of_ble_eq_true rfl) (Nat.le_of_ble_eq_true rfl) ⟨s0, rfl, rfl, h⟩ (by decide +kernel)
  have B128 : ∀ (v5 : Int32), w_X1_flowAt_B128 x1 x2 x3 m_awayChunks m_states Q v5 → V g 128 [(0, .ref a_self), (1, .int x1), (2, .int x2), (3, .int x3), (5, .int v5)] [] [(a_self, .inr (2, [.ref a_states, .int m_awayChunks])), (a_states, .inl (γ.2.2.1.1, 3072, .inl m_states))] 0 0 := by
    intro v5 h
    unfold w_X1_flowAt_B128 at h
    refine v_run C [(.aload_n 0, 1, 0, 0), (.iload_n 1, 1, 0, 0), (.iload_n 2, 1, 0, 0), (.iconst 1, 1, 1, 0), (.iadd, 1, 0, 0), (.iload_n 3, 1, 0, 0)] (pc' := 134) (lv' := [(0, .ref a_self), (1, .int x1), (2, .int x2), (3, .int x3), (5, .int v5)]) (st' := [.int x3, .int (x2 + 1), .int x1, .ref a_self]) (by decide +kernel) (by rfl) ?_
    refine v_callV C kX2 lkV_RX1_64 0 rfl (As := [.int x1, .int (x2 + 1), .int x3]) (rest := []) (wr := []) (c_X2_stateAt a_self a_states x1 (x2 + 1) x3 m_awayChunks m_states h) [0, 1] [] rfl rfl (by decide) (by decide) (Nat.le_of_ble_eq_true rfl) (Nat.le_of_ble_eq_true rfl) rfl rfl (Nat.le_of_ble_eq_true rfl) (by decide +kernel) (fun r w1 hq => ?_)
    obtain ⟨r1, rfl, rfl, h⟩ := hq
    refine v_nc [0, 1, 2, 3, 4] [0, 1] (pc' := 137) (lv' := [(0, .ref a_self), (1, .int x1), (2, .int x2), (3, .int x3), (5, .int v5)]) (st' := [.int r1]) (w' := [(a_self, .inr (2, [.ref a_states, .int m_awayChunks])), (a_states, .inl (γ.2.2.1.1, 3072, .inl m_states))]) (k' := 0) (n' := 0) rfl rfl rfl rfl rfl (Nat.le_of_ble_eq_true rfl) (Nat.le_of_ble_eq_true rfl) ?_
    refine v_callSN C lkSN_RX1_35 (As := [.int r1]) (rest := []) (wr := [(a_self, .inr (2, [.ref a_states, .int m_awayChunks])), (a_states, .inl (γ.2.2.1.1, 3072, .inl m_states))]) (c_X6_kindOf r1 h) [] [0, 1] rfl rfl (by decide) (by decide) (Nat.le_of_ble_eq_true rfl) (Nat.le_of_ble_eq_true rfl) rfl rfl (Nat.le_of_ble_eq_true rfl) (by decide +kernel) (fun r w1 hq => ?_)
    obtain ⟨r2, rfl, rfl, h⟩ := hq
    refine v_nc [0, 1, 2, 3, 4] [0, 1] (pc' := 140) (lv' := [(0, .ref a_self), (1, .int x1), (2, .int x2), (3, .int x3), (5, .int v5)]) (st' := [.int r2]) (w' := [(a_self, .inr (2, [.ref a_states, .int m_awayChunks])), (a_states, .inl (γ.2.2.1.1, 3072, .inl m_states))]) (k' := 0) (n' := 0) rfl rfl rfl rfl rfl (Nat.le_of_ble_eq_true rfl) (Nat.le_of_ble_eq_true rfl) ?_
    refine v_run C [(.bipush 6, 2, 6, 0)] (pc' := 142) (lv' := [(0, .ref a_self), (1, .int x1), (2, .int x2), (3, .int x3), (5, .int v5)]) (st' := [.int 6, .int r2]) (by decide +kernel) (by rfl) ?_
    refine v_icmp_ne C (tgt := 151) (off := 9) (by decide +kernel) (fun c => ?_) (fun c => ?_)
    · have h := h.1 c
      refine v_run C [(.iload 5, 2, 0, 0), (.iconst 1, 1, 1, 0)] (pc' := 154) (lv' := [(0, .ref a_self), (1, .int x1), (2, .int x2), (3, .int x3), (5, .int v5)]) (st' := [.int 1, .int v5]) (by decide +kernel) (by rfl) ?_
      refine v_icmp_le C (tgt := 167) (off := 13) (by decide +kernel) (fun c => ?_) (fun c => ?_)
      · have h := h.1 c
        refine v_run C [(.iconst 0, 1, 0, 0)] (pc' := 168) (lv' := [(0, .ref a_self), (1, .int x1), (2, .int x2), (3, .int x3), (5, .int v5)]) (st' := [.int 0]) (by decide +kernel) (by rfl) ?_
        refine v_nm [] [0, 1] (lv' := []) (w' := [(a_self, .inr (2, [.ref a_states, .int m_awayChunks])), (a_states, .inl (γ.2.2.1.1, 3072, .inl m_states))]) (k' := 0) (n' := 0) rfl rfl rfl (Nat.le_of_ble_eq_true rfl) (Nat.le_of_ble_eq_true rfl) ?_
        exact B168 0 h
      · have h := h.2 c
        refine v_run C [(.iload 5, 2, 0, 0), (.iconst 1, 1, 1, 0), (.isub, 1, 0, 0)] (pc' := 161) (lv' := [(0, .ref a_self), (1, .int x1), (2, .int x2), (3, .int x3), (5, .int v5)]) (st' := [.int (v5 - 1)]) (by decide +kernel) (by rfl) ?_
        refine v_callSN C lkSN_RX1_80 (As := [.int (v5 - 1)]) (rest := []) (wr := [(a_self, .inr (2, [.ref a_states, .int m_awayChunks])), (a_states, .inl (γ.2.2.1.1, 3072, .inl m_states))]) (c_X6_waterOf (v5 - 1) h) [] [0, 1] rfl rfl (by decide) (by decide) (Nat.le_of_ble_eq_true rfl) (Nat.le_of_ble_eq_true rfl) rfl rfl (Nat.le_of_ble_eq_true rfl) (by decide +kernel) (fun r w1 hq => ?_)
        obtain ⟨r3, rfl, rfl, h⟩ := hq
        refine v_nc [0, 1, 2, 3, 4] [0, 1] (pc' := 164) (lv' := [(0, .ref a_self), (1, .int x1), (2, .int x2), (3, .int x3), (5, .int v5)]) (st' := [.int r3]) (w' := [(a_self, .inr (2, [.ref a_states, .int m_awayChunks])), (a_states, .inl (γ.2.2.1.1, 3072, .inl m_states))]) (k' := 0) (n' := 0) rfl rfl rfl rfl rfl (Nat.le_of_ble_eq_true rfl) (Nat.le_of_ble_eq_true rfl) ?_
        refine v_run C [(.goto 4, 3, 0, 168)] (pc' := 168) (lv' := [(0, .ref a_self), (1, .int x1), (2, .int x2), (3, .int x3), (5, .int v5)]) (st' := [.int r3]) (by decide +kernel) (by rfl) ?_
        refine v_nm [] [0, 1] (lv' := []) (w' := [(a_self, .inr (2, [.ref a_states, .int m_awayChunks])), (a_states, .inl (γ.2.2.1.1, 3072, .inl m_states))]) (k' := 0) (n' := 0) rfl rfl rfl (Nat.le_of_ble_eq_true rfl) (Nat.le_of_ble_eq_true rfl) ?_
        exact B168 r3 h
    · have h := h.2 c
      refine v_run C [(.bipush 7, 2, 7, 0)] (pc' := 147) (lv' := [(0, .ref a_self), (1, .int x1), (2, .int x2), (3, .int x3), (5, .int v5)]) (st' := [.int 7]) (by decide +kernel) (by rfl) ?_
      refine v_callSN C lkSN_RX1_80 (As := [.int 7]) (rest := []) (wr := [(a_self, .inr (2, [.ref a_states, .int m_awayChunks])), (a_states, .inl (γ.2.2.1.1, 3072, .inl m_states))]) (c_X6_waterOf 7 h) [] [0, 1] rfl rfl (by decide) (by decide) (Nat.le_of_ble_eq_true rfl) (Nat.le_of_ble_eq_true rfl) rfl rfl (Nat.le_of_ble_eq_true rfl) (by decide +kernel) (fun r w1 hq => ?_)
      obtain ⟨r4, rfl, rfl, h⟩ := hq
      refine v_nc [0, 1, 2, 3, 4] [0, 1] (pc' := 150) (lv' := [(0, .ref a_self), (1, .int x1), (2, .int x2), (3, .int x3), (5, .int v5)]) (st' := [.int r4]) (w' := [(a_self, .inr (2, [.ref a_states, .int m_awayChunks])), (a_states, .inl (γ.2.2.1.1, 3072, .inl m_states))]) (k' := 0) (n' := 0) rfl rfl rfl rfl rfl (Nat.le_of_ble_eq_true rfl) (Nat.le_of_ble_eq_true rfl) ?_
      exact v_iret C E (Nat.le_of_ble_eq_true rfl) (Nat.le_of_ble_eq_true rfl) ⟨r4, rfl, rfl, h⟩ (by decide +kernel)
  have B104 : ∀ (v4 : Int32) (v5 : Int32), w_X1_flowAt_B104 x1 x2 x3 m_awayChunks m_states Q v4 v5 → V g 104 [(0, .ref a_self), (1, .int x1), (2, .int x2), (3, .int x3), (4, .int v4), (5, .int v5)] [] [(a_self, .inr (2, [.ref a_states, .int m_awayChunks])), (a_states, .inl (γ.2.2.1.1, 3072, .inl m_states))] 0 0 := by
    intro v4 v5 h
    unfold w_X1_flowAt_B104 at h
    refine v_run C [(.iload 4, 2, 0, 0), (.iconst 2, 1, 2, 0)] (pc' := 107) (lv' := [(0, .ref a_self), (1, .int x1), (2, .int x2), (3, .int x3), (4, .int v4), (5, .int v5)]) (st' := [.int 2, .int v4]) (by decide +kernel) (by rfl) ?_
    refine v_icmp_lt C (tgt := 128) (off := 21) (by decide +kernel) (fun c => ?_) (fun c => ?_)
    · have h := h.1 c
      refine v_nm [0, 1, 2, 3, 5] [0, 1] (lv' := [(0, .ref a_self), (1, .int x1), (2, .int x2), (3, .int x3), (5, .int v5)]) (w' := [(a_self, .inr (2, [.ref a_states, .int m_awayChunks])), (a_states, .inl (γ.2.2.1.1, 3072, .inl m_states))]) (k' := 0) (n' := 0) rfl rfl rfl (Nat.le_of_ble_eq_true rfl) (Nat.le_of_ble_eq_true rfl) ?_
      exact B128 v5 h
    · have h := h.2 c
      refine v_run C [(.aload_n 0, 1, 0, 0), (.iload_n 1, 1, 0, 0), (.iload_n 2, 1, 0, 0), (.iconst 1, 1, 1, 0), (.isub, 1, 0, 0), (.iload_n 3, 1, 0, 0)] (pc' := 116) (lv' := [(0, .ref a_self), (1, .int x1), (2, .int x2), (3, .int x3), (4, .int v4), (5, .int v5)]) (st' := [.int x3, .int (x2 - 1), .int x1, .ref a_self]) (by decide +kernel) (by rfl) ?_
      refine v_callV C kX2 lkV_RX1_64 0 rfl (As := [.int x1, .int (x2 - 1), .int x3]) (rest := []) (wr := []) (c_X2_stateAt a_self a_states x1 (x2 - 1) x3 m_awayChunks m_states h) [0, 1] [] rfl rfl (by decide) (by decide) (Nat.le_of_ble_eq_true rfl) (Nat.le_of_ble_eq_true rfl) rfl rfl (Nat.le_of_ble_eq_true rfl) (by decide +kernel) (fun r w1 hq => ?_)
      obtain ⟨r5, rfl, rfl, h⟩ := hq
      refine v_nc [0, 1, 2, 3, 4, 5] [0, 1] (pc' := 119) (lv' := [(0, .ref a_self), (1, .int x1), (2, .int x2), (3, .int x3), (4, .int v4), (5, .int v5)]) (st' := [.int r5]) (w' := [(a_self, .inr (2, [.ref a_states, .int m_awayChunks])), (a_states, .inl (γ.2.2.1.1, 3072, .inl m_states))]) (k' := 0) (n' := 0) rfl rfl rfl rfl rfl (Nat.le_of_ble_eq_true rfl) (Nat.le_of_ble_eq_true rfl) ?_
      refine v_callS C lkS_RX1_68 (As := [.int r5]) (rest := []) (wr := [(a_self, .inr (2, [.ref a_states, .int m_awayChunks])), (a_states, .inl (γ.2.2.1.1, 3072, .inl m_states))]) (c_X1_bearsWater r5 h) [] [0, 1] rfl rfl (by decide) (by decide) (Nat.le_of_ble_eq_true rfl) (Nat.le_of_ble_eq_true rfl) rfl rfl (Nat.le_of_ble_eq_true rfl) (by decide +kernel) (fun r w1 hq => ?_)
      obtain ⟨r6, rfl, rfl, h⟩ := hq
      refine v_nc [0, 1, 2, 3, 4, 5] [0, 1] (pc' := 122) (lv' := [(0, .ref a_self), (1, .int x1), (2, .int x2), (3, .int x3), (4, .int v4), (5, .int v5)]) (st' := [.int r6]) (w' := [(a_self, .inr (2, [.ref a_states, .int m_awayChunks])), (a_states, .inl (γ.2.2.1.1, 3072, .inl m_states))]) (k' := 0) (n' := 0) rfl rfl rfl rfl rfl (Nat.le_of_ble_eq_true rfl) (Nat.le_of_ble_eq_true rfl) ?_
      refine v_if_eq C (tgt := 128) (off := 6) (by decide +kernel) (fun c => ?_) (fun c => ?_)
      · have h := h.1 c
        refine v_nm [0, 1, 2, 3, 5] [0, 1] (lv' := [(0, .ref a_self), (1, .int x1), (2, .int x2), (3, .int x3), (5, .int v5)]) (w' := [(a_self, .inr (2, [.ref a_states, .int m_awayChunks])), (a_states, .inl (γ.2.2.1.1, 3072, .inl m_states))]) (k' := 0) (n' := 0) rfl rfl rfl (Nat.le_of_ble_eq_true rfl) (Nat.le_of_ble_eq_true rfl) ?_
        exact B128 v5 h
      · have h := h.2 c
        refine v_run C [(.bipush 70, 2, 70, 0)] (pc' := 127) (lv' := [(0, .ref a_self), (1, .int x1), (2, .int x2), (3, .int x3), (4, .int v4), (5, .int v5)]) (st' := [.int 70]) (by decide +kernel) (by rfl) ?_
        exact v_iret C E (Nat.le_of_ble_eq_true rfl) (Nat.le_of_ble_eq_true rfl) ⟨70, rfl, rfl, h⟩ (by decide +kernel)
  have L9 : ∀ (n : Nat) (v4 : Int32) (v5 : Int32) (v6 : Int32), q_loop (fun (rec : (Int32 × Int32 × Int32) → Prop) (a : Int32 × Int32 × Int32) => w_X1_flowAt_L9 x1 x2 x3 m_awayChunks m_states Q (fun v4 v5 v6 => rec (v4, v5, v6)) (w_X1_flowAt_B104 x1 x2 x3 m_awayChunks m_states Q) a.1 a.2.1 a.2.2) n (v4, v5, v6) → V g 9 [(0, .ref a_self), (1, .int x1), (2, .int x2), (3, .int x3), (4, .int v4), (5, .int v5), (6, .int v6)] [] [(a_self, .inr (2, [.ref a_states, .int m_awayChunks])), (a_states, .inl (γ.2.2.1.1, 3072, .inl m_states))] 0 0 := by
    intro n
    induction n with
    | zero =>
      intro v4 v5 v6 h
      exact (show False from h).elim
    | succ n9 ih9 =>
      have B98 : ∀ (v4 : Int32) (v5 : Int32) (v6 : Int32), w_X1_flowAt_B98 x1 x2 x3 m_awayChunks m_states Q (fun v4 v5 v6 => q_loop (fun (rec : (Int32 × Int32 × Int32) → Prop) (a : Int32 × Int32 × Int32) => w_X1_flowAt_L9 x1 x2 x3 m_awayChunks m_states Q (fun v4 v5 v6 => rec (v4, v5, v6)) (w_X1_flowAt_B104 x1 x2 x3 m_awayChunks m_states Q) a.1 a.2.1 a.2.2) n9 (v4, v5, v6)) (w_X1_flowAt_B104 x1 x2 x3 m_awayChunks m_states Q) v4 v5 v6 → V g 98 [(0, .ref a_self), (1, .int x1), (2, .int x2), (3, .int x3), (4, .int v4), (5, .int v5), (6, .int v6)] [] [(a_self, .inr (2, [.ref a_states, .int m_awayChunks])), (a_states, .inl (γ.2.2.1.1, 3072, .inl m_states))] 0 0 := by
        intro v4 v5 v6 h
        unfold w_X1_flowAt_B98 at h
        refine v_run C [(.iinc 6 1, 3, 1, 0), (.goto (-92), 3, 0, 9)] (pc' := 9) (lv' := [(6, .int (v6 + 1)), (0, .ref a_self), (1, .int x1), (2, .int x2), (3, .int x3), (4, .int v4), (5, .int v5)]) (st' := []) (by decide +kernel) (by rfl) ?_
        refine v_nm [1, 2, 3, 4, 5, 6, 0] [0, 1] (lv' := [(0, .ref a_self), (1, .int x1), (2, .int x2), (3, .int x3), (4, .int v4), (5, .int v5), (6, .int (v6 + 1))]) (w' := [(a_self, .inr (2, [.ref a_states, .int m_awayChunks])), (a_states, .inl (γ.2.2.1.1, 3072, .inl m_states))]) (k' := 0) (n' := 0) rfl rfl rfl (Nat.le_of_ble_eq_true rfl) (Nat.le_of_ble_eq_true rfl) ?_
        exact ih9 v4 v5 (v6 + 1) h
      have B69 : ∀ (v4 : Int32) (v5 : Int32) (v6 : Int32) (v7 : Int32) (v8 : Int32) (v9 : Int32), w_X1_flowAt_B69 x1 x2 x3 m_awayChunks m_states Q (fun v4 v5 v6 => q_loop (fun (rec : (Int32 × Int32 × Int32) → Prop) (a : Int32 × Int32 × Int32) => w_X1_flowAt_L9 x1 x2 x3 m_awayChunks m_states Q (fun v4 v5 v6 => rec (v4, v5, v6)) (w_X1_flowAt_B104 x1 x2 x3 m_awayChunks m_states Q) a.1 a.2.1 a.2.2) n9 (v4, v5, v6)) (w_X1_flowAt_B104 x1 x2 x3 m_awayChunks m_states Q) v4 v5 v6 v7 v8 v9 → V g 69 [(0, .ref a_self), (1, .int x1), (2, .int x2), (3, .int x3), (4, .int v4), (5, .int v5), (6, .int v6), (7, .int v7), (8, .int v8), (9, .int v9)] [] [(a_self, .inr (2, [.ref a_states, .int m_awayChunks])), (a_states, .inl (γ.2.2.1.1, 3072, .inl m_states))] 0 0 := by
        intro v4 v5 v6 v7 v8 v9 h
        unfold w_X1_flowAt_B69 at h
        refine v_run C [(.aload_n 0, 1, 0, 0), (.iload 7, 2, 0, 0), (.iload_n 2, 1, 0, 0), (.iconst 1, 1, 1, 0), (.isub, 1, 0, 0), (.iload 8, 2, 0, 0)] (pc' := 77) (lv' := [(0, .ref a_self), (1, .int x1), (2, .int x2), (3, .int x3), (4, .int v4), (5, .int v5), (6, .int v6), (7, .int v7), (8, .int v8), (9, .int v9)]) (st' := [.int v8, .int (x2 - 1), .int v7, .ref a_self]) (by decide +kernel) (by rfl) ?_
        refine v_callV C kX2 lkV_RX1_64 0 rfl (As := [.int v7, .int (x2 - 1), .int v8]) (rest := []) (wr := []) (c_X2_stateAt a_self a_states v7 (x2 - 1) v8 m_awayChunks m_states h) [0, 1] [] rfl rfl (by decide) (by decide) (Nat.le_of_ble_eq_true rfl) (Nat.le_of_ble_eq_true rfl) rfl rfl (Nat.le_of_ble_eq_true rfl) (by decide +kernel) (fun r w1 hq => ?_)
        obtain ⟨r7, rfl, rfl, h⟩ := hq
        refine v_nc [0, 1, 2, 3, 4, 5, 6, 7, 8, 9] [0, 1] (pc' := 80) (lv' := [(0, .ref a_self), (1, .int x1), (2, .int x2), (3, .int x3), (4, .int v4), (5, .int v5), (6, .int v6), (7, .int v7), (8, .int v8), (9, .int v9)]) (st' := [.int r7]) (w' := [(a_self, .inr (2, [.ref a_states, .int m_awayChunks])), (a_states, .inl (γ.2.2.1.1, 3072, .inl m_states))]) (k' := 0) (n' := 0) rfl rfl rfl rfl rfl (Nat.le_of_ble_eq_true rfl) (Nat.le_of_ble_eq_true rfl) ?_
        refine v_callS C lkS_RX1_68 (As := [.int r7]) (rest := []) (wr := [(a_self, .inr (2, [.ref a_states, .int m_awayChunks])), (a_states, .inl (γ.2.2.1.1, 3072, .inl m_states))]) (c_X1_bearsWater r7 h) [] [0, 1] rfl rfl (by decide) (by decide) (Nat.le_of_ble_eq_true rfl) (Nat.le_of_ble_eq_true rfl) rfl rfl (Nat.le_of_ble_eq_true rfl) (by decide +kernel) (fun r w1 hq => ?_)
        obtain ⟨r8, rfl, rfl, h⟩ := hq
        refine v_nc [0, 1, 2, 3, 4, 5, 6, 7, 8, 9] [0, 1] (pc' := 83) (lv' := [(0, .ref a_self), (1, .int x1), (2, .int x2), (3, .int x3), (4, .int v4), (5, .int v5), (6, .int v6), (7, .int v7), (8, .int v8), (9, .int v9)]) (st' := [.int r8]) (w' := [(a_self, .inr (2, [.ref a_states, .int m_awayChunks])), (a_states, .inl (γ.2.2.1.1, 3072, .inl m_states))]) (k' := 0) (n' := 0) rfl rfl rfl rfl rfl (Nat.le_of_ble_eq_true rfl) (Nat.le_of_ble_eq_true rfl) ?_
        refine v_if_eq C (tgt := 98) (off := 15) (by decide +kernel) (fun c => ?_) (fun c => ?_)
        · have h := h.1 c
          refine v_nm [0, 1, 2, 3, 4, 5, 6] [0, 1] (lv' := [(0, .ref a_self), (1, .int x1), (2, .int x2), (3, .int x3), (4, .int v4), (5, .int v5), (6, .int v6)]) (w' := [(a_self, .inr (2, [.ref a_states, .int m_awayChunks])), (a_states, .inl (γ.2.2.1.1, 3072, .inl m_states))]) (k' := 0) (n' := 0) rfl rfl rfl (Nat.le_of_ble_eq_true rfl) (Nat.le_of_ble_eq_true rfl) ?_
          exact B98 v4 v5 v6 h
        · have h := h.2 c
          refine v_run C [(.iload 5, 2, 0, 0), (.iload 9, 2, 0, 0)] (pc' := 90) (lv' := [(0, .ref a_self), (1, .int x1), (2, .int x2), (3, .int x3), (4, .int v4), (5, .int v5), (6, .int v6), (7, .int v7), (8, .int v8), (9, .int v9)]) (st' := [.int v9, .int v5]) (by decide +kernel) (by rfl) ?_
          refine v_callSN C lkSN_RX1_71 (As := [.int v9]) (rest := [.int v5]) (wr := [(a_self, .inr (2, [.ref a_states, .int m_awayChunks])), (a_states, .inl (γ.2.2.1.1, 3072, .inl m_states))]) (c_X6_levelOf v9 h) [] [0, 1] rfl rfl (by decide) (by decide) (Nat.le_of_ble_eq_true rfl) (Nat.le_of_ble_eq_true rfl) rfl rfl (Nat.le_of_ble_eq_true rfl) (by decide +kernel) (fun r w1 hq => ?_)
          obtain ⟨r9, rfl, rfl, h⟩ := hq
          refine v_nc [0, 1, 2, 3, 4, 5, 6, 7, 8, 9] [0, 1] (pc' := 93) (lv' := [(0, .ref a_self), (1, .int x1), (2, .int x2), (3, .int x3), (4, .int v4), (5, .int v5), (6, .int v6), (7, .int v7), (8, .int v8), (9, .int v9)]) (st' := [.int r9, .int v5]) (w' := [(a_self, .inr (2, [.ref a_states, .int m_awayChunks])), (a_states, .inl (γ.2.2.1.1, 3072, .inl m_states))]) (k' := 0) (n' := 0) rfl rfl rfl rfl rfl (Nat.le_of_ble_eq_true rfl) (Nat.le_of_ble_eq_true rfl) ?_
          refine v_max C lkmax_RX1_74 ⟨Nat.le_of_ble_eq_true rfl, Nat.le_of_ble_eq_true rfl⟩ (Nat.le_of_ble_eq_true rfl) (Nat.le_of_ble_eq_true rfl) (by decide +kernel) ?_
          refine v_run C [(.istore 5, 2, 0, 0)] (pc' := 98) (lv' := [(5, .int (if v5 < r9 then r9 else v5)), (0, .ref a_self), (1, .int x1), (2, .int x2), (3, .int x3), (4, .int v4), (6, .int v6), (7, .int v7), (8, .int v8), (9, .int v9)]) (st' := []) (by decide +kernel) (by rfl) ?_
          refine v_nm [1, 2, 3, 4, 5, 0, 6] [0, 1] (lv' := [(0, .ref a_self), (1, .int x1), (2, .int x2), (3, .int x3), (4, .int v4), (5, .int (if v5 < r9 then r9 else v5)), (6, .int v6)]) (w' := [(a_self, .inr (2, [.ref a_states, .int m_awayChunks])), (a_states, .inl (γ.2.2.1.1, 3072, .inl m_states))]) (k' := 0) (n' := 0) rfl rfl rfl (Nat.le_of_ble_eq_true rfl) (Nat.le_of_ble_eq_true rfl) ?_
          exact B98 v4 (if v5 < r9 then r9 else v5) v6 h
      intro v4 v5 v6 h
      have h : w_X1_flowAt_L9 x1 x2 x3 m_awayChunks m_states Q (fun v4 v5 v6 => q_loop (fun (rec : (Int32 × Int32 × Int32) → Prop) (a : Int32 × Int32 × Int32) => w_X1_flowAt_L9 x1 x2 x3 m_awayChunks m_states Q (fun v4 v5 v6 => rec (v4, v5, v6)) (w_X1_flowAt_B104 x1 x2 x3 m_awayChunks m_states Q) a.1 a.2.1 a.2.2) n9 (v4, v5, v6)) (w_X1_flowAt_B104 x1 x2 x3 m_awayChunks m_states Q) v4 v5 v6 := h
      unfold w_X1_flowAt_L9 at h
      refine v_run C [(.iload 6, 2, 0, 0), (.bipush 6, 2, 6, 0)] (pc' := 13) (lv' := [(0, .ref a_self), (1, .int x1), (2, .int x2), (3, .int x3), (4, .int v4), (5, .int v5), (6, .int v6)]) (st' := [.int 6, .int v6]) (by decide +kernel) (by rfl) ?_
      refine v_icmp_ge C (tgt := 104) (off := 91) (by decide +kernel) (fun c => ?_) (fun c => ?_)
      · have h := h.1 c
        refine v_nm [0, 1, 2, 3, 4, 5] [0, 1] (lv' := [(0, .ref a_self), (1, .int x1), (2, .int x2), (3, .int x3), (4, .int v4), (5, .int v5)]) (w' := [(a_self, .inr (2, [.ref a_states, .int m_awayChunks])), (a_states, .inl (γ.2.2.1.1, 3072, .inl m_states))]) (k' := 0) (n' := 0) rfl rfl rfl (Nat.le_of_ble_eq_true rfl) (Nat.le_of_ble_eq_true rfl) ?_
        exact B104 v4 v5 h
      · have h := h.2 c
        refine v_run C [(.iload 6, 2, 0, 0), (.iconst 2, 1, 2, 0)] (pc' := 19) (lv' := [(0, .ref a_self), (1, .int x1), (2, .int x2), (3, .int x3), (4, .int v4), (5, .int v5), (6, .int v6)]) (st' := [.int 2, .int v6]) (by decide +kernel) (by rfl) ?_
        refine v_icmp_eq C (tgt := 98) (off := 79) (by decide +kernel) (fun c => ?_) (fun c => ?_)
        · have h := h.1 c
          exact B98 v4 v5 v6 h
        · have h := h.2 c
          refine v_run C [(.iload 6, 2, 0, 0), (.iconst 3, 1, 3, 0)] (pc' := 25) (lv' := [(0, .ref a_self), (1, .int x1), (2, .int x2), (3, .int x3), (4, .int v4), (5, .int v5), (6, .int v6)]) (st' := [.int 3, .int v6]) (by decide +kernel) (by rfl) ?_
          refine v_icmp_eq C (tgt := 98) (off := 73) (by decide +kernel) (fun c => ?_) (fun c => ?_)
          · have h := h.1 c
            exact B98 v4 v5 v6 h
          · have h := h.2 c
            refine v_run C [(.iload_n 1, 1, 0, 0)] (pc' := 29) (lv' := [(0, .ref a_self), (1, .int x1), (2, .int x2), (3, .int x3), (4, .int v4), (5, .int v5), (6, .int v6)]) (st' := [.int x1]) (by decide +kernel) (by rfl) ?_
            refine v_getsNX C (idx := 58) lkFN_RX1_58 (by decide +kernel) ?_
            refine v_run C [(.iload 6, 2, 0, 0)] (pc' := 34) (lv' := [(0, .ref a_self), (1, .int x1), (2, .int x2), (3, .int x3), (4, .int v4), (5, .int v5), (6, .int v6)]) (st' := [.int v6, .ref γ.2.2.2.1, .int x1]) (by decide +kernel) (by rfl) ?_
            obtain ⟨hin, h⟩ := h
            refine v_tiX C hin (by decide +kernel) ?_
            refine v_run C [(.iadd, 1, 0, 0), (.istore 7, 2, 0, 0), (.iload_n 3, 1, 0, 0)] (pc' := 39) (lv' := [(7, .int (x1 + (sX v6.toNatClampNeg))), (0, .ref a_self), (1, .int x1), (2, .int x2), (3, .int x3), (4, .int v4), (5, .int v5), (6, .int v6)]) (st' := [.int x3]) (by decide +kernel) (by rfl) ?_
            refine v_getsNZ C (idx := 61) lkFN_RX1_61 (by decide +kernel) ?_
            refine v_run C [(.iload 6, 2, 0, 0)] (pc' := 44) (lv' := [(7, .int (x1 + (sX v6.toNatClampNeg))), (0, .ref a_self), (1, .int x1), (2, .int x2), (3, .int x3), (4, .int v4), (5, .int v5), (6, .int v6)]) (st' := [.int v6, .ref γ.2.2.2.2.2, .int x3]) (by decide +kernel) (by rfl) ?_
            obtain ⟨hin, h⟩ := h
            refine v_tiZ C hin (by decide +kernel) ?_
            refine v_run C [(.iadd, 1, 0, 0), (.istore 8, 2, 0, 0), (.aload_n 0, 1, 0, 0), (.iload 7, 2, 0, 0), (.iload_n 2, 1, 0, 0), (.iload 8, 2, 0, 0)] (pc' := 54) (lv' := [(8, .int (x3 + (sZ v6.toNatClampNeg))), (7, .int (x1 + (sX v6.toNatClampNeg))), (0, .ref a_self), (1, .int x1), (2, .int x2), (3, .int x3), (4, .int v4), (5, .int v5), (6, .int v6)]) (st' := [.int (x3 + (sZ v6.toNatClampNeg)), .int x2, .int (x1 + (sX v6.toNatClampNeg)), .ref a_self]) (by decide +kernel) (by rfl) ?_
            refine v_callV C kX2 lkV_RX1_64 0 rfl (As := [.int (x1 + (sX v6.toNatClampNeg)), .int x2, .int (x3 + (sZ v6.toNatClampNeg))]) (rest := []) (wr := []) (c_X2_stateAt a_self a_states (x1 + (sX v6.toNatClampNeg)) x2 (x3 + (sZ v6.toNatClampNeg)) m_awayChunks m_states h) [0, 1] [] rfl rfl (by decide) (by decide) (Nat.le_of_ble_eq_true rfl) (Nat.le_of_ble_eq_true rfl) rfl rfl (Nat.le_of_ble_eq_true rfl) (by decide +kernel) (fun r w1 hq => ?_)
            obtain ⟨r10, rfl, rfl, h⟩ := hq
            refine v_nc [0, 1, 2, 3, 4, 5, 6, 7, 8] [0, 1] (pc' := 57) (lv' := [(8, .int (x3 + (sZ v6.toNatClampNeg))), (7, .int (x1 + (sX v6.toNatClampNeg))), (0, .ref a_self), (1, .int x1), (2, .int x2), (3, .int x3), (4, .int v4), (5, .int v5), (6, .int v6)]) (st' := [.int r10]) (w' := [(a_self, .inr (2, [.ref a_states, .int m_awayChunks])), (a_states, .inl (γ.2.2.1.1, 3072, .inl m_states))]) (k' := 0) (n' := 0) rfl rfl rfl rfl rfl (Nat.le_of_ble_eq_true rfl) (Nat.le_of_ble_eq_true rfl) ?_
            refine v_run C [(.istore 9, 2, 0, 0), (.iload 9, 2, 0, 0), (.bipush 70, 2, 70, 0)] (pc' := 63) (lv' := [(9, .int r10), (8, .int (x3 + (sZ v6.toNatClampNeg))), (7, .int (x1 + (sX v6.toNatClampNeg))), (0, .ref a_self), (1, .int x1), (2, .int x2), (3, .int x3), (4, .int v4), (5, .int v5), (6, .int v6)]) (st' := [.int 70, .int r10]) (by decide +kernel) (by rfl) ?_
            refine v_icmp_ne C (tgt := 69) (off := 6) (by decide +kernel) (fun c => ?_) (fun c => ?_)
            · have h := h.1 c
              refine v_nm [3, 4, 5, 6, 7, 8, 9, 2, 1, 0] [0, 1] (lv' := [(0, .ref a_self), (1, .int x1), (2, .int x2), (3, .int x3), (4, .int v4), (5, .int v5), (6, .int v6), (7, .int (x1 + (sX v6.toNatClampNeg))), (8, .int (x3 + (sZ v6.toNatClampNeg))), (9, .int r10)]) (w' := [(a_self, .inr (2, [.ref a_states, .int m_awayChunks])), (a_states, .inl (γ.2.2.1.1, 3072, .inl m_states))]) (k' := 0) (n' := 0) rfl rfl rfl (Nat.le_of_ble_eq_true rfl) (Nat.le_of_ble_eq_true rfl) ?_
              exact B69 v4 v5 v6 (x1 + (sX v6.toNatClampNeg)) (x3 + (sZ v6.toNatClampNeg)) r10 h
            · have h := h.2 c
              refine v_run C [(.iinc 4 1, 3, 1, 0)] (pc' := 69) (lv' := [(4, .int (v4 + 1)), (9, .int r10), (8, .int (x3 + (sZ v6.toNatClampNeg))), (7, .int (x1 + (sX v6.toNatClampNeg))), (0, .ref a_self), (1, .int x1), (2, .int x2), (3, .int x3), (5, .int v5), (6, .int v6)]) (st' := []) (by decide +kernel) (by rfl) ?_
              refine v_nm [4, 5, 6, 7, 0, 8, 9, 3, 2, 1] [0, 1] (lv' := [(0, .ref a_self), (1, .int x1), (2, .int x2), (3, .int x3), (4, .int (v4 + 1)), (5, .int v5), (6, .int v6), (7, .int (x1 + (sX v6.toNatClampNeg))), (8, .int (x3 + (sZ v6.toNatClampNeg))), (9, .int r10)]) (w' := [(a_self, .inr (2, [.ref a_states, .int m_awayChunks])), (a_states, .inl (γ.2.2.1.1, 3072, .inl m_states))]) (k' := 0) (n' := 0) rfl rfl rfl (Nat.le_of_ble_eq_true rfl) (Nat.le_of_ble_eq_true rfl) ?_
              exact B69 (v4 + 1) v5 v6 (x1 + (sX v6.toNatClampNeg)) (x3 + (sZ v6.toNatClampNeg)) r10 h
  unfold w_X1_flowAt at h
  refine v_run C [(.iconst 0, 1, 0, 0), (.istore 4, 2, 0, 0), (.iconst 0, 1, 0, 0), (.istore 5, 2, 0, 0), (.iconst 0, 1, 0, 0), (.istore 6, 2, 0, 0)] (pc' := 9) (lv' := [(6, .int 0), (5, .int 0), (4, .int 0), (0, .ref a_self), (1, .int x1), (2, .int x2), (3, .int x3)]) (st' := []) (by decide +kernel) (by rfl) ?_
  refine v_nm [3, 4, 5, 6, 2, 1, 0] [0, 1] (lv' := [(0, .ref a_self), (1, .int x1), (2, .int x2), (3, .int x3), (4, .int 0), (5, .int 0), (6, .int 0)]) (w' := [(a_self, .inr (2, [.ref a_states, .int m_awayChunks])), (a_states, .inl (γ.2.2.1.1, 3072, .inl m_states))]) (k' := 0) (n' := 0) rfl rfl rfl (Nat.le_of_ble_eq_true rfl) (Nat.le_of_ble_eq_true rfl) ?_
  obtain ⟨n, h⟩ := h
  exact L9 n 0 0 0 h
