theorem lkF_RX1_9 : Cond.fieldLink RX1 9 RX1 (TX1 0).2.1 (TX1 0).2.2.1 ∈ GW := mw (i := 103) (by decide +kernel) (by decide +kernel)
theorem lkV_RX1_54 : q_LV RX1 54 RX2 yX2_change cX2_change 4 (some .boolean) 1 := ⟨mw (i := 589) (by decide +kernel) (by decide +kernel), mw (i := 590) (by decide +kernel) (by decide +kernel), mw (i := 591) (by decide +kernel) (by decide +kernel), mw (i := 48) (by decide +kernel) (by decide +kernel), mw (i := 592) (by decide +kernel) (by decide +kernel), ⟨by decide, by decide, by decide +kernel⟩⟩
theorem lkS_RX1_38 : q_LS RX1 38 yX1_canFlow cX1_canFlow 1 (some .boolean) 1 := ⟨mw (i := 566) (by decide +kernel) (by decide +kernel), mw (i := 567) (by decide +kernel) (by decide +kernel), mw (i := 49) (by decide +kernel) (by decide +kernel), mw (i := 568) (by decide +kernel) (by decide +kernel), ⟨by decide, by decide, by decide +kernel⟩⟩
theorem lkSN_RX1_41 : q_LSN RX1 41 yX6_xOf "CobbleWorld" cX6_xOf 1 (some .int) 1 := ⟨mnw (i := 523) (by decide +kernel) (by decide +kernel), mw (i := 337) (by decide +kernel) (by decide +kernel), mw (i := 47) (by decide +kernel) (by decide +kernel), mw (i := 338) (by decide +kernel) (by decide +kernel), ⟨by decide, by decide, by decide +kernel⟩⟩
theorem lkSN_RX1_44 : q_LSN RX1 44 yX6_yOf "CobbleWorld" cX6_yOf 1 (some .int) 1 := ⟨mnw (i := 524) (by decide +kernel) (by decide +kernel), mw (i := 341) (by decide +kernel) (by decide +kernel), mw (i := 47) (by decide +kernel) (by decide +kernel), mw (i := 342) (by decide +kernel) (by decide +kernel), ⟨by decide, by decide, by decide +kernel⟩⟩
theorem lkSN_RX1_47 : q_LSN RX1 47 yX6_zOf "CobbleWorld" cX6_zOf 1 (some .int) 1 := ⟨mnw (i := 525) (by decide +kernel) (by decide +kernel), mw (i := 345) (by decide +kernel) (by decide +kernel), mw (i := 47) (by decide +kernel) (by decide +kernel), mw (i := 346) (by decide +kernel) (by decide +kernel), ⟨by decide, by decide, by decide +kernel⟩⟩
theorem lkS_RX1_50 : q_LS RX1 50 yX1_flowAt cX1_flowAt 10 (some .int) 4 := ⟨mw (i := 572) (by decide +kernel) (by decide +kernel), mw (i := 573) (by decide +kernel) (by decide +kernel), mw (i := 49) (by decide +kernel) (by decide +kernel), mw (i := 574) (by decide +kernel) (by decide +kernel), ⟨by decide, by decide, by decide +kernel⟩⟩
theorem lkS_RX1_15 : q_LS RX1 15 yX1_dropSand cX1_dropSand 4 (some .boolean) 1 := ⟨mw (i := 554) (by decide +kernel) (by decide +kernel), mw (i := 555) (by decide +kernel) (by decide +kernel), mw (i := 49) (by decide +kernel) (by decide +kernel), mw (i := 556) (by decide +kernel) (by decide +kernel), ⟨by decide, by decide, by decide +kernel⟩⟩
theorem lkV_RX1_19 : q_LV RX1 19 RX1 yX1_flowWater cX1_flowWater 3 (some .boolean) 1 := ⟨mw (i := 562) (by decide +kernel) (by decide +kernel), mw (i := 564) (by decide +kernel) (by decide +kernel), mw (i := 14) (by decide +kernel) (by decide +kernel), mw (i := 49) (by decide +kernel) (by decide +kernel), mw (i := 565) (by decide +kernel) (by decide +kernel), ⟨by decide, by decide, by decide +kernel⟩⟩
theorem lkcpy_RX2_42 : q_cpy RX2 42 := ⟨mw (i := 547) (by decide +kernel) (by decide +kernel), mw (i := 549) (by decide +kernel) (by decide +kernel), mw (i := 548) (by decide +kernel) (by decide +kernel), mw (i := 68) (by decide +kernel) (by decide +kernel)⟩
theorem lkV_RX2_48 : q_LV RX2 48 RX2 yX2_stateOfCell cX2_stateOfCell 2 (some .int) 1 := ⟨mw (i := 361) (by decide +kernel) (by decide +kernel), mw (i := 362) (by decide +kernel) (by decide +kernel), mw (i := 363) (by decide +kernel) (by decide +kernel), mw (i := 48) (by decide +kernel) (by decide +kernel), mw (i := 364) (by decide +kernel) (by decide +kernel), ⟨by decide, by decide, by decide +kernel⟩⟩
theorem lkSN_RX2_51 : q_LSN RX2 51 yX6_kindOf "CobbleWorld" cX6_kindOf 1 (some .int) 1 := ⟨mnw (i := 321) (by decide +kernel) (by decide +kernel), mw (i := 268) (by decide +kernel) (by decide +kernel), mw (i := 47) (by decide +kernel) (by decide +kernel), mw (i := 269) (by decide +kernel) (by decide +kernel), ⟨by decide, by decide, by decide +kernel⟩⟩
theorem lkV_RX2_54 : q_LV RX2 54 RX2 yX2_countOf cX2_countOf 4 (some .int) 1 := ⟨mw (i := 357) (by decide +kernel) (by decide +kernel), mw (i := 358) (by decide +kernel) (by decide +kernel), mw (i := 359) (by decide +kernel) (by decide +kernel), mw (i := 48) (by decide +kernel) (by decide +kernel), mw (i := 360) (by decide +kernel) (by decide +kernel), ⟨by decide, by decide, by decide +kernel⟩⟩
theorem lkSN_RX3_18 : q_LSN RX3 18 yX6_isInWorld "CobbleWorld" cX6_isInWorld 3 (some .boolean) 3 := ⟨mnw (i := 710) (by decide +kernel) (by decide +kernel), mw (i := 255) (by decide +kernel) (by decide +kernel), mw (i := 47) (by decide +kernel) (by decide +kernel), mw (i := 256) (by decide +kernel) (by decide +kernel), ⟨by decide, by decide, by decide +kernel⟩⟩
theorem lkF_RX3_9 : Cond.fieldLink RX3 9 RX3 (TX3 0).2.1 (TX3 0).2.2.1 ∈ GW := mw (i := 113) (by decide +kernel) (by decide +kernel)
theorem lkSN_RX3_22 : q_LSN RX3 22 yX6_indexOf "CobbleWorld" cX6_indexOf 3 (some .int) 3 := ⟨mnw (i := 286) (by decide +kernel) (by decide +kernel), mw (i := 265) (by decide +kernel) (by decide +kernel), mw (i := 47) (by decide +kernel) (by decide +kernel), mw (i := 266) (by decide +kernel) (by decide +kernel), ⟨by decide, by decide, by decide +kernel⟩⟩
theorem lkF_RX3_15 : Cond.fieldLink RX3 15 RX3 (TX3 1).2.1 (TX3 1).2.2.1 ∈ GW := mw (i := 114) (by decide +kernel) (by decide +kernel)
def w_X2_change_B54 (m_p1 : Nat → Int32) (Q : Int32 → (Nat → Int32) → Prop) (v2 : Int32) (m_states : Nat → Int32) : Prop := (narrow .boolean (.int v2) = .int v2 ∧ Q v2 m_states)
def w_X2_change_B38 (m_p1 : Nat → Int32) (Q : Int32 → (Nat → Int32) → Prop) (rec4 : Int32 → Int32 → (Nat → Int32) → Prop) (K54 : Int32 → (Nat → Int32) → Prop) (v3 : Int32) (s0 : Int32) (m_states : Nat → Int32) : Prop := (vp_in v3 3072 ∧ (vp_in v3 3072 ∧ (rec4 s0 (v3 + 1) (upd m_states v3.toNatClampNeg (m_p1 v3.toNatClampNeg)))))
def w_X2_change_B33 (m_p1 : Nat → Int32) (Q : Int32 → (Nat → Int32) → Prop) (rec4 : Int32 → Int32 → (Nat → Int32) → Prop) (K54 : Int32 → (Nat → Int32) → Prop) (v3 : Int32) (m_states : Nat → Int32) : Prop := w_X2_change_B38 m_p1 Q rec4 K54 v3 1 m_states
def w_X2_change_L4 (m_p1 : Nat → Int32) (Q : Int32 → (Nat → Int32) → Prop) (rec4 : Int32 → Int32 → (Nat → Int32) → Prop) (K54 : Int32 → (Nat → Int32) → Prop) (v2 : Int32) (v3 : Int32) (m_states : Nat → Int32) : Prop := ((3072 ≤ v3 → (K54 v2 m_states)) ∧ (¬ 3072 ≤ v3 → ((3072 ≤ v3 → (K54 v2 m_states)) ∧ (¬ 3072 ≤ v3 → ((¬ v2 = 0 → (w_X2_change_B33 m_p1 Q rec4 K54 v3 m_states)) ∧ (v2 = 0 → (vp_in v3 3072 ∧ (vp_in v3 3072 ∧ (((m_states v3.toNatClampNeg) = (m_p1 v3.toNatClampNeg) → (w_X2_change_B38 m_p1 Q rec4 K54 v3 0 m_states)) ∧ (¬ (m_states v3.toNatClampNeg) = (m_p1 v3.toNatClampNeg) → (w_X2_change_B33 m_p1 Q rec4 K54 v3 m_states)))))))))))
def w_X2_change (m_states : Nat → Int32) (m_p1 : Nat → Int32) (Q : Int32 → (Nat → Int32) → Prop) : Prop := ∃ n : Nat, q_loop (fun (rec : (Int32 × Int32 × (Nat → Int32)) → Prop) (a : Int32 × Int32 × (Nat → Int32)) => w_X2_change_L4 m_p1 Q (fun v2 v3 m_states => rec (v2, v3, m_states)) (w_X2_change_B54 m_p1 Q) a.1 a.2.1 a.2.2) n (0, 0, m_states)
set_option maxHeartbeats 4000000 in
set_option maxRecDepth 100000 in
theorem c_X2_change {γ : q_G} (a_self a_p1 a_states : Nat) (g_awayChunks : Int32) (m_states : Nat → Int32) (m_p1 : Nat → Int32) {Q : Int32 → (Nat → Int32) → Prop} (h : w_X2_change  m_states m_p1 Q) : ctR γ yX2_change cX2_change 4 (some .boolean) ({ frames := 1, cells := 0, slots := 0, locals := 60 }) [.ref a_self, .ref a_p1] [(a_self, .inr (2, [.ref a_states, .int g_awayChunks])), (a_p1, .inl (γ.2.2.1.1, 3072, .inl m_p1)), (a_states, .inl (γ.2.2.1.1, 3072, .inl m_states))] (fun r w1 => ∃ r0 : Int32, ∃ m_states' : Nat → Int32, r = some (.int r0) ∧ w1 = [(a_self, .inr (2, [.ref a_states, .int g_awayChunks])), (a_p1, .inl (γ.2.2.1.1, 3072, .inl m_p1)), (a_states, .inl (γ.2.2.1.1, 3072, .inl m_states'))] ∧ Q r0 m_states') := by
  refine ctR_of (by decide +kernel) (by simp [lg_sl, Value.category]) ?_
  intro g C E hi
  have C : q_C γ g RX2 cX2_change ({ frames := 1, cells := 0, slots := 0, locals := 60 }) 4 := C
  show V g 0 [(0, .ref a_self), (1, .ref a_p1)] [] [(a_self, .inr (2, [.ref a_states, .int g_awayChunks])), (a_p1, .inl (γ.2.2.1.1, 3072, .inl m_p1)), (a_states, .inl (γ.2.2.1.1, 3072, .inl m_states))] 0 0
  have B54 : ∀ (v2 : Int32) (m_states : Nat → Int32), w_X2_change_B54 m_p1 Q v2 m_states → V g 54 [(2, .int v2)] [] [(a_self, .inr (2, [.ref a_states, .int g_awayChunks])), (a_p1, .inl (γ.2.2.1.1, 3072, .inl m_p1)), (a_states, .inl (γ.2.2.1.1, 3072, .inl m_states))] 0 0 := by
    intro v2 m_states h
    unfold w_X2_change_B54 at h
    refine v_run C [(.iload_n 2, 1, 0, 0)] (pc' := 55) (lv' := [(2, .int v2)]) (st' := [.int v2]) (by decide +kernel) (by rfl) ?_
    obtain ⟨hz, h⟩ := h
    exact v_zret C E hz (Nat.le_of_ble_eq_true rfl) (Nat.le_of_ble_eq_true rfl) ⟨v2, m_states, rfl, rfl, h⟩ (by decide +kernel)
  have L4 : ∀ (n : Nat) (v2 : Int32) (v3 : Int32) (m_states : Nat → Int32), q_loop (fun (rec : (Int32 × Int32 × (Nat → Int32)) → Prop) (a : Int32 × Int32 × (Nat → Int32)) => w_X2_change_L4 m_p1 Q (fun v2 v3 m_states => rec (v2, v3, m_states)) (w_X2_change_B54 m_p1 Q) a.1 a.2.1 a.2.2) n (v2, v3, m_states) → V g 4 [(0, .ref a_self), (1, .ref a_p1), (2, .int v2), (3, .int v3)] [] [(a_self, .inr (2, [.ref a_states, .int g_awayChunks])), (a_p1, .inl (γ.2.2.1.1, 3072, .inl m_p1)), (a_states, .inl (γ.2.2.1.1, 3072, .inl m_states))] 0 0 := by
    intro n
    induction n with
    | zero =>
      intro v2 v3 m_states h
      exact (show False from h).elim
    | succ n4 ih4 =>
      have B38 : ∀ (v3 : Int32) (s0 : Int32) (m_states : Nat → Int32), w_X2_change_B38 m_p1 Q (fun v2 v3 m_states => q_loop (fun (rec : (Int32 × Int32 × (Nat → Int32)) → Prop) (a : Int32 × Int32 × (Nat → Int32)) => w_X2_change_L4 m_p1 Q (fun v2 v3 m_states => rec (v2, v3, m_states)) (w_X2_change_B54 m_p1 Q) a.1 a.2.1 a.2.2) n4 (v2, v3, m_states)) (w_X2_change_B54 m_p1 Q) v3 s0 m_states → V g 38 [(0, .ref a_self), (1, .ref a_p1), (3, .int v3)] [.int s0] [(a_self, .inr (2, [.ref a_states, .int g_awayChunks])), (a_p1, .inl (γ.2.2.1.1, 3072, .inl m_p1)), (a_states, .inl (γ.2.2.1.1, 3072, .inl m_states))] 0 0 := by
        intro v3 s0 m_states h
        unfold w_X2_change_B38 at h
        refine v_run C [(.istore_n 2, 1, 0, 0), (.aload_n 0, 1, 0, 0)] (pc' := 40) (lv' := [(2, .int s0), (0, .ref a_self), (1, .ref a_p1), (3, .int v3)]) (st' := [.ref a_self]) (by decide +kernel) (by rfl) ?_
        refine v_get C kX2 0 0 (idx := 9) lkF_RX2_9 ⟨by decide, rfl⟩ rfl rfl (by decide +kernel) ?_
        refine v_run C [(.iload_n 3, 1, 0, 0), (.aload_n 1, 1, 0, 0), (.iload_n 3, 1, 0, 0)] (pc' := 46) (lv' := [(2, .int s0), (0, .ref a_self), (1, .ref a_p1), (3, .int v3)]) (st' := [.int v3, .ref a_p1, .int v3, .ref a_states]) (by decide +kernel) (by rfl) ?_
        obtain ⟨hin, h⟩ := h
        refine v_iald C 1 rfl hin (by decide +kernel) ?_
        obtain ⟨hin, h⟩ := h
        refine v_iast C 2 rfl hin (w' := [(a_self, .inr (2, [.ref a_states, .int g_awayChunks])), (a_p1, .inl (γ.2.2.1.1, 3072, .inl m_p1)), (a_states, .inl (γ.2.2.1.1, 3072, .inl (upd m_states v3.toNatClampNeg (m_p1 v3.toNatClampNeg))))]) rfl (by decide +kernel) ?_
        refine v_run C [(.iinc 3 1, 3, 1, 0), (.goto (-47), 3, 0, 4)] (pc' := 4) (lv' := [(3, .int (v3 + 1)), (2, .int s0), (0, .ref a_self), (1, .ref a_p1)]) (st' := []) (by decide +kernel) (by rfl) ?_
        refine v_nm [2, 3, 1, 0] [0, 1, 2] (lv' := [(0, .ref a_self), (1, .ref a_p1), (2, .int s0), (3, .int (v3 + 1))]) (w' := [(a_self, .inr (2, [.ref a_states, .int g_awayChunks])), (a_p1, .inl (γ.2.2.1.1, 3072, .inl m_p1)), (a_states, .inl (γ.2.2.1.1, 3072, .inl (upd m_states v3.toNatClampNeg (m_p1 v3.toNatClampNeg))))]) (k' := 0) (n' := 0) rfl rfl rfl (Nat.le_of_ble_eq_true rfl) (Nat.le_of_ble_eq_true rfl) ?_
        exact ih4 s0 (v3 + 1) (upd m_states v3.toNatClampNeg (m_p1 v3.toNatClampNeg)) h
      have B33 : ∀ (v3 : Int32) (m_states : Nat → Int32), w_X2_change_B33 m_p1 Q (fun v2 v3 m_states => q_loop (fun (rec : (Int32 × Int32 × (Nat → Int32)) → Prop) (a : Int32 × Int32 × (Nat → Int32)) => w_X2_change_L4 m_p1 Q (fun v2 v3 m_states => rec (v2, v3, m_states)) (w_X2_change_B54 m_p1 Q) a.1 a.2.1 a.2.2) n4 (v2, v3, m_states)) (w_X2_change_B54 m_p1 Q) v3 m_states → V g 33 [(0, .ref a_self), (1, .ref a_p1), (3, .int v3)] [] [(a_self, .inr (2, [.ref a_states, .int g_awayChunks])), (a_p1, .inl (γ.2.2.1.1, 3072, .inl m_p1)), (a_states, .inl (γ.2.2.1.1, 3072, .inl m_states))] 0 0 := by
        intro v3 m_states h
        unfold w_X2_change_B33 at h
        refine v_run C [(.iconst 1, 1, 1, 0), (.goto 4, 3, 0, 38)] (pc' := 38) (lv' := [(0, .ref a_self), (1, .ref a_p1), (3, .int v3)]) (st' := [.int 1]) (by decide +kernel) (by rfl) ?_
        exact B38 v3 1 m_states h
      intro v2 v3 m_states h
      have h : w_X2_change_L4 m_p1 Q (fun v2 v3 m_states => q_loop (fun (rec : (Int32 × Int32 × (Nat → Int32)) → Prop) (a : Int32 × Int32 × (Nat → Int32)) => w_X2_change_L4 m_p1 Q (fun v2 v3 m_states => rec (v2, v3, m_states)) (w_X2_change_B54 m_p1 Q) a.1 a.2.1 a.2.2) n4 (v2, v3, m_states)) (w_X2_change_B54 m_p1 Q) v2 v3 m_states := h
      unfold w_X2_change_L4 at h
      refine v_run C [(.iload_n 3, 1, 0, 0), (.sipush 3072, 3, 3072, 0)] (pc' := 8) (lv' := [(0, .ref a_self), (1, .ref a_p1), (2, .int v2), (3, .int v3)]) (st' := [.int 3072, .int v3]) (by decide +kernel) (by rfl) ?_
      refine v_icmp_ge C (tgt := 54) (off := 46) (by decide +kernel) (fun c => ?_) (fun c => ?_)
      · have h := h.1 c
        refine v_nm [2] [0, 1, 2] (lv' := [(2, .int v2)]) (w' := [(a_self, .inr (2, [.ref a_states, .int g_awayChunks])), (a_p1, .inl (γ.2.2.1.1, 3072, .inl m_p1)), (a_states, .inl (γ.2.2.1.1, 3072, .inl m_states))]) (k' := 0) (n' := 0) rfl rfl rfl (Nat.le_of_ble_eq_true rfl) (Nat.le_of_ble_eq_true rfl) ?_
        exact B54 v2 m_states h
      · have h := h.2 c
        refine v_run C [(.iload_n 3, 1, 0, 0), (.aload_n 1, 1, 0, 0)] (pc' := 13) (lv' := [(0, .ref a_self), (1, .ref a_p1), (2, .int v2), (3, .int v3)]) (st' := [.ref a_p1, .int v3]) (by decide +kernel) (by rfl) ?_
        refine v_alen C 1 (v := 3072) rfl rfl (by decide +kernel) ?_
        refine v_icmp_ge C (tgt := 54) (off := 40) (by decide +kernel) (fun c => ?_) (fun c => ?_)
        · have h := h.1 c
          refine v_nm [2] [0, 1, 2] (lv' := [(2, .int v2)]) (w' := [(a_self, .inr (2, [.ref a_states, .int g_awayChunks])), (a_p1, .inl (γ.2.2.1.1, 3072, .inl m_p1)), (a_states, .inl (γ.2.2.1.1, 3072, .inl m_states))]) (k' := 0) (n' := 0) rfl rfl rfl (Nat.le_of_ble_eq_true rfl) (Nat.le_of_ble_eq_true rfl) ?_
          exact B54 v2 m_states h
        · have h := h.2 c
          refine v_run C [(.iload_n 2, 1, 0, 0)] (pc' := 18) (lv' := [(0, .ref a_self), (1, .ref a_p1), (2, .int v2), (3, .int v3)]) (st' := [.int v2]) (by decide +kernel) (by rfl) ?_
          refine v_if_ne C (tgt := 33) (off := 15) (by decide +kernel) (fun c => ?_) (fun c => ?_)
          · have h := h.1 c
            refine v_nm [0, 1, 3] [0, 1, 2] (lv' := [(0, .ref a_self), (1, .ref a_p1), (3, .int v3)]) (w' := [(a_self, .inr (2, [.ref a_states, .int g_awayChunks])), (a_p1, .inl (γ.2.2.1.1, 3072, .inl m_p1)), (a_states, .inl (γ.2.2.1.1, 3072, .inl m_states))]) (k' := 0) (n' := 0) rfl rfl rfl (Nat.le_of_ble_eq_true rfl) (Nat.le_of_ble_eq_true rfl) ?_
            exact B33 v3 m_states h
          · have h := h.2 c
            refine v_run C [(.aload_n 0, 1, 0, 0)] (pc' := 22) (lv' := [(0, .ref a_self), (1, .ref a_p1), (2, .int v2), (3, .int v3)]) (st' := [.ref a_self]) (by decide +kernel) (by rfl) ?_
            refine v_get C kX2 0 0 (idx := 9) lkF_RX2_9 ⟨by decide, rfl⟩ rfl rfl (by decide +kernel) ?_
            refine v_run C [(.iload_n 3, 1, 0, 0)] (pc' := 26) (lv' := [(0, .ref a_self), (1, .ref a_p1), (2, .int v2), (3, .int v3)]) (st' := [.int v3, .ref a_states]) (by decide +kernel) (by rfl) ?_
            obtain ⟨hin, h⟩ := h
            refine v_iald C 2 rfl hin (by decide +kernel) ?_
            refine v_run C [(.aload_n 1, 1, 0, 0), (.iload_n 3, 1, 0, 0)] (pc' := 29) (lv' := [(0, .ref a_self), (1, .ref a_p1), (2, .int v2), (3, .int v3)]) (st' := [.int v3, .ref a_p1, .int (m_states v3.toNatClampNeg)]) (by decide +kernel) (by rfl) ?_
            obtain ⟨hin, h⟩ := h
            refine v_iald C 1 rfl hin (by decide +kernel) ?_
            refine v_icmp_eq C (tgt := 37) (off := 7) (by decide +kernel) (fun c => ?_) (fun c => ?_)
            · have h := h.1 c
              refine v_run C [(.iconst 0, 1, 0, 0)] (pc' := 38) (lv' := [(0, .ref a_self), (1, .ref a_p1), (2, .int v2), (3, .int v3)]) (st' := [.int 0]) (by decide +kernel) (by rfl) ?_
              refine v_nm [0, 1, 3] [0, 1, 2] (lv' := [(0, .ref a_self), (1, .ref a_p1), (3, .int v3)]) (w' := [(a_self, .inr (2, [.ref a_states, .int g_awayChunks])), (a_p1, .inl (γ.2.2.1.1, 3072, .inl m_p1)), (a_states, .inl (γ.2.2.1.1, 3072, .inl m_states))]) (k' := 0) (n' := 0) rfl rfl rfl (Nat.le_of_ble_eq_true rfl) (Nat.le_of_ble_eq_true rfl) ?_
              exact B38 v3 0 m_states h
            · have h := h.2 c
              refine v_nm [0, 1, 3] [0, 1, 2] (lv' := [(0, .ref a_self), (1, .ref a_p1), (3, .int v3)]) (w' := [(a_self, .inr (2, [.ref a_states, .int g_awayChunks])), (a_p1, .inl (γ.2.2.1.1, 3072, .inl m_p1)), (a_states, .inl (γ.2.2.1.1, 3072, .inl m_states))]) (k' := 0) (n' := 0) rfl rfl rfl (Nat.le_of_ble_eq_true rfl) (Nat.le_of_ble_eq_true rfl) ?_
              exact B33 v3 m_states h
  unfold w_X2_change at h
  refine v_run C [(.iconst 0, 1, 0, 0), (.istore_n 2, 1, 0, 0), (.iconst 0, 1, 0, 0), (.istore_n 3, 1, 0, 0)] (pc' := 4) (lv' := [(3, .int 0), (2, .int 0), (0, .ref a_self), (1, .ref a_p1)]) (st' := []) (by decide +kernel) (by rfl) ?_
  refine v_nm [2, 3, 1, 0] [0, 1, 2] (lv' := [(0, .ref a_self), (1, .ref a_p1), (2, .int 0), (3, .int 0)]) (w' := [(a_self, .inr (2, [.ref a_states, .int g_awayChunks])), (a_p1, .inl (γ.2.2.1.1, 3072, .inl m_p1)), (a_states, .inl (γ.2.2.1.1, 3072, .inl m_states))]) (k' := 0) (n' := 0) rfl rfl rfl (Nat.le_of_ble_eq_true rfl) (Nat.le_of_ble_eq_true rfl) ?_
  obtain ⟨n, h⟩ := h
  exact L4 n 0 0 m_states h
def w_X1_flowWater_B57 (m_p1_awayChunks : Int32) (Q : Int32 → (Nat → Int32) → (Nat → Int32) → Prop) (m_next : Nat → Int32) (m_p1_states : Nat → Int32) : Prop := w_X2_change m_p1_states m_next (fun r1 y2 => (narrow .boolean (.int r1) = .int r1 ∧ Q r1 m_next y2))
def w_X1_flowWater_B50 (m_p1_awayChunks : Int32) (Q : Int32 → (Nat → Int32) → (Nat → Int32) → Prop) (rec2 : Int32 → (Nat → Int32) → (Nat → Int32) → Prop) (K57 : (Nat → Int32) → (Nat → Int32) → Prop) (v2 : Int32) (s1 : Int32) (s2 : Int32) (m_next : Nat → Int32) (m_p1_states : Nat → Int32) : Prop := (vp_in s1 3072 ∧ (rec2 (v2 + 1) (upd m_next s1.toNatClampNeg s2) m_p1_states))
def w_X1_flowWater_L2 (m_p1_awayChunks : Int32) (Q : Int32 → (Nat → Int32) → (Nat → Int32) → Prop) (rec2 : Int32 → (Nat → Int32) → (Nat → Int32) → Prop) (K57 : (Nat → Int32) → (Nat → Int32) → Prop) (v2 : Int32) (m_next : Nat → Int32) (m_p1_states : Nat → Int32) : Prop := ((3072 ≤ v2 → (K57 m_next m_p1_states)) ∧ (¬ 3072 ≤ v2 → (w_X2_stateOfCell v2 m_p1_awayChunks m_p1_states (fun r3 => w_X1_canFlow r3 (fun r4 => ((r4 = 0 → (vp_in v2 3072 ∧ (w_X1_flowWater_B50 m_p1_awayChunks Q rec2 K57 v2 v2 (m_p1_states v2.toNatClampNeg) m_next m_p1_states))) ∧ (¬ r4 = 0 → (w_X6_xOf v2 (fun r5 => w_X6_yOf v2 (fun r6 => w_X6_zOf v2 (fun r7 => w_X1_flowAt r5 r6 r7 m_p1_awayChunks m_p1_states (fun r8 => w_X1_flowWater_B50 m_p1_awayChunks Q rec2 K57 v2 v2 r8 m_next m_p1_states))))))))))))
def w_X1_flowWater (m_next : Nat → Int32) (m_p1_awayChunks : Int32) (m_p1_states : Nat → Int32) (Q : Int32 → (Nat → Int32) → (Nat → Int32) → Prop) : Prop := ∃ n : Nat, q_loop (fun (rec : (Int32 × (Nat → Int32) × (Nat → Int32)) → Prop) (a : Int32 × (Nat → Int32) × (Nat → Int32)) => w_X1_flowWater_L2 m_p1_awayChunks Q (fun v2 m_next m_p1_states => rec (v2, m_next, m_p1_states)) (w_X1_flowWater_B57 m_p1_awayChunks Q) a.1 a.2.1 a.2.2) n (0, m_next, m_p1_states)
set_option maxHeartbeats 4000000 in
set_option maxRecDepth 100000 in
theorem c_X1_flowWater {γ : q_G} (a_self a_p1 a_next a_p1_states : Nat) (m_next : Nat → Int32) (m_p1_awayChunks : Int32) (m_p1_states : Nat → Int32) {Q : Int32 → (Nat → Int32) → (Nat → Int32) → Prop} (h : w_X1_flowWater  m_next m_p1_awayChunks m_p1_states Q) : ctR γ yX1_flowWater cX1_flowWater 3 (some .boolean) ({ frames := 4, cells := 0, slots := 0, locals := 240 }) [.ref a_self, .ref a_p1] [(a_self, .inr (1, [.ref a_next])), (a_p1, .inr (2, [.ref a_p1_states, .int m_p1_awayChunks])), (a_next, .inl (γ.2.2.1.1, 3072, .inl m_next)), (a_p1_states, .inl (γ.2.2.1.1, 3072, .inl m_p1_states))] (fun r w1 => ∃ r0 : Int32, ∃ m_next' : Nat → Int32, ∃ m_p1_states' : Nat → Int32, r = some (.int r0) ∧ w1 = [(a_self, .inr (1, [.ref a_next])), (a_p1, .inr (2, [.ref a_p1_states, .int m_p1_awayChunks])), (a_next, .inl (γ.2.2.1.1, 3072, .inl m_next')), (a_p1_states, .inl (γ.2.2.1.1, 3072, .inl m_p1_states'))] ∧ Q r0 m_next' m_p1_states') := by
  refine ctR_of (by decide +kernel) (by simp [lg_sl, Value.category]) ?_
  intro g C E hi
  have C : q_C γ g RX1 cX1_flowWater ({ frames := 4, cells := 0, slots := 0, locals := 240 }) 3 := C
  show V g 0 [(0, .ref a_self), (1, .ref a_p1)] [] [(a_self, .inr (1, [.ref a_next])), (a_p1, .inr (2, [.ref a_p1_states, .int m_p1_awayChunks])), (a_next, .inl (γ.2.2.1.1, 3072, .inl m_next)), (a_p1_states, .inl (γ.2.2.1.1, 3072, .inl m_p1_states))] 0 0
  have B57 : ∀ (m_next : Nat → Int32) (m_p1_states : Nat → Int32), w_X1_flowWater_B57 m_p1_awayChunks Q m_next m_p1_states → V g 57 [(0, .ref a_self), (1, .ref a_p1)] [] [(a_self, .inr (1, [.ref a_next])), (a_p1, .inr (2, [.ref a_p1_states, .int m_p1_awayChunks])), (a_next, .inl (γ.2.2.1.1, 3072, .inl m_next)), (a_p1_states, .inl (γ.2.2.1.1, 3072, .inl m_p1_states))] 0 0 := by
    intro m_next m_p1_states h
    unfold w_X1_flowWater_B57 at h
    refine v_run C [(.aload_n 1, 1, 0, 0), (.aload_n 0, 1, 0, 0)] (pc' := 59) (lv' := [(0, .ref a_self), (1, .ref a_p1)]) (st' := [.ref a_self, .ref a_p1]) (by decide +kernel) (by rfl) ?_
    refine v_get C kX1 0 0 (idx := 9) lkF_RX1_9 ⟨by decide, rfl⟩ rfl rfl (by decide +kernel) ?_
    refine v_callV C kX2 lkV_RX1_54 1 rfl (As := [.ref a_next]) (rest := []) (wr := [(a_self, .inr (1, [.ref a_next]))]) (c_X2_change a_p1 a_next a_p1_states m_p1_awayChunks m_p1_states m_next h) [1, 2, 3] [0] rfl rfl (by decide) (by decide) (Nat.le_of_ble_eq_true rfl) (Nat.le_of_ble_eq_true rfl) rfl rfl (Nat.le_of_ble_eq_true rfl) (by decide +kernel) (fun r w1 hq => ?_)
    obtain ⟨r1, y2, rfl, rfl, h⟩ := hq
    refine v_nc [0, 1] [0, 1, 2, 3] (pc' := 65) (lv' := [(0, .ref a_self), (1, .ref a_p1)]) (st' := [.int r1]) (w' := [(a_self, .inr (1, [.ref a_next])), (a_p1, .inr (2, [.ref a_p1_states, .int m_p1_awayChunks])), (a_next, .inl (γ.2.2.1.1, 3072, .inl m_next)), (a_p1_states, .inl (γ.2.2.1.1, 3072, .inl y2))]) (k' := 0) (n' := 0) rfl rfl rfl rfl rfl (Nat.le_of_ble_eq_true rfl) (Nat.le_of_ble_eq_true rfl) ?_
    obtain ⟨hz, h⟩ := h
    exact v_zret C E hz (Nat.le_of_ble_eq_true rfl) (Nat.le_of_ble_eq_true rfl) ⟨r1, m_next, y2, rfl, rfl, h⟩ (by decide +kernel)
  have L2 : ∀ (n : Nat) (v2 : Int32) (m_next : Nat → Int32) (m_p1_states : Nat → Int32), q_loop (fun (rec : (Int32 × (Nat → Int32) × (Nat → Int32)) → Prop) (a : Int32 × (Nat → Int32) × (Nat → Int32)) => w_X1_flowWater_L2 m_p1_awayChunks Q (fun v2 m_next m_p1_states => rec (v2, m_next, m_p1_states)) (w_X1_flowWater_B57 m_p1_awayChunks Q) a.1 a.2.1 a.2.2) n (v2, m_next, m_p1_states) → V g 2 [(0, .ref a_self), (1, .ref a_p1), (2, .int v2)] [] [(a_self, .inr (1, [.ref a_next])), (a_p1, .inr (2, [.ref a_p1_states, .int m_p1_awayChunks])), (a_next, .inl (γ.2.2.1.1, 3072, .inl m_next)), (a_p1_states, .inl (γ.2.2.1.1, 3072, .inl m_p1_states))] 0 0 := by
    intro n
    induction n with
    | zero =>
      intro v2 m_next m_p1_states h
      exact (show False from h).elim
    | succ n2 ih2 =>
      have B50 : ∀ (v2 : Int32) (s1 : Int32) (s2 : Int32) (m_next : Nat → Int32) (m_p1_states : Nat → Int32), w_X1_flowWater_B50 m_p1_awayChunks Q (fun v2 m_next m_p1_states => q_loop (fun (rec : (Int32 × (Nat → Int32) × (Nat → Int32)) → Prop) (a : Int32 × (Nat → Int32) × (Nat → Int32)) => w_X1_flowWater_L2 m_p1_awayChunks Q (fun v2 m_next m_p1_states => rec (v2, m_next, m_p1_states)) (w_X1_flowWater_B57 m_p1_awayChunks Q) a.1 a.2.1 a.2.2) n2 (v2, m_next, m_p1_states)) (w_X1_flowWater_B57 m_p1_awayChunks Q) v2 s1 s2 m_next m_p1_states → V g 50 [(0, .ref a_self), (1, .ref a_p1), (2, .int v2)] [.int s2, .int s1, .ref a_next] [(a_self, .inr (1, [.ref a_next])), (a_p1, .inr (2, [.ref a_p1_states, .int m_p1_awayChunks])), (a_next, .inl (γ.2.2.1.1, 3072, .inl m_next)), (a_p1_states, .inl (γ.2.2.1.1, 3072, .inl m_p1_states))] 0 0 := by
        intro v2 s1 s2 m_next m_p1_states h
        unfold w_X1_flowWater_B50 at h
        obtain ⟨hin, h⟩ := h
        refine v_iast C 2 rfl hin (w' := [(a_self, .inr (1, [.ref a_next])), (a_p1, .inr (2, [.ref a_p1_states, .int m_p1_awayChunks])), (a_next, .inl (γ.2.2.1.1, 3072, .inl (upd m_next s1.toNatClampNeg s2))), (a_p1_states, .inl (γ.2.2.1.1, 3072, .inl m_p1_states))]) rfl (by decide +kernel) ?_
        refine v_run C [(.iinc 2 1, 3, 1, 0), (.goto (-52), 3, 0, 2)] (pc' := 2) (lv' := [(2, .int (v2 + 1)), (0, .ref a_self), (1, .ref a_p1)]) (st' := []) (by decide +kernel) (by rfl) ?_
        refine v_nm [1, 2, 0] [0, 1, 2, 3] (lv' := [(0, .ref a_self), (1, .ref a_p1), (2, .int (v2 + 1))]) (w' := [(a_self, .inr (1, [.ref a_next])), (a_p1, .inr (2, [.ref a_p1_states, .int m_p1_awayChunks])), (a_next, .inl (γ.2.2.1.1, 3072, .inl (upd m_next s1.toNatClampNeg s2))), (a_p1_states, .inl (γ.2.2.1.1, 3072, .inl m_p1_states))]) (k' := 0) (n' := 0) rfl rfl rfl (Nat.le_of_ble_eq_true rfl) (Nat.le_of_ble_eq_true rfl) ?_
        exact ih2 (v2 + 1) (upd m_next s1.toNatClampNeg s2) m_p1_states h
      intro v2 m_next m_p1_states h
      have h : w_X1_flowWater_L2 m_p1_awayChunks Q (fun v2 m_next m_p1_states => q_loop (fun (rec : (Int32 × (Nat → Int32) × (Nat → Int32)) → Prop) (a : Int32 × (Nat → Int32) × (Nat → Int32)) => w_X1_flowWater_L2 m_p1_awayChunks Q (fun v2 m_next m_p1_states => rec (v2, m_next, m_p1_states)) (w_X1_flowWater_B57 m_p1_awayChunks Q) a.1 a.2.1 a.2.2) n2 (v2, m_next, m_p1_states)) (w_X1_flowWater_B57 m_p1_awayChunks Q) v2 m_next m_p1_states := h
      unfold w_X1_flowWater_L2 at h
      refine v_run C [(.iload_n 2, 1, 0, 0), (.sipush 3072, 3, 3072, 0)] (pc' := 6) (lv' := [(0, .ref a_self), (1, .ref a_p1), (2, .int v2)]) (st' := [.int 3072, .int v2]) (by decide +kernel) (by rfl) ?_
      refine v_icmp_ge C (tgt := 57) (off := 51) (by decide +kernel) (fun c => ?_) (fun c => ?_)
      · have h := h.1 c
        refine v_nm [0, 1] [0, 1, 2, 3] (lv' := [(0, .ref a_self), (1, .ref a_p1)]) (w' := [(a_self, .inr (1, [.ref a_next])), (a_p1, .inr (2, [.ref a_p1_states, .int m_p1_awayChunks])), (a_next, .inl (γ.2.2.1.1, 3072, .inl m_next)), (a_p1_states, .inl (γ.2.2.1.1, 3072, .inl m_p1_states))]) (k' := 0) (n' := 0) rfl rfl rfl (Nat.le_of_ble_eq_true rfl) (Nat.le_of_ble_eq_true rfl) ?_
        exact B57 m_next m_p1_states h
      · have h := h.2 c
        refine v_run C [(.aload_n 0, 1, 0, 0)] (pc' := 10) (lv' := [(0, .ref a_self), (1, .ref a_p1), (2, .int v2)]) (st' := [.ref a_self]) (by decide +kernel) (by rfl) ?_
        refine v_get C kX1 0 0 (idx := 9) lkF_RX1_9 ⟨by decide, rfl⟩ rfl rfl (by decide +kernel) ?_
        refine v_run C [(.iload_n 2, 1, 0, 0), (.aload_n 1, 1, 0, 0), (.iload_n 2, 1, 0, 0)] (pc' := 16) (lv' := [(0, .ref a_self), (1, .ref a_p1), (2, .int v2)]) (st' := [.int v2, .ref a_p1, .int v2, .ref a_next]) (by decide +kernel) (by rfl) ?_
        refine v_callV C kX2 lkV_RX1_22 1 rfl (As := [.int v2]) (rest := [.int v2, .ref a_next]) (wr := [(a_self, .inr (1, [.ref a_next])), (a_next, .inl (γ.2.2.1.1, 3072, .inl m_next))]) (c_X2_stateOfCell a_p1 a_p1_states v2 m_p1_awayChunks m_p1_states h) [1, 3] [0, 2] rfl rfl (by decide) (by decide) (Nat.le_of_ble_eq_true rfl) (Nat.le_of_ble_eq_true rfl) rfl rfl (Nat.le_of_ble_eq_true rfl) (by decide +kernel) (fun r w1 hq => ?_)
        obtain ⟨r3, rfl, rfl, h⟩ := hq
        refine v_nc [0, 1, 2] [0, 2, 1, 3] (pc' := 19) (lv' := [(0, .ref a_self), (1, .ref a_p1), (2, .int v2)]) (st' := [.int r3, .int v2, .ref a_next]) (w' := [(a_self, .inr (1, [.ref a_next])), (a_p1, .inr (2, [.ref a_p1_states, .int m_p1_awayChunks])), (a_next, .inl (γ.2.2.1.1, 3072, .inl m_next)), (a_p1_states, .inl (γ.2.2.1.1, 3072, .inl m_p1_states))]) (k' := 0) (n' := 0) rfl rfl rfl rfl rfl (Nat.le_of_ble_eq_true rfl) (Nat.le_of_ble_eq_true rfl) ?_
        refine v_callS C lkS_RX1_38 (As := [.int r3]) (rest := [.int v2, .ref a_next]) (wr := [(a_self, .inr (1, [.ref a_next])), (a_p1, .inr (2, [.ref a_p1_states, .int m_p1_awayChunks])), (a_next, .inl (γ.2.2.1.1, 3072, .inl m_next)), (a_p1_states, .inl (γ.2.2.1.1, 3072, .inl m_p1_states))]) (c_X1_canFlow r3 h) [] [0, 1, 2, 3] rfl rfl (by decide) (by decide) (Nat.le_of_ble_eq_true rfl) (Nat.le_of_ble_eq_true rfl) rfl rfl (Nat.le_of_ble_eq_true rfl) (by decide +kernel) (fun r w1 hq => ?_)
        obtain ⟨r4, rfl, rfl, h⟩ := hq
        refine v_nc [0, 1, 2] [0, 1, 2, 3] (pc' := 22) (lv' := [(0, .ref a_self), (1, .ref a_p1), (2, .int v2)]) (st' := [.int r4, .int v2, .ref a_next]) (w' := [(a_self, .inr (1, [.ref a_next])), (a_p1, .inr (2, [.ref a_p1_states, .int m_p1_awayChunks])), (a_next, .inl (γ.2.2.1.1, 3072, .inl m_next)), (a_p1_states, .inl (γ.2.2.1.1, 3072, .inl m_p1_states))]) (k' := 0) (n' := 0) rfl rfl rfl rfl rfl (Nat.le_of_ble_eq_true rfl) (Nat.le_of_ble_eq_true rfl) ?_
        refine v_if_eq C (tgt := 44) (off := 22) (by decide +kernel) (fun c => ?_) (fun c => ?_)
        · have h := h.1 c
          refine v_run C [(.aload_n 1, 1, 0, 0)] (pc' := 45) (lv' := [(0, .ref a_self), (1, .ref a_p1), (2, .int v2)]) (st' := [.ref a_p1, .int v2, .ref a_next]) (by decide +kernel) (by rfl) ?_
          refine v_getN C kX2 1 0 (idx := 32) lkFN_RX1_32 ⟨by decide, rfl⟩ rfl rfl (by decide +kernel) ?_
          refine v_run C [(.iload_n 2, 1, 0, 0)] (pc' := 49) (lv' := [(0, .ref a_self), (1, .ref a_p1), (2, .int v2)]) (st' := [.int v2, .ref a_p1_states, .int v2, .ref a_next]) (by decide +kernel) (by rfl) ?_
          obtain ⟨hin, h⟩ := h
          refine v_iald C 3 rfl hin (by decide +kernel) ?_
          exact B50 v2 v2 (m_p1_states v2.toNatClampNeg) m_next m_p1_states h
        · have h := h.2 c
          refine v_run C [(.aload_n 1, 1, 0, 0), (.iload_n 2, 1, 0, 0)] (pc' := 27) (lv' := [(0, .ref a_self), (1, .ref a_p1), (2, .int v2)]) (st' := [.int v2, .ref a_p1, .int v2, .ref a_next]) (by decide +kernel) (by rfl) ?_
          refine v_callSN C lkSN_RX1_41 (As := [.int v2]) (rest := [.ref a_p1, .int v2, .ref a_next]) (wr := [(a_self, .inr (1, [.ref a_next])), (a_p1, .inr (2, [.ref a_p1_states, .int m_p1_awayChunks])), (a_next, .inl (γ.2.2.1.1, 3072, .inl m_next)), (a_p1_states, .inl (γ.2.2.1.1, 3072, .inl m_p1_states))]) (c_X6_xOf v2 h) [] [0, 1, 2, 3] rfl rfl (by decide) (by decide) (Nat.le_of_ble_eq_true rfl) (Nat.le_of_ble_eq_true rfl) rfl rfl (Nat.le_of_ble_eq_true rfl) (by decide +kernel) (fun r w1 hq => ?_)
          obtain ⟨r5, rfl, rfl, h⟩ := hq
          refine v_nc [0, 1, 2] [0, 1, 2, 3] (pc' := 30) (lv' := [(0, .ref a_self), (1, .ref a_p1), (2, .int v2)]) (st' := [.int r5, .ref a_p1, .int v2, .ref a_next]) (w' := [(a_self, .inr (1, [.ref a_next])), (a_p1, .inr (2, [.ref a_p1_states, .int m_p1_awayChunks])), (a_next, .inl (γ.2.2.1.1, 3072, .inl m_next)), (a_p1_states, .inl (γ.2.2.1.1, 3072, .inl m_p1_states))]) (k' := 0) (n' := 0) rfl rfl rfl rfl rfl (Nat.le_of_ble_eq_true rfl) (Nat.le_of_ble_eq_true rfl) ?_
          refine v_run C [(.iload_n 2, 1, 0, 0)] (pc' := 31) (lv' := [(0, .ref a_self), (1, .ref a_p1), (2, .int v2)]) (st' := [.int v2, .int r5, .ref a_p1, .int v2, .ref a_next]) (by decide +kernel) (by rfl) ?_
          refine v_callSN C lkSN_RX1_44 (As := [.int v2]) (rest := [.int r5, .ref a_p1, .int v2, .ref a_next]) (wr := [(a_self, .inr (1, [.ref a_next])), (a_p1, .inr (2, [.ref a_p1_states, .int m_p1_awayChunks])), (a_next, .inl (γ.2.2.1.1, 3072, .inl m_next)), (a_p1_states, .inl (γ.2.2.1.1, 3072, .inl m_p1_states))]) (c_X6_yOf v2 h) [] [0, 1, 2, 3] rfl rfl (by decide) (by decide) (Nat.le_of_ble_eq_true rfl) (Nat.le_of_ble_eq_true rfl) rfl rfl (Nat.le_of_ble_eq_true rfl) (by decide +kernel) (fun r w1 hq => ?_)
          obtain ⟨r6, rfl, rfl, h⟩ := hq
          refine v_nc [0, 1, 2] [0, 1, 2, 3] (pc' := 34) (lv' := [(0, .ref a_self), (1, .ref a_p1), (2, .int v2)]) (st' := [.int r6, .int r5, .ref a_p1, .int v2, .ref a_next]) (w' := [(a_self, .inr (1, [.ref a_next])), (a_p1, .inr (2, [.ref a_p1_states, .int m_p1_awayChunks])), (a_next, .inl (γ.2.2.1.1, 3072, .inl m_next)), (a_p1_states, .inl (γ.2.2.1.1, 3072, .inl m_p1_states))]) (k' := 0) (n' := 0) rfl rfl rfl rfl rfl (Nat.le_of_ble_eq_true rfl) (Nat.le_of_ble_eq_true rfl) ?_
          refine v_run C [(.iload_n 2, 1, 0, 0)] (pc' := 35) (lv' := [(0, .ref a_self), (1, .ref a_p1), (2, .int v2)]) (st' := [.int v2, .int r6, .int r5, .ref a_p1, .int v2, .ref a_next]) (by decide +kernel) (by rfl) ?_
          refine v_callSN C lkSN_RX1_47 (As := [.int v2]) (rest := [.int r6, .int r5, .ref a_p1, .int v2, .ref a_next]) (wr := [(a_self, .inr (1, [.ref a_next])), (a_p1, .inr (2, [.ref a_p1_states, .int m_p1_awayChunks])), (a_next, .inl (γ.2.2.1.1, 3072, .inl m_next)), (a_p1_states, .inl (γ.2.2.1.1, 3072, .inl m_p1_states))]) (c_X6_zOf v2 h) [] [0, 1, 2, 3] rfl rfl (by decide) (by decide) (Nat.le_of_ble_eq_true rfl) (Nat.le_of_ble_eq_true rfl) rfl rfl (Nat.le_of_ble_eq_true rfl) (by decide +kernel) (fun r w1 hq => ?_)
          obtain ⟨r7, rfl, rfl, h⟩ := hq
          refine v_nc [0, 1, 2] [0, 1, 2, 3] (pc' := 38) (lv' := [(0, .ref a_self), (1, .ref a_p1), (2, .int v2)]) (st' := [.int r7, .int r6, .int r5, .ref a_p1, .int v2, .ref a_next]) (w' := [(a_self, .inr (1, [.ref a_next])), (a_p1, .inr (2, [.ref a_p1_states, .int m_p1_awayChunks])), (a_next, .inl (γ.2.2.1.1, 3072, .inl m_next)), (a_p1_states, .inl (γ.2.2.1.1, 3072, .inl m_p1_states))]) (k' := 0) (n' := 0) rfl rfl rfl rfl rfl (Nat.le_of_ble_eq_true rfl) (Nat.le_of_ble_eq_true rfl) ?_
          refine v_callS C lkS_RX1_50 (As := [.ref a_p1, .int r5, .int r6, .int r7]) (rest := [.int v2, .ref a_next]) (wr := [(a_self, .inr (1, [.ref a_next])), (a_next, .inl (γ.2.2.1.1, 3072, .inl m_next))]) (c_X1_flowAt a_p1 a_p1_states r5 r6 r7 m_p1_awayChunks m_p1_states h) [1, 3] [0, 2] rfl rfl (by decide) (by decide) (Nat.le_of_ble_eq_true rfl) (Nat.le_of_ble_eq_true rfl) rfl rfl (Nat.le_of_ble_eq_true rfl) (by decide +kernel) (fun r w1 hq => ?_)
          obtain ⟨r8, rfl, rfl, h⟩ := hq
          refine v_nc [0, 1, 2] [0, 2, 1, 3] (pc' := 41) (lv' := [(0, .ref a_self), (1, .ref a_p1), (2, .int v2)]) (st' := [.int r8, .int v2, .ref a_next]) (w' := [(a_self, .inr (1, [.ref a_next])), (a_p1, .inr (2, [.ref a_p1_states, .int m_p1_awayChunks])), (a_next, .inl (γ.2.2.1.1, 3072, .inl m_next)), (a_p1_states, .inl (γ.2.2.1.1, 3072, .inl m_p1_states))]) (k' := 0) (n' := 0) rfl rfl rfl rfl rfl (Nat.le_of_ble_eq_true rfl) (Nat.le_of_ble_eq_true rfl) ?_
          refine v_run C [(.goto 9, 3, 0, 50)] (pc' := 50) (lv' := [(0, .ref a_self), (1, .ref a_p1), (2, .int v2)]) (st' := [.int r8, .int v2, .ref a_next]) (by decide +kernel) (by rfl) ?_
          exact B50 v2 v2 r8 m_next m_p1_states h
  unfold w_X1_flowWater at h
  refine v_run C [(.iconst 0, 1, 0, 0), (.istore_n 2, 1, 0, 0)] (pc' := 2) (lv' := [(2, .int 0), (0, .ref a_self), (1, .ref a_p1)]) (st' := []) (by decide +kernel) (by rfl) ?_
  refine v_nm [1, 2, 0] [0, 1, 2, 3] (lv' := [(0, .ref a_self), (1, .ref a_p1), (2, .int 0)]) (w' := [(a_self, .inr (1, [.ref a_next])), (a_p1, .inr (2, [.ref a_p1_states, .int m_p1_awayChunks])), (a_next, .inl (γ.2.2.1.1, 3072, .inl m_next)), (a_p1_states, .inl (γ.2.2.1.1, 3072, .inl m_p1_states))]) (k' := 0) (n' := 0) rfl rfl rfl (Nat.le_of_ble_eq_true rfl) (Nat.le_of_ble_eq_true rfl) ?_
  obtain ⟨n, h⟩ := h
  exact L2 n 0 m_next m_p1_states h
def w_X1_pass_B24 (m_p1_awayChunks : Int32) (Q : Int32 → (Nat → Int32) → (Nat → Int32) → Prop) (s0 : Int32) (m_next : Nat → Int32) (m_p1_states : Nat → Int32) : Prop := (narrow .boolean (.int s0) = .int s0 ∧ Q s0 m_next m_p1_states)
def w_X1_pass_B19 (m_p1_awayChunks : Int32) (Q : Int32 → (Nat → Int32) → (Nat → Int32) → Prop) (m_next : Nat → Int32) (m_p1_states : Nat → Int32) : Prop := w_X1_pass_B24 m_p1_awayChunks Q 1 m_next m_p1_states
def w_X1_pass (m_next : Nat → Int32) (m_p1_awayChunks : Int32) (m_p1_states : Nat → Int32) (Q : Int32 → (Nat → Int32) → (Nat → Int32) → Prop) : Prop := w_X1_dropSand m_p1_awayChunks m_p1_states (fun r1 y2 => w_X1_flowWater m_next m_p1_awayChunks y2 (fun r3 y4 y5 => ((¬ r1 = 0 → (w_X1_pass_B19 m_p1_awayChunks Q y4 y5)) ∧ (r1 = 0 → ((r3 = 0 → (w_X1_pass_B24 m_p1_awayChunks Q 0 y4 y5)) ∧ (¬ r3 = 0 → (w_X1_pass_B19 m_p1_awayChunks Q y4 y5)))))))
set_option maxHeartbeats 4000000 in
set_option maxRecDepth 100000 in
theorem c_X1_pass {γ : q_G} (a_self a_p1 a_next a_p1_states : Nat) (m_next : Nat → Int32) (m_p1_awayChunks : Int32) (m_p1_states : Nat → Int32) {Q : Int32 → (Nat → Int32) → (Nat → Int32) → Prop} (h : w_X1_pass  m_next m_p1_awayChunks m_p1_states Q) : ctR γ yX1_pass cX1_pass 4 (some .boolean) ({ frames := 5, cells := 0, slots := 0, locals := 300 }) [.ref a_self, .ref a_p1] [(a_self, .inr (1, [.ref a_next])), (a_p1, .inr (2, [.ref a_p1_states, .int m_p1_awayChunks])), (a_next, .inl (γ.2.2.1.1, 3072, .inl m_next)), (a_p1_states, .inl (γ.2.2.1.1, 3072, .inl m_p1_states))] (fun r w1 => ∃ r0 : Int32, ∃ m_next' : Nat → Int32, ∃ m_p1_states' : Nat → Int32, r = some (.int r0) ∧ w1 = [(a_self, .inr (1, [.ref a_next])), (a_p1, .inr (2, [.ref a_p1_states, .int m_p1_awayChunks])), (a_next, .inl (γ.2.2.1.1, 3072, .inl m_next')), (a_p1_states, .inl (γ.2.2.1.1, 3072, .inl m_p1_states'))] ∧ Q r0 m_next' m_p1_states') := by
  refine ctR_of (by decide +kernel) (by simp [lg_sl, Value.category]) ?_
  intro g C E hi
  have C : q_C γ g RX1 cX1_pass ({ frames := 5, cells := 0, slots := 0, locals := 300 }) 4 := C
  show V g 0 [(0, .ref a_self), (1, .ref a_p1)] [] [(a_self, .inr (1, [.ref a_next])), (a_p1, .inr (2, [.ref a_p1_states, .int m_p1_awayChunks])), (a_next, .inl (γ.2.2.1.1, 3072, .inl m_next)), (a_p1_states, .inl (γ.2.2.1.1, 3072, .inl m_p1_states))] 0 0
  have B24 : ∀ (s0 : Int32) (m_next : Nat → Int32) (m_p1_states : Nat → Int32), w_X1_pass_B24 m_p1_awayChunks Q s0 m_next m_p1_states → V g 24 [] [.int s0] [(a_self, .inr (1, [.ref a_next])), (a_p1, .inr (2, [.ref a_p1_states, .int m_p1_awayChunks])), (a_next, .inl (γ.2.2.1.1, 3072, .inl m_next)), (a_p1_states, .inl (γ.2.2.1.1, 3072, .inl m_p1_states))] 0 0 := by
    intro s0 m_next m_p1_states h
    unfold w_X1_pass_B24 at h
    obtain ⟨hz, h⟩ := h
    exact v_zret C E hz (Nat.le_of_ble_eq_true rfl) (Nat.le_of_ble_eq_true rfl) ⟨s0, m_next, m_p1_states, rfl, rfl, h⟩ (by decide +kernel)
  have B19 : ∀ (m_next : Nat → Int32) (m_p1_states : Nat → Int32), w_X1_pass_B19 m_p1_awayChunks Q m_next m_p1_states → V g 19 [] [] [(a_self, .inr (1, [.ref a_next])), (a_p1, .inr (2, [.ref a_p1_states, .int m_p1_awayChunks])), (a_next, .inl (γ.2.2.1.1, 3072, .inl m_next)), (a_p1_states, .inl (γ.2.2.1.1, 3072, .inl m_p1_states))] 0 0 := by
    intro m_next m_p1_states h
    unfold w_X1_pass_B19 at h
    refine v_run C [(.iconst 1, 1, 1, 0), (.goto 4, 3, 0, 24)] (pc' := 24) (lv' := []) (st' := [.int 1]) (by decide +kernel) (by rfl) ?_
    exact B24 1 m_next m_p1_states h
  unfold w_X1_pass at h
  refine v_run C [(.aload_n 1, 1, 0, 0)] (pc' := 1) (lv' := [(0, .ref a_self), (1, .ref a_p1)]) (st' := [.ref a_p1]) (by decide +kernel) (by rfl) ?_
  refine v_callS C lkS_RX1_15 (As := [.ref a_p1]) (rest := []) (wr := [(a_self, .inr (1, [.ref a_next])), (a_next, .inl (γ.2.2.1.1, 3072, .inl m_next))]) (c_X1_dropSand a_p1 a_p1_states m_p1_awayChunks m_p1_states h) [1, 3] [0, 2] rfl rfl (by decide) (by decide) (Nat.le_of_ble_eq_true rfl) (Nat.le_of_ble_eq_true rfl) rfl rfl (Nat.le_of_ble_eq_true rfl) (by decide +kernel) (fun r w1 hq => ?_)
  obtain ⟨r1, y2, rfl, rfl, h⟩ := hq
  refine v_nc [0, 1] [0, 2, 1, 3] (pc' := 4) (lv' := [(0, .ref a_self), (1, .ref a_p1)]) (st' := [.int r1]) (w' := [(a_self, .inr (1, [.ref a_next])), (a_p1, .inr (2, [.ref a_p1_states, .int m_p1_awayChunks])), (a_next, .inl (γ.2.2.1.1, 3072, .inl m_next)), (a_p1_states, .inl (γ.2.2.1.1, 3072, .inl y2))]) (k' := 0) (n' := 0) rfl rfl rfl rfl rfl (Nat.le_of_ble_eq_true rfl) (Nat.le_of_ble_eq_true rfl) ?_
  refine v_run C [(.istore_n 2, 1, 0, 0), (.aload_n 0, 1, 0, 0), (.aload_n 1, 1, 0, 0)] (pc' := 7) (lv' := [(2, .int r1), (0, .ref a_self), (1, .ref a_p1)]) (st' := [.ref a_p1, .ref a_self]) (by decide +kernel) (by rfl) ?_
  refine v_callV C kX1 lkV_RX1_19 0 rfl (As := [.ref a_p1]) (rest := []) (wr := []) (c_X1_flowWater a_self a_p1 a_next a_p1_states m_next m_p1_awayChunks y2 h) [0, 1, 2, 3] [] rfl rfl (by decide) (by decide) (Nat.le_of_ble_eq_true rfl) (Nat.le_of_ble_eq_true rfl) rfl rfl (Nat.le_of_ble_eq_true rfl) (by decide +kernel) (fun r w1 hq => ?_)
  obtain ⟨r3, y4, y5, rfl, rfl, h⟩ := hq
  refine v_nc [0, 1, 2] [0, 1, 2, 3] (pc' := 10) (lv' := [(2, .int r1), (0, .ref a_self), (1, .ref a_p1)]) (st' := [.int r3]) (w' := [(a_self, .inr (1, [.ref a_next])), (a_p1, .inr (2, [.ref a_p1_states, .int m_p1_awayChunks])), (a_next, .inl (γ.2.2.1.1, 3072, .inl y4)), (a_p1_states, .inl (γ.2.2.1.1, 3072, .inl y5))]) (k' := 0) (n' := 0) rfl rfl rfl rfl rfl (Nat.le_of_ble_eq_true rfl) (Nat.le_of_ble_eq_true rfl) ?_
  refine v_run C [(.istore_n 3, 1, 0, 0), (.iload_n 2, 1, 0, 0)] (pc' := 12) (lv' := [(3, .int r3), (2, .int r1), (0, .ref a_self), (1, .ref a_p1)]) (st' := [.int r1]) (by decide +kernel) (by rfl) ?_
  refine v_if_ne C (tgt := 19) (off := 7) (by decide +kernel) (fun c => ?_) (fun c => ?_)
  · have h := h.1 c
    refine v_nm [] [0, 1, 2, 3] (lv' := []) (w' := [(a_self, .inr (1, [.ref a_next])), (a_p1, .inr (2, [.ref a_p1_states, .int m_p1_awayChunks])), (a_next, .inl (γ.2.2.1.1, 3072, .inl y4)), (a_p1_states, .inl (γ.2.2.1.1, 3072, .inl y5))]) (k' := 0) (n' := 0) rfl rfl rfl (Nat.le_of_ble_eq_true rfl) (Nat.le_of_ble_eq_true rfl) ?_
    exact B19 y4 y5 h
  · have h := h.2 c
    refine v_run C [(.iload_n 3, 1, 0, 0)] (pc' := 16) (lv' := [(3, .int r3), (2, .int r1), (0, .ref a_self), (1, .ref a_p1)]) (st' := [.int r3]) (by decide +kernel) (by rfl) ?_
    refine v_if_eq C (tgt := 23) (off := 7) (by decide +kernel) (fun c => ?_) (fun c => ?_)
    · have h := h.1 c
      refine v_run C [(.iconst 0, 1, 0, 0)] (pc' := 24) (lv' := [(3, .int r3), (2, .int r1), (0, .ref a_self), (1, .ref a_p1)]) (st' := [.int 0]) (by decide +kernel) (by rfl) ?_
      refine v_nm [] [0, 1, 2, 3] (lv' := []) (w' := [(a_self, .inr (1, [.ref a_next])), (a_p1, .inr (2, [.ref a_p1_states, .int m_p1_awayChunks])), (a_next, .inl (γ.2.2.1.1, 3072, .inl y4)), (a_p1_states, .inl (γ.2.2.1.1, 3072, .inl y5))]) (k' := 0) (n' := 0) rfl rfl rfl (Nat.le_of_ble_eq_true rfl) (Nat.le_of_ble_eq_true rfl) ?_
      exact B24 0 y4 y5 h
    · have h := h.2 c
      refine v_nm [] [0, 1, 2, 3] (lv' := []) (w' := [(a_self, .inr (1, [.ref a_next])), (a_p1, .inr (2, [.ref a_p1_states, .int m_p1_awayChunks])), (a_next, .inl (γ.2.2.1.1, 3072, .inl y4)), (a_p1_states, .inl (γ.2.2.1.1, 3072, .inl y5))]) (k' := 0) (n' := 0) rfl rfl rfl (Nat.le_of_ble_eq_true rfl) (Nat.le_of_ble_eq_true rfl) ?_
      exact B19 y4 y5 h
def w_X2_awaySet (m_awayChunks : Int32) (Q : Int32 → Prop) : Prop := Q m_awayChunks
set_option maxHeartbeats 4000000 in
set_option maxRecDepth 100000 in
theorem c_X2_awaySet {γ : q_G} (a_self : Nat) (g_states : Nat) (m_awayChunks : Int32) {Q : Int32 → Prop} (h : w_X2_awaySet  m_awayChunks Q) : ctR γ yX2_awaySet cX2_awaySet 1 (some .int) ({ frames := 1, cells := 0, slots := 0, locals := 60 }) [.ref a_self] [(a_self, .inr (2, [.ref g_states, .int m_awayChunks]))] (fun r w1 => ∃ r0 : Int32, r = some (.int r0) ∧ w1 = [(a_self, .inr (2, [.ref g_states, .int m_awayChunks]))] ∧ Q r0) := by
  refine ctR_of (by decide +kernel) (by simp [lg_sl, Value.category]) ?_
  intro g C E hi
  have C : q_C γ g RX2 cX2_awaySet ({ frames := 1, cells := 0, slots := 0, locals := 60 }) 1 := C
  show V g 0 [(0, .ref a_self)] [] [(a_self, .inr (2, [.ref g_states, .int m_awayChunks]))] 0 0
  unfold w_X2_awaySet at h
  refine v_run C [(.aload_n 0, 1, 0, 0)] (pc' := 1) (lv' := [(0, .ref a_self)]) (st' := [.ref a_self]) (by decide +kernel) (by rfl) ?_
  refine v_get C kX2 0 1 (idx := 15) lkF_RX2_15 ⟨by decide, rfl⟩ rfl rfl (by decide +kernel) ?_
  exact v_iret C E (Nat.le_of_ble_eq_true rfl) (Nat.le_of_ble_eq_true rfl) ⟨m_awayChunks, rfl, rfl, h⟩ (by decide +kernel)
def w_X2_mark_B26 (x1 : Int32) (x2 : Int32) (Q : Int32 → Prop) (s1 : Int32) (m_awayChunks : Int32) : Prop := Q s1
def w_X2_mark (x1 : Int32) (x2 : Int32) (m_awayChunks : Int32) (Q : Int32 → Prop) : Prop := ((x2 = 0 → (w_X2_mark_B26 x1 x2 Q (m_awayChunks &&& ((1 <<< (x1 &&& 31)) ^^^ (-1))) m_awayChunks)) ∧ (¬ x2 = 0 → (w_X2_mark_B26 x1 x2 Q (m_awayChunks ||| (1 <<< (x1 &&& 31))) m_awayChunks)))
set_option maxHeartbeats 4000000 in
set_option maxRecDepth 100000 in
theorem c_X2_mark {γ : q_G} (a_self : Nat) (g_states : Nat) (x1 : Int32) (x2 : Int32) (m_awayChunks : Int32) {Q : Int32 → Prop} (h : w_X2_mark x1 x2 m_awayChunks Q) : ctR γ yX2_mark cX2_mark 4 none ({ frames := 1, cells := 0, slots := 0, locals := 60 }) [.ref a_self, .int x1, .int x2] [(a_self, .inr (2, [.ref g_states, .int m_awayChunks]))] (fun r w1 => ∃ m_awayChunks' : Int32, r = none ∧ w1 = [(a_self, .inr (2, [.ref g_states, .int m_awayChunks']))] ∧ Q m_awayChunks') := by
  refine ctR_of (by decide +kernel) (by simp [lg_sl, Value.category]) ?_
  intro g C E hi
  have C : q_C γ g RX2 cX2_mark ({ frames := 1, cells := 0, slots := 0, locals := 60 }) 4 := C
  show V g 0 [(0, .ref a_self), (1, .int x1), (2, .int x2)] [] [(a_self, .inr (2, [.ref g_states, .int m_awayChunks]))] 0 0
  have B26 : ∀ (s1 : Int32) (m_awayChunks : Int32), w_X2_mark_B26 x1 x2 Q s1 m_awayChunks → V g 26 [] [.int s1, .ref a_self] [(a_self, .inr (2, [.ref g_states, .int m_awayChunks]))] 0 0 := by
    intro s1 m_awayChunks h
    unfold w_X2_mark_B26 at h
    refine v_put C kX2 0 1 (idx := 15) lkF_RX2_15 ⟨by decide, rfl, rfl⟩ rfl rfl rfl (Nat.le_of_ble_eq_true rfl) (w' := [(a_self, .inr (2, [.ref g_states, .int s1]))]) rfl (by decide +kernel) ?_
    exact v_vret C E (Nat.le_of_ble_eq_true rfl) (Nat.le_of_ble_eq_true rfl) ⟨s1, rfl, rfl, h⟩ (by decide +kernel)
  unfold w_X2_mark at h
  refine v_run C [(.iconst 1, 1, 1, 0), (.iload_n 1, 1, 0, 0), (.ishl, 1, 0, 0), (.istore_n 3, 1, 0, 0), (.aload_n 0, 1, 0, 0), (.iload_n 2, 1, 0, 0)] (pc' := 6) (lv' := [(3, .int (1 <<< (x1 &&& 31))), (0, .ref a_self), (1, .int x1), (2, .int x2)]) (st' := [.int x2, .ref a_self]) (by decide +kernel) (by rfl) ?_
  refine v_if_eq C (tgt := 18) (off := 12) (by decide +kernel) (fun c => ?_) (fun c => ?_)
  · have h := h.1 c
    refine v_run C [(.aload_n 0, 1, 0, 0)] (pc' := 19) (lv' := [(3, .int (1 <<< (x1 &&& 31))), (0, .ref a_self), (1, .int x1), (2, .int x2)]) (st' := [.ref a_self, .ref a_self]) (by decide +kernel) (by rfl) ?_
    refine v_get C kX2 0 1 (idx := 15) lkF_RX2_15 ⟨by decide, rfl⟩ rfl rfl (by decide +kernel) ?_
    refine v_run C [(.iload_n 3, 1, 0, 0), (.iconst (-1), 1, (-1), 0), (.ixor, 1, 0, 0), (.iand, 1, 0, 0)] (pc' := 26) (lv' := [(3, .int (1 <<< (x1 &&& 31))), (0, .ref a_self), (1, .int x1), (2, .int x2)]) (st' := [.int (m_awayChunks &&& ((1 <<< (x1 &&& 31)) ^^^ (-1))), .ref a_self]) (by decide +kernel) (by rfl) ?_
    refine v_nm [] [0] (lv' := []) (w' := [(a_self, .inr (2, [.ref g_states, .int m_awayChunks]))]) (k' := 0) (n' := 0) rfl rfl rfl (Nat.le_of_ble_eq_true rfl) (Nat.le_of_ble_eq_true rfl) ?_
    exact B26 (m_awayChunks &&& ((1 <<< (x1 &&& 31)) ^^^ (-1))) m_awayChunks h
  · have h := h.2 c
    refine v_run C [(.aload_n 0, 1, 0, 0)] (pc' := 10) (lv' := [(3, .int (1 <<< (x1 &&& 31))), (0, .ref a_self), (1, .int x1), (2, .int x2)]) (st' := [.ref a_self, .ref a_self]) (by decide +kernel) (by rfl) ?_
    refine v_get C kX2 0 1 (idx := 15) lkF_RX2_15 ⟨by decide, rfl⟩ rfl rfl (by decide +kernel) ?_
    refine v_run C [(.iload_n 3, 1, 0, 0), (.ior, 1, 0, 0), (.goto 11, 3, 0, 26)] (pc' := 26) (lv' := [(3, .int (1 <<< (x1 &&& 31))), (0, .ref a_self), (1, .int x1), (2, .int x2)]) (st' := [.int (m_awayChunks ||| (1 <<< (x1 &&& 31))), .ref a_self]) (by decide +kernel) (by rfl) ?_
    refine v_nm [] [0] (lv' := []) (w' := [(a_self, .inr (2, [.ref g_states, .int m_awayChunks]))]) (k' := 0) (n' := 0) rfl rfl rfl (Nat.le_of_ble_eq_true rfl) (Nat.le_of_ble_eq_true rfl) ?_
    exact B26 (m_awayChunks ||| (1 <<< (x1 &&& 31))) m_awayChunks h
def w_X2_areColumnsHere_B51 (x1 : Int32) (x2 : Int32) (x3 : Int32) (x4 : Int32) (m_awayChunks : Int32) (Q : Int32 → Prop) : Prop := Q 1
def w_X2_areColumnsHere_B37 (x1 : Int32) (x2 : Int32) (x3 : Int32) (x4 : Int32) (m_awayChunks : Int32) (Q : Int32 → Prop) : Prop := Q 0
def w_X2_areColumnsHere_B45 (x1 : Int32) (x2 : Int32) (x3 : Int32) (x4 : Int32) (m_awayChunks : Int32) (Q : Int32 → Prop) (rec3 : Int32 → Prop) (K51 : Prop) (K37 : Prop) (v5 : Int32) : Prop := rec3 (v5 + 1)
def w_X2_areColumnsHere_L15 (x1 : Int32) (x2 : Int32) (x3 : Int32) (x4 : Int32) (m_awayChunks : Int32) (Q : Int32 → Prop) (rec15 : Int32 → Int32 → Prop) (K45 : Int32 → Prop) (K37 : Prop) (v5 : Int32) (v6 : Int32) : Prop := (((x1 + x3) ≤ v6 → (K45 v5)) ∧ (¬ (x1 + x3) ≤ v6 → (w_X6_chunkOf v6 v5 (fun r1 => w_X2_isAway r1 m_awayChunks (fun r2 => ((r2 = 0 → (rec15 v5 (v6 + 1))) ∧ (¬ r2 = 0 → (K37 ))))))))
def w_X2_areColumnsHere_L3 (x1 : Int32) (x2 : Int32) (x3 : Int32) (x4 : Int32) (m_awayChunks : Int32) (Q : Int32 → Prop) (rec3 : Int32 → Prop) (K51 : Prop) (K37 : Prop) (v5 : Int32) : Prop := (((x2 + x4) ≤ v5 → (K51 )) ∧ (¬ (x2 + x4) ≤ v5 → (∃ n : Nat, q_loop (fun (rec : (Int32 × Int32) → Prop) (a : Int32 × Int32) => w_X2_areColumnsHere_L15 x1 x2 x3 x4 m_awayChunks Q (fun v5 v6 => rec (v5, v6)) (w_X2_areColumnsHere_B45 x1 x2 x3 x4 m_awayChunks Q rec3 K51 K37) K37 a.1 a.2) n (v5, x1))))
def w_X2_areColumnsHere (x1 : Int32) (x2 : Int32) (x3 : Int32) (x4 : Int32) (m_awayChunks : Int32) (Q : Int32 → Prop) : Prop := ∃ n : Nat, q_loop (fun (rec : Int32 → Prop) (a : Int32) => w_X2_areColumnsHere_L3 x1 x2 x3 x4 m_awayChunks Q (fun v5 => rec v5) (w_X2_areColumnsHere_B51 x1 x2 x3 x4 m_awayChunks Q) (w_X2_areColumnsHere_B37 x1 x2 x3 x4 m_awayChunks Q) a) n x2
set_option maxHeartbeats 4000000 in
set_option maxRecDepth 100000 in
theorem c_X2_areColumnsHere {γ : q_G} (a_self : Nat) (g_states : Nat) (x1 : Int32) (x2 : Int32) (x3 : Int32) (x4 : Int32) (m_awayChunks : Int32) {Q : Int32 → Prop} (h : w_X2_areColumnsHere x1 x2 x3 x4 m_awayChunks Q) : ctR γ yX2_areColumnsHere cX2_areColumnsHere 7 (some .boolean) ({ frames := 2, cells := 0, slots := 0, locals := 120 }) [.ref a_self, .int x1, .int x2, .int x3, .int x4] [(a_self, .inr (2, [.ref g_states, .int m_awayChunks]))] (fun r w1 => ∃ r0 : Int32, r = some (.int r0) ∧ w1 = [(a_self, .inr (2, [.ref g_states, .int m_awayChunks]))] ∧ Q r0) := by
  refine ctR_of (by decide +kernel) (by simp [lg_sl, Value.category]) ?_
  intro g C E hi
  have C : q_C γ g RX2 cX2_areColumnsHere ({ frames := 2, cells := 0, slots := 0, locals := 120 }) 7 := C
  show V g 0 [(0, .ref a_self), (1, .int x1), (2, .int x2), (3, .int x3), (4, .int x4)] [] [(a_self, .inr (2, [.ref g_states, .int m_awayChunks]))] 0 0
  have B51 : w_X2_areColumnsHere_B51 x1 x2 x3 x4 m_awayChunks Q  → V g 51 [] [] [(a_self, .inr (2, [.ref g_states, .int m_awayChunks]))] 0 0 := by
    intro h
    unfold w_X2_areColumnsHere_B51 at h
    refine v_run C [(.iconst 1, 1, 1, 0)] (pc' := 52) (lv' := []) (st' := [.int 1]) (by decide +kernel) (by rfl) ?_
    exact v_zret C E rfl (Nat.le_of_ble_eq_true rfl) (Nat.le_of_ble_eq_true rfl) ⟨1, rfl, rfl, h⟩ (by decide +kernel)
  have B37 : w_X2_areColumnsHere_B37 x1 x2 x3 x4 m_awayChunks Q  → V g 37 [] [] [(a_self, .inr (2, [.ref g_states, .int m_awayChunks]))] 0 0 := by
    intro h
    unfold w_X2_areColumnsHere_B37 at h
    refine v_run C [(.iconst 0, 1, 0, 0)] (pc' := 38) (lv' := []) (st' := [.int 0]) (by decide +kernel) (by rfl) ?_
    exact v_zret C E rfl (Nat.le_of_ble_eq_true rfl) (Nat.le_of_ble_eq_true rfl) ⟨0, rfl, rfl, h⟩ (by decide +kernel)
  have L3 : ∀ (n : Nat) (v5 : Int32), q_loop (fun (rec : Int32 → Prop) (a : Int32) => w_X2_areColumnsHere_L3 x1 x2 x3 x4 m_awayChunks Q (fun v5 => rec v5) (w_X2_areColumnsHere_B51 x1 x2 x3 x4 m_awayChunks Q) (w_X2_areColumnsHere_B37 x1 x2 x3 x4 m_awayChunks Q) a) n v5 → V g 3 [(0, .ref a_self), (1, .int x1), (2, .int x2), (3, .int x3), (4, .int x4), (5, .int v5)] [] [(a_self, .inr (2, [.ref g_states, .int m_awayChunks]))] 0 0 := by
    intro n
    induction n with
    | zero =>
      intro v5 h
      exact (show False from h).elim
    | succ n3 ih3 =>
      have B45 : ∀ (v5 : Int32), w_X2_areColumnsHere_B45 x1 x2 x3 x4 m_awayChunks Q (fun v5 => q_loop (fun (rec : Int32 → Prop) (a : Int32) => w_X2_areColumnsHere_L3 x1 x2 x3 x4 m_awayChunks Q (fun v5 => rec v5) (w_X2_areColumnsHere_B51 x1 x2 x3 x4 m_awayChunks Q) (w_X2_areColumnsHere_B37 x1 x2 x3 x4 m_awayChunks Q) a) n3 v5) (w_X2_areColumnsHere_B51 x1 x2 x3 x4 m_awayChunks Q) (w_X2_areColumnsHere_B37 x1 x2 x3 x4 m_awayChunks Q) v5 → V g 45 [(0, .ref a_self), (1, .int x1), (2, .int x2), (3, .int x3), (4, .int x4), (5, .int v5)] [] [(a_self, .inr (2, [.ref g_states, .int m_awayChunks]))] 0 0 := by
        intro v5 h
        unfold w_X2_areColumnsHere_B45 at h
        refine v_run C [(.iinc 5 1, 3, 1, 0), (.goto (-45), 3, 0, 3)] (pc' := 3) (lv' := [(5, .int (v5 + 1)), (0, .ref a_self), (1, .int x1), (2, .int x2), (3, .int x3), (4, .int x4)]) (st' := []) (by decide +kernel) (by rfl) ?_
        refine v_nm [1, 2, 3, 4, 5, 0] [0] (lv' := [(0, .ref a_self), (1, .int x1), (2, .int x2), (3, .int x3), (4, .int x4), (5, .int (v5 + 1))]) (w' := [(a_self, .inr (2, [.ref g_states, .int m_awayChunks]))]) (k' := 0) (n' := 0) rfl rfl rfl (Nat.le_of_ble_eq_true rfl) (Nat.le_of_ble_eq_true rfl) ?_
        exact ih3 (v5 + 1) h
      have L15 : ∀ (n : Nat) (v5 : Int32) (v6 : Int32), q_loop (fun (rec : (Int32 × Int32) → Prop) (a : Int32 × Int32) => w_X2_areColumnsHere_L15 x1 x2 x3 x4 m_awayChunks Q (fun v5 v6 => rec (v5, v6)) (w_X2_areColumnsHere_B45 x1 x2 x3 x4 m_awayChunks Q (fun v5 => q_loop (fun (rec : Int32 → Prop) (a : Int32) => w_X2_areColumnsHere_L3 x1 x2 x3 x4 m_awayChunks Q (fun v5 => rec v5) (w_X2_areColumnsHere_B51 x1 x2 x3 x4 m_awayChunks Q) (w_X2_areColumnsHere_B37 x1 x2 x3 x4 m_awayChunks Q) a) n3 v5) (w_X2_areColumnsHere_B51 x1 x2 x3 x4 m_awayChunks Q) (w_X2_areColumnsHere_B37 x1 x2 x3 x4 m_awayChunks Q)) (w_X2_areColumnsHere_B37 x1 x2 x3 x4 m_awayChunks Q) a.1 a.2) n (v5, v6) → V g 15 [(0, .ref a_self), (1, .int x1), (2, .int x2), (3, .int x3), (4, .int x4), (5, .int v5), (6, .int v6)] [] [(a_self, .inr (2, [.ref g_states, .int m_awayChunks]))] 0 0 := by
        intro n
        induction n with
        | zero =>
          intro v5 v6 h
          exact (show False from h).elim
        | succ n15 ih15 =>
          intro v5 v6 h
          have h : w_X2_areColumnsHere_L15 x1 x2 x3 x4 m_awayChunks Q (fun v5 v6 => q_loop (fun (rec : (Int32 × Int32) → Prop) (a : Int32 × Int32) => w_X2_areColumnsHere_L15 x1 x2 x3 x4 m_awayChunks Q (fun v5 v6 => rec (v5, v6)) (w_X2_areColumnsHere_B45 x1 x2 x3 x4 m_awayChunks Q (fun v5 => q_loop (fun (rec : Int32 → Prop) (a : Int32) => w_X2_areColumnsHere_L3 x1 x2 x3 x4 m_awayChunks Q (fun v5 => rec v5) (w_X2_areColumnsHere_B51 x1 x2 x3 x4 m_awayChunks Q) (w_X2_areColumnsHere_B37 x1 x2 x3 x4 m_awayChunks Q) a) n3 v5) (w_X2_areColumnsHere_B51 x1 x2 x3 x4 m_awayChunks Q) (w_X2_areColumnsHere_B37 x1 x2 x3 x4 m_awayChunks Q)) (w_X2_areColumnsHere_B37 x1 x2 x3 x4 m_awayChunks Q) a.1 a.2) n15 (v5, v6)) (w_X2_areColumnsHere_B45 x1 x2 x3 x4 m_awayChunks Q (fun v5 => q_loop (fun (rec : Int32 → Prop) (a : Int32) => w_X2_areColumnsHere_L3 x1 x2 x3 x4 m_awayChunks Q (fun v5 => rec v5) (w_X2_areColumnsHere_B51 x1 x2 x3 x4 m_awayChunks Q) (w_X2_areColumnsHere_B37 x1 x2 x3 x4 m_awayChunks Q) a) n3 v5) (w_X2_areColumnsHere_B51 x1 x2 x3 x4 m_awayChunks Q) (w_X2_areColumnsHere_B37 x1 x2 x3 x4 m_awayChunks Q)) (w_X2_areColumnsHere_B37 x1 x2 x3 x4 m_awayChunks Q) v5 v6 := h
          unfold w_X2_areColumnsHere_L15 at h
          refine v_run C [(.iload 6, 2, 0, 0), (.iload_n 1, 1, 0, 0), (.iload_n 3, 1, 0, 0), (.iadd, 1, 0, 0)] (pc' := 20) (lv' := [(0, .ref a_self), (1, .int x1), (2, .int x2), (3, .int x3), (4, .int x4), (5, .int v5), (6, .int v6)]) (st' := [.int (x1 + x3), .int v6]) (by decide +kernel) (by rfl) ?_
          refine v_icmp_ge C (tgt := 45) (off := 25) (by decide +kernel) (fun c => ?_) (fun c => ?_)
          · have h := h.1 c
            refine v_nm [0, 1, 2, 3, 4, 5] [0] (lv' := [(0, .ref a_self), (1, .int x1), (2, .int x2), (3, .int x3), (4, .int x4), (5, .int v5)]) (w' := [(a_self, .inr (2, [.ref g_states, .int m_awayChunks]))]) (k' := 0) (n' := 0) rfl rfl rfl (Nat.le_of_ble_eq_true rfl) (Nat.le_of_ble_eq_true rfl) ?_
            exact B45 v5 h
          · have h := h.2 c
            refine v_run C [(.aload_n 0, 1, 0, 0), (.iload 6, 2, 0, 0), (.iload 5, 2, 0, 0)] (pc' := 28) (lv' := [(0, .ref a_self), (1, .int x1), (2, .int x2), (3, .int x3), (4, .int x4), (5, .int v5), (6, .int v6)]) (st' := [.int v5, .int v6, .ref a_self]) (by decide +kernel) (by rfl) ?_
            refine v_callSN C lkSN_RX2_19 (As := [.int v6, .int v5]) (rest := [.ref a_self]) (wr := [(a_self, .inr (2, [.ref g_states, .int m_awayChunks]))]) (c_X6_chunkOf v6 v5 h) [] [0] rfl rfl (by decide) (by decide) (Nat.le_of_ble_eq_true rfl) (Nat.le_of_ble_eq_true rfl) rfl rfl (Nat.le_of_ble_eq_true rfl) (by decide +kernel) (fun r w1 hq => ?_)
            obtain ⟨r1, rfl, rfl, h⟩ := hq
            refine v_nc [0, 1, 2, 3, 4, 5, 6] [0] (pc' := 31) (lv' := [(0, .ref a_self), (1, .int x1), (2, .int x2), (3, .int x3), (4, .int x4), (5, .int v5), (6, .int v6)]) (st' := [.int r1, .ref a_self]) (w' := [(a_self, .inr (2, [.ref g_states, .int m_awayChunks]))]) (k' := 0) (n' := 0) rfl rfl rfl rfl rfl (Nat.le_of_ble_eq_true rfl) (Nat.le_of_ble_eq_true rfl) ?_
            refine v_callV C kX2 lkV_RX2_23 0 rfl (As := [.int r1]) (rest := []) (wr := []) (c_X2_isAway a_self g_states r1 m_awayChunks h) [0] [] rfl rfl (by decide) (by decide) (Nat.le_of_ble_eq_true rfl) (Nat.le_of_ble_eq_true rfl) rfl rfl (Nat.le_of_ble_eq_true rfl) (by decide +kernel) (fun r w1 hq => ?_)
            obtain ⟨r2, rfl, rfl, h⟩ := hq
            refine v_nc [0, 1, 2, 3, 4, 5, 6] [0] (pc' := 34) (lv' := [(0, .ref a_self), (1, .int x1), (2, .int x2), (3, .int x3), (4, .int x4), (5, .int v5), (6, .int v6)]) (st' := [.int r2]) (w' := [(a_self, .inr (2, [.ref g_states, .int m_awayChunks]))]) (k' := 0) (n' := 0) rfl rfl rfl rfl rfl (Nat.le_of_ble_eq_true rfl) (Nat.le_of_ble_eq_true rfl) ?_
            refine v_if_eq C (tgt := 39) (off := 5) (by decide +kernel) (fun c => ?_) (fun c => ?_)
            · have h := h.1 c
              refine v_run C [(.iinc 6 1, 3, 1, 0), (.goto (-27), 3, 0, 15)] (pc' := 15) (lv' := [(6, .int (v6 + 1)), (0, .ref a_self), (1, .int x1), (2, .int x2), (3, .int x3), (4, .int x4), (5, .int v5)]) (st' := []) (by decide +kernel) (by rfl) ?_
              refine v_nm [1, 2, 3, 4, 5, 6, 0] [0] (lv' := [(0, .ref a_self), (1, .int x1), (2, .int x2), (3, .int x3), (4, .int x4), (5, .int v5), (6, .int (v6 + 1))]) (w' := [(a_self, .inr (2, [.ref g_states, .int m_awayChunks]))]) (k' := 0) (n' := 0) rfl rfl rfl (Nat.le_of_ble_eq_true rfl) (Nat.le_of_ble_eq_true rfl) ?_
              exact ih15 v5 (v6 + 1) h
            · have h := h.2 c
              refine v_nm [] [0] (lv' := []) (w' := [(a_self, .inr (2, [.ref g_states, .int m_awayChunks]))]) (k' := 0) (n' := 0) rfl rfl rfl (Nat.le_of_ble_eq_true rfl) (Nat.le_of_ble_eq_true rfl) ?_
              exact B37  h
      intro v5 h
      have h : w_X2_areColumnsHere_L3 x1 x2 x3 x4 m_awayChunks Q (fun v5 => q_loop (fun (rec : Int32 → Prop) (a : Int32) => w_X2_areColumnsHere_L3 x1 x2 x3 x4 m_awayChunks Q (fun v5 => rec v5) (w_X2_areColumnsHere_B51 x1 x2 x3 x4 m_awayChunks Q) (w_X2_areColumnsHere_B37 x1 x2 x3 x4 m_awayChunks Q) a) n3 v5) (w_X2_areColumnsHere_B51 x1 x2 x3 x4 m_awayChunks Q) (w_X2_areColumnsHere_B37 x1 x2 x3 x4 m_awayChunks Q) v5 := h
      unfold w_X2_areColumnsHere_L3 at h
      refine v_run C [(.iload 5, 2, 0, 0), (.iload_n 2, 1, 0, 0), (.iload 4, 2, 0, 0), (.iadd, 1, 0, 0)] (pc' := 9) (lv' := [(0, .ref a_self), (1, .int x1), (2, .int x2), (3, .int x3), (4, .int x4), (5, .int v5)]) (st' := [.int (x2 + x4), .int v5]) (by decide +kernel) (by rfl) ?_
      refine v_icmp_ge C (tgt := 51) (off := 42) (by decide +kernel) (fun c => ?_) (fun c => ?_)
      · have h := h.1 c
        refine v_nm [] [0] (lv' := []) (w' := [(a_self, .inr (2, [.ref g_states, .int m_awayChunks]))]) (k' := 0) (n' := 0) rfl rfl rfl (Nat.le_of_ble_eq_true rfl) (Nat.le_of_ble_eq_true rfl) ?_
        exact B51  h
      · have h := h.2 c
        refine v_run C [(.iload_n 1, 1, 0, 0), (.istore 6, 2, 0, 0)] (pc' := 15) (lv' := [(6, .int x1), (0, .ref a_self), (1, .int x1), (2, .int x2), (3, .int x3), (4, .int x4), (5, .int v5)]) (st' := []) (by decide +kernel) (by rfl) ?_
        refine v_nm [1, 2, 3, 4, 5, 6, 0] [0] (lv' := [(0, .ref a_self), (1, .int x1), (2, .int x2), (3, .int x3), (4, .int x4), (5, .int v5), (6, .int x1)]) (w' := [(a_self, .inr (2, [.ref g_states, .int m_awayChunks]))]) (k' := 0) (n' := 0) rfl rfl rfl (Nat.le_of_ble_eq_true rfl) (Nat.le_of_ble_eq_true rfl) ?_
        obtain ⟨n, h⟩ := h
        exact L15 n v5 x1 h
  unfold w_X2_areColumnsHere at h
  refine v_run C [(.iload_n 2, 1, 0, 0), (.istore 5, 2, 0, 0)] (pc' := 3) (lv' := [(5, .int x2), (0, .ref a_self), (1, .int x1), (2, .int x2), (3, .int x3), (4, .int x4)]) (st' := []) (by decide +kernel) (by rfl) ?_
  refine v_nm [1, 2, 3, 4, 5, 0] [0] (lv' := [(0, .ref a_self), (1, .int x1), (2, .int x2), (3, .int x3), (4, .int x4), (5, .int x2)]) (w' := [(a_self, .inr (2, [.ref g_states, .int m_awayChunks]))]) (k' := 0) (n' := 0) rfl rfl rfl (Nat.le_of_ble_eq_true rfl) (Nat.le_of_ble_eq_true rfl) ?_
  obtain ⟨n, h⟩ := h
  exact L3 n x2 h
def w_X2_keptAt_B25 (x1 : Int32) (x2 : Int32) (x3 : Int32) (m_states : Nat → Int32) (Q : Int32 → Prop) (s0 : Int32) : Prop := Q s0
def w_X2_keptAt (x1 : Int32) (x2 : Int32) (x3 : Int32) (m_states : Nat → Int32) (Q : Int32 → Prop) : Prop := w_X6_isInWorld x1 x2 x3 (fun r1 => ((r1 = 0 → (w_X2_keptAt_B25 x1 x2 x3 m_states Q 7)) ∧ (¬ r1 = 0 → (w_X6_indexOf x1 x2 x3 (fun r2 => (vp_in r2 3072 ∧ (w_X2_keptAt_B25 x1 x2 x3 m_states Q (m_states r2.toNatClampNeg))))))))
set_option maxHeartbeats 4000000 in
set_option maxRecDepth 100000 in
theorem c_X2_keptAt {γ : q_G} (a_self a_states : Nat) (g_awayChunks : Int32) (x1 : Int32) (x2 : Int32) (x3 : Int32) (m_states : Nat → Int32) {Q : Int32 → Prop} (h : w_X2_keptAt x1 x2 x3 m_states Q) : ctR γ yX2_keptAt cX2_keptAt 4 (some .int) ({ frames := 2, cells := 0, slots := 0, locals := 120 }) [.ref a_self, .int x1, .int x2, .int x3] [(a_self, .inr (2, [.ref a_states, .int g_awayChunks])), (a_states, .inl (γ.2.2.1.1, 3072, .inl m_states))] (fun r w1 => ∃ r0 : Int32, r = some (.int r0) ∧ w1 = [(a_self, .inr (2, [.ref a_states, .int g_awayChunks])), (a_states, .inl (γ.2.2.1.1, 3072, .inl m_states))] ∧ Q r0) := by
  refine ctR_of (by decide +kernel) (by simp [lg_sl, Value.category]) ?_
  intro g C E hi
  have C : q_C γ g RX2 cX2_keptAt ({ frames := 2, cells := 0, slots := 0, locals := 120 }) 4 := C
  show V g 0 [(0, .ref a_self), (1, .int x1), (2, .int x2), (3, .int x3)] [] [(a_self, .inr (2, [.ref a_states, .int g_awayChunks])), (a_states, .inl (γ.2.2.1.1, 3072, .inl m_states))] 0 0
  have B25 : ∀ (s0 : Int32), w_X2_keptAt_B25 x1 x2 x3 m_states Q s0 → V g 25 [] [.int s0] [(a_self, .inr (2, [.ref a_states, .int g_awayChunks])), (a_states, .inl (γ.2.2.1.1, 3072, .inl m_states))] 0 0 := by
    intro s0 h
    unfold w_X2_keptAt_B25 at h
    exact v_iret C E (Nat.le_of_ble_eq_true rfl) (Nat.le_of_ble_eq_true rfl) ⟨s0, rfl, rfl, h⟩ (by decide +kernel)
  unfold w_X2_keptAt at h
  refine v_run C [(.iload_n 1, 1, 0, 0), (.iload_n 2, 1, 0, 0), (.iload_n 3, 1, 0, 0)] (pc' := 3) (lv' := [(0, .ref a_self), (1, .int x1), (2, .int x2), (3, .int x3)]) (st' := [.int x3, .int x2, .int x1]) (by decide +kernel) (by rfl) ?_
  refine v_callSN C lkSN_RX2_27 (As := [.int x1, .int x2, .int x3]) (rest := []) (wr := [(a_self, .inr (2, [.ref a_states, .int g_awayChunks])), (a_states, .inl (γ.2.2.1.1, 3072, .inl m_states))]) (c_X6_isInWorld x1 x2 x3 h) [] [0, 1] rfl rfl (by decide) (by decide) (Nat.le_of_ble_eq_true rfl) (Nat.le_of_ble_eq_true rfl) rfl rfl (Nat.le_of_ble_eq_true rfl) (by decide +kernel) (fun r w1 hq => ?_)
  obtain ⟨r1, rfl, rfl, h⟩ := hq
  refine v_nc [0, 1, 2, 3] [0, 1] (pc' := 6) (lv' := [(0, .ref a_self), (1, .int x1), (2, .int x2), (3, .int x3)]) (st' := [.int r1]) (w' := [(a_self, .inr (2, [.ref a_states, .int g_awayChunks])), (a_states, .inl (γ.2.2.1.1, 3072, .inl m_states))]) (k' := 0) (n' := 0) rfl rfl rfl rfl rfl (Nat.le_of_ble_eq_true rfl) (Nat.le_of_ble_eq_true rfl) ?_
  refine v_if_eq C (tgt := 23) (off := 17) (by decide +kernel) (fun c => ?_) (fun c => ?_)
  · have h := h.1 c
    refine v_run C [(.bipush 7, 2, 7, 0)] (pc' := 25) (lv' := [(0, .ref a_self), (1, .int x1), (2, .int x2), (3, .int x3)]) (st' := [.int 7]) (by decide +kernel) (by rfl) ?_
    refine v_nm [] [0, 1] (lv' := []) (w' := [(a_self, .inr (2, [.ref a_states, .int g_awayChunks])), (a_states, .inl (γ.2.2.1.1, 3072, .inl m_states))]) (k' := 0) (n' := 0) rfl rfl rfl (Nat.le_of_ble_eq_true rfl) (Nat.le_of_ble_eq_true rfl) ?_
    exact B25 7 h
  · have h := h.2 c
    refine v_run C [(.aload_n 0, 1, 0, 0)] (pc' := 10) (lv' := [(0, .ref a_self), (1, .int x1), (2, .int x2), (3, .int x3)]) (st' := [.ref a_self]) (by decide +kernel) (by rfl) ?_
    refine v_get C kX2 0 0 (idx := 9) lkF_RX2_9 ⟨by decide, rfl⟩ rfl rfl (by decide +kernel) ?_
    refine v_run C [(.iload_n 1, 1, 0, 0), (.iload_n 2, 1, 0, 0), (.iload_n 3, 1, 0, 0)] (pc' := 16) (lv' := [(0, .ref a_self), (1, .int x1), (2, .int x2), (3, .int x3)]) (st' := [.int x3, .int x2, .int x1, .ref a_states]) (by decide +kernel) (by rfl) ?_
    refine v_callSN C lkSN_RX2_31 (As := [.int x1, .int x2, .int x3]) (rest := [.ref a_states]) (wr := [(a_self, .inr (2, [.ref a_states, .int g_awayChunks])), (a_states, .inl (γ.2.2.1.1, 3072, .inl m_states))]) (c_X6_indexOf x1 x2 x3 h) [] [0, 1] rfl rfl (by decide) (by decide) (Nat.le_of_ble_eq_true rfl) (Nat.le_of_ble_eq_true rfl) rfl rfl (Nat.le_of_ble_eq_true rfl) (by decide +kernel) (fun r w1 hq => ?_)
    obtain ⟨r2, rfl, rfl, h⟩ := hq
    refine v_nc [0, 1, 2, 3] [0, 1] (pc' := 19) (lv' := [(0, .ref a_self), (1, .int x1), (2, .int x2), (3, .int x3)]) (st' := [.int r2, .ref a_states]) (w' := [(a_self, .inr (2, [.ref a_states, .int g_awayChunks])), (a_states, .inl (γ.2.2.1.1, 3072, .inl m_states))]) (k' := 0) (n' := 0) rfl rfl rfl rfl rfl (Nat.le_of_ble_eq_true rfl) (Nat.le_of_ble_eq_true rfl) ?_
    obtain ⟨hin, h⟩ := h
    refine v_iald C 1 rfl hin (by decide +kernel) ?_
    refine v_run C [(.goto 5, 3, 0, 25)] (pc' := 25) (lv' := [(0, .ref a_self), (1, .int x1), (2, .int x2), (3, .int x3)]) (st' := [.int (m_states r2.toNatClampNeg)]) (by decide +kernel) (by rfl) ?_
    refine v_nm [] [0, 1] (lv' := []) (w' := [(a_self, .inr (2, [.ref a_states, .int g_awayChunks])), (a_states, .inl (γ.2.2.1.1, 3072, .inl m_states))]) (k' := 0) (n' := 0) rfl rfl rfl (Nat.le_of_ble_eq_true rfl) (Nat.le_of_ble_eq_true rfl) ?_
    exact B25 (m_states r2.toNatClampNeg) h
def w_X2_put_B22 (x1 : Int32) (x2 : Int32) (x3 : Int32) (x4 : Int32) (Q : (Nat → Int32) → Prop) (m_states : Nat → Int32) : Prop := Q m_states
def w_X2_put (x1 : Int32) (x2 : Int32) (x3 : Int32) (x4 : Int32) (m_states : Nat → Int32) (Q : (Nat → Int32) → Prop) : Prop := w_X6_isInWorld x1 x2 x3 (fun r1 => ((r1 = 0 → (w_X2_put_B22 x1 x2 x3 x4 Q m_states)) ∧ (¬ r1 = 0 → (w_X6_indexOf x1 x2 x3 (fun r2 => (vp_in r2 3072 ∧ (w_X2_put_B22 x1 x2 x3 x4 Q (upd m_states r2.toNatClampNeg x4))))))))
set_option maxHeartbeats 4000000 in
set_option maxRecDepth 100000 in
theorem c_X2_put {γ : q_G} (a_self a_states : Nat) (g_awayChunks : Int32) (x1 : Int32) (x2 : Int32) (x3 : Int32) (x4 : Int32) (m_states : Nat → Int32) {Q : (Nat → Int32) → Prop} (h : w_X2_put x1 x2 x3 x4 m_states Q) : ctR γ yX2_put cX2_put 5 none ({ frames := 2, cells := 0, slots := 0, locals := 120 }) [.ref a_self, .int x1, .int x2, .int x3, .int x4] [(a_self, .inr (2, [.ref a_states, .int g_awayChunks])), (a_states, .inl (γ.2.2.1.1, 3072, .inl m_states))] (fun r w1 => ∃ m_states' : Nat → Int32, r = none ∧ w1 = [(a_self, .inr (2, [.ref a_states, .int g_awayChunks])), (a_states, .inl (γ.2.2.1.1, 3072, .inl m_states'))] ∧ Q m_states') := by
  refine ctR_of (by decide +kernel) (by simp [lg_sl, Value.category]) ?_
  intro g C E hi
  have C : q_C γ g RX2 cX2_put ({ frames := 2, cells := 0, slots := 0, locals := 120 }) 5 := C
  show V g 0 [(0, .ref a_self), (1, .int x1), (2, .int x2), (3, .int x3), (4, .int x4)] [] [(a_self, .inr (2, [.ref a_states, .int g_awayChunks])), (a_states, .inl (γ.2.2.1.1, 3072, .inl m_states))] 0 0
  have B22 : ∀ (m_states : Nat → Int32), w_X2_put_B22 x1 x2 x3 x4 Q m_states → V g 22 [] [] [(a_self, .inr (2, [.ref a_states, .int g_awayChunks])), (a_states, .inl (γ.2.2.1.1, 3072, .inl m_states))] 0 0 := by
    intro m_states h
    unfold w_X2_put_B22 at h
    exact v_vret C E (Nat.le_of_ble_eq_true rfl) (Nat.le_of_ble_eq_true rfl) ⟨m_states, rfl, rfl, h⟩ (by decide +kernel)
  unfold w_X2_put at h
  refine v_run C [(.iload_n 1, 1, 0, 0), (.iload_n 2, 1, 0, 0), (.iload_n 3, 1, 0, 0)] (pc' := 3) (lv' := [(0, .ref a_self), (1, .int x1), (2, .int x2), (3, .int x3), (4, .int x4)]) (st' := [.int x3, .int x2, .int x1]) (by decide +kernel) (by rfl) ?_
  refine v_callSN C lkSN_RX2_27 (As := [.int x1, .int x2, .int x3]) (rest := []) (wr := [(a_self, .inr (2, [.ref a_states, .int g_awayChunks])), (a_states, .inl (γ.2.2.1.1, 3072, .inl m_states))]) (c_X6_isInWorld x1 x2 x3 h) [] [0, 1] rfl rfl (by decide) (by decide) (Nat.le_of_ble_eq_true rfl) (Nat.le_of_ble_eq_true rfl) rfl rfl (Nat.le_of_ble_eq_true rfl) (by decide +kernel) (fun r w1 hq => ?_)
  obtain ⟨r1, rfl, rfl, h⟩ := hq
  refine v_nc [0, 1, 2, 3, 4] [0, 1] (pc' := 6) (lv' := [(0, .ref a_self), (1, .int x1), (2, .int x2), (3, .int x3), (4, .int x4)]) (st' := [.int r1]) (w' := [(a_self, .inr (2, [.ref a_states, .int g_awayChunks])), (a_states, .inl (γ.2.2.1.1, 3072, .inl m_states))]) (k' := 0) (n' := 0) rfl rfl rfl rfl rfl (Nat.le_of_ble_eq_true rfl) (Nat.le_of_ble_eq_true rfl) ?_
  refine v_if_eq C (tgt := 22) (off := 16) (by decide +kernel) (fun c => ?_) (fun c => ?_)
  · have h := h.1 c
    refine v_nm [] [0, 1] (lv' := []) (w' := [(a_self, .inr (2, [.ref a_states, .int g_awayChunks])), (a_states, .inl (γ.2.2.1.1, 3072, .inl m_states))]) (k' := 0) (n' := 0) rfl rfl rfl (Nat.le_of_ble_eq_true rfl) (Nat.le_of_ble_eq_true rfl) ?_
    exact B22 m_states h
  · have h := h.2 c
    refine v_run C [(.aload_n 0, 1, 0, 0)] (pc' := 10) (lv' := [(0, .ref a_self), (1, .int x1), (2, .int x2), (3, .int x3), (4, .int x4)]) (st' := [.ref a_self]) (by decide +kernel) (by rfl) ?_
    refine v_get C kX2 0 0 (idx := 9) lkF_RX2_9 ⟨by decide, rfl⟩ rfl rfl (by decide +kernel) ?_
    refine v_run C [(.iload_n 1, 1, 0, 0), (.iload_n 2, 1, 0, 0), (.iload_n 3, 1, 0, 0)] (pc' := 16) (lv' := [(0, .ref a_self), (1, .int x1), (2, .int x2), (3, .int x3), (4, .int x4)]) (st' := [.int x3, .int x2, .int x1, .ref a_states]) (by decide +kernel) (by rfl) ?_
    refine v_callSN C lkSN_RX2_31 (As := [.int x1, .int x2, .int x3]) (rest := [.ref a_states]) (wr := [(a_self, .inr (2, [.ref a_states, .int g_awayChunks])), (a_states, .inl (γ.2.2.1.1, 3072, .inl m_states))]) (c_X6_indexOf x1 x2 x3 h) [] [0, 1] rfl rfl (by decide) (by decide) (Nat.le_of_ble_eq_true rfl) (Nat.le_of_ble_eq_true rfl) rfl rfl (Nat.le_of_ble_eq_true rfl) (by decide +kernel) (fun r w1 hq => ?_)
    obtain ⟨r2, rfl, rfl, h⟩ := hq
    refine v_nc [0, 1, 2, 3, 4] [0, 1] (pc' := 19) (lv' := [(0, .ref a_self), (1, .int x1), (2, .int x2), (3, .int x3), (4, .int x4)]) (st' := [.int r2, .ref a_states]) (w' := [(a_self, .inr (2, [.ref a_states, .int g_awayChunks])), (a_states, .inl (γ.2.2.1.1, 3072, .inl m_states))]) (k' := 0) (n' := 0) rfl rfl rfl rfl rfl (Nat.le_of_ble_eq_true rfl) (Nat.le_of_ble_eq_true rfl) ?_
    refine v_run C [(.iload 4, 2, 0, 0)] (pc' := 21) (lv' := [(0, .ref a_self), (1, .int x1), (2, .int x2), (3, .int x3), (4, .int x4)]) (st' := [.int x4, .int r2, .ref a_states]) (by decide +kernel) (by rfl) ?_
    obtain ⟨hin, h⟩ := h
    refine v_iast C 1 rfl hin (w' := [(a_self, .inr (2, [.ref a_states, .int g_awayChunks])), (a_states, .inl (γ.2.2.1.1, 3072, .inl (upd m_states r2.toNatClampNeg x4)))]) rfl (by decide +kernel) ?_
    refine v_nm [] [0, 1] (lv' := []) (w' := [(a_self, .inr (2, [.ref a_states, .int g_awayChunks])), (a_states, .inl (γ.2.2.1.1, 3072, .inl (upd m_states r2.toNatClampNeg x4)))]) (k' := 0) (n' := 0) rfl rfl rfl (Nat.le_of_ble_eq_true rfl) (Nat.le_of_ble_eq_true rfl) ?_
    exact B22 (upd m_states r2.toNatClampNeg x4) h
def w_X2_takeOver (m_awayChunks : Int32) (m_states : Nat → Int32) (m_p1_awayChunks : Int32) (m_p1_states : Nat → Int32) (Q : Int32 → (Nat → Int32) → Prop) : Prop := Q m_p1_awayChunks (va_cpy m_p1_states m_states (Int32.toNatClampNeg 0) (Int32.toNatClampNeg 0) (Int32.toNatClampNeg 3072))
set_option maxHeartbeats 4000000 in
set_option maxRecDepth 100000 in
theorem c_X2_takeOver {γ : q_G} (a_self a_p1 a_states a_p1_states : Nat) (m_awayChunks : Int32) (m_states : Nat → Int32) (m_p1_awayChunks : Int32) (m_p1_states : Nat → Int32) {Q : Int32 → (Nat → Int32) → Prop} (h : w_X2_takeOver  m_awayChunks m_states m_p1_awayChunks m_p1_states Q) : ctR γ yX2_takeOver cX2_takeOver 2 none ({ frames := 2, cells := 0, slots := 0, locals := 120 }) [.ref a_self, .ref a_p1] [(a_self, .inr (2, [.ref a_states, .int m_awayChunks])), (a_p1, .inr (2, [.ref a_p1_states, .int m_p1_awayChunks])), (a_states, .inl (γ.2.2.1.1, 3072, .inl m_states)), (a_p1_states, .inl (γ.2.2.1.1, 3072, .inl m_p1_states))] (fun r w1 => ∃ m_awayChunks' : Int32, ∃ m_states' : Nat → Int32, r = none ∧ w1 = [(a_self, .inr (2, [.ref a_states, .int m_awayChunks'])), (a_p1, .inr (2, [.ref a_p1_states, .int m_p1_awayChunks])), (a_states, .inl (γ.2.2.1.1, 3072, .inl m_states')), (a_p1_states, .inl (γ.2.2.1.1, 3072, .inl m_p1_states))] ∧ Q m_awayChunks' m_states') := by
  refine ctR_of (by decide +kernel) (by simp [lg_sl, Value.category]) ?_
  intro g C E hi
  have C : q_C γ g RX2 cX2_takeOver ({ frames := 2, cells := 0, slots := 0, locals := 120 }) 2 := C
  show V g 0 [(0, .ref a_self), (1, .ref a_p1)] [] [(a_self, .inr (2, [.ref a_states, .int m_awayChunks])), (a_p1, .inr (2, [.ref a_p1_states, .int m_p1_awayChunks])), (a_states, .inl (γ.2.2.1.1, 3072, .inl m_states)), (a_p1_states, .inl (γ.2.2.1.1, 3072, .inl m_p1_states))] 0 0
  unfold w_X2_takeOver at h
  refine v_run C [(.aload_n 1, 1, 0, 0)] (pc' := 1) (lv' := [(0, .ref a_self), (1, .ref a_p1)]) (st' := [.ref a_p1]) (by decide +kernel) (by rfl) ?_
  refine v_get C kX2 1 0 (idx := 9) lkF_RX2_9 ⟨by decide, rfl⟩ rfl rfl (by decide +kernel) ?_
  refine v_run C [(.iconst 0, 1, 0, 0), (.aload_n 0, 1, 0, 0)] (pc' := 6) (lv' := [(0, .ref a_self), (1, .ref a_p1)]) (st' := [.ref a_self, .int 0, .ref a_p1_states]) (by decide +kernel) (by rfl) ?_
  refine v_get C kX2 0 0 (idx := 9) lkF_RX2_9 ⟨by decide, rfl⟩ rfl rfl (by decide +kernel) ?_
  refine v_run C [(.iconst 0, 1, 0, 0), (.sipush 3072, 3, 3072, 0)] (pc' := 13) (lv' := [(0, .ref a_self), (1, .ref a_p1)]) (st' := [.int 3072, .int 0, .ref a_states, .int 0, .ref a_p1_states]) (by decide +kernel) (by rfl) ?_
  refine v_copyI C lkcpy_RX2_42 3 2 rfl rfl (by decide) (by decide) (by decide) (by decide) (by decide) ⟨Nat.le_of_ble_eq_true rfl, Nat.le_of_ble_eq_true rfl⟩ (w' := [(a_self, .inr (2, [.ref a_states, .int m_awayChunks])), (a_p1, .inr (2, [.ref a_p1_states, .int m_p1_awayChunks])), (a_states, .inl (γ.2.2.1.1, 3072, .inl (va_cpy m_p1_states m_states (Int32.toNatClampNeg 0) (Int32.toNatClampNeg 0) (Int32.toNatClampNeg 3072)))), (a_p1_states, .inl (γ.2.2.1.1, 3072, .inl m_p1_states))]) rfl (by decide +kernel) ?_
  refine v_run C [(.aload_n 0, 1, 0, 0), (.aload_n 1, 1, 0, 0)] (pc' := 18) (lv' := [(0, .ref a_self), (1, .ref a_p1)]) (st' := [.ref a_p1, .ref a_self]) (by decide +kernel) (by rfl) ?_
  refine v_get C kX2 1 1 (idx := 15) lkF_RX2_15 ⟨by decide, rfl⟩ rfl rfl (by decide +kernel) ?_
  refine v_put C kX2 0 1 (idx := 15) lkF_RX2_15 ⟨by decide, rfl, rfl⟩ rfl rfl rfl (Nat.le_of_ble_eq_true rfl) (w' := [(a_self, .inr (2, [.ref a_states, .int m_p1_awayChunks])), (a_p1, .inr (2, [.ref a_p1_states, .int m_p1_awayChunks])), (a_states, .inl (γ.2.2.1.1, 3072, .inl (va_cpy m_p1_states m_states (Int32.toNatClampNeg 0) (Int32.toNatClampNeg 0) (Int32.toNatClampNeg 3072)))), (a_p1_states, .inl (γ.2.2.1.1, 3072, .inl m_p1_states))]) rfl (by decide +kernel) ?_
  exact v_vret C E (Nat.le_of_ble_eq_true rfl) (Nat.le_of_ble_eq_true rfl) ⟨m_p1_awayChunks, va_cpy m_p1_states m_states (Int32.toNatClampNeg 0) (Int32.toNatClampNeg 0) (Int32.toNatClampNeg 3072), rfl, rfl, h⟩ (by decide +kernel)
def w_X2_countOf_B32 (x1 : Int32) (m_awayChunks : Int32) (m_states : Nat → Int32) (Q : Int32 → Prop) (v2 : Int32) : Prop := Q v2
def w_X2_countOf_B26 (x1 : Int32) (m_awayChunks : Int32) (m_states : Nat → Int32) (Q : Int32 → Prop) (rec4 : Int32 → Int32 → Prop) (K32 : Int32 → Prop) (v2 : Int32) (v3 : Int32) : Prop := rec4 v2 (v3 + 1)
def w_X2_countOf_L4 (x1 : Int32) (m_awayChunks : Int32) (m_states : Nat → Int32) (Q : Int32 → Prop) (rec4 : Int32 → Int32 → Prop) (K32 : Int32 → Prop) (v2 : Int32) (v3 : Int32) : Prop := ((3072 ≤ v3 → (K32 v2)) ∧ (¬ 3072 ≤ v3 → (w_X2_stateOfCell v3 m_awayChunks m_states (fun r1 => w_X6_kindOf r1 (fun r2 => ((¬ r2 = x1 → (w_X2_countOf_B26 x1 m_awayChunks m_states Q rec4 K32 v2 v3)) ∧ (r2 = x1 → (w_X2_countOf_B26 x1 m_awayChunks m_states Q rec4 K32 (v2 + 1) v3))))))))
def w_X2_countOf (x1 : Int32) (m_awayChunks : Int32) (m_states : Nat → Int32) (Q : Int32 → Prop) : Prop := ∃ n : Nat, q_loop (fun (rec : (Int32 × Int32) → Prop) (a : Int32 × Int32) => w_X2_countOf_L4 x1 m_awayChunks m_states Q (fun v2 v3 => rec (v2, v3)) (w_X2_countOf_B32 x1 m_awayChunks m_states Q) a.1 a.2) n (0, 0)
set_option maxHeartbeats 4000000 in
set_option maxRecDepth 100000 in
theorem c_X2_countOf {γ : q_G} (a_self a_states : Nat) (x1 : Int32) (m_awayChunks : Int32) (m_states : Nat → Int32) {Q : Int32 → Prop} (h : w_X2_countOf x1 m_awayChunks m_states Q) : ctR γ yX2_countOf cX2_countOf 4 (some .int) ({ frames := 3, cells := 0, slots := 0, locals := 180 }) [.ref a_self, .int x1] [(a_self, .inr (2, [.ref a_states, .int m_awayChunks])), (a_states, .inl (γ.2.2.1.1, 3072, .inl m_states))] (fun r w1 => ∃ r0 : Int32, r = some (.int r0) ∧ w1 = [(a_self, .inr (2, [.ref a_states, .int m_awayChunks])), (a_states, .inl (γ.2.2.1.1, 3072, .inl m_states))] ∧ Q r0) := by
  refine ctR_of (by decide +kernel) (by simp [lg_sl, Value.category]) ?_
  intro g C E hi
  have C : q_C γ g RX2 cX2_countOf ({ frames := 3, cells := 0, slots := 0, locals := 180 }) 4 := C
  show V g 0 [(0, .ref a_self), (1, .int x1)] [] [(a_self, .inr (2, [.ref a_states, .int m_awayChunks])), (a_states, .inl (γ.2.2.1.1, 3072, .inl m_states))] 0 0
  have B32 : ∀ (v2 : Int32), w_X2_countOf_B32 x1 m_awayChunks m_states Q v2 → V g 32 [(2, .int v2)] [] [(a_self, .inr (2, [.ref a_states, .int m_awayChunks])), (a_states, .inl (γ.2.2.1.1, 3072, .inl m_states))] 0 0 := by
    intro v2 h
    unfold w_X2_countOf_B32 at h
    refine v_run C [(.iload_n 2, 1, 0, 0)] (pc' := 33) (lv' := [(2, .int v2)]) (st' := [.int v2]) (by decide +kernel) (by rfl) ?_
    exact v_iret C E (Nat.le_of_ble_eq_true rfl) (Nat.le_of_ble_eq_true rfl) ⟨v2, rfl, rfl, h⟩ (by decide +kernel)
  have L4 : ∀ (n : Nat) (v2 : Int32) (v3 : Int32), q_loop (fun (rec : (Int32 × Int32) → Prop) (a : Int32 × Int32) => w_X2_countOf_L4 x1 m_awayChunks m_states Q (fun v2 v3 => rec (v2, v3)) (w_X2_countOf_B32 x1 m_awayChunks m_states Q) a.1 a.2) n (v2, v3) → V g 4 [(0, .ref a_self), (1, .int x1), (2, .int v2), (3, .int v3)] [] [(a_self, .inr (2, [.ref a_states, .int m_awayChunks])), (a_states, .inl (γ.2.2.1.1, 3072, .inl m_states))] 0 0 := by
    intro n
    induction n with
    | zero =>
      intro v2 v3 h
      exact (show False from h).elim
    | succ n4 ih4 =>
      have B26 : ∀ (v2 : Int32) (v3 : Int32), w_X2_countOf_B26 x1 m_awayChunks m_states Q (fun v2 v3 => q_loop (fun (rec : (Int32 × Int32) → Prop) (a : Int32 × Int32) => w_X2_countOf_L4 x1 m_awayChunks m_states Q (fun v2 v3 => rec (v2, v3)) (w_X2_countOf_B32 x1 m_awayChunks m_states Q) a.1 a.2) n4 (v2, v3)) (w_X2_countOf_B32 x1 m_awayChunks m_states Q) v2 v3 → V g 26 [(0, .ref a_self), (1, .int x1), (2, .int v2), (3, .int v3)] [] [(a_self, .inr (2, [.ref a_states, .int m_awayChunks])), (a_states, .inl (γ.2.2.1.1, 3072, .inl m_states))] 0 0 := by
        intro v2 v3 h
        unfold w_X2_countOf_B26 at h
        refine v_run C [(.iinc 3 1, 3, 1, 0), (.goto (-25), 3, 0, 4)] (pc' := 4) (lv' := [(3, .int (v3 + 1)), (0, .ref a_self), (1, .int x1), (2, .int v2)]) (st' := []) (by decide +kernel) (by rfl) ?_
        refine v_nm [1, 2, 3, 0] [0, 1] (lv' := [(0, .ref a_self), (1, .int x1), (2, .int v2), (3, .int (v3 + 1))]) (w' := [(a_self, .inr (2, [.ref a_states, .int m_awayChunks])), (a_states, .inl (γ.2.2.1.1, 3072, .inl m_states))]) (k' := 0) (n' := 0) rfl rfl rfl (Nat.le_of_ble_eq_true rfl) (Nat.le_of_ble_eq_true rfl) ?_
        exact ih4 v2 (v3 + 1) h
      intro v2 v3 h
      have h : w_X2_countOf_L4 x1 m_awayChunks m_states Q (fun v2 v3 => q_loop (fun (rec : (Int32 × Int32) → Prop) (a : Int32 × Int32) => w_X2_countOf_L4 x1 m_awayChunks m_states Q (fun v2 v3 => rec (v2, v3)) (w_X2_countOf_B32 x1 m_awayChunks m_states Q) a.1 a.2) n4 (v2, v3)) (w_X2_countOf_B32 x1 m_awayChunks m_states Q) v2 v3 := h
      unfold w_X2_countOf_L4 at h
      refine v_run C [(.iload_n 3, 1, 0, 0), (.sipush 3072, 3, 3072, 0)] (pc' := 8) (lv' := [(0, .ref a_self), (1, .int x1), (2, .int v2), (3, .int v3)]) (st' := [.int 3072, .int v3]) (by decide +kernel) (by rfl) ?_
      refine v_icmp_ge C (tgt := 32) (off := 24) (by decide +kernel) (fun c => ?_) (fun c => ?_)
      · have h := h.1 c
        refine v_nm [2] [0, 1] (lv' := [(2, .int v2)]) (w' := [(a_self, .inr (2, [.ref a_states, .int m_awayChunks])), (a_states, .inl (γ.2.2.1.1, 3072, .inl m_states))]) (k' := 0) (n' := 0) rfl rfl rfl (Nat.le_of_ble_eq_true rfl) (Nat.le_of_ble_eq_true rfl) ?_
        exact B32 v2 h
      · have h := h.2 c
        refine v_run C [(.aload_n 0, 1, 0, 0), (.iload_n 3, 1, 0, 0)] (pc' := 13) (lv' := [(0, .ref a_self), (1, .int x1), (2, .int v2), (3, .int v3)]) (st' := [.int v3, .ref a_self]) (by decide +kernel) (by rfl) ?_
        refine v_callV C kX2 lkV_RX2_48 0 rfl (As := [.int v3]) (rest := []) (wr := []) (c_X2_stateOfCell a_self a_states v3 m_awayChunks m_states h) [0, 1] [] rfl rfl (by decide) (by decide) (Nat.le_of_ble_eq_true rfl) (Nat.le_of_ble_eq_true rfl) rfl rfl (Nat.le_of_ble_eq_true rfl) (by decide +kernel) (fun r w1 hq => ?_)
        obtain ⟨r1, rfl, rfl, h⟩ := hq
        refine v_nc [0, 1, 2, 3] [0, 1] (pc' := 16) (lv' := [(0, .ref a_self), (1, .int x1), (2, .int v2), (3, .int v3)]) (st' := [.int r1]) (w' := [(a_self, .inr (2, [.ref a_states, .int m_awayChunks])), (a_states, .inl (γ.2.2.1.1, 3072, .inl m_states))]) (k' := 0) (n' := 0) rfl rfl rfl rfl rfl (Nat.le_of_ble_eq_true rfl) (Nat.le_of_ble_eq_true rfl) ?_
        refine v_callSN C lkSN_RX2_51 (As := [.int r1]) (rest := []) (wr := [(a_self, .inr (2, [.ref a_states, .int m_awayChunks])), (a_states, .inl (γ.2.2.1.1, 3072, .inl m_states))]) (c_X6_kindOf r1 h) [] [0, 1] rfl rfl (by decide) (by decide) (Nat.le_of_ble_eq_true rfl) (Nat.le_of_ble_eq_true rfl) rfl rfl (Nat.le_of_ble_eq_true rfl) (by decide +kernel) (fun r w1 hq => ?_)
        obtain ⟨r2, rfl, rfl, h⟩ := hq
        refine v_nc [0, 1, 2, 3] [0, 1] (pc' := 19) (lv' := [(0, .ref a_self), (1, .int x1), (2, .int v2), (3, .int v3)]) (st' := [.int r2]) (w' := [(a_self, .inr (2, [.ref a_states, .int m_awayChunks])), (a_states, .inl (γ.2.2.1.1, 3072, .inl m_states))]) (k' := 0) (n' := 0) rfl rfl rfl rfl rfl (Nat.le_of_ble_eq_true rfl) (Nat.le_of_ble_eq_true rfl) ?_
        refine v_run C [(.iload_n 1, 1, 0, 0)] (pc' := 20) (lv' := [(0, .ref a_self), (1, .int x1), (2, .int v2), (3, .int v3)]) (st' := [.int x1, .int r2]) (by decide +kernel) (by rfl) ?_
        refine v_icmp_ne C (tgt := 26) (off := 6) (by decide +kernel) (fun c => ?_) (fun c => ?_)
        · have h := h.1 c
          exact B26 v2 v3 h
        · have h := h.2 c
          refine v_run C [(.iinc 2 1, 3, 1, 0)] (pc' := 26) (lv' := [(2, .int (v2 + 1)), (0, .ref a_self), (1, .int x1), (3, .int v3)]) (st' := []) (by decide +kernel) (by rfl) ?_
          refine v_nm [1, 2, 0, 3] [0, 1] (lv' := [(0, .ref a_self), (1, .int x1), (2, .int (v2 + 1)), (3, .int v3)]) (w' := [(a_self, .inr (2, [.ref a_states, .int m_awayChunks])), (a_states, .inl (γ.2.2.1.1, 3072, .inl m_states))]) (k' := 0) (n' := 0) rfl rfl rfl (Nat.le_of_ble_eq_true rfl) (Nat.le_of_ble_eq_true rfl) ?_
          exact B26 (v2 + 1) v3 h
  unfold w_X2_countOf at h
  refine v_run C [(.iconst 0, 1, 0, 0), (.istore_n 2, 1, 0, 0), (.iconst 0, 1, 0, 0), (.istore_n 3, 1, 0, 0)] (pc' := 4) (lv' := [(3, .int 0), (2, .int 0), (0, .ref a_self), (1, .int x1)]) (st' := []) (by decide +kernel) (by rfl) ?_
  refine v_nm [2, 3, 1, 0] [0, 1] (lv' := [(0, .ref a_self), (1, .int x1), (2, .int 0), (3, .int 0)]) (w' := [(a_self, .inr (2, [.ref a_states, .int m_awayChunks])), (a_states, .inl (γ.2.2.1.1, 3072, .inl m_states))]) (k' := 0) (n' := 0) rfl rfl rfl (Nat.le_of_ble_eq_true rfl) (Nat.le_of_ble_eq_true rfl) ?_
  obtain ⟨n, h⟩ := h
  exact L4 n 0 0 h
def w_X2_countSolid_B24 (m_awayChunks : Int32) (m_states : Nat → Int32) (Q : Int32 → Prop) (v1 : Int32) : Prop := Q v1
def w_X2_countSolid_L4 (m_awayChunks : Int32) (m_states : Nat → Int32) (Q : Int32 → Prop) (rec4 : Int32 → Int32 → Prop) (K24 : Int32 → Prop) (v1 : Int32) (v2 : Int32) : Prop := ((6 < v2 → (K24 v1)) ∧ (¬ 6 < v2 → (w_X2_countOf v2 m_awayChunks m_states (fun r1 => rec4 (v1 + r1) (v2 + 1)))))
def w_X2_countSolid (m_awayChunks : Int32) (m_states : Nat → Int32) (Q : Int32 → Prop) : Prop := ∃ n : Nat, q_loop (fun (rec : (Int32 × Int32) → Prop) (a : Int32 × Int32) => w_X2_countSolid_L4 m_awayChunks m_states Q (fun v1 v2 => rec (v1, v2)) (w_X2_countSolid_B24 m_awayChunks m_states Q) a.1 a.2) n (0, 1)
set_option maxHeartbeats 4000000 in
set_option maxRecDepth 100000 in
theorem c_X2_countSolid {γ : q_G} (a_self a_states : Nat) (m_awayChunks : Int32) (m_states : Nat → Int32) {Q : Int32 → Prop} (h : w_X2_countSolid  m_awayChunks m_states Q) : ctR γ yX2_countSolid cX2_countSolid 3 (some .int) ({ frames := 4, cells := 0, slots := 0, locals := 240 }) [.ref a_self] [(a_self, .inr (2, [.ref a_states, .int m_awayChunks])), (a_states, .inl (γ.2.2.1.1, 3072, .inl m_states))] (fun r w1 => ∃ r0 : Int32, r = some (.int r0) ∧ w1 = [(a_self, .inr (2, [.ref a_states, .int m_awayChunks])), (a_states, .inl (γ.2.2.1.1, 3072, .inl m_states))] ∧ Q r0) := by
  refine ctR_of (by decide +kernel) (by simp [lg_sl, Value.category]) ?_
  intro g C E hi
  have C : q_C γ g RX2 cX2_countSolid ({ frames := 4, cells := 0, slots := 0, locals := 240 }) 3 := C
  show V g 0 [(0, .ref a_self)] [] [(a_self, .inr (2, [.ref a_states, .int m_awayChunks])), (a_states, .inl (γ.2.2.1.1, 3072, .inl m_states))] 0 0
  have B24 : ∀ (v1 : Int32), w_X2_countSolid_B24 m_awayChunks m_states Q v1 → V g 24 [(1, .int v1)] [] [(a_self, .inr (2, [.ref a_states, .int m_awayChunks])), (a_states, .inl (γ.2.2.1.1, 3072, .inl m_states))] 0 0 := by
    intro v1 h
    unfold w_X2_countSolid_B24 at h
    refine v_run C [(.iload_n 1, 1, 0, 0)] (pc' := 25) (lv' := [(1, .int v1)]) (st' := [.int v1]) (by decide +kernel) (by rfl) ?_
    exact v_iret C E (Nat.le_of_ble_eq_true rfl) (Nat.le_of_ble_eq_true rfl) ⟨v1, rfl, rfl, h⟩ (by decide +kernel)
  have L4 : ∀ (n : Nat) (v1 : Int32) (v2 : Int32), q_loop (fun (rec : (Int32 × Int32) → Prop) (a : Int32 × Int32) => w_X2_countSolid_L4 m_awayChunks m_states Q (fun v1 v2 => rec (v1, v2)) (w_X2_countSolid_B24 m_awayChunks m_states Q) a.1 a.2) n (v1, v2) → V g 4 [(0, .ref a_self), (1, .int v1), (2, .int v2)] [] [(a_self, .inr (2, [.ref a_states, .int m_awayChunks])), (a_states, .inl (γ.2.2.1.1, 3072, .inl m_states))] 0 0 := by
    intro n
    induction n with
    | zero =>
      intro v1 v2 h
      exact (show False from h).elim
    | succ n4 ih4 =>
      intro v1 v2 h
      have h : w_X2_countSolid_L4 m_awayChunks m_states Q (fun v1 v2 => q_loop (fun (rec : (Int32 × Int32) → Prop) (a : Int32 × Int32) => w_X2_countSolid_L4 m_awayChunks m_states Q (fun v1 v2 => rec (v1, v2)) (w_X2_countSolid_B24 m_awayChunks m_states Q) a.1 a.2) n4 (v1, v2)) (w_X2_countSolid_B24 m_awayChunks m_states Q) v1 v2 := h
      unfold w_X2_countSolid_L4 at h
      refine v_run C [(.iload_n 2, 1, 0, 0), (.bipush 6, 2, 6, 0)] (pc' := 7) (lv' := [(0, .ref a_self), (1, .int v1), (2, .int v2)]) (st' := [.int 6, .int v2]) (by decide +kernel) (by rfl) ?_
      refine v_icmp_gt C (tgt := 24) (off := 17) (by decide +kernel) (fun c => ?_) (fun c => ?_)
      · have h := h.1 c
        refine v_nm [1] [0, 1] (lv' := [(1, .int v1)]) (w' := [(a_self, .inr (2, [.ref a_states, .int m_awayChunks])), (a_states, .inl (γ.2.2.1.1, 3072, .inl m_states))]) (k' := 0) (n' := 0) rfl rfl rfl (Nat.le_of_ble_eq_true rfl) (Nat.le_of_ble_eq_true rfl) ?_
        exact B24 v1 h
      · have h := h.2 c
        refine v_run C [(.iload_n 1, 1, 0, 0), (.aload_n 0, 1, 0, 0), (.iload_n 2, 1, 0, 0)] (pc' := 13) (lv' := [(0, .ref a_self), (1, .int v1), (2, .int v2)]) (st' := [.int v2, .ref a_self, .int v1]) (by decide +kernel) (by rfl) ?_
        refine v_callV C kX2 lkV_RX2_54 0 rfl (As := [.int v2]) (rest := [.int v1]) (wr := []) (c_X2_countOf a_self a_states v2 m_awayChunks m_states h) [0, 1] [] rfl rfl (by decide) (by decide) (Nat.le_of_ble_eq_true rfl) (Nat.le_of_ble_eq_true rfl) rfl rfl (Nat.le_of_ble_eq_true rfl) (by decide +kernel) (fun r w1 hq => ?_)
        obtain ⟨r1, rfl, rfl, h⟩ := hq
        refine v_nc [0, 1, 2] [0, 1] (pc' := 16) (lv' := [(0, .ref a_self), (1, .int v1), (2, .int v2)]) (st' := [.int r1, .int v1]) (w' := [(a_self, .inr (2, [.ref a_states, .int m_awayChunks])), (a_states, .inl (γ.2.2.1.1, 3072, .inl m_states))]) (k' := 0) (n' := 0) rfl rfl rfl rfl rfl (Nat.le_of_ble_eq_true rfl) (Nat.le_of_ble_eq_true rfl) ?_
        refine v_run C [(.iadd, 1, 0, 0), (.istore_n 1, 1, 0, 0), (.iinc 2 1, 3, 1, 0), (.goto (-17), 3, 0, 4)] (pc' := 4) (lv' := [(2, .int (v2 + 1)), (1, .int (v1 + r1)), (0, .ref a_self)]) (st' := []) (by decide +kernel) (by rfl) ?_
        refine v_nm [2, 1, 0] [0, 1] (lv' := [(0, .ref a_self), (1, .int (v1 + r1)), (2, .int (v2 + 1))]) (w' := [(a_self, .inr (2, [.ref a_states, .int m_awayChunks])), (a_states, .inl (γ.2.2.1.1, 3072, .inl m_states))]) (k' := 0) (n' := 0) rfl rfl rfl (Nat.le_of_ble_eq_true rfl) (Nat.le_of_ble_eq_true rfl) ?_
        exact ih4 (v1 + r1) (v2 + 1) h
  unfold w_X2_countSolid at h
  refine v_run C [(.iconst 0, 1, 0, 0), (.istore_n 1, 1, 0, 0), (.iconst 1, 1, 1, 0), (.istore_n 2, 1, 0, 0)] (pc' := 4) (lv' := [(2, .int 1), (1, .int 0), (0, .ref a_self)]) (st' := []) (by decide +kernel) (by rfl) ?_
  refine v_nm [2, 1, 0] [0, 1] (lv' := [(0, .ref a_self), (1, .int 0), (2, .int 1)]) (w' := [(a_self, .inr (2, [.ref a_states, .int m_awayChunks])), (a_states, .inl (γ.2.2.1.1, 3072, .inl m_states))]) (k' := 0) (n' := 0) rfl rfl rfl (Nat.le_of_ble_eq_true rfl) (Nat.le_of_ble_eq_true rfl) ?_
  obtain ⟨n, h⟩ := h
  exact L4 n 0 1 h
def w_X2_countClear (m_awayChunks : Int32) (m_states : Nat → Int32) (Q : Int32 → Prop) : Prop := w_X2_countOf 0 m_awayChunks m_states (fun r1 => w_X2_countOf 2 m_awayChunks m_states (fun r2 => w_X2_countOf 5 m_awayChunks m_states (fun r3 => w_X2_countOf 6 m_awayChunks m_states (fun r4 => Q (((r1 + r2) + r3) + r4)))))
set_option maxHeartbeats 4000000 in
set_option maxRecDepth 100000 in
theorem c_X2_countClear {γ : q_G} (a_self a_states : Nat) (m_awayChunks : Int32) (m_states : Nat → Int32) {Q : Int32 → Prop} (h : w_X2_countClear  m_awayChunks m_states Q) : ctR γ yX2_countClear cX2_countClear 1 (some .int) ({ frames := 4, cells := 0, slots := 0, locals := 240 }) [.ref a_self] [(a_self, .inr (2, [.ref a_states, .int m_awayChunks])), (a_states, .inl (γ.2.2.1.1, 3072, .inl m_states))] (fun r w1 => ∃ r0 : Int32, r = some (.int r0) ∧ w1 = [(a_self, .inr (2, [.ref a_states, .int m_awayChunks])), (a_states, .inl (γ.2.2.1.1, 3072, .inl m_states))] ∧ Q r0) := by
  refine ctR_of (by decide +kernel) (by simp [lg_sl, Value.category]) ?_
  intro g C E hi
  have C : q_C γ g RX2 cX2_countClear ({ frames := 4, cells := 0, slots := 0, locals := 240 }) 1 := C
  show V g 0 [(0, .ref a_self)] [] [(a_self, .inr (2, [.ref a_states, .int m_awayChunks])), (a_states, .inl (γ.2.2.1.1, 3072, .inl m_states))] 0 0
  unfold w_X2_countClear at h
  refine v_run C [(.aload_n 0, 1, 0, 0), (.iconst 0, 1, 0, 0)] (pc' := 2) (lv' := [(0, .ref a_self)]) (st' := [.int 0, .ref a_self]) (by decide +kernel) (by rfl) ?_
  refine v_callV C kX2 lkV_RX2_54 0 rfl (As := [.int 0]) (rest := []) (wr := []) (c_X2_countOf a_self a_states 0 m_awayChunks m_states h) [0, 1] [] rfl rfl (by decide) (by decide) (Nat.le_of_ble_eq_true rfl) (Nat.le_of_ble_eq_true rfl) rfl rfl (Nat.le_of_ble_eq_true rfl) (by decide +kernel) (fun r w1 hq => ?_)
  obtain ⟨r1, rfl, rfl, h⟩ := hq
  refine v_nc [0] [0, 1] (pc' := 5) (lv' := [(0, .ref a_self)]) (st' := [.int r1]) (w' := [(a_self, .inr (2, [.ref a_states, .int m_awayChunks])), (a_states, .inl (γ.2.2.1.1, 3072, .inl m_states))]) (k' := 0) (n' := 0) rfl rfl rfl rfl rfl (Nat.le_of_ble_eq_true rfl) (Nat.le_of_ble_eq_true rfl) ?_
  refine v_run C [(.aload_n 0, 1, 0, 0), (.iconst 2, 1, 2, 0)] (pc' := 7) (lv' := [(0, .ref a_self)]) (st' := [.int 2, .ref a_self, .int r1]) (by decide +kernel) (by rfl) ?_
  refine v_callV C kX2 lkV_RX2_54 0 rfl (As := [.int 2]) (rest := [.int r1]) (wr := []) (c_X2_countOf a_self a_states 2 m_awayChunks m_states h) [0, 1] [] rfl rfl (by decide) (by decide) (Nat.le_of_ble_eq_true rfl) (Nat.le_of_ble_eq_true rfl) rfl rfl (Nat.le_of_ble_eq_true rfl) (by decide +kernel) (fun r w1 hq => ?_)
  obtain ⟨r2, rfl, rfl, h⟩ := hq
  refine v_nc [0] [0, 1] (pc' := 10) (lv' := [(0, .ref a_self)]) (st' := [.int r2, .int r1]) (w' := [(a_self, .inr (2, [.ref a_states, .int m_awayChunks])), (a_states, .inl (γ.2.2.1.1, 3072, .inl m_states))]) (k' := 0) (n' := 0) rfl rfl rfl rfl rfl (Nat.le_of_ble_eq_true rfl) (Nat.le_of_ble_eq_true rfl) ?_
  refine v_run C [(.iadd, 1, 0, 0), (.aload_n 0, 1, 0, 0), (.iconst 5, 1, 5, 0)] (pc' := 13) (lv' := [(0, .ref a_self)]) (st' := [.int 5, .ref a_self, .int (r1 + r2)]) (by decide +kernel) (by rfl) ?_
  refine v_callV C kX2 lkV_RX2_54 0 rfl (As := [.int 5]) (rest := [.int (r1 + r2)]) (wr := []) (c_X2_countOf a_self a_states 5 m_awayChunks m_states h) [0, 1] [] rfl rfl (by decide) (by decide) (Nat.le_of_ble_eq_true rfl) (Nat.le_of_ble_eq_true rfl) rfl rfl (Nat.le_of_ble_eq_true rfl) (by decide +kernel) (fun r w1 hq => ?_)
  obtain ⟨r3, rfl, rfl, h⟩ := hq
  refine v_nc [0] [0, 1] (pc' := 16) (lv' := [(0, .ref a_self)]) (st' := [.int r3, .int (r1 + r2)]) (w' := [(a_self, .inr (2, [.ref a_states, .int m_awayChunks])), (a_states, .inl (γ.2.2.1.1, 3072, .inl m_states))]) (k' := 0) (n' := 0) rfl rfl rfl rfl rfl (Nat.le_of_ble_eq_true rfl) (Nat.le_of_ble_eq_true rfl) ?_
  refine v_run C [(.iadd, 1, 0, 0), (.aload_n 0, 1, 0, 0), (.bipush 6, 2, 6, 0)] (pc' := 20) (lv' := [(0, .ref a_self)]) (st' := [.int 6, .ref a_self, .int ((r1 + r2) + r3)]) (by decide +kernel) (by rfl) ?_
  refine v_callV C kX2 lkV_RX2_54 0 rfl (As := [.int 6]) (rest := [.int ((r1 + r2) + r3)]) (wr := []) (c_X2_countOf a_self a_states 6 m_awayChunks m_states h) [0, 1] [] rfl rfl (by decide) (by decide) (Nat.le_of_ble_eq_true rfl) (Nat.le_of_ble_eq_true rfl) rfl rfl (Nat.le_of_ble_eq_true rfl) (by decide +kernel) (fun r w1 hq => ?_)
  obtain ⟨r4, rfl, rfl, h⟩ := hq
  refine v_nc [0] [0, 1] (pc' := 23) (lv' := [(0, .ref a_self)]) (st' := [.int r4, .int ((r1 + r2) + r3)]) (w' := [(a_self, .inr (2, [.ref a_states, .int m_awayChunks])), (a_states, .inl (γ.2.2.1.1, 3072, .inl m_states))]) (k' := 0) (n' := 0) rfl rfl rfl rfl rfl (Nat.le_of_ble_eq_true rfl) (Nat.le_of_ble_eq_true rfl) ?_
  refine v_run C [(.iadd, 1, 0, 0)] (pc' := 24) (lv' := [(0, .ref a_self)]) (st' := [.int (((r1 + r2) + r3) + r4)]) (by decide +kernel) (by rfl) ?_
  exact v_iret C E (Nat.le_of_ble_eq_true rfl) (Nat.le_of_ble_eq_true rfl) ⟨((r1 + r2) + r3) + r4, rfl, rfl, h⟩ (by decide +kernel)
def w_X3_skyAt_B24 (x1 : Int32) (x2 : Int32) (x3 : Int32) (m_sky : Nat → Int32) (Q : Int32 → Prop) (s0 : Int32) : Prop := Q s0
def w_X3_skyAt (x1 : Int32) (x2 : Int32) (x3 : Int32) (m_sky : Nat → Int32) (Q : Int32 → Prop) : Prop := w_X6_isInWorld x1 x2 x3 (fun r1 => ((r1 = 0 → (w_X3_skyAt_B24 x1 x2 x3 m_sky Q 0)) ∧ (¬ r1 = 0 → (w_X6_indexOf x1 x2 x3 (fun r2 => (vp_in r2 3072 ∧ (w_X3_skyAt_B24 x1 x2 x3 m_sky Q (m_sky r2.toNatClampNeg))))))))
set_option maxHeartbeats 4000000 in
set_option maxRecDepth 100000 in
theorem c_X3_skyAt {γ : q_G} (a_self a_sky : Nat) (g_glow : Nat) (x1 : Int32) (x2 : Int32) (x3 : Int32) (m_sky : Nat → Int32) {Q : Int32 → Prop} (h : w_X3_skyAt x1 x2 x3 m_sky Q) : ctR γ yX3_skyAt cX3_skyAt 4 (some .int) ({ frames := 2, cells := 0, slots := 0, locals := 120 }) [.ref a_self, .int x1, .int x2, .int x3] [(a_self, .inr (3, [.ref a_sky, .ref g_glow])), (a_sky, .inl (γ.2.2.1.1, 3072, .inl m_sky))] (fun r w1 => ∃ r0 : Int32, r = some (.int r0) ∧ w1 = [(a_self, .inr (3, [.ref a_sky, .ref g_glow])), (a_sky, .inl (γ.2.2.1.1, 3072, .inl m_sky))] ∧ Q r0) := by
  refine ctR_of (by decide +kernel) (by simp [lg_sl, Value.category]) ?_
  intro g C E hi
  have C : q_C γ g RX3 cX3_skyAt ({ frames := 2, cells := 0, slots := 0, locals := 120 }) 4 := C
  show V g 0 [(0, .ref a_self), (1, .int x1), (2, .int x2), (3, .int x3)] [] [(a_self, .inr (3, [.ref a_sky, .ref g_glow])), (a_sky, .inl (γ.2.2.1.1, 3072, .inl m_sky))] 0 0
  have B24 : ∀ (s0 : Int32), w_X3_skyAt_B24 x1 x2 x3 m_sky Q s0 → V g 24 [] [.int s0] [(a_self, .inr (3, [.ref a_sky, .ref g_glow])), (a_sky, .inl (γ.2.2.1.1, 3072, .inl m_sky))] 0 0 := by
    intro s0 h
    unfold w_X3_skyAt_B24 at h
    exact v_iret C E (Nat.le_of_ble_eq_true rfl) (Nat.le_of_ble_eq_true rfl) ⟨s0, rfl, rfl, h⟩ (by decide +kernel)
  unfold w_X3_skyAt at h
  refine v_run C [(.iload_n 1, 1, 0, 0), (.iload_n 2, 1, 0, 0), (.iload_n 3, 1, 0, 0)] (pc' := 3) (lv' := [(0, .ref a_self), (1, .int x1), (2, .int x2), (3, .int x3)]) (st' := [.int x3, .int x2, .int x1]) (by decide +kernel) (by rfl) ?_
  refine v_callSN C lkSN_RX3_18 (As := [.int x1, .int x2, .int x3]) (rest := []) (wr := [(a_self, .inr (3, [.ref a_sky, .ref g_glow])), (a_sky, .inl (γ.2.2.1.1, 3072, .inl m_sky))]) (c_X6_isInWorld x1 x2 x3 h) [] [0, 1] rfl rfl (by decide) (by decide) (Nat.le_of_ble_eq_true rfl) (Nat.le_of_ble_eq_true rfl) rfl rfl (Nat.le_of_ble_eq_true rfl) (by decide +kernel) (fun r w1 hq => ?_)
  obtain ⟨r1, rfl, rfl, h⟩ := hq
  refine v_nc [0, 1, 2, 3] [0, 1] (pc' := 6) (lv' := [(0, .ref a_self), (1, .int x1), (2, .int x2), (3, .int x3)]) (st' := [.int r1]) (w' := [(a_self, .inr (3, [.ref a_sky, .ref g_glow])), (a_sky, .inl (γ.2.2.1.1, 3072, .inl m_sky))]) (k' := 0) (n' := 0) rfl rfl rfl rfl rfl (Nat.le_of_ble_eq_true rfl) (Nat.le_of_ble_eq_true rfl) ?_
  refine v_if_eq C (tgt := 23) (off := 17) (by decide +kernel) (fun c => ?_) (fun c => ?_)
  · have h := h.1 c
    refine v_run C [(.iconst 0, 1, 0, 0)] (pc' := 24) (lv' := [(0, .ref a_self), (1, .int x1), (2, .int x2), (3, .int x3)]) (st' := [.int 0]) (by decide +kernel) (by rfl) ?_
    refine v_nm [] [0, 1] (lv' := []) (w' := [(a_self, .inr (3, [.ref a_sky, .ref g_glow])), (a_sky, .inl (γ.2.2.1.1, 3072, .inl m_sky))]) (k' := 0) (n' := 0) rfl rfl rfl (Nat.le_of_ble_eq_true rfl) (Nat.le_of_ble_eq_true rfl) ?_
    exact B24 0 h
  · have h := h.2 c
    refine v_run C [(.aload_n 0, 1, 0, 0)] (pc' := 10) (lv' := [(0, .ref a_self), (1, .int x1), (2, .int x2), (3, .int x3)]) (st' := [.ref a_self]) (by decide +kernel) (by rfl) ?_
    refine v_get C kX3 0 0 (idx := 9) lkF_RX3_9 ⟨by decide, rfl⟩ rfl rfl (by decide +kernel) ?_
    refine v_run C [(.iload_n 1, 1, 0, 0), (.iload_n 2, 1, 0, 0), (.iload_n 3, 1, 0, 0)] (pc' := 16) (lv' := [(0, .ref a_self), (1, .int x1), (2, .int x2), (3, .int x3)]) (st' := [.int x3, .int x2, .int x1, .ref a_sky]) (by decide +kernel) (by rfl) ?_
    refine v_callSN C lkSN_RX3_22 (As := [.int x1, .int x2, .int x3]) (rest := [.ref a_sky]) (wr := [(a_self, .inr (3, [.ref a_sky, .ref g_glow])), (a_sky, .inl (γ.2.2.1.1, 3072, .inl m_sky))]) (c_X6_indexOf x1 x2 x3 h) [] [0, 1] rfl rfl (by decide) (by decide) (Nat.le_of_ble_eq_true rfl) (Nat.le_of_ble_eq_true rfl) rfl rfl (Nat.le_of_ble_eq_true rfl) (by decide +kernel) (fun r w1 hq => ?_)
    obtain ⟨r2, rfl, rfl, h⟩ := hq
    refine v_nc [0, 1, 2, 3] [0, 1] (pc' := 19) (lv' := [(0, .ref a_self), (1, .int x1), (2, .int x2), (3, .int x3)]) (st' := [.int r2, .ref a_sky]) (w' := [(a_self, .inr (3, [.ref a_sky, .ref g_glow])), (a_sky, .inl (γ.2.2.1.1, 3072, .inl m_sky))]) (k' := 0) (n' := 0) rfl rfl rfl rfl rfl (Nat.le_of_ble_eq_true rfl) (Nat.le_of_ble_eq_true rfl) ?_
    obtain ⟨hin, h⟩ := h
    refine v_iald C 1 rfl hin (by decide +kernel) ?_
    refine v_run C [(.goto 4, 3, 0, 24)] (pc' := 24) (lv' := [(0, .ref a_self), (1, .int x1), (2, .int x2), (3, .int x3)]) (st' := [.int (m_sky r2.toNatClampNeg)]) (by decide +kernel) (by rfl) ?_
    refine v_nm [] [0, 1] (lv' := []) (w' := [(a_self, .inr (3, [.ref a_sky, .ref g_glow])), (a_sky, .inl (γ.2.2.1.1, 3072, .inl m_sky))]) (k' := 0) (n' := 0) rfl rfl rfl (Nat.le_of_ble_eq_true rfl) (Nat.le_of_ble_eq_true rfl) ?_
    exact B24 (m_sky r2.toNatClampNeg) h
def w_X3_glowAt_B24 (x1 : Int32) (x2 : Int32) (x3 : Int32) (m_glow : Nat → Int32) (Q : Int32 → Prop) (s0 : Int32) : Prop := Q s0
def w_X3_glowAt (x1 : Int32) (x2 : Int32) (x3 : Int32) (m_glow : Nat → Int32) (Q : Int32 → Prop) : Prop := w_X6_isInWorld x1 x2 x3 (fun r1 => ((r1 = 0 → (w_X3_glowAt_B24 x1 x2 x3 m_glow Q 0)) ∧ (¬ r1 = 0 → (w_X6_indexOf x1 x2 x3 (fun r2 => (vp_in r2 3072 ∧ (w_X3_glowAt_B24 x1 x2 x3 m_glow Q (m_glow r2.toNatClampNeg))))))))
set_option maxHeartbeats 4000000 in
set_option maxRecDepth 100000 in
theorem c_X3_glowAt {γ : q_G} (a_self a_glow : Nat) (g_sky : Nat) (x1 : Int32) (x2 : Int32) (x3 : Int32) (m_glow : Nat → Int32) {Q : Int32 → Prop} (h : w_X3_glowAt x1 x2 x3 m_glow Q) : ctR γ yX3_glowAt cX3_glowAt 4 (some .int) ({ frames := 2, cells := 0, slots := 0, locals := 120 }) [.ref a_self, .int x1, .int x2, .int x3] [(a_self, .inr (3, [.ref g_sky, .ref a_glow])), (a_glow, .inl (γ.2.2.1.1, 3072, .inl m_glow))] (fun r w1 => ∃ r0 : Int32, r = some (.int r0) ∧ w1 = [(a_self, .inr (3, [.ref g_sky, .ref a_glow])), (a_glow, .inl (γ.2.2.1.1, 3072, .inl m_glow))] ∧ Q r0) := by
  refine ctR_of (by decide +kernel) (by simp [lg_sl, Value.category]) ?_
  intro g C E hi
  have C : q_C γ g RX3 cX3_glowAt ({ frames := 2, cells := 0, slots := 0, locals := 120 }) 4 := C
  show V g 0 [(0, .ref a_self), (1, .int x1), (2, .int x2), (3, .int x3)] [] [(a_self, .inr (3, [.ref g_sky, .ref a_glow])), (a_glow, .inl (γ.2.2.1.1, 3072, .inl m_glow))] 0 0
  have B24 : ∀ (s0 : Int32), w_X3_glowAt_B24 x1 x2 x3 m_glow Q s0 → V g 24 [] [.int s0] [(a_self, .inr (3, [.ref g_sky, .ref a_glow])), (a_glow, .inl (γ.2.2.1.1, 3072, .inl m_glow))] 0 0 := by
    intro s0 h
    unfold w_X3_glowAt_B24 at h
    exact v_iret C E (Nat.le_of_ble_eq_true rfl) (Nat.le_of_ble_eq_true rfl) ⟨s0, rfl, rfl, h⟩ (by decide +kernel)
  unfold w_X3_glowAt at h
  refine v_run C [(.iload_n 1, 1, 0, 0), (.iload_n 2, 1, 0, 0), (.iload_n 3, 1, 0, 0)] (pc' := 3) (lv' := [(0, .ref a_self), (1, .int x1), (2, .int x2), (3, .int x3)]) (st' := [.int x3, .int x2, .int x1]) (by decide +kernel) (by rfl) ?_
  refine v_callSN C lkSN_RX3_18 (As := [.int x1, .int x2, .int x3]) (rest := []) (wr := [(a_self, .inr (3, [.ref g_sky, .ref a_glow])), (a_glow, .inl (γ.2.2.1.1, 3072, .inl m_glow))]) (c_X6_isInWorld x1 x2 x3 h) [] [0, 1] rfl rfl (by decide) (by decide) (Nat.le_of_ble_eq_true rfl) (Nat.le_of_ble_eq_true rfl) rfl rfl (Nat.le_of_ble_eq_true rfl) (by decide +kernel) (fun r w1 hq => ?_)
  obtain ⟨r1, rfl, rfl, h⟩ := hq
  refine v_nc [0, 1, 2, 3] [0, 1] (pc' := 6) (lv' := [(0, .ref a_self), (1, .int x1), (2, .int x2), (3, .int x3)]) (st' := [.int r1]) (w' := [(a_self, .inr (3, [.ref g_sky, .ref a_glow])), (a_glow, .inl (γ.2.2.1.1, 3072, .inl m_glow))]) (k' := 0) (n' := 0) rfl rfl rfl rfl rfl (Nat.le_of_ble_eq_true rfl) (Nat.le_of_ble_eq_true rfl) ?_
  refine v_if_eq C (tgt := 23) (off := 17) (by decide +kernel) (fun c => ?_) (fun c => ?_)
  · have h := h.1 c
    refine v_run C [(.iconst 0, 1, 0, 0)] (pc' := 24) (lv' := [(0, .ref a_self), (1, .int x1), (2, .int x2), (3, .int x3)]) (st' := [.int 0]) (by decide +kernel) (by rfl) ?_
    refine v_nm [] [0, 1] (lv' := []) (w' := [(a_self, .inr (3, [.ref g_sky, .ref a_glow])), (a_glow, .inl (γ.2.2.1.1, 3072, .inl m_glow))]) (k' := 0) (n' := 0) rfl rfl rfl (Nat.le_of_ble_eq_true rfl) (Nat.le_of_ble_eq_true rfl) ?_
    exact B24 0 h
  · have h := h.2 c
    refine v_run C [(.aload_n 0, 1, 0, 0)] (pc' := 10) (lv' := [(0, .ref a_self), (1, .int x1), (2, .int x2), (3, .int x3)]) (st' := [.ref a_self]) (by decide +kernel) (by rfl) ?_
    refine v_get C kX3 0 1 (idx := 15) lkF_RX3_15 ⟨by decide, rfl⟩ rfl rfl (by decide +kernel) ?_
    refine v_run C [(.iload_n 1, 1, 0, 0), (.iload_n 2, 1, 0, 0), (.iload_n 3, 1, 0, 0)] (pc' := 16) (lv' := [(0, .ref a_self), (1, .int x1), (2, .int x2), (3, .int x3)]) (st' := [.int x3, .int x2, .int x1, .ref a_glow]) (by decide +kernel) (by rfl) ?_
    refine v_callSN C lkSN_RX3_22 (As := [.int x1, .int x2, .int x3]) (rest := [.ref a_glow]) (wr := [(a_self, .inr (3, [.ref g_sky, .ref a_glow])), (a_glow, .inl (γ.2.2.1.1, 3072, .inl m_glow))]) (c_X6_indexOf x1 x2 x3 h) [] [0, 1] rfl rfl (by decide) (by decide) (Nat.le_of_ble_eq_true rfl) (Nat.le_of_ble_eq_true rfl) rfl rfl (Nat.le_of_ble_eq_true rfl) (by decide +kernel) (fun r w1 hq => ?_)
    obtain ⟨r2, rfl, rfl, h⟩ := hq
    refine v_nc [0, 1, 2, 3] [0, 1] (pc' := 19) (lv' := [(0, .ref a_self), (1, .int x1), (2, .int x2), (3, .int x3)]) (st' := [.int r2, .ref a_glow]) (w' := [(a_self, .inr (3, [.ref g_sky, .ref a_glow])), (a_glow, .inl (γ.2.2.1.1, 3072, .inl m_glow))]) (k' := 0) (n' := 0) rfl rfl rfl rfl rfl (Nat.le_of_ble_eq_true rfl) (Nat.le_of_ble_eq_true rfl) ?_
    obtain ⟨hin, h⟩ := h
    refine v_iald C 1 rfl hin (by decide +kernel) ?_
    refine v_run C [(.goto 4, 3, 0, 24)] (pc' := 24) (lv' := [(0, .ref a_self), (1, .int x1), (2, .int x2), (3, .int x3)]) (st' := [.int (m_glow r2.toNatClampNeg)]) (by decide +kernel) (by rfl) ?_
    refine v_nm [] [0, 1] (lv' := []) (w' := [(a_self, .inr (3, [.ref g_sky, .ref a_glow])), (a_glow, .inl (γ.2.2.1.1, 3072, .inl m_glow))]) (k' := 0) (n' := 0) rfl rfl rfl (Nat.le_of_ble_eq_true rfl) (Nat.le_of_ble_eq_true rfl) ?_
    exact B24 (m_glow r2.toNatClampNeg) h
