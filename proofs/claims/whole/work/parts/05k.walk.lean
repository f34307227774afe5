set_option maxHeartbeats 8000000 in
set_option maxRecDepth 100000 in
theorem ct_X8_canSum (l : Launch) (E : hm_E) (sz : Nat) (h0 : Nat) (r_t : Nat → Nat) (t_base t_taped t_at t_faultPlace t_number t_newBits t_newTold t_newDoings t_newThings t_opened t_sum t_heldAll t_onPaper t_turned t_wasConverted t_lastBits t_lastSum t_lastHeld t_lastLeft t_lastCode t_writtenLong t_codeMany t_acts t_done0 t_stoppedAt : Int32) (t_all : Nat → Int32) (R : Int32 × Unit) (hf : pf_X8_canSum t_all t_base = some R) : hm_Mi l E yX8_canSum cX8_canSum 1 .boolean [] (hm_rr 2 45 0 0) [.ref h0] sz [oc8 h0 r_t t_base t_taped t_at t_faultPlace t_number t_newBits t_newTold t_newDoings t_newThings t_opened t_sum t_heldAll t_onPaper t_turned t_wasConverted t_lastBits t_lastSum t_lastHeld t_lastLeft t_lastCode t_writtenLong t_codeMany t_acts t_done0 t_stoppedAt, ic E (r_t 0) 800 t_all] R.1 (fun _ => [oc8 h0 r_t t_base t_taped t_at t_faultPlace t_number t_newBits t_newTold t_newDoings t_newThings t_opened t_sum t_heldAll t_onPaper t_turned t_wasConverted t_lastBits t_lastSum t_lastHeld t_lastLeft t_lastCode t_writtenLong t_codeMany t_acts t_done0 t_stoppedAt, ic E (r_t 0) 800 t_all]) := by
  refine hm_ct_i R (fun u qs => [oc8 h0 r_t t_base t_taped t_at t_faultPlace t_number t_newBits t_newTold t_newDoings t_newThings t_opened t_sum t_heldAll t_onPaper t_turned t_wasConverted t_lastBits t_lastSum t_lastHeld t_lastLeft t_lastCode t_writtenLong t_codeMany t_acts t_done0 t_stoppedAt, ic E (r_t 0) 800 t_all]) (by decide) (Nat.le_of_ble_eq_true rfl) (Or.inr rfl) ?_
  intro p e s m args below meth c A Q ls H locs hx hb hml hown X hA Y hex w hl hQ
  have hl : lv_has ls 1 [(0, .ref h0)] := hl
  unfold pf_X8_canSum at hf
  refine lv_aload_n hx hb dX8_canSum_0 rfl (lv_at hl 0 rfl) ?_
  refine lv_iconst (v := 0) hx hb dX8_canSum_1 (by decide) ?_
  obtain ⟨r1, hc2, hf⟩ := pf_bi_0 hf
  refine hm_aft_i (ws' := fun _ => [oc8 h0 r_t t_base t_taped t_at t_faultPlace t_number t_newBits t_newTold t_newDoings t_newThings t_opened t_sum t_heldAll t_onPaper t_turned t_wasConverted t_lastBits t_lastSum t_lastHeld t_lastLeft t_lastCode t_writtenLong t_codeMany t_acts t_done0 t_stoppedAt, ic E (r_t 0) 800 t_all]) (hm_runV (rest := []) hx hb hml hown X hA Y w 0 (ci := 7) (T := TX8) (N := 55) rfl rfl mw_X8_get ml_X8_221 dX8_canSum_2 hm_ac0 [.int 0] rfl [0, 1] rfl rfl (ct_X8_get l E H.size h0 r_t t_base t_taped t_at t_faultPlace t_number t_newBits t_newTold t_newDoings t_newThings t_opened t_sum t_heldAll t_onPaper t_turned t_wasConverted t_lastBits t_lastSum t_lastHeld t_lastLeft t_lastCode t_writtenLong t_codeMany t_acts t_done0 t_stoppedAt t_all 0 (r1, ()) hc2) rfl hl.1 ⟨⟨rfl, rfl⟩, ⟨Nat.le_of_ble_eq_true rfl, Nat.le_of_ble_eq_true rfl⟩, ⟨Nat.le_of_ble_eq_true rfl, Nat.le_of_ble_eq_true rfl⟩, Nat.le_of_ble_eq_true rfl⟩) hA w [0, 1] [] [0, 1] rfl rfl (by decide) (fun _ => rfl) (fun _ H locs w => ?_)
  refine lv_if_le (tgt := 29) hx hb dX8_canSum_5 (by decide) (fun c5 => ?_) (fun c5 => ?_)
  · have hf := pf_t c5 hf
    refine lv_iconst (v := 0) hx hb dX8_canSum_29 (by decide) ?_
    exact hQ _ _ _ _ _ () (fun _ => 0) hf rfl w dX8_canSum_30
  · have hf := pf_e c5 hf
    refine lv_aload_n hx hb dX8_canSum_8 rfl (lv_at hl 0 rfl) ?_
    refine lv_bipush (v := 33) hx hb dX8_canSum_9 (by decide) ?_
    refine lv_aload_n hx hb dX8_canSum_11 rfl (lv_at hl 0 rfl) ?_
    refine lv_iconst (v := 0) hx hb dX8_canSum_12 (by decide) ?_
    obtain ⟨r2, hc13, hf⟩ := pf_bi_0 hf
    refine hm_aft_i (ws' := fun _ => [oc8 h0 r_t t_base t_taped t_at t_faultPlace t_number t_newBits t_newTold t_newDoings t_newThings t_opened t_sum t_heldAll t_onPaper t_turned t_wasConverted t_lastBits t_lastSum t_lastHeld t_lastLeft t_lastCode t_writtenLong t_codeMany t_acts t_done0 t_stoppedAt, ic E (r_t 0) 800 t_all]) (hm_runV (rest := [.int 33, .ref h0]) hx hb hml hown X hA Y w 0 (ci := 7) (T := TX8) (N := 55) rfl rfl mw_X8_get ml_X8_221 dX8_canSum_13 hm_ac0 [.int 0] rfl [0, 1] rfl rfl (ct_X8_get l E H.size h0 r_t t_base t_taped t_at t_faultPlace t_number t_newBits t_newTold t_newDoings t_newThings t_opened t_sum t_heldAll t_onPaper t_turned t_wasConverted t_lastBits t_lastSum t_lastHeld t_lastLeft t_lastCode t_writtenLong t_codeMany t_acts t_done0 t_stoppedAt t_all 0 (r2, ()) hc13) rfl hl.1 ⟨⟨rfl, rfl⟩, ⟨Nat.le_of_ble_eq_true rfl, Nat.le_of_ble_eq_true rfl⟩, ⟨Nat.le_of_ble_eq_true rfl, Nat.le_of_ble_eq_true rfl⟩, Nat.le_of_ble_eq_true rfl⟩) hA w [0, 1] [] [0, 1] rfl rfl (by decide) (fun _ => rfl) (fun _ H locs w => ?_)
    obtain ⟨r3, hc16, hf⟩ := pf_bi_0 hf
    refine hm_aft_i (ws' := fun _ => [oc8 h0 r_t t_base t_taped t_at t_faultPlace t_number t_newBits t_newTold t_newDoings t_newThings t_opened t_sum t_heldAll t_onPaper t_turned t_wasConverted t_lastBits t_lastSum t_lastHeld t_lastLeft t_lastCode t_writtenLong t_codeMany t_acts t_done0 t_stoppedAt, ic E (r_t 0) 800 t_all]) (hm_runV (rest := []) hx hb hml hown X hA Y w 0 (ci := 7) (T := TX8) (N := 55) rfl rfl mw_X8_sumOf ml_X8_244 dX8_canSum_16 hm_ac0 [.int 33, .int r2] rfl [0, 1] rfl rfl (ct_X8_sumOf l E H.size h0 r_t t_base t_taped t_at t_faultPlace t_number t_newBits t_newTold t_newDoings t_newThings t_opened t_sum t_heldAll t_onPaper t_turned t_wasConverted t_lastBits t_lastSum t_lastHeld t_lastLeft t_lastCode t_writtenLong t_codeMany t_acts t_done0 t_stoppedAt t_all 33 r2 (r3, ()) hc16) rfl hl.1 ⟨⟨rfl, rfl⟩, ⟨Nat.le_of_ble_eq_true rfl, Nat.le_of_ble_eq_true rfl⟩, ⟨Nat.le_of_ble_eq_true rfl, Nat.le_of_ble_eq_true rfl⟩, Nat.le_of_ble_eq_true rfl⟩) hA w [0, 1] [] [0, 1] rfl rfl (by decide) (fun _ => rfl) (fun _ H locs w => ?_)
    refine lv_sipush (v := 20000) hx hb dX8_canSum_19 (by decide) ?_
    refine lv_icmp_gt (tgt := 29) hx hb dX8_canSum_22 (by decide) (fun c22 => ?_) (fun c22 => ?_)
    · have hf := pf_t c22 hf
      refine lv_iconst (v := 0) hx hb dX8_canSum_29 (by decide) ?_
      exact hQ _ _ _ _ _ () (fun _ => 0) hf rfl w dX8_canSum_30
    · have hf := pf_e c22 hf
      refine lv_iconst (v := 1) hx hb dX8_canSum_25 (by decide) ?_
      refine lv_goto (tgt := 30) hx hb dX8_canSum_26 (by decide) ?_
      exact hQ _ _ _ _ _ () (fun _ => 0) hf rfl w dX8_canSum_30
set_option maxHeartbeats 8000000 in
set_option maxRecDepth 100000 in
theorem ct_X8_layWays (l : Launch) (E : hm_E) (sz : Nat) (h0 : Nat) (r_t : Nat → Nat) (t_base t_taped t_at t_faultPlace t_number t_newBits t_newTold t_newDoings t_newThings t_opened t_sum t_heldAll t_onPaper t_turned t_wasConverted t_lastBits t_lastSum t_lastHeld t_lastLeft t_lastCode t_writtenLong t_codeMany t_acts t_done0 t_stoppedAt : Int32) (t_all : Nat → Int32) (t_ways : Nat → Int32) (R : Int32 × (Nat → Int32)) (hf : pf_X8_layWays t_all t_base t_ways = some R) : hm_Mi l E yX8_layWays cX8_layWays 6 .int [] (hm_rr 2 45 0 0) [.ref h0] sz [oc8 h0 r_t t_base t_taped t_at t_faultPlace t_number t_newBits t_newTold t_newDoings t_newThings t_opened t_sum t_heldAll t_onPaper t_turned t_wasConverted t_lastBits t_lastSum t_lastHeld t_lastLeft t_lastCode t_writtenLong t_codeMany t_acts t_done0 t_stoppedAt, ic E (r_t 0) 800 t_all, ic E (r_t 46) 20001 t_ways] R.1 (fun _ => [oc8 h0 r_t t_base t_taped t_at t_faultPlace t_number t_newBits t_newTold t_newDoings t_newThings t_opened t_sum t_heldAll t_onPaper t_turned t_wasConverted t_lastBits t_lastSum t_lastHeld t_lastLeft t_lastCode t_writtenLong t_codeMany t_acts t_done0 t_stoppedAt, ic E (r_t 0) 800 t_all, ic E (r_t 46) 20001 R.2]) := by
  refine hm_ct_i R (fun u qs => [oc8 h0 r_t t_base t_taped t_at t_faultPlace t_number t_newBits t_newTold t_newDoings t_newThings t_opened t_sum t_heldAll t_onPaper t_turned t_wasConverted t_lastBits t_lastSum t_lastHeld t_lastLeft t_lastCode t_writtenLong t_codeMany t_acts t_done0 t_stoppedAt, ic E (r_t 0) 800 t_all, ic E (r_t 46) 20001 u]) (by decide) (Nat.le_of_ble_eq_true rfl) (Or.inl rfl) ?_
  intro p e s m args below meth c A Q ls H locs hx hb hml hown X hA Y hex w hl hQ
  have hl : lv_has ls 6 [(0, .ref h0)] := hl
  unfold pf_X8_layWays at hf
  refine lv_aload_n hx hb dX8_layWays_0 rfl (lv_at hl 0 rfl) ?_
  refine lv_bipush (v := 33) hx hb dX8_layWays_1 (by decide) ?_
  refine lv_aload_n hx hb dX8_layWays_3 rfl (lv_at hl 0 rfl) ?_
  refine lv_iconst (v := 0) hx hb dX8_layWays_4 (by decide) ?_
  obtain ⟨r1, hc5, hf⟩ := pf_bi_0 hf
  refine hm_aft_i (ws' := fun _ => [oc8 h0 r_t t_base t_taped t_at t_faultPlace t_number t_newBits t_newTold t_newDoings t_newThings t_opened t_sum t_heldAll t_onPaper t_turned t_wasConverted t_lastBits t_lastSum t_lastHeld t_lastLeft t_lastCode t_writtenLong t_codeMany t_acts t_done0 t_stoppedAt, ic E (r_t 0) 800 t_all, ic E (r_t 46) 20001 t_ways]) (hm_runV (rest := [.int 33, .ref h0]) hx hb hml hown X hA Y w 0 (ci := 7) (T := TX8) (N := 55) rfl rfl mw_X8_get ml_X8_221 dX8_layWays_5 hm_ac0 [.int 0] rfl [0, 1] rfl rfl (ct_X8_get l E H.size h0 r_t t_base t_taped t_at t_faultPlace t_number t_newBits t_newTold t_newDoings t_newThings t_opened t_sum t_heldAll t_onPaper t_turned t_wasConverted t_lastBits t_lastSum t_lastHeld t_lastLeft t_lastCode t_writtenLong t_codeMany t_acts t_done0 t_stoppedAt t_all 0 (r1, ()) hc5) rfl hl.1 ⟨⟨rfl, rfl⟩, ⟨Nat.le_of_ble_eq_true rfl, Nat.le_of_ble_eq_true rfl⟩, ⟨Nat.le_of_ble_eq_true rfl, Nat.le_of_ble_eq_true rfl⟩, Nat.le_of_ble_eq_true rfl⟩) hA w [0, 1] [2] [1, 2, 0] rfl rfl (by decide) (fun _ => rfl) (fun _ H locs w => ?_)
  obtain ⟨r2, hc8, hf⟩ := pf_bi_0 hf
  refine hm_aft_i (ws' := fun _ => [oc8 h0 r_t t_base t_taped t_at t_faultPlace t_number t_newBits t_newTold t_newDoings t_newThings t_opened t_sum t_heldAll t_onPaper t_turned t_wasConverted t_lastBits t_lastSum t_lastHeld t_lastLeft t_lastCode t_writtenLong t_codeMany t_acts t_done0 t_stoppedAt, ic E (r_t 0) 800 t_all, ic E (r_t 46) 20001 t_ways]) (hm_runV (rest := []) hx hb hml hown X hA Y w 0 (ci := 7) (T := TX8) (N := 55) rfl rfl mw_X8_sumOf ml_X8_244 dX8_layWays_8 hm_ac0 [.int 33, .int r1] rfl [0, 1] rfl rfl (ct_X8_sumOf l E H.size h0 r_t t_base t_taped t_at t_faultPlace t_number t_newBits t_newTold t_newDoings t_newThings t_opened t_sum t_heldAll t_onPaper t_turned t_wasConverted t_lastBits t_lastSum t_lastHeld t_lastLeft t_lastCode t_writtenLong t_codeMany t_acts t_done0 t_stoppedAt t_all 33 r1 (r2, ()) hc8) rfl hl.1 ⟨⟨rfl, rfl⟩, ⟨Nat.le_of_ble_eq_true rfl, Nat.le_of_ble_eq_true rfl⟩, ⟨Nat.le_of_ble_eq_true rfl, Nat.le_of_ble_eq_true rfl⟩, Nat.le_of_ble_eq_true rfl⟩) hA w [0, 1] [2] [1, 2, 0] rfl rfl (by decide) (fun _ => rfl) (fun _ H locs w => ?_)
  refine lv_istore_n (lv' := [(1, .int r2), (0, .ref h0)]) hx hb dX8_layWays_11 rfl hl (by decide) rfl (fun ls hl => ?_)
  refine lv_iconst (v := 0) hx hb dX8_layWays_12 (by decide) ?_
  refine lv_istore_n (lv' := [(2, .int 0), (1, .int r2), (0, .ref h0)]) hx hb dX8_layWays_13 rfl hl (by decide) rfl (fun ls hl => ?_)
  obtain ⟨J40, hJ40, hf⟩ := pf_jn hf
  have kJ40 : ∀ (f3 : Nat → Int32) (H : Heap) (locs : List Loc) (ls : Array Slot), J40 f3 = some R → hm_W E A s.heap [oc8 h0 r_t t_base t_taped t_at t_faultPlace t_number t_newBits t_newTold t_newDoings t_newThings t_opened t_sum t_heldAll t_onPaper t_turned t_wasConverted t_lastBits t_lastSum t_lastHeld t_lastLeft t_lastCode t_writtenLong t_codeMany t_acts t_done0 t_stoppedAt, ic E (r_t 0) 800 t_all, ic E (r_t 46) 20001 f3] H locs → lv_has ls 6 [(0, .ref h0), (1, .int r2)] → W p l e (hm_rr 2 45 0 0) s m args below meth c H locs 0 0 Q (F0 m 40 ls []) := by
    intro f3 H locs ls hf w hl
    have hf := pf_j1 hJ40 hf
    refine lv_iconst (v := 0) hx hb dX8_layWays_40 (by decide) ?_
    refine lv_istore_n (lv' := [(2, .int 0), (0, .ref h0), (1, .int r2)]) hx hb dX8_layWays_41 rfl hl (by decide) rfl (fun ls hl => ?_)
    refine lv_iconst (v := 0) hx hb dX8_layWays_42 (by decide) ?_
    refine lv_istore_n (lv' := [(3, .int 0), (2, .int 0), (0, .ref h0), (1, .int r2)]) hx hb dX8_layWays_43 rfl hl (by decide) rfl (fun ls hl => ?_)
    have klp_X8_layWays_44 : ∀ (n : Nat) (x4 : Int32) (x5 : Int32) (f6 : Nat → Int32) (H : Heap) (locs : List Loc) (ls : Array Slot), lp_X8_layWays_44 t_base t_all r2 n x4 x5 f6 = some R → hm_W E A s.heap [oc8 h0 r_t t_base t_taped t_at t_faultPlace t_number t_newBits t_newTold t_newDoings t_newThings t_opened t_sum t_heldAll t_onPaper t_turned t_wasConverted t_lastBits t_lastSum t_lastHeld t_lastLeft t_lastCode t_writtenLong t_codeMany t_acts t_done0 t_stoppedAt, ic E (r_t 0) 800 t_all, ic E (r_t 46) 20001 f6] H locs → lv_has ls 6 [(0, .ref h0), (1, .int r2), (2, .int x4), (3, .int x5)] → W p l e (hm_rr 2 45 0 0) s m args below meth c H locs 0 0 Q (F0 m 44 ls []) := by
      intro n
      induction n with
      | zero =>
        intro x4 x5 f6 H locs ls hf w hl
        exact pf_no hf
      | succ n ih44 =>
        intro x4 x5 f6 H locs ls hf w hl
        rw [lp_X8_layWays_44] at hf
        refine lv_iload_n hx hb dX8_layWays_44 rfl (lv_at hl 3 rfl) ?_
        refine lv_aload_n hx hb dX8_layWays_45 rfl (lv_at hl 0 rfl) ?_
        refine lv_iconst (v := 0) hx hb dX8_layWays_46 (by decide) ?_
        obtain ⟨r7, hc47, hf⟩ := pf_bi_0 hf
        refine hm_aft_i (ws' := fun _ => [oc8 h0 r_t t_base t_taped t_at t_faultPlace t_number t_newBits t_newTold t_newDoings t_newThings t_opened t_sum t_heldAll t_onPaper t_turned t_wasConverted t_lastBits t_lastSum t_lastHeld t_lastLeft t_lastCode t_writtenLong t_codeMany t_acts t_done0 t_stoppedAt, ic E (r_t 0) 800 t_all, ic E (r_t 46) 20001 f6]) (hm_runV (rest := [.int x5]) hx hb hml hown X hA Y w 0 (ci := 7) (T := TX8) (N := 55) rfl rfl mw_X8_get ml_X8_221 dX8_layWays_47 hm_ac0 [.int 0] rfl [0, 1] rfl rfl (ct_X8_get l E H.size h0 r_t t_base t_taped t_at t_faultPlace t_number t_newBits t_newTold t_newDoings t_newThings t_opened t_sum t_heldAll t_onPaper t_turned t_wasConverted t_lastBits t_lastSum t_lastHeld t_lastLeft t_lastCode t_writtenLong t_codeMany t_acts t_done0 t_stoppedAt t_all 0 (r7, ()) hc47) rfl hl.1 ⟨⟨rfl, rfl⟩, ⟨Nat.le_of_ble_eq_true rfl, Nat.le_of_ble_eq_true rfl⟩, ⟨Nat.le_of_ble_eq_true rfl, Nat.le_of_ble_eq_true rfl⟩, Nat.le_of_ble_eq_true rfl⟩) hA w [0, 1] [2] [1, 2, 0] rfl rfl (by decide) (fun _ => rfl) (fun _ H locs w => ?_)
        refine lv_icmp_ge (tgt := 125) hx hb dX8_layWays_50 (by decide) (fun c50 => ?_) (fun c50 => ?_)
        · have hf := pf_t c50 hf
          refine lv_iload_n hx hb dX8_layWays_125 rfl (lv_at hl 1 rfl) ?_
          exact hQ _ _ _ _ _ f6 (fun _ => 0) hf rfl w dX8_layWays_126
        · have hf := pf_e c50 hf
          refine lv_aload_n hx hb dX8_layWays_53 rfl (lv_at hl 0 rfl) ?_
          refine lv_bipush (v := 33) hx hb dX8_layWays_54 (by decide) ?_
          refine lv_iload_n hx hb dX8_layWays_56 rfl (lv_at hl 3 rfl) ?_
          refine lv_iadd hx hb dX8_layWays_57 ?_
          obtain ⟨r8, hc58, hf⟩ := pf_bi_0 hf
          refine hm_aft_i (ws' := fun _ => [oc8 h0 r_t t_base t_taped t_at t_faultPlace t_number t_newBits t_newTold t_newDoings t_newThings t_opened t_sum t_heldAll t_onPaper t_turned t_wasConverted t_lastBits t_lastSum t_lastHeld t_lastLeft t_lastCode t_writtenLong t_codeMany t_acts t_done0 t_stoppedAt, ic E (r_t 0) 800 t_all, ic E (r_t 46) 20001 f6]) (hm_runV (rest := []) hx hb hml hown X hA Y w 0 (ci := 7) (T := TX8) (N := 55) rfl rfl mw_X8_get ml_X8_221 dX8_layWays_58 hm_ac0 [.int (33 + x5)] rfl [0, 1] rfl rfl (ct_X8_get l E H.size h0 r_t t_base t_taped t_at t_faultPlace t_number t_newBits t_newTold t_newDoings t_newThings t_opened t_sum t_heldAll t_onPaper t_turned t_wasConverted t_lastBits t_lastSum t_lastHeld t_lastLeft t_lastCode t_writtenLong t_codeMany t_acts t_done0 t_stoppedAt t_all (33 + x5) (r8, ()) hc58) rfl hl.1 ⟨⟨rfl, rfl⟩, ⟨Nat.le_of_ble_eq_true rfl, Nat.le_of_ble_eq_true rfl⟩, ⟨Nat.le_of_ble_eq_true rfl, Nat.le_of_ble_eq_true rfl⟩, Nat.le_of_ble_eq_true rfl⟩) hA w [0, 1] [2] [1, 2, 0] rfl rfl (by decide) (fun _ => rfl) (fun _ H locs w => ?_)
          refine lv_istore (lv' := [(4, .int r8), (0, .ref h0), (1, .int r2), (2, .int x4), (3, .int x5)]) hx hb dX8_layWays_61 hl (by decide) rfl (fun ls hl => ?_)
          refine lv_iload_n hx hb dX8_layWays_63 rfl (lv_at hl 3 rfl) ?_
          refine lv_iload hx hb dX8_layWays_64 (lv_at hl 0 rfl) ?_
          refine lv_iadd hx hb dX8_layWays_66 ?_
          refine lv_topi (fun x9 ex9 => ?_)
          have hf := pf_nm ex9 hf
          refine lv_istore_n (lv' := [(2, .int x9), (4, .int r8), (0, .ref h0), (1, .int r2), (3, .int x5)]) hx hb dX8_layWays_67 rfl hl (by decide) rfl (fun ls hl => ?_)
          refine lv_iload_n hx hb dX8_layWays_68 rfl (lv_at hl 0 rfl) ?_
          refine lv_istore (lv' := [(5, .int x9), (2, .int x9), (4, .int r8), (0, .ref h0), (1, .int r2), (3, .int x5)]) hx hb dX8_layWays_69 hl (by decide) rfl (fun ls hl => ?_)
          obtain ⟨B44, hB44, hf⟩ := pf_jn hf
          have kB44 : ∀ (x4 : Int32) (x5 : Int32) (f6 : Nat → Int32) (H : Heap) (locs : List Loc) (ls : Array Slot), B44 x4 x5 f6 = some R → hm_W E A s.heap [oc8 h0 r_t t_base t_taped t_at t_faultPlace t_number t_newBits t_newTold t_newDoings t_newThings t_opened t_sum t_heldAll t_onPaper t_turned t_wasConverted t_lastBits t_lastSum t_lastHeld t_lastLeft t_lastCode t_writtenLong t_codeMany t_acts t_done0 t_stoppedAt, ic E (r_t 0) 800 t_all, ic E (r_t 46) 20001 f6] H locs → lv_has ls 6 [(0, .ref h0), (1, .int r2), (2, .int x4), (3, .int x5)] → W p l e (hm_rr 2 45 0 0) s m args below meth c H locs 0 0 Q (F0 m 44 ls []) := by
            intro x4 x5 f6 H locs ls hf w hl
            have hf := pf_j3 hB44 hf
            exact ih44 x4 x5 f6 _ _ _ hf w hl
          have klp_X8_layWays_71 : ∀ (n : Nat) (x10 : Int32) (f11 : Nat → Int32) (H : Heap) (locs : List Loc) (ls : Array Slot), lp_X8_layWays_71 x5 r8 x9 B44 n x10 f11 = some R → hm_W E A s.heap [oc8 h0 r_t t_base t_taped t_at t_faultPlace t_number t_newBits t_newTold t_newDoings t_newThings t_opened t_sum t_heldAll t_onPaper t_turned t_wasConverted t_lastBits t_lastSum t_lastHeld t_lastLeft t_lastCode t_writtenLong t_codeMany t_acts t_done0 t_stoppedAt, ic E (r_t 0) 800 t_all, ic E (r_t 46) 20001 f11] H locs → lv_has ls 6 [(0, .ref h0), (1, .int r2), (2, .int x9), (3, .int x5), (4, .int r8), (5, .int x10)] → W p l e (hm_rr 2 45 0 0) s m args below meth c H locs 0 0 Q (F0 m 71 ls []) := by
            intro n
            induction n with
            | zero =>
              intro x10 f11 H locs ls hf w hl
              exact pf_no hf
            | succ n ih71 =>
              intro x10 f11 H locs ls hf w hl
              rw [lp_X8_layWays_71] at hf
              refine lv_iload hx hb dX8_layWays_71 (lv_at hl 5 rfl) ?_
              refine lv_iload hx hb dX8_layWays_73 (lv_at hl 4 rfl) ?_
              refine lv_icmp_lt (tgt := 119) hx hb dX8_layWays_75 (by decide) (fun c75 => ?_) (fun c75 => ?_)
              · have hf := pf_t c75 hf
                obtain ⟨x12, ex12⟩ : ∃ y : Int32, y = (x5 + 1) := ⟨_, rfl⟩
                have hf := pf_nm ex12 hf
                refine lv_iinc (v := x12) (lv' := [(3, .int x12), (0, .ref h0), (1, .int r2), (2, .int x9), (4, .int r8), (5, .int x10)]) hx hb dX8_layWays_119 hl (k := 3) rfl (by rw [ex12]; rfl) (by decide) rfl (fun ls hl => ?_)
                refine lv_goto (tgt := 44) hx hb dX8_layWays_122 (by decide) ?_
                exact kB44 _ _ _ _ _ _ hf w (lv_sub hl [1, 2, 3, 0] rfl)
              · have hf := pf_e c75 hf
                refine lv_aload_n hx hb dX8_layWays_78 rfl (lv_at hl 0 rfl) ?_
                refine hm_get cb_X8 hx hb hown X w 0 46 fl_X8_98 dX8_layWays_79 rfl (by decide) rfl ?_
                refine lv_iload hx hb dX8_layWays_82 (lv_at hl 5 rfl) ?_
                refine lv_dup2_11 hx hb dX8_layWays_84 rfl rfl ?_
                obtain ⟨g85, hf⟩ := pf_ckI hf
                refine hm_iald hx hb X w 2 dX8_layWays_85 rfl g85 ?_
                refine lv_iload hx hb dX8_layWays_86 (lv_at hl 4 rfl) ?_
                obtain ⟨J111, hJ111, hf⟩ := pf_jn hf
                have kJ111 : ∀ (x13 : Int32) (H : Heap) (locs : List Loc) (ls : Array Slot), J111 x13 = some R → hm_W E A s.heap [oc8 h0 r_t t_base t_taped t_at t_faultPlace t_number t_newBits t_newTold t_newDoings t_newThings t_opened t_sum t_heldAll t_onPaper t_turned t_wasConverted t_lastBits t_lastSum t_lastHeld t_lastLeft t_lastCode t_writtenLong t_codeMany t_acts t_done0 t_stoppedAt, ic E (r_t 0) 800 t_all, ic E (r_t 46) 20001 f11] H locs → lv_has ls 6 [(0, .ref h0), (1, .int r2), (2, .int x9), (3, .int x5), (4, .int r8), (5, .int x10)] → W p l e (hm_rr 2 45 0 0) s m args below meth c H locs 0 0 Q (F0 m 111 ls [.int x13, .int (f11 x10.toNatClampNeg), .int x10, .ref (r_t 46)]) := by
                  intro x13 H locs ls hf w hl
                  have hf := pf_j1 hJ111 hf
                  refine lv_iadd hx hb dX8_layWays_111 ?_
                  refine lv_topi (fun x14 ex14 => ?_)
                  have hf := pf_nm ex14 hf
                  obtain ⟨g112, hf⟩ := pf_ckI hf
                  refine hm_iast (ws' := [oc8 h0 r_t t_base t_taped t_at t_faultPlace t_number t_newBits t_newTold t_newDoings t_newThings t_opened t_sum t_heldAll t_onPaper t_turned t_wasConverted t_lastBits t_lastSum t_lastHeld t_lastLeft t_lastCode t_writtenLong t_codeMany t_acts t_done0 t_stoppedAt, ic E (r_t 0) 800 t_all, ic E (r_t 46) 20001 (upd f11 x10.toNatClampNeg x14)]) hx hb X w 2 dX8_layWays_112 rfl g112 rfl (fun H locs w => ?_)
                  obtain ⟨x15, ex15⟩ : ∃ y : Int32, y = (x10 + (-1)) := ⟨_, rfl⟩
                  have hf := pf_nm ex15 hf
                  refine lv_iinc (v := x15) (lv' := [(5, .int x15), (0, .ref h0), (1, .int r2), (2, .int x9), (3, .int x5), (4, .int r8)]) hx hb dX8_layWays_113 hl (k := 5) rfl (by rw [ex15]; rfl) (by decide) rfl (fun ls hl => ?_)
                  refine lv_goto (tgt := 71) hx hb dX8_layWays_116 (by decide) ?_
                  exact ih71 _ _ _ _ _ hf w (lv_sub hl [1, 2, 3, 4, 5, 0] rfl)
                refine lv_if_ne (tgt := 101) hx hb dX8_layWays_88 (by decide) (fun c88 => ?_) (fun c88 => ?_)
                · have hf := pf_e c88 hf
                  refine lv_aload_n hx hb dX8_layWays_101 rfl (lv_at hl 0 rfl) ?_
                  refine hm_get cb_X8 hx hb hown X w 0 46 fl_X8_98 dX8_layWays_102 rfl (by decide) rfl ?_
                  refine lv_iload hx hb dX8_layWays_105 (lv_at hl 5 rfl) ?_
                  refine lv_iload hx hb dX8_layWays_107 (lv_at hl 4 rfl) ?_
                  refine lv_isub hx hb dX8_layWays_109 ?_
                  obtain ⟨g110, hf⟩ := pf_ckI hf
                  refine hm_iald hx hb X w 2 dX8_layWays_110 rfl g110 ?_
                  exact kJ111 _ _ _ _ hf w (lv_sub hl [0, 1, 2, 3, 4, 5] rfl)
                · have hf := pf_t c88 hf
                  refine lv_aload_n hx hb dX8_layWays_91 rfl (lv_at hl 0 rfl) ?_
                  refine hm_get cb_X8 hx hb hown X w 0 46 fl_X8_98 dX8_layWays_92 rfl (by decide) rfl ?_
                  refine lv_iload hx hb dX8_layWays_95 (lv_at hl 5 rfl) ?_
                  obtain ⟨g97, hf⟩ := pf_ckI hf
                  refine hm_iald hx hb X w 2 dX8_layWays_97 rfl g97 ?_
                  refine lv_goto (tgt := 111) hx hb dX8_layWays_98 (by decide) ?_
                  exact kJ111 _ _ _ _ hf w (lv_sub hl [0, 1, 2, 3, 4, 5] rfl)
          exact klp_X8_layWays_71 FU _ _ _ _ _ hf w (lv_sub hl [3, 4, 1, 5, 2, 0] rfl)
    exact klp_X8_layWays_44 FU _ _ _ _ _ _ hf w (lv_sub hl [2, 3, 1, 0] rfl)
  have klp_X8_layWays_14 : ∀ (n : Nat) (x16 : Int32) (f17 : Nat → Int32) (H : Heap) (locs : List Loc) (ls : Array Slot), lp_X8_layWays_14 r2 J40 n x16 f17 = some R → hm_W E A s.heap [oc8 h0 r_t t_base t_taped t_at t_faultPlace t_number t_newBits t_newTold t_newDoings t_newThings t_opened t_sum t_heldAll t_onPaper t_turned t_wasConverted t_lastBits t_lastSum t_lastHeld t_lastLeft t_lastCode t_writtenLong t_codeMany t_acts t_done0 t_stoppedAt, ic E (r_t 0) 800 t_all, ic E (r_t 46) 20001 f17] H locs → lv_has ls 6 [(0, .ref h0), (1, .int r2), (2, .int x16)] → W p l e (hm_rr 2 45 0 0) s m args below meth c H locs 0 0 Q (F0 m 14 ls []) := by
    intro n
    induction n with
    | zero =>
      intro x16 f17 H locs ls hf w hl
      exact pf_no hf
    | succ n ih14 =>
      intro x16 f17 H locs ls hf w hl
      rw [lp_X8_layWays_14] at hf
      refine lv_iload_n hx hb dX8_layWays_14 rfl (lv_at hl 2 rfl) ?_
      refine lv_iload_n hx hb dX8_layWays_15 rfl (lv_at hl 1 rfl) ?_
      refine lv_icmp_gt (tgt := 40) hx hb dX8_layWays_16 (by decide) (fun c16 => ?_) (fun c16 => ?_)
      · have hf := pf_t c16 hf
        exact kJ40 _ _ _ _ hf w (lv_sub hl [0, 1] rfl)
      · have hf := pf_e c16 hf
        refine lv_aload_n hx hb dX8_layWays_19 rfl (lv_at hl 0 rfl) ?_
        refine hm_get cb_X8 hx hb hown X w 0 46 fl_X8_98 dX8_layWays_20 rfl (by decide) rfl ?_
        refine lv_iload_n hx hb dX8_layWays_23 rfl (lv_at hl 2 rfl) ?_
        refine lv_iload_n hx hb dX8_layWays_24 rfl (lv_at hl 2 rfl) ?_
        obtain ⟨J33, hJ33, hf⟩ := pf_jn hf
        have kJ33 : ∀ (x18 : Int32) (H : Heap) (locs : List Loc) (ls : Array Slot), J33 x18 = some R → hm_W E A s.heap [oc8 h0 r_t t_base t_taped t_at t_faultPlace t_number t_newBits t_newTold t_newDoings t_newThings t_opened t_sum t_heldAll t_onPaper t_turned t_wasConverted t_lastBits t_lastSum t_lastHeld t_lastLeft t_lastCode t_writtenLong t_codeMany t_acts t_done0 t_stoppedAt, ic E (r_t 0) 800 t_all, ic E (r_t 46) 20001 f17] H locs → lv_has ls 6 [(0, .ref h0), (1, .int r2), (2, .int x16)] → W p l e (hm_rr 2 45 0 0) s m args below meth c H locs 0 0 Q (F0 m 33 ls [.int x18, .int x16, .ref (r_t 46)]) := by
          intro x18 H locs ls hf w hl
          have hf := pf_j1 hJ33 hf
          obtain ⟨g33, hf⟩ := pf_ckI hf
          refine hm_iast (ws' := [oc8 h0 r_t t_base t_taped t_at t_faultPlace t_number t_newBits t_newTold t_newDoings t_newThings t_opened t_sum t_heldAll t_onPaper t_turned t_wasConverted t_lastBits t_lastSum t_lastHeld t_lastLeft t_lastCode t_writtenLong t_codeMany t_acts t_done0 t_stoppedAt, ic E (r_t 0) 800 t_all, ic E (r_t 46) 20001 (upd f17 x16.toNatClampNeg x18)]) hx hb X w 2 dX8_layWays_33 rfl g33 rfl (fun H locs w => ?_)
          obtain ⟨x19, ex19⟩ : ∃ y : Int32, y = (x16 + 1) := ⟨_, rfl⟩
          have hf := pf_nm ex19 hf
          refine lv_iinc (v := x19) (lv' := [(2, .int x19), (0, .ref h0), (1, .int r2)]) hx hb dX8_layWays_34 hl (k := 2) rfl (by rw [ex19]; rfl) (by decide) rfl (fun ls hl => ?_)
          refine lv_goto (tgt := 14) hx hb dX8_layWays_37 (by decide) ?_
          exact ih14 _ _ _ _ _ hf w (lv_sub hl [1, 2, 0] rfl)
        refine lv_if_ne (tgt := 32) hx hb dX8_layWays_25 (by decide) (fun c25 => ?_) (fun c25 => ?_)
        · have hf := pf_e c25 hf
          refine lv_iconst (v := 0) hx hb dX8_layWays_32 (by decide) ?_
          exact kJ33 _ _ _ _ hf w (lv_sub hl [0, 1, 2] rfl)
        · have hf := pf_t c25 hf
          refine lv_iconst (v := 1) hx hb dX8_layWays_28 (by decide) ?_
          refine lv_goto (tgt := 33) hx hb dX8_layWays_29 (by decide) ?_
          exact kJ33 _ _ _ _ hf w (lv_sub hl [0, 1, 2] rfl)
  exact klp_X8_layWays_14 FU _ _ _ _ _ hf w (lv_sub hl [2, 1, 0] rfl)
set_option maxHeartbeats 8000000 in
set_option maxRecDepth 100000 in
theorem ct_X8_ways (l : Launch) (E : hm_E) (sz : Nat) (h0 : Nat) (r_t : Nat → Nat) (t_base t_taped t_at t_faultPlace t_number t_newBits t_newTold t_newDoings t_newThings t_opened t_sum t_heldAll t_onPaper t_turned t_wasConverted t_lastBits t_lastSum t_lastHeld t_lastLeft t_lastCode t_writtenLong t_codeMany t_acts t_done0 t_stoppedAt : Int32) (t_all : Nat → Int32) (t_ways : Nat → Int32) (a1 : Int32) (R : Int32 × (Nat → Int32)) (hf : pf_X8_ways a1 t_all t_base t_ways = some R) : hm_Mi l E yX8_ways cX8_ways 3 .int [] (hm_rr 3 70 0 0) [.ref h0, .int a1] sz [oc8 h0 r_t t_base t_taped t_at t_faultPlace t_number t_newBits t_newTold t_newDoings t_newThings t_opened t_sum t_heldAll t_onPaper t_turned t_wasConverted t_lastBits t_lastSum t_lastHeld t_lastLeft t_lastCode t_writtenLong t_codeMany t_acts t_done0 t_stoppedAt, ic E (r_t 0) 800 t_all, ic E (r_t 46) 20001 t_ways] R.1 (fun _ => [oc8 h0 r_t t_base t_taped t_at t_faultPlace t_number t_newBits t_newTold t_newDoings t_newThings t_opened t_sum t_heldAll t_onPaper t_turned t_wasConverted t_lastBits t_lastSum t_lastHeld t_lastLeft t_lastCode t_writtenLong t_codeMany t_acts t_done0 t_stoppedAt, ic E (r_t 0) 800 t_all, ic E (r_t 46) 20001 R.2]) := by
  refine hm_ct_i R (fun u qs => [oc8 h0 r_t t_base t_taped t_at t_faultPlace t_number t_newBits t_newTold t_newDoings t_newThings t_opened t_sum t_heldAll t_onPaper t_turned t_wasConverted t_lastBits t_lastSum t_lastHeld t_lastLeft t_lastCode t_writtenLong t_codeMany t_acts t_done0 t_stoppedAt, ic E (r_t 0) 800 t_all, ic E (r_t 46) 20001 u]) (by decide) (Nat.le_of_ble_eq_true rfl) (Or.inl rfl) ?_
  intro p e s m args below meth c A Q ls H locs hx hb hml hown X hA Y hex w hl hQ
  have hl : lv_has ls 3 [(0, .ref h0), (1, .int a1)] := hl
  unfold pf_X8_ways at hf
  refine lv_aload_n hx hb dX8_ways_0 rfl (lv_at hl 0 rfl) ?_
  obtain ⟨r1, hc1, hf⟩ := pf_bi_0 hf
  refine hm_aft_i (ws' := fun _ => [oc8 h0 r_t t_base t_taped t_at t_faultPlace t_number t_newBits t_newTold t_newDoings t_newThings t_opened t_sum t_heldAll t_onPaper t_turned t_wasConverted t_lastBits t_lastSum t_lastHeld t_lastLeft t_lastCode t_writtenLong t_codeMany t_acts t_done0 t_stoppedAt, ic E (r_t 0) 800 t_all, ic E (r_t 46) 20001 t_ways]) (hm_runV (rest := []) hx hb hml hown X hA Y w 0 (ci := 7) (T := TX8) (N := 55) rfl rfl mw_X8_canSum ml_X8_386 dX8_ways_1 hm_ac0 [] rfl [0, 1] rfl rfl (ct_X8_canSum l E H.size h0 r_t t_base t_taped t_at t_faultPlace t_number t_newBits t_newTold t_newDoings t_newThings t_opened t_sum t_heldAll t_onPaper t_turned t_wasConverted t_lastBits t_lastSum t_lastHeld t_lastLeft t_lastCode t_writtenLong t_codeMany t_acts t_done0 t_stoppedAt t_all (r1, ()) hc1) rfl hl.1 ⟨⟨rfl, rfl⟩, ⟨Nat.le_of_ble_eq_true rfl, Nat.le_of_ble_eq_true rfl⟩, ⟨Nat.le_of_ble_eq_true rfl, Nat.le_of_ble_eq_true rfl⟩, Nat.le_of_ble_eq_true rfl⟩) hA w [0, 1] [2] [1, 2, 0] rfl rfl (by decide) (fun _ => rfl) (fun _ H locs w => ?_)
  refine lv_if_ne (tgt := 9) hx hb dX8_ways_4 (by decide) (fun c4 => ?_) (fun c4 => ?_)
  · have hf := pf_e c4 hf
    refine lv_aload_n hx hb dX8_ways_9 rfl (lv_at hl 0 rfl) ?_
    obtain ⟨r2, f3, hc10, hf⟩ := pf_bi_1 hf
    refine hm_aft_i (ws' := fun _ => [oc8 h0 r_t t_base t_taped t_at t_faultPlace t_number t_newBits t_newTold t_newDoings t_newThings t_opened t_sum t_heldAll t_onPaper t_turned t_wasConverted t_lastBits t_lastSum t_lastHeld t_lastLeft t_lastCode t_writtenLong t_codeMany t_acts t_done0 t_stoppedAt, ic E (r_t 0) 800 t_all, ic E (r_t 46) 20001 f3]) (hm_runV (rest := []) hx hb hml hown X hA Y w 0 (ci := 7) (T := TX8) (N := 55) rfl rfl mw_X8_layWays ml_X8_389 dX8_ways_10 hm_ac0 [] rfl [0, 1, 2] rfl rfl (ct_X8_layWays l E H.size h0 r_t t_base t_taped t_at t_faultPlace t_number t_newBits t_newTold t_newDoings t_newThings t_opened t_sum t_heldAll t_onPaper t_turned t_wasConverted t_lastBits t_lastSum t_lastHeld t_lastLeft t_lastCode t_writtenLong t_codeMany t_acts t_done0 t_stoppedAt t_all t_ways (r2, f3) hc10) rfl hl.1 ⟨⟨rfl, rfl⟩, ⟨Nat.le_of_ble_eq_true rfl, Nat.le_of_ble_eq_true rfl⟩, ⟨Nat.le_of_ble_eq_true rfl, Nat.le_of_ble_eq_true rfl⟩, Nat.le_of_ble_eq_true rfl⟩) hA w [0, 1, 2] [] [0, 1, 2] rfl rfl (by decide) (fun _ => rfl) (fun _ H locs w => ?_)
    refine lv_istore_n (lv' := [(2, .int r2), (0, .ref h0), (1, .int a1)]) hx hb dX8_ways_13 rfl hl (by decide) rfl (fun ls hl => ?_)
    refine lv_iload_n hx hb dX8_ways_14 rfl (lv_at hl 2 rfl) ?_
    refine lv_iconst (v := 0) hx hb dX8_ways_15 (by decide) ?_
    refine lv_iload_n hx hb dX8_ways_16 rfl (lv_at hl 0 rfl) ?_
    obtain ⟨r4, hc17, hf⟩ := pf_bi_0 hf
    refine hm_aft_i (ws' := fun _ => [oc8 h0 r_t t_base t_taped t_at t_faultPlace t_number t_newBits t_newTold t_newDoings t_newThings t_opened t_sum t_heldAll t_onPaper t_turned t_wasConverted t_lastBits t_lastSum t_lastHeld t_lastLeft t_lastCode t_writtenLong t_codeMany t_acts t_done0 t_stoppedAt, ic E (r_t 0) 800 t_all, ic E (r_t 46) 20001 f3]) (hm_runS (rest := []) hx hb hml hown X hA Y w mw_X8_isIn ml_X8_129 dX8_ways_17 hm_ac0 [.int a1, .int 0, .int r2] rfl [] rfl rfl (ct_X8_isIn l E H.size a1 0 r2 (r4, ()) hc17) rfl hl.1 ⟨⟨rfl, rfl⟩, ⟨Nat.le_of_ble_eq_true rfl, Nat.le_of_ble_eq_true rfl⟩, ⟨Nat.le_of_ble_eq_true rfl, Nat.le_of_ble_eq_true rfl⟩, Nat.le_of_ble_eq_true rfl⟩) hA w [] [0, 1, 2] [0, 1, 2] rfl rfl (by decide) (fun _ => rfl) (fun _ H locs w => ?_)
    refine lv_if_eq (tgt := 32) hx hb dX8_ways_20 (by decide) (fun c20 => ?_) (fun c20 => ?_)
    · have hf := pf_t c20 hf
      refine lv_iconst (v := 0) hx hb dX8_ways_32 (by decide) ?_
      exact hQ _ _ _ _ _ f3 (fun _ => 0) hf rfl w dX8_ways_33
    · have hf := pf_e c20 hf
      refine lv_aload_n hx hb dX8_ways_23 rfl (lv_at hl 1 rfl) ?_
      refine hm_get cb_X8 hx hb hown X w 0 46 fl_X8_98 dX8_ways_24 rfl (by decide) rfl ?_
      refine lv_iload_n hx hb dX8_ways_27 rfl (lv_at hl 2 rfl) ?_
      obtain ⟨g28, hf⟩ := pf_ckI hf
      refine hm_iald hx hb X w 2 dX8_ways_28 rfl g28 ?_
      refine lv_goto (tgt := 33) hx hb dX8_ways_29 (by decide) ?_
      exact hQ _ _ _ _ _ f3 (fun _ => 0) hf rfl w dX8_ways_33
  · have hf := pf_t c4 hf
    refine lv_iconst (v := (-1)) hx hb dX8_ways_7 (by decide) ?_
    exact hQ _ _ _ _ _ t_ways (fun _ => 0) hf rfl w dX8_ways_8
set_option maxHeartbeats 8000000 in
set_option maxRecDepth 100000 in
theorem ct_X8_sums (l : Launch) (E : hm_E) (sz : Nat) (h0 : Nat) (r_t : Nat → Nat) (t_base t_taped t_at t_faultPlace t_number t_newBits t_newTold t_newDoings t_newThings t_opened t_sum t_heldAll t_onPaper t_turned t_wasConverted t_lastBits t_lastSum t_lastHeld t_lastLeft t_lastCode t_writtenLong t_codeMany t_acts t_done0 t_stoppedAt : Int32) (t_all : Nat → Int32) (t_ways : Nat → Int32) (a1 : Int32) (R : Int32 × (Nat → Int32)) (hf : pf_X8_sums a1 t_all t_base t_ways = some R) : hm_Mi l E yX8_sums cX8_sums 7 .int [] (hm_rr 3 70 0 0) [.ref h0, .int a1] sz [oc8 h0 r_t t_base t_taped t_at t_faultPlace t_number t_newBits t_newTold t_newDoings t_newThings t_opened t_sum t_heldAll t_onPaper t_turned t_wasConverted t_lastBits t_lastSum t_lastHeld t_lastLeft t_lastCode t_writtenLong t_codeMany t_acts t_done0 t_stoppedAt, ic E (r_t 0) 800 t_all, ic E (r_t 46) 20001 t_ways] R.1 (fun _ => [oc8 h0 r_t t_base t_taped t_at t_faultPlace t_number t_newBits t_newTold t_newDoings t_newThings t_opened t_sum t_heldAll t_onPaper t_turned t_wasConverted t_lastBits t_lastSum t_lastHeld t_lastLeft t_lastCode t_writtenLong t_codeMany t_acts t_done0 t_stoppedAt, ic E (r_t 0) 800 t_all, ic E (r_t 46) 20001 R.2]) := by
  refine hm_ct_i R (fun u qs => [oc8 h0 r_t t_base t_taped t_at t_faultPlace t_number t_newBits t_newTold t_newDoings t_newThings t_opened t_sum t_heldAll t_onPaper t_turned t_wasConverted t_lastBits t_lastSum t_lastHeld t_lastLeft t_lastCode t_writtenLong t_codeMany t_acts t_done0 t_stoppedAt, ic E (r_t 0) 800 t_all, ic E (r_t 46) 20001 u]) (by decide) (Nat.le_of_ble_eq_true rfl) (Or.inl rfl) ?_
  intro p e s m args below meth c A Q ls H locs hx hb hml hown X hA Y hex w hl hQ
  have hl : lv_has ls 7 [(0, .ref h0), (1, .int a1)] := hl
  unfold pf_X8_sums at hf
  refine lv_aload_n hx hb dX8_sums_0 rfl (lv_at hl 0 rfl) ?_
  obtain ⟨r1, hc1, hf⟩ := pf_bi_0 hf
  refine hm_aft_i (ws' := fun _ => [oc8 h0 r_t t_base t_taped t_at t_faultPlace t_number t_newBits t_newTold t_newDoings t_newThings t_opened t_sum t_heldAll t_onPaper t_turned t_wasConverted t_lastBits t_lastSum t_lastHeld t_lastLeft t_lastCode t_writtenLong t_codeMany t_acts t_done0 t_stoppedAt, ic E (r_t 0) 800 t_all, ic E (r_t 46) 20001 t_ways]) (hm_runV (rest := []) hx hb hml hown X hA Y w 0 (ci := 7) (T := TX8) (N := 55) rfl rfl mw_X8_canSum ml_X8_386 dX8_sums_1 hm_ac0 [] rfl [0, 1] rfl rfl (ct_X8_canSum l E H.size h0 r_t t_base t_taped t_at t_faultPlace t_number t_newBits t_newTold t_newDoings t_newThings t_opened t_sum t_heldAll t_onPaper t_turned t_wasConverted t_lastBits t_lastSum t_lastHeld t_lastLeft t_lastCode t_writtenLong t_codeMany t_acts t_done0 t_stoppedAt t_all (r1, ()) hc1) rfl hl.1 ⟨⟨rfl, rfl⟩, ⟨Nat.le_of_ble_eq_true rfl, Nat.le_of_ble_eq_true rfl⟩, ⟨Nat.le_of_ble_eq_true rfl, Nat.le_of_ble_eq_true rfl⟩, Nat.le_of_ble_eq_true rfl⟩) hA w [0, 1] [2] [1, 2, 0] rfl rfl (by decide) (fun _ => rfl) (fun _ H locs w => ?_)
  refine lv_if_eq (tgt := 16) hx hb dX8_sums_4 (by decide) (fun c4 => ?_) (fun c4 => ?_)
  · have hf := pf_t c4 hf
    refine lv_iconst (v := (-1)) hx hb dX8_sums_16 (by decide) ?_
    exact hQ _ _ _ _ _ t_ways (fun _ => 0) hf rfl w dX8_sums_17
  · have hf := pf_e c4 hf
    refine lv_iload_n hx hb dX8_sums_7 rfl (lv_at hl 1 rfl) ?_
    refine lv_iconst (v := 0) hx hb dX8_sums_8 (by decide) ?_
    refine lv_iconst (v := 3) hx hb dX8_sums_9 (by decide) ?_
    obtain ⟨r2, hc10, hf⟩ := pf_bi_0 hf
    refine hm_aft_i (ws' := fun _ => [oc8 h0 r_t t_base t_taped t_at t_faultPlace t_number t_newBits t_newTold t_newDoings t_newThings t_opened t_sum t_heldAll t_onPaper t_turned t_wasConverted t_lastBits t_lastSum t_lastHeld t_lastLeft t_lastCode t_writtenLong t_codeMany t_acts t_done0 t_stoppedAt, ic E (r_t 0) 800 t_all, ic E (r_t 46) 20001 t_ways]) (hm_runS (rest := []) hx hb hml hown X hA Y w mw_X8_isIn ml_X8_129 dX8_sums_10 hm_ac0 [.int a1, .int 0, .int 3] rfl [] rfl rfl (ct_X8_isIn l E H.size a1 0 3 (r2, ()) hc10) rfl hl.1 ⟨⟨rfl, rfl⟩, ⟨Nat.le_of_ble_eq_true rfl, Nat.le_of_ble_eq_true rfl⟩, ⟨Nat.le_of_ble_eq_true rfl, Nat.le_of_ble_eq_true rfl⟩, Nat.le_of_ble_eq_true rfl⟩) hA w [] [0, 1, 2] [0, 1, 2] rfl rfl (by decide) (fun _ => rfl) (fun _ H locs w => ?_)
    refine lv_if_ne (tgt := 18) hx hb dX8_sums_13 (by decide) (fun c13 => ?_) (fun c13 => ?_)
    · have hf := pf_e c13 hf
      refine lv_aload_n hx hb dX8_sums_18 rfl (lv_at hl 0 rfl) ?_
      obtain ⟨r3, f4, hc19, hf⟩ := pf_bi_1 hf
      refine hm_aft_i (ws' := fun _ => [oc8 h0 r_t t_base t_taped t_at t_faultPlace t_number t_newBits t_newTold t_newDoings t_newThings t_opened t_sum t_heldAll t_onPaper t_turned t_wasConverted t_lastBits t_lastSum t_lastHeld t_lastLeft t_lastCode t_writtenLong t_codeMany t_acts t_done0 t_stoppedAt, ic E (r_t 0) 800 t_all, ic E (r_t 46) 20001 f4]) (hm_runV (rest := []) hx hb hml hown X hA Y w 0 (ci := 7) (T := TX8) (N := 55) rfl rfl mw_X8_layWays ml_X8_389 dX8_sums_19 hm_ac0 [] rfl [0, 1, 2] rfl rfl (ct_X8_layWays l E H.size h0 r_t t_base t_taped t_at t_faultPlace t_number t_newBits t_newTold t_newDoings t_newThings t_opened t_sum t_heldAll t_onPaper t_turned t_wasConverted t_lastBits t_lastSum t_lastHeld t_lastLeft t_lastCode t_writtenLong t_codeMany t_acts t_done0 t_stoppedAt t_all t_ways (r3, f4) hc19) rfl hl.1 ⟨⟨rfl, rfl⟩, ⟨Nat.le_of_ble_eq_true rfl, Nat.le_of_ble_eq_true rfl⟩, ⟨Nat.le_of_ble_eq_true rfl, Nat.le_of_ble_eq_true rfl⟩, Nat.le_of_ble_eq_true rfl⟩) hA w [0, 1, 2] [] [0, 1, 2] rfl rfl (by decide) (fun _ => rfl) (fun _ H locs w => ?_)
      refine lv_istore_n (lv' := [(2, .int r3), (0, .ref h0), (1, .int a1)]) hx hb dX8_sums_22 rfl hl (by decide) rfl (fun ls hl => ?_)
      refine lv_iconst (v := 0) hx hb dX8_sums_23 (by decide) ?_
      refine lv_istore_n (lv' := [(3, .int 0), (2, .int r3), (0, .ref h0), (1, .int a1)]) hx hb dX8_sums_24 rfl hl (by decide) rfl (fun ls hl => ?_)
      refine lv_iconst (v := 0) hx hb dX8_sums_25 (by decide) ?_
      refine lv_istore (lv' := [(4, .int 0), (3, .int 0), (2, .int r3), (0, .ref h0), (1, .int a1)]) hx hb dX8_sums_26 hl (by decide) rfl (fun ls hl => ?_)
      refine lv_iconst (v := (-1)) hx hb dX8_sums_28 (by decide) ?_
      refine lv_istore (lv' := [(5, .int (-1)), (4, .int 0), (3, .int 0), (2, .int r3), (0, .ref h0), (1, .int a1)]) hx hb dX8_sums_29 hl (by decide) rfl (fun ls hl => ?_)
      refine lv_iconst (v := 0) hx hb dX8_sums_31 (by decide) ?_
      refine lv_istore (lv' := [(6, .int 0), (5, .int (-1)), (4, .int 0), (3, .int 0), (2, .int r3), (0, .ref h0), (1, .int a1)]) hx hb dX8_sums_32 hl (by decide) rfl (fun ls hl => ?_)
      obtain ⟨J115, hJ115, hf⟩ := pf_jn hf
      have kJ115 : ∀ (x5 : Int32) (x6 : Int32) (x7 : Int32) (H : Heap) (locs : List Loc) (ls : Array Slot), J115 x5 x6 x7 = some R → hm_W E A s.heap [oc8 h0 r_t t_base t_taped t_at t_faultPlace t_number t_newBits t_newTold t_newDoings t_newThings t_opened t_sum t_heldAll t_onPaper t_turned t_wasConverted t_lastBits t_lastSum t_lastHeld t_lastLeft t_lastCode t_writtenLong t_codeMany t_acts t_done0 t_stoppedAt, ic E (r_t 0) 800 t_all, ic E (r_t 46) 20001 f4] H locs → lv_has ls 7 [(0, .ref h0), (1, .int a1), (3, .int x5), (4, .int x6), (5, .int x7)] → W p l e (hm_rr 3 70 0 0) s m args below meth c H locs 0 0 Q (F0 m 115 ls []) := by
        intro x5 x6 x7 H locs ls hf w hl
        have hf := pf_j3 hJ115 hf
        refine lv_iload_n hx hb dX8_sums_115 rfl (lv_at hl 1 rfl) ?_
        refine lv_if_ne (tgt := 123) hx hb dX8_sums_116 (by decide) (fun c116 => ?_) (fun c116 => ?_)
        · have hf := pf_e c116 hf
          refine lv_iload_n hx hb dX8_sums_123 rfl (lv_at hl 1 rfl) ?_
          refine lv_iconst (v := 1) hx hb dX8_sums_124 (by decide) ?_
          refine lv_icmp_ne (tgt := 138) hx hb dX8_sums_125 (by decide) (fun c125 => ?_) (fun c125 => ?_)
          · have hf := pf_e c125 hf
            refine lv_iload_n hx hb dX8_sums_138 rfl (lv_at hl 1 rfl) ?_
            refine lv_iconst (v := 2) hx hb dX8_sums_139 (by decide) ?_
            refine lv_icmp_ne (tgt := 148) hx hb dX8_sums_140 (by decide) (fun c140 => ?_) (fun c140 => ?_)
            · have hf := pf_e c140 hf
              refine lv_iload hx hb dX8_sums_148 (lv_at hl 4 rfl) ?_
              exact hQ _ _ _ _ _ f4 (fun _ => 0) hf rfl w dX8_sums_150
            · have hf := pf_t c140 hf
              refine lv_iload hx hb dX8_sums_143 (lv_at hl 3 rfl) ?_
              refine lv_goto (tgt := 150) hx hb dX8_sums_145 (by decide) ?_
              exact hQ _ _ _ _ _ f4 (fun _ => 0) hf rfl w dX8_sums_150
          · have hf := pf_t c125 hf
            refine lv_aload_n hx hb dX8_sums_128 rfl (lv_at hl 0 rfl) ?_
            refine hm_get cb_X8 hx hb hown X w 0 46 fl_X8_98 dX8_sums_129 rfl (by decide) rfl ?_
            refine lv_iload hx hb dX8_sums_132 (lv_at hl 3 rfl) ?_
            obtain ⟨g134, hf⟩ := pf_ckI hf
            refine hm_iald hx hb X w 2 dX8_sums_134 rfl g134 ?_
            refine lv_goto (tgt := 150) hx hb dX8_sums_135 (by decide) ?_
            exact hQ _ _ _ _ _ f4 (fun _ => 0) hf rfl w dX8_sums_150
        · have hf := pf_t c116 hf
          refine lv_iload_n hx hb dX8_sums_119 rfl (lv_at hl 2 rfl) ?_
          refine lv_goto (tgt := 150) hx hb dX8_sums_120 (by decide) ?_
          exact hQ _ _ _ _ _ f4 (fun _ => 0) hf rfl w dX8_sums_150
      have klp_X8_sums_34 : ∀ (n : Nat) (x8 : Int32) (x9 : Int32) (x10 : Int32) (x11 : Int32) (H : Heap) (locs : List Loc) (ls : Array Slot), lp_X8_sums_34 r3 f4 J115 n x8 x9 x10 x11 = some R → hm_W E A s.heap [oc8 h0 r_t t_base t_taped t_at t_faultPlace t_number t_newBits t_newTold t_newDoings t_newThings t_opened t_sum t_heldAll t_onPaper t_turned t_wasConverted t_lastBits t_lastSum t_lastHeld t_lastLeft t_lastCode t_writtenLong t_codeMany t_acts t_done0 t_stoppedAt, ic E (r_t 0) 800 t_all, ic E (r_t 46) 20001 f4] H locs → lv_has ls 7 [(0, .ref h0), (1, .int a1), (2, .int r3), (3, .int x8), (4, .int x9), (5, .int x10), (6, .int x11)] → W p l e (hm_rr 3 70 0 0) s m args below meth c H locs 0 0 Q (F0 m 34 ls []) := by
        intro n
        induction n with
        | zero =>
          intro x8 x9 x10 x11 H locs ls hf w hl
          exact pf_no hf
        | succ n ih34 =>
          intro x8 x9 x10 x11 H locs ls hf w hl
          rw [lp_X8_sums_34] at hf
          refine lv_iload hx hb dX8_sums_34 (lv_at hl 6 rfl) ?_
          refine lv_iload_n hx hb dX8_sums_36 rfl (lv_at hl 2 rfl) ?_
          refine lv_icmp_gt (tgt := 115) hx hb dX8_sums_37 (by decide) (fun c37 => ?_) (fun c37 => ?_)
          · have hf := pf_t c37 hf
            exact kJ115 _ _ _ _ _ _ hf w (lv_sub hl [0, 1, 3, 4, 5] rfl)
          · have hf := pf_e c37 hf
            refine lv_iload_n hx hb dX8_sums_40 rfl (lv_at hl 3 rfl) ?_
            refine lv_aload_n hx hb dX8_sums_41 rfl (lv_at hl 0 rfl) ?_
            refine hm_get cb_X8 hx hb hown X w 0 46 fl_X8_98 dX8_sums_42 rfl (by decide) rfl ?_
            refine lv_iload hx hb dX8_sums_45 (lv_at hl 6 rfl) ?_
            obtain ⟨g47, hf⟩ := pf_ckI hf
            refine hm_iald hx hb X w 2 dX8_sums_47 rfl g47 ?_
            obtain ⟨J56, hJ56, hf⟩ := pf_jn hf
            have kJ56 : ∀ (x12 : Int32) (H : Heap) (locs : List Loc) (ls : Array Slot), J56 x12 = some R → hm_W E A s.heap [oc8 h0 r_t t_base t_taped t_at t_faultPlace t_number t_newBits t_newTold t_newDoings t_newThings t_opened t_sum t_heldAll t_onPaper t_turned t_wasConverted t_lastBits t_lastSum t_lastHeld t_lastLeft t_lastCode t_writtenLong t_codeMany t_acts t_done0 t_stoppedAt, ic E (r_t 0) 800 t_all, ic E (r_t 46) 20001 f4] H locs → lv_has ls 7 [(0, .ref h0), (1, .int a1), (2, .int r3), (4, .int x9), (5, .int x10), (6, .int x11)] → W p l e (hm_rr 3 70 0 0) s m args below meth c H locs 0 0 Q (F0 m 56 ls [.int x12, .int x8]) := by
              intro x12 H locs ls hf w hl
              have hf := pf_j1 hJ56 hf
              refine lv_iadd hx hb dX8_sums_56 ?_
              refine lv_topi (fun x13 ex13 => ?_)
              have hf := pf_nm ex13 hf
              refine lv_istore_n (lv' := [(3, .int x13), (0, .ref h0), (1, .int a1), (2, .int r3), (4, .int x9), (5, .int x10), (6, .int x11)]) hx hb dX8_sums_57 rfl hl (by decide) rfl (fun ls hl => ?_)
              refine lv_aload_n hx hb dX8_sums_58 rfl (lv_at hl 1 rfl) ?_
              refine hm_get cb_X8 hx hb hown X w 0 46 fl_X8_98 dX8_sums_59 rfl (by decide) rfl ?_
              refine lv_iload hx hb dX8_sums_62 (lv_at hl 6 rfl) ?_
              obtain ⟨g64, hf⟩ := pf_ckI hf
              refine hm_iald hx hb X w 2 dX8_sums_64 rfl g64 ?_
              refine lv_aload_n hx hb dX8_sums_65 rfl (lv_at hl 1 rfl) ?_
              refine hm_get cb_X8 hx hb hown X w 0 46 fl_X8_98 dX8_sums_66 rfl (by decide) rfl ?_
              refine lv_iload hx hb dX8_sums_69 (lv_at hl 4 rfl) ?_
              obtain ⟨g71, hf⟩ := pf_ckI hf
              refine hm_iald hx hb X w 2 dX8_sums_71 rfl g71 ?_
              obtain ⟨J82, hJ82, hf⟩ := pf_jn hf
              have kJ82 : ∀ (x14 : Int32) (H : Heap) (locs : List Loc) (ls : Array Slot), J82 x14 = some R → hm_W E A s.heap [oc8 h0 r_t t_base t_taped t_at t_faultPlace t_number t_newBits t_newTold t_newDoings t_newThings t_opened t_sum t_heldAll t_onPaper t_turned t_wasConverted t_lastBits t_lastSum t_lastHeld t_lastLeft t_lastCode t_writtenLong t_codeMany t_acts t_done0 t_stoppedAt, ic E (r_t 0) 800 t_all, ic E (r_t 46) 20001 f4] H locs → lv_has ls 7 [(0, .ref h0), (1, .int a1), (2, .int r3), (3, .int x13), (5, .int x10), (6, .int x11)] → W p l e (hm_rr 3 70 0 0) s m args below meth c H locs 0 0 Q (F0 m 82 ls [.int x14]) := by
                intro x14 H locs ls hf w hl
                have hf := pf_j1 hJ82 hf
                refine lv_istore (lv' := [(4, .int x14), (0, .ref h0), (1, .int a1), (2, .int r3), (3, .int x13), (5, .int x10), (6, .int x11)]) hx hb dX8_sums_82 hl (by decide) rfl (fun ls hl => ?_)
                refine lv_aload_n hx hb dX8_sums_84 rfl (lv_at hl 1 rfl) ?_
                refine hm_get cb_X8 hx hb hown X w 0 46 fl_X8_98 dX8_sums_85 rfl (by decide) rfl ?_
                refine lv_iload hx hb dX8_sums_88 (lv_at hl 6 rfl) ?_
                obtain ⟨g90, hf⟩ := pf_ckI hf
                refine hm_iald hx hb X w 2 dX8_sums_90 rfl g90 ?_
                refine lv_if_ne (tgt := 105) hx hb dX8_sums_91 (by decide) (fun c91 => ?_) (fun c91 => ?_)
                · have hf := pf_e c91 hf
                  refine lv_iload hx hb dX8_sums_105 (lv_at hl 5 rfl) ?_
                  refine lv_istore (lv' := [(5, .int x10), (4, .int x14), (0, .ref h0), (1, .int a1), (2, .int r3), (3, .int x13), (6, .int x11)]) hx hb dX8_sums_107 hl (by decide) rfl (fun ls hl => ?_)
                  obtain ⟨x15, ex15⟩ : ∃ y : Int32, y = (x11 + 1) := ⟨_, rfl⟩
                  have hf := pf_nm ex15 hf
                  refine lv_iinc (v := x15) (lv' := [(6, .int x15), (5, .int x10), (4, .int x14), (0, .ref h0), (1, .int a1), (2, .int r3), (3, .int x13)]) hx hb dX8_sums_109 hl (k := 6) rfl (by rw [ex15]; rfl) (by decide) rfl (fun ls hl => ?_)
                  refine lv_goto (tgt := 34) hx hb dX8_sums_112 (by decide) ?_
                  exact ih34 _ _ _ _ _ _ _ hf w (lv_sub hl [3, 4, 5, 6, 2, 1, 0] rfl)
                · have hf := pf_t c91 hf
                  refine lv_iload hx hb dX8_sums_94 (lv_at hl 5 rfl) ?_
                  refine lv_iconst (v := (-1)) hx hb dX8_sums_96 (by decide) ?_
                  refine lv_icmp_ne (tgt := 105) hx hb dX8_sums_97 (by decide) (fun c97 => ?_) (fun c97 => ?_)
                  · have hf := pf_e c97 hf
                    refine lv_iload hx hb dX8_sums_105 (lv_at hl 5 rfl) ?_
                    refine lv_istore (lv' := [(5, .int x10), (4, .int x14), (0, .ref h0), (1, .int a1), (2, .int r3), (3, .int x13), (6, .int x11)]) hx hb dX8_sums_107 hl (by decide) rfl (fun ls hl => ?_)
                    obtain ⟨x16, ex16⟩ : ∃ y : Int32, y = (x11 + 1) := ⟨_, rfl⟩
                    have hf := pf_nm ex16 hf
                    refine lv_iinc (v := x16) (lv' := [(6, .int x16), (5, .int x10), (4, .int x14), (0, .ref h0), (1, .int a1), (2, .int r3), (3, .int x13)]) hx hb dX8_sums_109 hl (k := 6) rfl (by rw [ex16]; rfl) (by decide) rfl (fun ls hl => ?_)
                    refine lv_goto (tgt := 34) hx hb dX8_sums_112 (by decide) ?_
                    exact ih34 _ _ _ _ _ _ _ hf w (lv_sub hl [3, 4, 5, 6, 2, 1, 0] rfl)
                  · have hf := pf_t c97 hf
                    refine lv_iload hx hb dX8_sums_100 (lv_at hl 6 rfl) ?_
                    refine lv_goto (tgt := 107) hx hb dX8_sums_102 (by decide) ?_
                    refine lv_istore (lv' := [(5, .int x11), (4, .int x14), (0, .ref h0), (1, .int a1), (2, .int r3), (3, .int x13), (6, .int x11)]) hx hb dX8_sums_107 hl (by decide) rfl (fun ls hl => ?_)
                    obtain ⟨x17, ex17⟩ : ∃ y : Int32, y = (x11 + 1) := ⟨_, rfl⟩
                    have hf := pf_nm ex17 hf
                    refine lv_iinc (v := x17) (lv' := [(6, .int x17), (5, .int x11), (4, .int x14), (0, .ref h0), (1, .int a1), (2, .int r3), (3, .int x13)]) hx hb dX8_sums_109 hl (k := 6) rfl (by rw [ex17]; rfl) (by decide) rfl (fun ls hl => ?_)
                    refine lv_goto (tgt := 34) hx hb dX8_sums_112 (by decide) ?_
                    exact ih34 _ _ _ _ _ _ _ hf w (lv_sub hl [3, 4, 5, 6, 2, 1, 0] rfl)
              refine lv_icmp_le (tgt := 80) hx hb dX8_sums_72 (by decide) (fun c72 => ?_) (fun c72 => ?_)
              · have hf := pf_t c72 hf
                refine lv_iload hx hb dX8_sums_80 (lv_at hl 4 rfl) ?_
                exact kJ82 _ _ _ _ hf w (lv_sub hl [1, 2, 3, 0, 5, 6] rfl)
              · have hf := pf_e c72 hf
                refine lv_iload hx hb dX8_sums_75 (lv_at hl 6 rfl) ?_
                refine lv_goto (tgt := 82) hx hb dX8_sums_77 (by decide) ?_
                exact kJ82 _ _ _ _ hf w (lv_sub hl [1, 2, 3, 0, 5, 6] rfl)
            refine lv_if_le (tgt := 55) hx hb dX8_sums_48 (by decide) (fun c48 => ?_) (fun c48 => ?_)
            · have hf := pf_t c48 hf
              refine lv_iconst (v := 0) hx hb dX8_sums_55 (by decide) ?_
              exact kJ56 _ _ _ _ hf w (lv_sub hl [0, 1, 2, 4, 5, 6] rfl)
            · have hf := pf_e c48 hf
              refine lv_iconst (v := 1) hx hb dX8_sums_51 (by decide) ?_
              refine lv_goto (tgt := 56) hx hb dX8_sums_52 (by decide) ?_
              exact kJ56 _ _ _ _ hf w (lv_sub hl [0, 1, 2, 4, 5, 6] rfl)
      exact klp_X8_sums_34 FU _ _ _ _ _ _ _ hf w (lv_sub hl [5, 6, 4, 3, 2, 1, 0] rfl)
    · have hf := pf_t c13 hf
      refine lv_iconst (v := (-1)) hx hb dX8_sums_16 (by decide) ?_
      exact hQ _ _ _ _ _ t_ways (fun _ => 0) hf rfl w dX8_sums_17
set_option maxHeartbeats 8000000 in
set_option maxRecDepth 100000 in
theorem ct_X8_mean (l : Launch) (E : hm_E) (sz : Nat) (h0 : Nat) (r_t : Nat → Nat) (t_base t_taped t_at t_faultPlace t_number t_newBits t_newTold t_newDoings t_newThings t_opened t_sum t_heldAll t_onPaper t_turned t_wasConverted t_lastBits t_lastSum t_lastHeld t_lastLeft t_lastCode t_writtenLong t_codeMany t_acts t_done0 t_stoppedAt : Int32) (t_all : Nat → Int32) (t_askedOf : Nat → Int32) (t_decided : Nat → Int32) (t_heldBehind : Nat → Int32) (t_wasLate : Nat → Int32) (a1 : Int32) (a2 : Int32) (R : Int32 × (Nat → Int32) × (Nat → Int32) × (Nat → Int32) × (Nat → Int32) × (Nat → Int32) × Int32 × Int32) (hf : pf_X8_mean a1 a2 t_all t_base t_decided t_wasLate t_askedOf t_heldBehind t_sum t_heldAll t_onPaper t_turned = some R) : hm_Mi l E yX8_mean cX8_mean 6 .int [] (hm_rr 4 94 0 0) [.ref h0, .int a1, .int a2] sz [oc8 h0 r_t t_base t_taped t_at t_faultPlace t_number t_newBits t_newTold t_newDoings t_newThings t_opened t_sum t_heldAll t_onPaper t_turned t_wasConverted t_lastBits t_lastSum t_lastHeld t_lastLeft t_lastCode t_writtenLong t_codeMany t_acts t_done0 t_stoppedAt, ic E (r_t 0) 800 t_all, ic E (r_t 27) 12 t_askedOf, ic E (r_t 25) 12 t_decided, ic E (r_t 28) 12 t_heldBehind, zc E (r_t 26) 12 t_wasLate] R.1 (fun _ => [oc8 h0 r_t t_base t_taped t_at t_faultPlace t_number t_newBits t_newTold t_newDoings t_newThings t_opened (R.2.2.2.2.2.2.1) (R.2.2.2.2.2.2.2) t_onPaper t_turned t_wasConverted t_lastBits t_lastSum t_lastHeld t_lastLeft t_lastCode t_writtenLong t_codeMany t_acts t_done0 t_stoppedAt, ic E (r_t 0) 800 (R.2.1), ic E (r_t 27) 12 (R.2.2.2.2.1), ic E (r_t 25) 12 (R.2.2.1), ic E (r_t 28) 12 (R.2.2.2.2.2.1), zc E (r_t 26) 12 (R.2.2.2.1)]) := by
  refine hm_ct_i R (fun u qs => [oc8 h0 r_t t_base t_taped t_at t_faultPlace t_number t_newBits t_newTold t_newDoings t_newThings t_opened (u.2.2.2.2.2.1) (u.2.2.2.2.2.2) t_onPaper t_turned t_wasConverted t_lastBits t_lastSum t_lastHeld t_lastLeft t_lastCode t_writtenLong t_codeMany t_acts t_done0 t_stoppedAt, ic E (r_t 0) 800 (u.1), ic E (r_t 27) 12 (u.2.2.2.1), ic E (r_t 25) 12 (u.2.1), ic E (r_t 28) 12 (u.2.2.2.2.1), zc E (r_t 26) 12 (u.2.2.1)]) (by decide) (Nat.le_of_ble_eq_true rfl) (Or.inl rfl) ?_
  intro p e s m args below meth c A Q ls H locs hx hb hml hown X hA Y hex w hl hQ
  have hl : lv_has ls 6 [(0, .ref h0), (1, .int a1), (2, .int a2)] := hl
  unfold pf_X8_mean at hf
  refine lv_iload_n hx hb dX8_mean_0 rfl (lv_at hl 1 rfl) ?_
  obtain ⟨r1, hc1, hf⟩ := pf_bi_0 hf
  refine hm_aft_i (ws' := fun _ => [oc8 h0 r_t t_base t_taped t_at t_faultPlace t_number t_newBits t_newTold t_newDoings t_newThings t_opened t_sum t_heldAll t_onPaper t_turned t_wasConverted t_lastBits t_lastSum t_lastHeld t_lastLeft t_lastCode t_writtenLong t_codeMany t_acts t_done0 t_stoppedAt, ic E (r_t 0) 800 t_all, ic E (r_t 27) 12 t_askedOf, ic E (r_t 25) 12 t_decided, ic E (r_t 28) 12 t_heldBehind, zc E (r_t 26) 12 t_wasLate]) (hm_runS (rest := []) hx hb hml hown X hA Y w mw_X8_isX ml_X8_280 dX8_mean_1 hm_ac0 [.int a1] rfl [] rfl rfl (ct_X8_isX l E H.size a1 (r1, ()) hc1) rfl hl.1 ⟨⟨rfl, rfl⟩, ⟨Nat.le_of_ble_eq_true rfl, Nat.le_of_ble_eq_true rfl⟩, ⟨Nat.le_of_ble_eq_true rfl, Nat.le_of_ble_eq_true rfl⟩, Nat.le_of_ble_eq_true rfl⟩) hA w [] [0, 1, 2, 3, 4, 5] [0, 1, 2, 3, 4, 5] rfl rfl (by decide) (fun _ => rfl) (fun _ H locs w => ?_)
  refine lv_if_eq (tgt := 25) hx hb dX8_mean_4 (by decide) (fun c4 => ?_) (fun c4 => ?_)
  · have hf := pf_t c4 hf
    refine lv_ldcw (v := (-1000000)) hx hb hown (X.use ck_X8_283 rfl) dX8_mean_25 ?_
    exact hQ _ _ _ _ _ (t_all, t_decided, t_wasLate, t_askedOf, t_heldBehind, t_sum, t_heldAll) (fun _ => 0) hf rfl w dX8_mean_28
  · have hf := pf_e c4 hf
    refine lv_iload_n hx hb dX8_mean_7 rfl (lv_at hl 2 rfl) ?_
    refine lv_iconst (v := 1) hx hb dX8_mean_8 (by decide) ?_
    refine lv_bipush (v := 100) hx hb dX8_mean_9 (by decide) ?_
    obtain ⟨r2, hc11, hf⟩ := pf_bi_0 hf
    refine hm_aft_i (ws' := fun _ => [oc8 h0 r_t t_base t_taped t_at t_faultPlace t_number t_newBits t_newTold t_newDoings t_newThings t_opened t_sum t_heldAll t_onPaper t_turned t_wasConverted t_lastBits t_lastSum t_lastHeld t_lastLeft t_lastCode t_writtenLong t_codeMany t_acts t_done0 t_stoppedAt, ic E (r_t 0) 800 t_all, ic E (r_t 27) 12 t_askedOf, ic E (r_t 25) 12 t_decided, ic E (r_t 28) 12 t_heldBehind, zc E (r_t 26) 12 t_wasLate]) (hm_runS (rest := []) hx hb hml hown X hA Y w mw_X8_isIn ml_X8_129 dX8_mean_11 hm_ac0 [.int a2, .int 1, .int 100] rfl [] rfl rfl (ct_X8_isIn l E H.size a2 1 100 (r2, ()) hc11) rfl hl.1 ⟨⟨rfl, rfl⟩, ⟨Nat.le_of_ble_eq_true rfl, Nat.le_of_ble_eq_true rfl⟩, ⟨Nat.le_of_ble_eq_true rfl, Nat.le_of_ble_eq_true rfl⟩, Nat.le_of_ble_eq_true rfl⟩) hA w [] [0, 1, 2, 3, 4, 5] [0, 1, 2, 3, 4, 5] rfl rfl (by decide) (fun _ => rfl) (fun _ H locs w => ?_)
    refine lv_if_eq (tgt := 25) hx hb dX8_mean_14 (by decide) (fun c14 => ?_) (fun c14 => ?_)
    · have hf := pf_t c14 hf
      refine lv_ldcw (v := (-1000000)) hx hb hown (X.use ck_X8_283 rfl) dX8_mean_25 ?_
      exact hQ _ _ _ _ _ (t_all, t_decided, t_wasLate, t_askedOf, t_heldBehind, t_sum, t_heldAll) (fun _ => 0) hf rfl w dX8_mean_28
    · have hf := pf_e c14 hf
      refine lv_aload_n hx hb dX8_mean_17 rfl (lv_at hl 0 rfl) ?_
      refine lv_iconst (v := 0) hx hb dX8_mean_18 (by decide) ?_
      obtain ⟨r3, hc19, hf⟩ := pf_bi_0 hf
      refine hm_aft_i (ws' := fun _ => [oc8 h0 r_t t_base t_taped t_at t_faultPlace t_number t_newBits t_newTold t_newDoings t_newThings t_opened t_sum t_heldAll t_onPaper t_turned t_wasConverted t_lastBits t_lastSum t_lastHeld t_lastLeft t_lastCode t_writtenLong t_codeMany t_acts t_done0 t_stoppedAt, ic E (r_t 0) 800 t_all, ic E (r_t 27) 12 t_askedOf, ic E (r_t 25) 12 t_decided, ic E (r_t 28) 12 t_heldBehind, zc E (r_t 26) 12 t_wasLate]) (hm_runV (rest := []) hx hb hml hown X hA Y w 0 (ci := 7) (T := TX8) (N := 55) rfl rfl mw_X8_get ml_X8_221 dX8_mean_19 hm_ac0 [.int 0] rfl [0, 1] rfl rfl (ct_X8_get l E H.size h0 r_t t_base t_taped t_at t_faultPlace t_number t_newBits t_newTold t_newDoings t_newThings t_opened t_sum t_heldAll t_onPaper t_turned t_wasConverted t_lastBits t_lastSum t_lastHeld t_lastLeft t_lastCode t_writtenLong t_codeMany t_acts t_done0 t_stoppedAt t_all 0 (r3, ()) hc19) rfl hl.1 ⟨⟨rfl, rfl⟩, ⟨Nat.le_of_ble_eq_true rfl, Nat.le_of_ble_eq_true rfl⟩, ⟨Nat.le_of_ble_eq_true rfl, Nat.le_of_ble_eq_true rfl⟩, Nat.le_of_ble_eq_true rfl⟩) hA w [0, 1] [2, 3, 4, 5] [4, 5, 0, 1, 2, 3] rfl rfl (by decide) (fun _ => rfl) (fun _ H locs w => ?_)
      refine lv_if_ne (tgt := 29) hx hb dX8_mean_22 (by decide) (fun c22 => ?_) (fun c22 => ?_)
      · have hf := pf_e c22 hf
        refine lv_lconst (v := 0) hx hb dX8_mean_29 (by decide) ?_
        refine lv_lstore_n (lv' := [(3, .long 0), (0, .ref h0), (1, .int a1), (2, .int a2)]) hx hb dX8_mean_30 rfl hl (by decide) rfl (fun ls hl => ?_)
        refine lv_iconst (v := 0) hx hb dX8_mean_31 (by decide) ?_
        refine lv_istore (lv' := [(5, .int 0), (3, .long 0), (0, .ref h0), (1, .int a1), (2, .int a2)]) hx hb dX8_mean_32 hl (by decide) rfl (fun ls hl => ?_)
        obtain ⟨J69, hJ69, hf⟩ := pf_jn hf
        have kJ69 : ∀ (x4 : Int64) (f5 : Nat → Int32) (f6 : Nat → Int32) (f7 : Nat → Int32) (f8 : Nat → Int32) (f9 : Nat → Int32) (x10 : Int32) (x11 : Int32) (H : Heap) (locs : List Loc) (ls : Array Slot), J69 x4 f5 f6 f7 f8 f9 x10 x11 = some R → hm_W E A s.heap [oc8 h0 r_t t_base t_taped t_at t_faultPlace t_number t_newBits t_newTold t_newDoings t_newThings t_opened x10 x11 t_onPaper t_turned t_wasConverted t_lastBits t_lastSum t_lastHeld t_lastLeft t_lastCode t_writtenLong t_codeMany t_acts t_done0 t_stoppedAt, ic E (r_t 0) 800 f5, ic E (r_t 27) 12 f8, ic E (r_t 25) 12 f6, ic E (r_t 28) 12 f9, zc E (r_t 26) 12 f7] H locs → lv_has ls 6 [(2, .int a2), (3, .long x4)] → W p l e (hm_rr 4 94 0 0) s m args below meth c H locs 0 0 Q (F0 m 69 ls []) := by
          intro x4 f5 f6 f7 f8 f9 x10 x11 H locs ls hf w hl
          have hf := pf_j8 hJ69 hf
          refine lv_ldc2 (v := 2) hx hb hown (X.use ck_X8_392 rfl) dX8_mean_69 ?_
          refine lv_lload_n hx hb dX8_mean_72 rfl (lv_at hl 1 rfl) ?_
          refine lv_lmul hx hb dX8_mean_73 ?_
          refine lv_iload_n hx hb dX8_mean_74 rfl (lv_at hl 0 rfl) ?_
          refine lv_i2l hx hb dX8_mean_75 rfl ?_
          refine lv_ladd hx hb dX8_mean_76 ?_
          refine lv_ldc2 (v := 2) hx hb hown (X.use ck_X8_392 rfl) dX8_mean_77 ?_
          refine lv_iload_n hx hb dX8_mean_80 rfl (lv_at hl 0 rfl) ?_
          refine lv_i2l hx hb dX8_mean_81 rfl ?_
          refine lv_lmul hx hb dX8_mean_82 ?_
          obtain ⟨g83, hf⟩ := pf_ckL hf
          refine lv_ldiv hx hb dX8_mean_83 g83 ?_
          refine lv_l2i hx hb dX8_mean_84 rfl ?_
          exact hQ _ _ _ _ _ (f5, f6, f7, f8, f9, x10, x11) (fun _ => 0) hf rfl w dX8_mean_85
        have klp_X8_mean_34 : ∀ (n : Nat) (x12 : Int64) (x13 : Int32) (f14 : Nat → Int32) (f15 : Nat → Int32) (f16 : Nat → Int32) (f17 : Nat → Int32) (f18 : Nat → Int32) (x19 : Int32) (x20 : Int32) (H : Heap) (locs : List Loc) (ls : Array Slot), lp_X8_mean_34 a1 a2 t_base t_onPaper t_turned J69 n x12 x13 f14 f15 f16 f17 f18 x19 x20 = some R → hm_W E A s.heap [oc8 h0 r_t t_base t_taped t_at t_faultPlace t_number t_newBits t_newTold t_newDoings t_newThings t_opened x19 x20 t_onPaper t_turned t_wasConverted t_lastBits t_lastSum t_lastHeld t_lastLeft t_lastCode t_writtenLong t_codeMany t_acts t_done0 t_stoppedAt, ic E (r_t 0) 800 f14, ic E (r_t 27) 12 f17, ic E (r_t 25) 12 f15, ic E (r_t 28) 12 f18, zc E (r_t 26) 12 f16] H locs → lv_has ls 6 [(0, .ref h0), (1, .int a1), (2, .int a2), (3, .long x12), (5, .int x13)] → W p l e (hm_rr 4 94 0 0) s m args below meth c H locs 0 0 Q (F0 m 34 ls []) := by
          intro n
          induction n with
          | zero =>
            intro x12 x13 f14 f15 f16 f17 f18 x19 x20 H locs ls hf w hl
            exact pf_no hf
          | succ n ih34 =>
            intro x12 x13 f14 f15 f16 f17 f18 x19 x20 H locs ls hf w hl
            rw [lp_X8_mean_34] at hf
            refine lv_iload hx hb dX8_mean_34 (lv_at hl 4 rfl) ?_
            refine lv_iload_n hx hb dX8_mean_36 rfl (lv_at hl 2 rfl) ?_
            refine lv_icmp_ge (tgt := 69) hx hb dX8_mean_37 (by decide) (fun c37 => ?_) (fun c37 => ?_)
            · have hf := pf_t c37 hf
              exact kJ69 _ _ _ _ _ _ _ _ _ _ _ hf w (lv_sub hl [2, 3] rfl)
            · have hf := pf_e c37 hf
              refine lv_aload_n hx hb dX8_mean_40 rfl (lv_at hl 0 rfl) ?_
              refine lv_iload_n hx hb dX8_mean_41 rfl (lv_at hl 1 rfl) ?_
              refine lv_aload_n hx hb dX8_mean_42 rfl (lv_at hl 0 rfl) ?_
              refine lv_iconst (v := 0) hx hb dX8_mean_43 (by decide) ?_
              obtain ⟨r21, hc44, hf⟩ := pf_bi_0 hf
              refine hm_aft_i (ws' := fun _ => [oc8 h0 r_t t_base t_taped t_at t_faultPlace t_number t_newBits t_newTold t_newDoings t_newThings t_opened x19 x20 t_onPaper t_turned t_wasConverted t_lastBits t_lastSum t_lastHeld t_lastLeft t_lastCode t_writtenLong t_codeMany t_acts t_done0 t_stoppedAt, ic E (r_t 0) 800 f14, ic E (r_t 27) 12 f17, ic E (r_t 25) 12 f15, ic E (r_t 28) 12 f18, zc E (r_t 26) 12 f16]) (hm_runV (rest := [.int a1, .ref h0]) hx hb hml hown X hA Y w 0 (ci := 7) (T := TX8) (N := 55) rfl rfl mw_X8_get ml_X8_221 dX8_mean_44 hm_ac0 [.int 0] rfl [0, 1] rfl rfl (ct_X8_get l E H.size h0 r_t t_base t_taped t_at t_faultPlace t_number t_newBits t_newTold t_newDoings t_newThings t_opened x19 x20 t_onPaper t_turned t_wasConverted t_lastBits t_lastSum t_lastHeld t_lastLeft t_lastCode t_writtenLong t_codeMany t_acts t_done0 t_stoppedAt f14 0 (r21, ()) hc44) rfl hl.1 ⟨⟨rfl, rfl⟩, ⟨Nat.le_of_ble_eq_true rfl, Nat.le_of_ble_eq_true rfl⟩, ⟨Nat.le_of_ble_eq_true rfl, Nat.le_of_ble_eq_true rfl⟩, Nat.le_of_ble_eq_true rfl⟩) hA w [0, 1] [2, 3, 4, 5] [4, 5, 0, 1, 2, 3] rfl rfl (by decide) (fun _ => rfl) (fun _ H locs w => ?_)
              refine lv_aload_n hx hb dX8_mean_47 rfl (lv_at hl 0 rfl) ?_
              refine lv_iconst (v := 1) hx hb dX8_mean_48 (by decide) ?_
              obtain ⟨r22, hc49, hf⟩ := pf_bi_0 hf
              refine hm_aft_i (ws' := fun _ => [oc8 h0 r_t t_base t_taped t_at t_faultPlace t_number t_newBits t_newTold t_newDoings t_newThings t_opened x19 x20 t_onPaper t_turned t_wasConverted t_lastBits t_lastSum t_lastHeld t_lastLeft t_lastCode t_writtenLong t_codeMany t_acts t_done0 t_stoppedAt, ic E (r_t 0) 800 f14, ic E (r_t 27) 12 f17, ic E (r_t 25) 12 f15, ic E (r_t 28) 12 f18, zc E (r_t 26) 12 f16]) (hm_runV (rest := [.int r21, .int a1, .ref h0]) hx hb hml hown X hA Y w 0 (ci := 7) (T := TX8) (N := 55) rfl rfl mw_X8_get ml_X8_221 dX8_mean_49 hm_ac0 [.int 1] rfl [0, 1] rfl rfl (ct_X8_get l E H.size h0 r_t t_base t_taped t_at t_faultPlace t_number t_newBits t_newTold t_newDoings t_newThings t_opened x19 x20 t_onPaper t_turned t_wasConverted t_lastBits t_lastSum t_lastHeld t_lastLeft t_lastCode t_writtenLong t_codeMany t_acts t_done0 t_stoppedAt f14 1 (r22, ()) hc49) rfl hl.1 ⟨⟨rfl, rfl⟩, ⟨Nat.le_of_ble_eq_true rfl, Nat.le_of_ble_eq_true rfl⟩, ⟨Nat.le_of_ble_eq_true rfl, Nat.le_of_ble_eq_true rfl⟩, Nat.le_of_ble_eq_true rfl⟩) hA w [0, 1] [2, 3, 4, 5] [4, 5, 0, 1, 2, 3] rfl rfl (by decide) (fun _ => rfl) (fun _ H locs w => ?_)
              obtain ⟨f23, f24, f25, f26, f27, x28, x29, hc52, hf⟩ := pf_bv_7 hf
              refine hm_aft_v (ws' := fun _ => [oc8 h0 r_t t_base t_taped t_at t_faultPlace t_number t_newBits t_newTold t_newDoings t_newThings t_opened x28 x29 t_onPaper t_turned t_wasConverted t_lastBits t_lastSum t_lastHeld t_lastLeft t_lastCode t_writtenLong t_codeMany t_acts t_done0 t_stoppedAt, ic E (r_t 0) 800 f23, ic E (r_t 27) 12 f26, ic E (r_t 25) 12 f24, ic E (r_t 28) 12 f27, zc E (r_t 26) 12 f25]) (hm_runV (rest := []) hx hb hml hown X hA Y w 0 (ci := 7) (T := TX8) (N := 55) rfl rfl mw_X8_goThrough ml_X8_273 dX8_mean_52 hm_ac0 [.int a1, .int r21, .int r22] rfl [0, 1, 2, 3, 4, 5] rfl rfl (ct_X8_goThrough l E H.size h0 r_t t_base t_taped t_at t_faultPlace t_number t_newBits t_newTold t_newDoings t_newThings t_opened x19 x20 t_onPaper t_turned t_wasConverted t_lastBits t_lastSum t_lastHeld t_lastLeft t_lastCode t_writtenLong t_codeMany t_acts t_done0 t_stoppedAt f14 f17 f15 f18 f16 a1 r21 r22 (f23, f24, f25, f26, f27, x28, x29) hc52) rfl hl.1 ⟨⟨rfl, rfl⟩, ⟨Nat.le_of_ble_eq_true rfl, Nat.le_of_ble_eq_true rfl⟩, ⟨Nat.le_of_ble_eq_true rfl, Nat.le_of_ble_eq_true rfl⟩, Nat.le_of_ble_eq_true rfl⟩) hA w [0, 1, 2, 3, 4, 5] [] [0, 1, 2, 3, 4, 5] rfl rfl (by decide) (fun _ => rfl) (fun _ H locs w => ?_)
              refine lv_lload_n hx hb dX8_mean_55 rfl (lv_at hl 3 rfl) ?_
              refine lv_aload_n hx hb dX8_mean_56 rfl (lv_at hl 0 rfl) ?_
              obtain ⟨r30, hc57, hf⟩ := pf_bi_0 hf
              refine hm_aft_i (ws' := fun _ => [oc8 h0 r_t t_base t_taped t_at t_faultPlace t_number t_newBits t_newTold t_newDoings t_newThings t_opened x28 x29 t_onPaper t_turned t_wasConverted t_lastBits t_lastSum t_lastHeld t_lastLeft t_lastCode t_writtenLong t_codeMany t_acts t_done0 t_stoppedAt, ic E (r_t 0) 800 f23, ic E (r_t 27) 12 f26, ic E (r_t 25) 12 f24, ic E (r_t 28) 12 f27, zc E (r_t 26) 12 f25]) (hm_runV (rest := [.long x12]) hx hb hml hown X hA Y w 0 (ci := 7) (T := TX8) (N := 55) rfl rfl mw_X8_codeNow ml_X8_276 dX8_mean_57 hm_ac0 [] rfl [0, 1] rfl rfl (ct_X8_codeNow l E H.size h0 r_t t_base t_taped t_at t_faultPlace t_number t_newBits t_newTold t_newDoings t_newThings t_opened x28 x29 t_onPaper t_turned t_wasConverted t_lastBits t_lastSum t_lastHeld t_lastLeft t_lastCode t_writtenLong t_codeMany t_acts t_done0 t_stoppedAt f23 (r30, ()) hc57) rfl hl.1 ⟨⟨rfl, rfl⟩, ⟨Nat.le_of_ble_eq_true rfl, Nat.le_of_ble_eq_true rfl⟩, ⟨Nat.le_of_ble_eq_true rfl, Nat.le_of_ble_eq_true rfl⟩, Nat.le_of_ble_eq_true rfl⟩) hA w [0, 1] [2, 3, 4, 5] [4, 5, 0, 1, 2, 3] rfl rfl (by decide) (fun _ => rfl) (fun _ H locs w => ?_)
              refine lv_i2l hx hb dX8_mean_60 rfl ?_
              refine lv_ladd hx hb dX8_mean_61 ?_
              refine lv_topl (fun x31 ex31 => ?_)
              have hf := pf_nm ex31 hf
              refine lv_lstore_n (lv' := [(3, .long x31), (0, .ref h0), (1, .int a1), (2, .int a2), (5, .int x13)]) hx hb dX8_mean_62 rfl hl (by decide) rfl (fun ls hl => ?_)
              obtain ⟨x32, ex32⟩ : ∃ y : Int32, y = (x13 + 1) := ⟨_, rfl⟩
              have hf := pf_nm ex32 hf
              refine lv_iinc (v := x32) (lv' := [(5, .int x32), (3, .long x31), (0, .ref h0), (1, .int a1), (2, .int a2)]) hx hb dX8_mean_63 hl (k := 4) rfl (by rw [ex32]; rfl) (by decide) rfl (fun ls hl => ?_)
              refine lv_goto (tgt := 34) hx hb dX8_mean_66 (by decide) ?_
              exact ih34 _ _ _ _ _ _ _ _ _ _ _ _ hf w (lv_sub hl [2, 3, 4, 1, 0] rfl)
        exact klp_X8_mean_34 FU _ _ _ _ _ _ _ _ _ _ _ _ hf w (lv_sub hl [2, 3, 4, 1, 0] rfl)
      · have hf := pf_t c22 hf
        refine lv_ldcw (v := (-1000000)) hx hb hown (X.use ck_X8_283 rfl) dX8_mean_25 ?_
        exact hQ _ _ _ _ _ (t_all, t_decided, t_wasLate, t_askedOf, t_heldBehind, t_sum, t_heldAll) (fun _ => 0) hf rfl w dX8_mean_28
set_option maxHeartbeats 8000000 in
set_option maxRecDepth 100000 in
theorem ct_X8_keep (l : Launch) (E : hm_E) (sz : Nat) (h0 : Nat) (r_t : Nat → Nat) (t_base t_taped t_at t_faultPlace t_number t_newBits t_newTold t_newDoings t_newThings t_opened t_sum t_heldAll t_onPaper t_turned t_wasConverted t_lastBits t_lastSum t_lastHeld t_lastLeft t_lastCode t_writtenLong t_codeMany t_acts t_done0 t_stoppedAt : Int32) (t_all : Nat → Int32) (t_isKept : Nat → Int32) (a1 : Int32) (R : Int32 × (Nat → Int32) × (Nat → Int32)) (hf : pf_X8_keep a1 t_all t_isKept = some R) : hm_Mi l E yX8_keep cX8_keep 2 .boolean [] (hm_rr 1 23 0 0) [.ref h0, .int a1] sz [oc8 h0 r_t t_base t_taped t_at t_faultPlace t_number t_newBits t_newTold t_newDoings t_newThings t_opened t_sum t_heldAll t_onPaper t_turned t_wasConverted t_lastBits t_lastSum t_lastHeld t_lastLeft t_lastCode t_writtenLong t_codeMany t_acts t_done0 t_stoppedAt, ic E (r_t 0) 800 t_all, zc E (r_t 47) 3 t_isKept] R.1 (fun _ => [oc8 h0 r_t t_base t_taped t_at t_faultPlace t_number t_newBits t_newTold t_newDoings t_newThings t_opened t_sum t_heldAll t_onPaper t_turned t_wasConverted t_lastBits t_lastSum t_lastHeld t_lastLeft t_lastCode t_writtenLong t_codeMany t_acts t_done0 t_stoppedAt, ic E (r_t 0) 800 (R.2.1), zc E (r_t 47) 3 (R.2.2)]) := by
  refine hm_ct_i R (fun u qs => [oc8 h0 r_t t_base t_taped t_at t_faultPlace t_number t_newBits t_newTold t_newDoings t_newThings t_opened t_sum t_heldAll t_onPaper t_turned t_wasConverted t_lastBits t_lastSum t_lastHeld t_lastLeft t_lastCode t_writtenLong t_codeMany t_acts t_done0 t_stoppedAt, ic E (r_t 0) 800 (u.1), zc E (r_t 47) 3 (u.2)]) (by decide) (Nat.le_of_ble_eq_true rfl) (Or.inr rfl) ?_
  intro p e s m args below meth c A Q ls H locs hx hb hml hown X hA Y hex w hl hQ
  have hl : lv_has ls 2 [(0, .ref h0), (1, .int a1)] := hl
  unfold pf_X8_keep at hf
  refine lv_iload_n hx hb dX8_keep_0 rfl (lv_at hl 1 rfl) ?_
  refine lv_iconst (v := 0) hx hb dX8_keep_1 (by decide) ?_
  refine lv_iconst (v := 2) hx hb dX8_keep_2 (by decide) ?_
  obtain ⟨r1, hc3, hf⟩ := pf_bi_0 hf
  refine hm_aft_i (ws' := fun _ => [oc8 h0 r_t t_base t_taped t_at t_faultPlace t_number t_newBits t_newTold t_newDoings t_newThings t_opened t_sum t_heldAll t_onPaper t_turned t_wasConverted t_lastBits t_lastSum t_lastHeld t_lastLeft t_lastCode t_writtenLong t_codeMany t_acts t_done0 t_stoppedAt, ic E (r_t 0) 800 t_all, zc E (r_t 47) 3 t_isKept]) (hm_runS (rest := []) hx hb hml hown X hA Y w mw_X8_isIn ml_X8_129 dX8_keep_3 hm_ac0 [.int a1, .int 0, .int 2] rfl [] rfl rfl (ct_X8_isIn l E H.size a1 0 2 (r1, ()) hc3) rfl hl.1 ⟨⟨rfl, rfl⟩, ⟨Nat.le_of_ble_eq_true rfl, Nat.le_of_ble_eq_true rfl⟩, ⟨Nat.le_of_ble_eq_true rfl, Nat.le_of_ble_eq_true rfl⟩, Nat.le_of_ble_eq_true rfl⟩) hA w [] [0, 1, 2] [0, 1, 2] rfl rfl (by decide) (fun _ => rfl) (fun _ H locs w => ?_)
  refine lv_if_ne (tgt := 11) hx hb dX8_keep_6 (by decide) (fun c6 => ?_) (fun c6 => ?_)
  · have hf := pf_e c6 hf
    refine lv_aload_n hx hb dX8_keep_11 rfl (lv_at hl 0 rfl) ?_
    refine lv_iconst (v := 0) hx hb dX8_keep_12 (by decide) ?_
    refine lv_iconst (v := 1) hx hb dX8_keep_13 (by decide) ?_
    refine lv_iload_n hx hb dX8_keep_14 rfl (lv_at hl 1 rfl) ?_
    refine lv_iadd hx hb dX8_keep_15 ?_
    obtain ⟨f2, hc16, hf⟩ := pf_bv_1 hf
    refine hm_aft_v (ws' := fun _ => [oc8 h0 r_t t_base t_taped t_at t_faultPlace t_number t_newBits t_newTold t_newDoings t_newThings t_opened t_sum t_heldAll t_onPaper t_turned t_wasConverted t_lastBits t_lastSum t_lastHeld t_lastLeft t_lastCode t_writtenLong t_codeMany t_acts t_done0 t_stoppedAt, ic E (r_t 0) 800 f2, zc E (r_t 47) 3 t_isKept]) (hm_runV (rest := []) hx hb hml hown X hA Y w 0 (ci := 7) (T := TX8) (N := 55) rfl rfl mw_X8_copyRow ml_X8_11 dX8_keep_16 hm_ac0 [.int 0, .int (1 + a1)] rfl [0, 1] rfl rfl (ct_X8_copyRow l E H.size h0 r_t t_base t_taped t_at t_faultPlace t_number t_newBits t_newTold t_newDoings t_newThings t_opened t_sum t_heldAll t_onPaper t_turned t_wasConverted t_lastBits t_lastSum t_lastHeld t_lastLeft t_lastCode t_writtenLong t_codeMany t_acts t_done0 t_stoppedAt t_all 0 (1 + a1) f2 hc16) rfl hl.1 ⟨⟨rfl, rfl⟩, ⟨Nat.le_of_ble_eq_true rfl, Nat.le_of_ble_eq_true rfl⟩, ⟨Nat.le_of_ble_eq_true rfl, Nat.le_of_ble_eq_true rfl⟩, Nat.le_of_ble_eq_true rfl⟩) hA w [0, 1] [2] [1, 2, 0] rfl rfl (by decide) (fun _ => rfl) (fun _ H locs w => ?_)
    refine lv_aload_n hx hb dX8_keep_19 rfl (lv_at hl 0 rfl) ?_
    refine hm_get cb_X8 hx hb hown X w 0 47 fl_X8_101 dX8_keep_20 rfl (by decide) rfl ?_
    refine lv_iload_n hx hb dX8_keep_23 rfl (lv_at hl 1 rfl) ?_
    refine lv_iconst (v := 1) hx hb dX8_keep_24 (by decide) ?_
    obtain ⟨g25, hf⟩ := pf_ckI hf
    refine hm_zast (ws' := [oc8 h0 r_t t_base t_taped t_at t_faultPlace t_number t_newBits t_newTold t_newDoings t_newThings t_opened t_sum t_heldAll t_onPaper t_turned t_wasConverted t_lastBits t_lastSum t_lastHeld t_lastLeft t_lastCode t_writtenLong t_codeMany t_acts t_done0 t_stoppedAt, ic E (r_t 0) 800 f2, zc E (r_t 47) 3 (upd t_isKept a1.toNatClampNeg (vp_nar .boolean 1))]) hx hb X w 2 dX8_keep_25 rfl g25 rfl (fun H locs w => ?_)
    refine lv_iconst (v := 1) hx hb dX8_keep_26 (by decide) ?_
    exact hQ _ _ _ _ _ (f2, (upd t_isKept a1.toNatClampNeg (vp_nar .boolean 1))) (fun _ => 0) hf rfl w dX8_keep_27
  · have hf := pf_t c6 hf
    refine lv_iconst (v := 0) hx hb dX8_keep_9 (by decide) ?_
    exact hQ _ _ _ _ _ (t_all, t_isKept) (fun _ => 0) hf rfl w dX8_keep_10
set_option maxHeartbeats 8000000 in
set_option maxRecDepth 100000 in
theorem ct_X8_back (l : Launch) (E : hm_E) (sz : Nat) (h0 : Nat) (r_t : Nat → Nat) (t_base t_taped t_at t_faultPlace t_number t_newBits t_newTold t_newDoings t_newThings t_opened t_sum t_heldAll t_onPaper t_turned t_wasConverted t_lastBits t_lastSum t_lastHeld t_lastLeft t_lastCode t_writtenLong t_codeMany t_acts t_done0 t_stoppedAt : Int32) (t_all : Nat → Int32) (t_isKept : Nat → Int32) (a1 : Int32) (R : Int32 × (Nat → Int32) × Int32) (hf : pf_X8_back a1 t_all t_wasConverted t_isKept = some R) : hm_Mi l E yX8_back cX8_back 2 .boolean [] (hm_rr 1 23 0 0) [.ref h0, .int a1] sz [oc8 h0 r_t t_base t_taped t_at t_faultPlace t_number t_newBits t_newTold t_newDoings t_newThings t_opened t_sum t_heldAll t_onPaper t_turned t_wasConverted t_lastBits t_lastSum t_lastHeld t_lastLeft t_lastCode t_writtenLong t_codeMany t_acts t_done0 t_stoppedAt, ic E (r_t 0) 800 t_all, zc E (r_t 47) 3 t_isKept] R.1 (fun _ => [oc8 h0 r_t t_base t_taped t_at t_faultPlace t_number t_newBits t_newTold t_newDoings t_newThings t_opened t_sum t_heldAll t_onPaper t_turned (R.2.2) t_lastBits t_lastSum t_lastHeld t_lastLeft t_lastCode t_writtenLong t_codeMany t_acts t_done0 t_stoppedAt, ic E (r_t 0) 800 (R.2.1), zc E (r_t 47) 3 t_isKept]) := by
  refine hm_ct_i R (fun u qs => [oc8 h0 r_t t_base t_taped t_at t_faultPlace t_number t_newBits t_newTold t_newDoings t_newThings t_opened t_sum t_heldAll t_onPaper t_turned (u.2) t_lastBits t_lastSum t_lastHeld t_lastLeft t_lastCode t_writtenLong t_codeMany t_acts t_done0 t_stoppedAt, ic E (r_t 0) 800 (u.1), zc E (r_t 47) 3 t_isKept]) (by decide) (Nat.le_of_ble_eq_true rfl) (Or.inr rfl) ?_
  intro p e s m args below meth c A Q ls H locs hx hb hml hown X hA Y hex w hl hQ
  have hl : lv_has ls 2 [(0, .ref h0), (1, .int a1)] := hl
  unfold pf_X8_back at hf
  refine lv_iload_n hx hb dX8_back_0 rfl (lv_at hl 1 rfl) ?_
  refine lv_iconst (v := 0) hx hb dX8_back_1 (by decide) ?_
  refine lv_iconst (v := 2) hx hb dX8_back_2 (by decide) ?_
  obtain ⟨r1, hc3, hf⟩ := pf_bi_0 hf
  refine hm_aft_i (ws' := fun _ => [oc8 h0 r_t t_base t_taped t_at t_faultPlace t_number t_newBits t_newTold t_newDoings t_newThings t_opened t_sum t_heldAll t_onPaper t_turned t_wasConverted t_lastBits t_lastSum t_lastHeld t_lastLeft t_lastCode t_writtenLong t_codeMany t_acts t_done0 t_stoppedAt, ic E (r_t 0) 800 t_all, zc E (r_t 47) 3 t_isKept]) (hm_runS (rest := []) hx hb hml hown X hA Y w mw_X8_isIn ml_X8_129 dX8_back_3 hm_ac0 [.int a1, .int 0, .int 2] rfl [] rfl rfl (ct_X8_isIn l E H.size a1 0 2 (r1, ()) hc3) rfl hl.1 ⟨⟨rfl, rfl⟩, ⟨Nat.le_of_ble_eq_true rfl, Nat.le_of_ble_eq_true rfl⟩, ⟨Nat.le_of_ble_eq_true rfl, Nat.le_of_ble_eq_true rfl⟩, Nat.le_of_ble_eq_true rfl⟩) hA w [] [0, 1, 2] [0, 1, 2] rfl rfl (by decide) (fun _ => rfl) (fun _ H locs w => ?_)
  refine lv_if_eq (tgt := 18) hx hb dX8_back_6 (by decide) (fun c6 => ?_) (fun c6 => ?_)
  · have hf := pf_t c6 hf
    refine lv_iconst (v := 0) hx hb dX8_back_18 (by decide) ?_
    exact hQ _ _ _ _ _ (t_all, t_wasConverted) (fun _ => 0) hf rfl w dX8_back_19
  · have hf := pf_e c6 hf
    refine lv_aload_n hx hb dX8_back_9 rfl (lv_at hl 0 rfl) ?_
    refine hm_get cb_X8 hx hb hown X w 0 47 fl_X8_101 dX8_back_10 rfl (by decide) rfl ?_
    refine lv_iload_n hx hb dX8_back_13 rfl (lv_at hl 1 rfl) ?_
    obtain ⟨g14, hf⟩ := pf_ckI hf
    refine hm_zald hx hb X w 2 dX8_back_14 rfl g14 ?_
    refine lv_if_ne (tgt := 20) hx hb dX8_back_15 (by decide) (fun c15 => ?_) (fun c15 => ?_)
    · have hf := pf_e c15 hf
      refine lv_aload_n hx hb dX8_back_20 rfl (lv_at hl 0 rfl) ?_
      refine lv_iconst (v := 1) hx hb dX8_back_21 (by decide) ?_
      refine lv_iload_n hx hb dX8_back_22 rfl (lv_at hl 1 rfl) ?_
      refine lv_iadd hx hb dX8_back_23 ?_
      refine lv_iconst (v := 0) hx hb dX8_back_24 (by decide) ?_
      obtain ⟨f2, hc25, hf⟩ := pf_bv_1 hf
      refine hm_aft_v (ws' := fun _ => [oc8 h0 r_t t_base t_taped t_at t_faultPlace t_number t_newBits t_newTold t_newDoings t_newThings t_opened t_sum t_heldAll t_onPaper t_turned t_wasConverted t_lastBits t_lastSum t_lastHeld t_lastLeft t_lastCode t_writtenLong t_codeMany t_acts t_done0 t_stoppedAt, ic E (r_t 0) 800 f2, zc E (r_t 47) 3 t_isKept]) (hm_runV (rest := []) hx hb hml hown X hA Y w 0 (ci := 7) (T := TX8) (N := 55) rfl rfl mw_X8_copyRow ml_X8_11 dX8_back_25 hm_ac0 [.int (1 + a1), .int 0] rfl [0, 1] rfl rfl (ct_X8_copyRow l E H.size h0 r_t t_base t_taped t_at t_faultPlace t_number t_newBits t_newTold t_newDoings t_newThings t_opened t_sum t_heldAll t_onPaper t_turned t_wasConverted t_lastBits t_lastSum t_lastHeld t_lastLeft t_lastCode t_writtenLong t_codeMany t_acts t_done0 t_stoppedAt t_all (1 + a1) 0 f2 hc25) rfl hl.1 ⟨⟨rfl, rfl⟩, ⟨Nat.le_of_ble_eq_true rfl, Nat.le_of_ble_eq_true rfl⟩, ⟨Nat.le_of_ble_eq_true rfl, Nat.le_of_ble_eq_true rfl⟩, Nat.le_of_ble_eq_true rfl⟩) hA w [0, 1] [2] [1, 2, 0] rfl rfl (by decide) (fun _ => rfl) (fun _ H locs w => ?_)
      refine lv_aload_n hx hb dX8_back_28 rfl (lv_at hl 0 rfl) ?_
      refine lv_iconst (v := 0) hx hb dX8_back_29 (by decide) ?_
      refine hm_put (ws' := [oc8 h0 r_t t_base t_taped t_at t_faultPlace t_number t_newBits t_newTold t_newDoings t_newThings t_opened t_sum t_heldAll t_onPaper t_turned 0 t_lastBits t_lastSum t_lastHeld t_lastLeft t_lastCode t_writtenLong t_codeMany t_acts t_done0 t_stoppedAt, ic E (r_t 0) 800 f2, zc E (r_t 47) 3 t_isKept]) cb_X8 hx hb hown X w 0 33 fl_X8_181 dX8_back_30 rfl (by decide) (Nat.le_of_ble_eq_true rfl) rfl rfl rfl rfl (fun H locs w => ?_)
      refine lv_iconst (v := 1) hx hb dX8_back_33 (by decide) ?_
      exact hQ _ _ _ _ _ (f2, 0) (fun _ => 0) hf rfl w dX8_back_34
    · have hf := pf_t c15 hf
      refine lv_iconst (v := 0) hx hb dX8_back_18 (by decide) ?_
      exact hQ _ _ _ _ _ (t_all, t_wasConverted) (fun _ => 0) hf rfl w dX8_back_19
set_option maxHeartbeats 8000000 in
set_option maxRecDepth 100000 in
theorem ct_X8_apart (l : Launch) (E : hm_E) (sz : Nat) (h0 : Nat) (r_t : Nat → Nat) (t_base t_taped t_at t_faultPlace t_number t_newBits t_newTold t_newDoings t_newThings t_opened t_sum t_heldAll t_onPaper t_turned t_wasConverted t_lastBits t_lastSum t_lastHeld t_lastLeft t_lastCode t_writtenLong t_codeMany t_acts t_done0 t_stoppedAt : Int32) (t_all : Nat → Int32) (t_askedOf : Nat → Int32) (t_decided : Nat → Int32) (t_heldBehind : Nat → Int32) (t_isKept : Nat → Int32) (t_wasLate : Nat → Int32) (a1 : Int32) (a2 : Int32) (a3 : Int32) (a4 : Int32) (R : Int32 × (Nat → Int32) × Int32 × (Nat → Int32) × (Nat → Int32) × (Nat → Int32) × (Nat → Int32) × Int32 × Int32 × Int32) (hf : pf_X8_apart a1 a2 a3 a4 t_all t_base t_decided t_wasLate t_askedOf t_heldBehind t_sum t_heldAll t_onPaper t_turned t_isKept = some R) : hm_Mi l E yX8_apart cX8_apart 11 .int [] (hm_rr 5 115 0 0) [.ref h0, .int a1, .int a2, .int a3, .int a4] sz [oc8 h0 r_t t_base t_taped t_at t_faultPlace t_number t_newBits t_newTold t_newDoings t_newThings t_opened t_sum t_heldAll t_onPaper t_turned t_wasConverted t_lastBits t_lastSum t_lastHeld t_lastLeft t_lastCode t_writtenLong t_codeMany t_acts t_done0 t_stoppedAt, ic E (r_t 0) 800 t_all, ic E (r_t 27) 12 t_askedOf, ic E (r_t 25) 12 t_decided, ic E (r_t 28) 12 t_heldBehind, zc E (r_t 47) 3 t_isKept, zc E (r_t 26) 12 t_wasLate] R.1 (fun _ => [oc8 h0 r_t (R.2.2.1) t_taped t_at t_faultPlace t_number t_newBits t_newTold t_newDoings t_newThings t_opened (R.2.2.2.2.2.2.2.1) (R.2.2.2.2.2.2.2.2.1) (R.2.2.2.2.2.2.2.2.2) t_turned t_wasConverted t_lastBits t_lastSum t_lastHeld t_lastLeft t_lastCode t_writtenLong t_codeMany t_acts t_done0 t_stoppedAt, ic E (r_t 0) 800 (R.2.1), ic E (r_t 27) 12 (R.2.2.2.2.2.1), ic E (r_t 25) 12 (R.2.2.2.1), ic E (r_t 28) 12 (R.2.2.2.2.2.2.1), zc E (r_t 47) 3 t_isKept, zc E (r_t 26) 12 (R.2.2.2.2.1)]) := by
  refine hm_ct_i R (fun u qs => [oc8 h0 r_t (u.2.1) t_taped t_at t_faultPlace t_number t_newBits t_newTold t_newDoings t_newThings t_opened (u.2.2.2.2.2.2.1) (u.2.2.2.2.2.2.2.1) (u.2.2.2.2.2.2.2.2) t_turned t_wasConverted t_lastBits t_lastSum t_lastHeld t_lastLeft t_lastCode t_writtenLong t_codeMany t_acts t_done0 t_stoppedAt, ic E (r_t 0) 800 (u.1), ic E (r_t 27) 12 (u.2.2.2.2.1), ic E (r_t 25) 12 (u.2.2.1), ic E (r_t 28) 12 (u.2.2.2.2.2.1), zc E (r_t 47) 3 t_isKept, zc E (r_t 26) 12 (u.2.2.2.1)]) (by decide) (Nat.le_of_ble_eq_true rfl) (Or.inl rfl) ?_
  intro p e s m args below meth c A Q ls H locs hx hb hml hown X hA Y hex w hl hQ
  have hl : lv_has ls 11 [(0, .ref h0), (1, .int a1), (2, .int a2), (3, .int a3), (4, .int a4)] := hl
  unfold pf_X8_apart at hf
  refine lv_iload_n hx hb dX8_apart_0 rfl (lv_at hl 1 rfl) ?_
  refine lv_iconst (v := 0) hx hb dX8_apart_1 (by decide) ?_
  refine lv_iconst (v := 2) hx hb dX8_apart_2 (by decide) ?_
  obtain ⟨r1, hc3, hf⟩ := pf_bi_0 hf
  refine hm_aft_i (ws' := fun _ => [oc8 h0 r_t t_base t_taped t_at t_faultPlace t_number t_newBits t_newTold t_newDoings t_newThings t_opened t_sum t_heldAll t_onPaper t_turned t_wasConverted t_lastBits t_lastSum t_lastHeld t_lastLeft t_lastCode t_writtenLong t_codeMany t_acts t_done0 t_stoppedAt, ic E (r_t 0) 800 t_all, ic E (r_t 27) 12 t_askedOf, ic E (r_t 25) 12 t_decided, ic E (r_t 28) 12 t_heldBehind, zc E (r_t 47) 3 t_isKept, zc E (r_t 26) 12 t_wasLate]) (hm_runS (rest := []) hx hb hml hown X hA Y w mw_X8_isIn ml_X8_129 dX8_apart_3 hm_ac0 [.int a1, .int 0, .int 2] rfl [] rfl rfl (ct_X8_isIn l E H.size a1 0 2 (r1, ()) hc3) rfl hl.1 ⟨⟨rfl, rfl⟩, ⟨Nat.le_of_ble_eq_true rfl, Nat.le_of_ble_eq_true rfl⟩, ⟨Nat.le_of_ble_eq_true rfl, Nat.le_of_ble_eq_true rfl⟩, Nat.le_of_ble_eq_true rfl⟩) hA w [] [0, 1, 2, 3, 4, 5, 6] [0, 1, 2, 3, 4, 5, 6] rfl rfl (by decide) (fun _ => rfl) (fun _ H locs w => ?_)
  refine lv_if_eq (tgt := 62) hx hb dX8_apart_6 (by decide) (fun c6 => ?_) (fun c6 => ?_)
  · have hf := pf_t c6 hf
    refine lv_ldcw (v := (-1000000)) hx hb hown (X.use ck_X8_283 rfl) dX8_apart_62 ?_
    exact hQ _ _ _ _ _ (t_all, t_base, t_decided, t_wasLate, t_askedOf, t_heldBehind, t_sum, t_heldAll, t_onPaper) (fun _ => 0) hf rfl w dX8_apart_65
  · have hf := pf_e c6 hf
    refine lv_aload_n hx hb dX8_apart_9 rfl (lv_at hl 0 rfl) ?_
    refine hm_get cb_X8 hx hb hown X w 0 47 fl_X8_101 dX8_apart_10 rfl (by decide) rfl ?_
    refine lv_iload_n hx hb dX8_apart_13 rfl (lv_at hl 1 rfl) ?_
    obtain ⟨g14, hf⟩ := pf_ckI hf
    refine hm_zald hx hb X w 5 dX8_apart_14 rfl g14 ?_
    refine lv_if_eq (tgt := 62) hx hb dX8_apart_15 (by decide) (fun c15 => ?_) (fun c15 => ?_)
    · have hf := pf_t c15 hf
      refine lv_ldcw (v := (-1000000)) hx hb hown (X.use ck_X8_283 rfl) dX8_apart_62 ?_
      exact hQ _ _ _ _ _ (t_all, t_base, t_decided, t_wasLate, t_askedOf, t_heldBehind, t_sum, t_heldAll, t_onPaper) (fun _ => 0) hf rfl w dX8_apart_65
    · have hf := pf_e c15 hf
      refine lv_aload_n hx hb dX8_apart_18 rfl (lv_at hl 0 rfl) ?_
      refine lv_iconst (v := 0) hx hb dX8_apart_19 (by decide) ?_
      obtain ⟨r2, hc20, hf⟩ := pf_bi_0 hf
      refine hm_aft_i (ws' := fun _ => [oc8 h0 r_t t_base t_taped t_at t_faultPlace t_number t_newBits t_newTold t_newDoings t_newThings t_opened t_sum t_heldAll t_onPaper t_turned t_wasConverted t_lastBits t_lastSum t_lastHeld t_lastLeft t_lastCode t_writtenLong t_codeMany t_acts t_done0 t_stoppedAt, ic E (r_t 0) 800 t_all, ic E (r_t 27) 12 t_askedOf, ic E (r_t 25) 12 t_decided, ic E (r_t 28) 12 t_heldBehind, zc E (r_t 47) 3 t_isKept, zc E (r_t 26) 12 t_wasLate]) (hm_runV (rest := []) hx hb hml hown X hA Y w 0 (ci := 7) (T := TX8) (N := 55) rfl rfl mw_X8_get ml_X8_221 dX8_apart_20 hm_ac0 [.int 0] rfl [0, 1] rfl rfl (ct_X8_get l E H.size h0 r_t t_base t_taped t_at t_faultPlace t_number t_newBits t_newTold t_newDoings t_newThings t_opened t_sum t_heldAll t_onPaper t_turned t_wasConverted t_lastBits t_lastSum t_lastHeld t_lastLeft t_lastCode t_writtenLong t_codeMany t_acts t_done0 t_stoppedAt t_all 0 (r2, ()) hc20) rfl hl.1 ⟨⟨rfl, rfl⟩, ⟨Nat.le_of_ble_eq_true rfl, Nat.le_of_ble_eq_true rfl⟩, ⟨Nat.le_of_ble_eq_true rfl, Nat.le_of_ble_eq_true rfl⟩, Nat.le_of_ble_eq_true rfl⟩) hA w [0, 1] [2, 3, 4, 5, 6] [5, 6, 0, 1, 2, 3, 4] rfl rfl (by decide) (fun _ => rfl) (fun _ H locs w => ?_)
      refine lv_if_eq (tgt := 62) hx hb dX8_apart_23 (by decide) (fun c23 => ?_) (fun c23 => ?_)
      · have hf := pf_t c23 hf
        refine lv_ldcw (v := (-1000000)) hx hb hown (X.use ck_X8_283 rfl) dX8_apart_62 ?_
        exact hQ _ _ _ _ _ (t_all, t_base, t_decided, t_wasLate, t_askedOf, t_heldBehind, t_sum, t_heldAll, t_onPaper) (fun _ => 0) hf rfl w dX8_apart_65
      · have hf := pf_e c23 hf
        refine lv_aload_n hx hb dX8_apart_26 rfl (lv_at hl 0 rfl) ?_
        refine hm_get cb_X8 hx hb hown X w 0 0 fl_X8_1 dX8_apart_27 rfl (by decide) rfl ?_
        refine lv_sipush (v := 160) hx hb dX8_apart_30 (by decide) ?_
        refine lv_iconst (v := 1) hx hb dX8_apart_33 (by decide) ?_
        refine lv_iload_n hx hb dX8_apart_34 rfl (lv_at hl 1 rfl) ?_
        refine lv_iadd hx hb dX8_apart_35 ?_
        refine lv_imul hx hb dX8_apart_36 ?_
        refine lv_iconst (v := 0) hx hb dX8_apart_37 (by decide) ?_
        refine lv_iadd hx hb dX8_apart_38 ?_
        obtain ⟨g39, hf⟩ := pf_ckI hf
        refine hm_iald hx hb X w 1 dX8_apart_39 rfl g39 ?_
        refine lv_if_eq (tgt := 62) hx hb dX8_apart_40 (by decide) (fun c40 => ?_) (fun c40 => ?_)
        · have hf := pf_t c40 hf
          refine lv_ldcw (v := (-1000000)) hx hb hown (X.use ck_X8_283 rfl) dX8_apart_62 ?_
          exact hQ _ _ _ _ _ (t_all, t_base, t_decided, t_wasLate, t_askedOf, t_heldBehind, t_sum, t_heldAll, t_onPaper) (fun _ => 0) hf rfl w dX8_apart_65
        · have hf := pf_e c40 hf
          refine lv_iload_n hx hb dX8_apart_43 rfl (lv_at hl 2 rfl) ?_
          refine lv_iload_n hx hb dX8_apart_44 rfl (lv_at hl 3 rfl) ?_
          refine lv_iconst (v := 1) hx hb dX8_apart_45 (by decide) ?_
          obtain ⟨r3, hc46, hf⟩ := pf_bi_0 hf
          refine hm_aft_i (ws' := fun _ => [oc8 h0 r_t t_base t_taped t_at t_faultPlace t_number t_newBits t_newTold t_newDoings t_newThings t_opened t_sum t_heldAll t_onPaper t_turned t_wasConverted t_lastBits t_lastSum t_lastHeld t_lastLeft t_lastCode t_writtenLong t_codeMany t_acts t_done0 t_stoppedAt, ic E (r_t 0) 800 t_all, ic E (r_t 27) 12 t_askedOf, ic E (r_t 25) 12 t_decided, ic E (r_t 28) 12 t_heldBehind, zc E (r_t 47) 3 t_isKept, zc E (r_t 26) 12 t_wasLate]) (hm_runS (rest := []) hx hb hml hown X hA Y w mw_X8_isRow ml_X8_344 dX8_apart_46 hm_ac0 [.int a2, .int a3, .int 1] rfl [] rfl rfl (ct_X8_isRow l E H.size a2 a3 1 (r3, ()) hc46) rfl hl.1 ⟨⟨rfl, rfl⟩, ⟨Nat.le_of_ble_eq_true rfl, Nat.le_of_ble_eq_true rfl⟩, ⟨Nat.le_of_ble_eq_true rfl, Nat.le_of_ble_eq_true rfl⟩, Nat.le_of_ble_eq_true rfl⟩) hA w [] [0, 1, 2, 3, 4, 5, 6] [0, 1, 2, 3, 4, 5, 6] rfl rfl (by decide) (fun _ => rfl) (fun _ H locs w => ?_)
          refine lv_if_eq (tgt := 62) hx hb dX8_apart_49 (by decide) (fun c49 => ?_) (fun c49 => ?_)
          · have hf := pf_t c49 hf
            refine lv_ldcw (v := (-1000000)) hx hb hown (X.use ck_X8_283 rfl) dX8_apart_62 ?_
            exact hQ _ _ _ _ _ (t_all, t_base, t_decided, t_wasLate, t_askedOf, t_heldBehind, t_sum, t_heldAll, t_onPaper) (fun _ => 0) hf rfl w dX8_apart_65
          · have hf := pf_e c49 hf
            refine lv_iload hx hb dX8_apart_52 (lv_at hl 4 rfl) ?_
            refine lv_iconst (v := 0) hx hb dX8_apart_54 (by decide) ?_
            refine lv_iconst (v := 2) hx hb dX8_apart_55 (by decide) ?_
            obtain ⟨r4, hc56, hf⟩ := pf_bi_0 hf
            refine hm_aft_i (ws' := fun _ => [oc8 h0 r_t t_base t_taped t_at t_faultPlace t_number t_newBits t_newTold t_newDoings t_newThings t_opened t_sum t_heldAll t_onPaper t_turned t_wasConverted t_lastBits t_lastSum t_lastHeld t_lastLeft t_lastCode t_writtenLong t_codeMany t_acts t_done0 t_stoppedAt, ic E (r_t 0) 800 t_all, ic E (r_t 27) 12 t_askedOf, ic E (r_t 25) 12 t_decided, ic E (r_t 28) 12 t_heldBehind, zc E (r_t 47) 3 t_isKept, zc E (r_t 26) 12 t_wasLate]) (hm_runS (rest := []) hx hb hml hown X hA Y w mw_X8_isIn ml_X8_129 dX8_apart_56 hm_ac0 [.int a4, .int 0, .int 2] rfl [] rfl rfl (ct_X8_isIn l E H.size a4 0 2 (r4, ()) hc56) rfl hl.1 ⟨⟨rfl, rfl⟩, ⟨Nat.le_of_ble_eq_true rfl, Nat.le_of_ble_eq_true rfl⟩, ⟨Nat.le_of_ble_eq_true rfl, Nat.le_of_ble_eq_true rfl⟩, Nat.le_of_ble_eq_true rfl⟩) hA w [] [0, 1, 2, 3, 4, 5, 6] [0, 1, 2, 3, 4, 5, 6] rfl rfl (by decide) (fun _ => rfl) (fun _ H locs w => ?_)
            refine lv_if_ne (tgt := 66) hx hb dX8_apart_59 (by decide) (fun c59 => ?_) (fun c59 => ?_)
            · have hf := pf_e c59 hf
              refine lv_iconst (v := 0) hx hb dX8_apart_66 (by decide) ?_
              refine lv_istore (lv' := [(5, .int 0), (0, .ref h0), (1, .int a1), (2, .int a2), (3, .int a3), (4, .int a4)]) hx hb dX8_apart_67 hl (by decide) rfl (fun ls hl => ?_)
              refine lv_ldcw (v := (-1000000)) hx hb hown (X.use ck_X8_283 rfl) dX8_apart_69 ?_
              refine lv_istore (lv' := [(6, .int (-1000000)), (5, .int 0), (0, .ref h0), (1, .int a1), (2, .int a2), (3, .int a3), (4, .int a4)]) hx hb dX8_apart_72 hl (by decide) rfl (fun ls hl => ?_)
              refine lv_iconst (v := 0) hx hb dX8_apart_74 (by decide) ?_
              refine lv_istore (lv' := [(7, .int 0), (6, .int (-1000000)), (5, .int 0), (0, .ref h0), (1, .int a1), (2, .int a2), (3, .int a3), (4, .int a4)]) hx hb dX8_apart_75 hl (by decide) rfl (fun ls hl => ?_)
              refine lv_iload_n hx hb dX8_apart_77 rfl (lv_at hl 5 rfl) ?_
              refine lv_istore (lv' := [(8, .int a2), (7, .int 0), (6, .int (-1000000)), (5, .int 0), (0, .ref h0), (1, .int a1), (2, .int a2), (3, .int a3), (4, .int a4)]) hx hb dX8_apart_78 hl (by decide) rfl (fun ls hl => ?_)
              obtain ⟨J184, hJ184, hf⟩ := pf_jn hf
              have kJ184 : ∀ (x5 : Int32) (x6 : Int32) (x7 : Int32) (f8 : Nat → Int32) (x9 : Int32) (f10 : Nat → Int32) (f11 : Nat → Int32) (f12 : Nat → Int32) (f13 : Nat → Int32) (x14 : Int32) (x15 : Int32) (x16 : Int32) (H : Heap) (locs : List Loc) (ls : Array Slot), J184 x5 x6 x7 f8 x9 f10 f11 f12 f13 x14 x15 x16 = some R → hm_W E A s.heap [oc8 h0 r_t x9 t_taped t_at t_faultPlace t_number t_newBits t_newTold t_newDoings t_newThings t_opened x14 x15 x16 t_turned t_wasConverted t_lastBits t_lastSum t_lastHeld t_lastLeft t_lastCode t_writtenLong t_codeMany t_acts t_done0 t_stoppedAt, ic E (r_t 0) 800 f8, ic E (r_t 27) 12 f12, ic E (r_t 25) 12 f10, ic E (r_t 28) 12 f13, zc E (r_t 47) 3 t_isKept, zc E (r_t 26) 12 f11] H locs → lv_has ls 11 [(4, .int a4), (5, .int x5), (6, .int x6), (7, .int x7)] → W p l e (hm_rr 5 115 0 0) s m args below meth c H locs 0 0 Q (F0 m 184 ls []) := by
                intro x5 x6 x7 f8 x9 f10 f11 f12 f13 x14 x15 x16 H locs ls hf w hl
                have hf := pf_j12 hJ184 hf
                refine lv_iload hx hb dX8_apart_184 (lv_at hl 0 rfl) ?_
                refine lv_if_ne (tgt := 194) hx hb dX8_apart_186 (by decide) (fun c186 => ?_) (fun c186 => ?_)
                · have hf := pf_e c186 hf
                  refine lv_iload hx hb dX8_apart_194 (lv_at hl 0 rfl) ?_
                  refine lv_iconst (v := 1) hx hb dX8_apart_196 (by decide) ?_
                  refine lv_icmp_ne (tgt := 205) hx hb dX8_apart_197 (by decide) (fun c197 => ?_) (fun c197 => ?_)
                  · have hf := pf_e c197 hf
                    refine lv_iload hx hb dX8_apart_205 (lv_at hl 3 rfl) ?_
                    exact hQ _ _ _ _ _ (f8, x9, f10, f11, f12, f13, x14, x15, x16) (fun _ => 0) hf rfl w dX8_apart_207
                  · have hf := pf_t c197 hf
                    refine lv_iload hx hb dX8_apart_200 (lv_at hl 2 rfl) ?_
                    refine lv_goto (tgt := 207) hx hb dX8_apart_202 (by decide) ?_
                    exact hQ _ _ _ _ _ (f8, x9, f10, f11, f12, f13, x14, x15, x16) (fun _ => 0) hf rfl w dX8_apart_207
                · have hf := pf_t c186 hf
                  refine lv_iload hx hb dX8_apart_189 (lv_at hl 1 rfl) ?_
                  refine lv_goto (tgt := 207) hx hb dX8_apart_191 (by decide) ?_
                  exact hQ _ _ _ _ _ (f8, x9, f10, f11, f12, f13, x14, x15, x16) (fun _ => 0) hf rfl w dX8_apart_207
              have klp_X8_apart_80 : ∀ (n : Nat) (x17 : Int32) (x18 : Int32) (x19 : Int32) (x20 : Int32) (f21 : Nat → Int32) (x22 : Int32) (f23 : Nat → Int32) (f24 : Nat → Int32) (f25 : Nat → Int32) (f26 : Nat → Int32) (x27 : Int32) (x28 : Int32) (x29 : Int32) (H : Heap) (locs : List Loc) (ls : Array Slot), lp_X8_apart_80 a1 a3 t_turned J184 n x17 x18 x19 x20 f21 x22 f23 f24 f25 f26 x27 x28 x29 = some R → hm_W E A s.heap [oc8 h0 r_t x22 t_taped t_at t_faultPlace t_number t_newBits t_newTold t_newDoings t_newThings t_opened x27 x28 x29 t_turned t_wasConverted t_lastBits t_lastSum t_lastHeld t_lastLeft t_lastCode t_writtenLong t_codeMany t_acts t_done0 t_stoppedAt, ic E (r_t 0) 800 f21, ic E (r_t 27) 12 f25, ic E (r_t 25) 12 f23, ic E (r_t 28) 12 f26, zc E (r_t 47) 3 t_isKept, zc E (r_t 26) 12 f24] H locs → lv_has ls 11 [(0, .ref h0), (1, .int a1), (3, .int a3), (4, .int a4), (5, .int x17), (6, .int x18), (7, .int x19), (8, .int x20)] → W p l e (hm_rr 5 115 0 0) s m args below meth c H locs 0 0 Q (F0 m 80 ls []) := by
                intro n
                induction n with
                | zero =>
                  intro x17 x18 x19 x20 f21 x22 f23 f24 f25 f26 x27 x28 x29 H locs ls hf w hl
                  exact pf_no hf
                | succ n ih80 =>
                  intro x17 x18 x19 x20 f21 x22 f23 f24 f25 f26 x27 x28 x29 H locs ls hf w hl
                  rw [lp_X8_apart_80] at hf
                  refine lv_iload hx hb dX8_apart_80 (lv_at hl 7 rfl) ?_
                  refine lv_iload_n hx hb dX8_apart_82 rfl (lv_at hl 2 rfl) ?_
                  refine lv_icmp_gt (tgt := 184) hx hb dX8_apart_83 (by decide) (fun c83 => ?_) (fun c83 => ?_)
                  · have hf := pf_t c83 hf
                    exact kJ184 _ _ _ _ _ _ _ _ _ _ _ _ _ _ _ hf w (lv_sub hl [3, 4, 5, 6] rfl)
                  · have hf := pf_e c83 hf
                    refine lv_aload_n hx hb dX8_apart_86 rfl (lv_at hl 0 rfl) ?_
                    refine lv_iload hx hb dX8_apart_87 (lv_at hl 7 rfl) ?_
                    obtain ⟨r30, f31, f32, f33, f34, f35, x36, x37, x38, hc89, hf⟩ := pf_bi_8 hf
                    refine hm_aft_i (ws' := fun _ => [oc8 h0 r_t x22 t_taped t_at t_faultPlace t_number t_newBits t_newTold t_newDoings t_newThings t_opened x36 x37 x38 t_turned t_wasConverted t_lastBits t_lastSum t_lastHeld t_lastLeft t_lastCode t_writtenLong t_codeMany t_acts t_done0 t_stoppedAt, ic E (r_t 0) 800 f31, ic E (r_t 27) 12 f34, ic E (r_t 25) 12 f32, ic E (r_t 28) 12 f35, zc E (r_t 47) 3 t_isKept, zc E (r_t 26) 12 f33]) (hm_runV (rest := []) hx hb hml hown X hA Y w 0 (ci := 7) (T := TX8) (N := 55) rfl rfl mw_X8_paperCode ml_X8_308 dX8_apart_89 hm_ac0 [.int x20] rfl [0, 1, 2, 3, 4, 6] rfl rfl (ct_X8_paperCode l E H.size h0 r_t x22 t_taped t_at t_faultPlace t_number t_newBits t_newTold t_newDoings t_newThings t_opened x27 x28 x29 t_turned t_wasConverted t_lastBits t_lastSum t_lastHeld t_lastLeft t_lastCode t_writtenLong t_codeMany t_acts t_done0 t_stoppedAt f21 f25 f23 f26 f24 x20 (r30, f31, f32, f33, f34, f35, x36, x37, x38) hc89) rfl hl.1 ⟨⟨rfl, rfl⟩, ⟨Nat.le_of_ble_eq_true rfl, Nat.le_of_ble_eq_true rfl⟩, ⟨Nat.le_of_ble_eq_true rfl, Nat.le_of_ble_eq_true rfl⟩, Nat.le_of_ble_eq_true rfl⟩) hA w [0, 1, 2, 3, 4, 6] [5] [1, 2, 3, 4, 5, 0, 6] rfl rfl (by decide) (fun _ => rfl) (fun _ H locs w => ?_)
                    refine lv_istore (lv' := [(9, .int r30), (0, .ref h0), (1, .int a1), (3, .int a3), (4, .int a4), (5, .int x17), (6, .int x18), (7, .int x19), (8, .int x20)]) hx hb dX8_apart_92 hl (by decide) rfl (fun ls hl => ?_)
                    refine lv_aload_n hx hb dX8_apart_94 rfl (lv_at hl 1 rfl) ?_
                    refine lv_sipush (v := 160) hx hb dX8_apart_95 (by decide) ?_
                    refine lv_iconst (v := 1) hx hb dX8_apart_98 (by decide) ?_
                    refine lv_iload_n hx hb dX8_apart_99 rfl (lv_at hl 2 rfl) ?_
                    refine lv_iadd hx hb dX8_apart_100 ?_
                    refine lv_imul hx hb dX8_apart_101 ?_
                    refine lv_topi (fun x39 ex39 => ?_)
                    have hf := pf_nm ex39 hf
                    refine hm_put (ws' := [oc8 h0 r_t x39 t_taped t_at t_faultPlace t_number t_newBits t_newTold t_newDoings t_newThings t_opened x36 x37 x38 t_turned t_wasConverted t_lastBits t_lastSum t_lastHeld t_lastLeft t_lastCode t_writtenLong t_codeMany t_acts t_done0 t_stoppedAt, ic E (r_t 0) 800 f31, ic E (r_t 27) 12 f34, ic E (r_t 25) 12 f32, ic E (r_t 28) 12 f35, zc E (r_t 47) 3 t_isKept, zc E (r_t 26) 12 f33]) cb_X8 hx hb hown X w 0 1 fl_X8_7 dX8_apart_102 rfl (by decide) (Nat.le_of_ble_eq_true rfl) rfl rfl rfl rfl (fun H locs w => ?_)
                    refine lv_iload hx hb dX8_apart_105 (lv_at hl 0 rfl) ?_
                    refine lv_aload_n hx hb dX8_apart_107 rfl (lv_at hl 1 rfl) ?_
                    refine lv_iload hx hb dX8_apart_108 (lv_at hl 8 rfl) ?_
                    obtain ⟨r40, f41, f42, f43, f44, f45, x46, x47, x48, hc110, hf⟩ := pf_bi_8 hf
                    refine hm_aft_i (ws' := fun _ => [oc8 h0 r_t x39 t_taped t_at t_faultPlace t_number t_newBits t_newTold t_newDoings t_newThings t_opened x46 x47 x48 t_turned t_wasConverted t_lastBits t_lastSum t_lastHeld t_lastLeft t_lastCode t_writtenLong t_codeMany t_acts t_done0 t_stoppedAt, ic E (r_t 0) 800 f41, ic E (r_t 27) 12 f44, ic E (r_t 25) 12 f42, ic E (r_t 28) 12 f45, zc E (r_t 47) 3 t_isKept, zc E (r_t 26) 12 f43]) (hm_runV (rest := [.int r30]) hx hb hml hown X hA Y w 0 (ci := 7) (T := TX8) (N := 55) rfl rfl mw_X8_paperCode ml_X8_308 dX8_apart_110 hm_ac0 [.int x20] rfl [0, 1, 2, 3, 4, 6] rfl rfl (ct_X8_paperCode l E H.size h0 r_t x39 t_taped t_at t_faultPlace t_number t_newBits t_newTold t_newDoings t_newThings t_opened x36 x37 x38 t_turned t_wasConverted t_lastBits t_lastSum t_lastHeld t_lastLeft t_lastCode t_writtenLong t_codeMany t_acts t_done0 t_stoppedAt f31 f34 f32 f35 f33 x20 (r40, f41, f42, f43, f44, f45, x46, x47, x48) hc110) rfl hl.1 ⟨⟨rfl, rfl⟩, ⟨Nat.le_of_ble_eq_true rfl, Nat.le_of_ble_eq_true rfl⟩, ⟨Nat.le_of_ble_eq_true rfl, Nat.le_of_ble_eq_true rfl⟩, Nat.le_of_ble_eq_true rfl⟩) hA w [0, 1, 2, 3, 4, 6] [5] [1, 2, 3, 4, 5, 0, 6] rfl rfl (by decide) (fun _ => rfl) (fun _ H locs w => ?_)
                    refine lv_isub hx hb dX8_apart_113 ?_
                    refine lv_topi (fun x49 ex49 => ?_)
                    have hf := pf_nm ex49 hf
                    refine lv_istore (lv' := [(10, .int x49), (9, .int r30), (0, .ref h0), (1, .int a1), (3, .int a3), (4, .int a4), (5, .int x17), (6, .int x18), (7, .int x19), (8, .int x20)]) hx hb dX8_apart_114 hl (by decide) rfl (fun ls hl => ?_)
                    refine lv_aload_n hx hb dX8_apart_116 rfl (lv_at hl 2 rfl) ?_
                    refine lv_iconst (v := 0) hx hb dX8_apart_117 (by decide) ?_
                    refine hm_put (ws' := [oc8 h0 r_t 0 t_taped t_at t_faultPlace t_number t_newBits t_newTold t_newDoings t_newThings t_opened x46 x47 x48 t_turned t_wasConverted t_lastBits t_lastSum t_lastHeld t_lastLeft t_lastCode t_writtenLong t_codeMany t_acts t_done0 t_stoppedAt, ic E (r_t 0) 800 f41, ic E (r_t 27) 12 f44, ic E (r_t 25) 12 f42, ic E (r_t 28) 12 f45, zc E (r_t 47) 3 t_isKept, zc E (r_t 26) 12 f43]) cb_X8 hx hb hown X w 0 1 fl_X8_7 dX8_apart_118 rfl (by decide) (Nat.le_of_ble_eq_true rfl) rfl rfl rfl rfl (fun H locs w => ?_)
                    refine lv_iload hx hb dX8_apart_121 (lv_at hl 0 rfl) ?_
                    obtain ⟨J134, hJ134, hf⟩ := pf_jn hf
                    have kJ134 : ∀ (x50 : Int32) (H : Heap) (locs : List Loc) (ls : Array Slot), J134 x50 = some R → hm_W E A s.heap [oc8 h0 r_t 0 t_taped t_at t_faultPlace t_number t_newBits t_newTold t_newDoings t_newThings t_opened x46 x47 x48 t_turned t_wasConverted t_lastBits t_lastSum t_lastHeld t_lastLeft t_lastCode t_writtenLong t_codeMany t_acts t_done0 t_stoppedAt, ic E (r_t 0) 800 f41, ic E (r_t 27) 12 f44, ic E (r_t 25) 12 f42, ic E (r_t 28) 12 f45, zc E (r_t 47) 3 t_isKept, zc E (r_t 26) 12 f43] H locs → lv_has ls 11 [(0, .ref h0), (1, .int a1), (3, .int a3), (4, .int a4), (5, .int x17), (6, .int x18), (7, .int x19), (8, .int x20)] → W p l e (hm_rr 5 115 0 0) s m args below meth c H locs 0 0 Q (F0 m 134 ls [.int x50]) := by
                      intro x50 H locs ls hf w hl
                      have hf := pf_j1 hJ134 hf
                      refine lv_istore (lv' := [(10, .int x50), (0, .ref h0), (1, .int a1), (3, .int a3), (4, .int a4), (5, .int x17), (6, .int x18), (7, .int x19), (8, .int x20)]) hx hb dX8_apart_134 hl (by decide) rfl (fun ls hl => ?_)
                      refine lv_iload hx hb dX8_apart_136 (lv_at hl 0 rfl) ?_
                      refine lv_if_ne (tgt := 144) hx hb dX8_apart_138 (by decide) (fun c138 => ?_) (fun c138 => ?_)
                      · have hf := pf_e c138 hf
                        obtain ⟨x51, ex51⟩ : ∃ y : Int32, y = (x17 + 1) := ⟨_, rfl⟩
                        have hf := pf_nm ex51 hf
                        refine lv_iinc (v := x51) (lv' := [(5, .int x51), (10, .int x50), (0, .ref h0), (1, .int a1), (3, .int a3), (4, .int a4), (6, .int x18), (7, .int x19), (8, .int x20)]) hx hb dX8_apart_144 hl (k := 5) rfl (by rw [ex51]; rfl) (by decide) rfl (fun ls hl => ?_)
                        refine lv_iload hx hb dX8_apart_147 (lv_at hl 0 rfl) ?_
                        refine lv_iconst (v := 1) hx hb dX8_apart_149 (by decide) ?_
                        obtain ⟨J160, hJ160, hf⟩ := pf_jn hf
                        have kJ160 : ∀ (x52 : Int32) (H : Heap) (locs : List Loc) (ls : Array Slot), J160 x52 = some R → hm_W E A s.heap [oc8 h0 r_t 0 t_taped t_at t_faultPlace t_number t_newBits t_newTold t_newDoings t_newThings t_opened x46 x47 x48 t_turned t_wasConverted t_lastBits t_lastSum t_lastHeld t_lastLeft t_lastCode t_writtenLong t_codeMany t_acts t_done0 t_stoppedAt, ic E (r_t 0) 800 f41, ic E (r_t 27) 12 f44, ic E (r_t 25) 12 f42, ic E (r_t 28) 12 f45, zc E (r_t 47) 3 t_isKept, zc E (r_t 26) 12 f43] H locs → lv_has ls 11 [(0, .ref h0), (1, .int a1), (3, .int a3), (4, .int a4), (5, .int x51), (7, .int x19), (8, .int x20), (10, .int x50)] → W p l e (hm_rr 5 115 0 0) s m args below meth c H locs 0 0 Q (F0 m 160 ls [.int x52]) := by
                          intro x52 H locs ls hf w hl
                          have hf := pf_j1 hJ160 hf
                          refine lv_istore (lv' := [(6, .int x52), (0, .ref h0), (1, .int a1), (3, .int a3), (4, .int a4), (5, .int x51), (7, .int x19), (8, .int x20), (10, .int x50)]) hx hb dX8_apart_160 hl (by decide) rfl (fun ls hl => ?_)
                          refine lv_iload hx hb dX8_apart_162 (lv_at hl 8 rfl) ?_
                          refine lv_iload hx hb dX8_apart_164 (lv_at hl 6 rfl) ?_
                          refine lv_icmp_le (tgt := 174) hx hb dX8_apart_166 (by decide) (fun c166 => ?_) (fun c166 => ?_)
                          · have hf := pf_t c166 hf
                            refine lv_iload hx hb dX8_apart_174 (lv_at hl 6 rfl) ?_
                            refine lv_istore (lv' := [(7, .int x19), (6, .int x52), (0, .ref h0), (1, .int a1), (3, .int a3), (4, .int a4), (5, .int x51), (8, .int x20), (10, .int x50)]) hx hb dX8_apart_176 hl (by decide) rfl (fun ls hl => ?_)
                            obtain ⟨x53, ex53⟩ : ∃ y : Int32, y = (x20 + 1) := ⟨_, rfl⟩
                            have hf := pf_nm ex53 hf
                            refine lv_iinc (v := x53) (lv' := [(8, .int x53), (7, .int x19), (6, .int x52), (0, .ref h0), (1, .int a1), (3, .int a3), (4, .int a4), (5, .int x51), (10, .int x50)]) hx hb dX8_apart_178 hl (k := 7) rfl (by rw [ex53]; rfl) (by decide) rfl (fun ls hl => ?_)
                            refine lv_goto (tgt := 80) hx hb dX8_apart_181 (by decide) ?_
                            exact ih80 _ _ _ _ _ _ _ _ _ _ _ _ _ _ _ _ hf w (lv_sub hl [3, 4, 5, 6, 7, 2, 1, 0] rfl)
                          · have hf := pf_e c166 hf
                            refine lv_iload hx hb dX8_apart_169 (lv_at hl 8 rfl) ?_
                            refine lv_goto (tgt := 176) hx hb dX8_apart_171 (by decide) ?_
                            refine lv_istore (lv' := [(7, .int x50), (6, .int x52), (0, .ref h0), (1, .int a1), (3, .int a3), (4, .int a4), (5, .int x51), (8, .int x20), (10, .int x50)]) hx hb dX8_apart_176 hl (by decide) rfl (fun ls hl => ?_)
                            obtain ⟨x54, ex54⟩ : ∃ y : Int32, y = (x20 + 1) := ⟨_, rfl⟩
                            have hf := pf_nm ex54 hf
                            refine lv_iinc (v := x54) (lv' := [(8, .int x54), (7, .int x50), (6, .int x52), (0, .ref h0), (1, .int a1), (3, .int a3), (4, .int a4), (5, .int x51), (10, .int x50)]) hx hb dX8_apart_178 hl (k := 7) rfl (by rw [ex54]; rfl) (by decide) rfl (fun ls hl => ?_)
                            refine lv_goto (tgt := 80) hx hb dX8_apart_181 (by decide) ?_
                            exact ih80 _ _ _ _ _ _ _ _ _ _ _ _ _ _ _ _ hf w (lv_sub hl [3, 4, 5, 6, 7, 2, 1, 0] rfl)
                        refine lv_icmp_ne (tgt := 158) hx hb dX8_apart_150 (by decide) (fun c150 => ?_) (fun c150 => ?_)
                        · have hf := pf_e c150 hf
                          refine lv_iload hx hb dX8_apart_158 (lv_at hl 6 rfl) ?_
                          exact kJ160 _ _ _ _ hf w (lv_sub hl [2, 3, 4, 5, 0, 7, 8, 1] rfl)
                        · have hf := pf_t c150 hf
                          refine lv_iload hx hb dX8_apart_153 (lv_at hl 8 rfl) ?_
                          refine lv_goto (tgt := 160) hx hb dX8_apart_155 (by decide) ?_
                          exact kJ160 _ _ _ _ hf w (lv_sub hl [2, 3, 4, 5, 0, 7, 8, 1] rfl)
                      · have hf := pf_t c138 hf
                        refine lv_goto (tgt := 178) hx hb dX8_apart_141 (by decide) ?_
                        obtain ⟨x55, ex55⟩ : ∃ y : Int32, y = (x20 + 1) := ⟨_, rfl⟩
                        have hf := pf_nm ex55 hf
                        refine lv_iinc (v := x55) (lv' := [(8, .int x55), (10, .int x50), (0, .ref h0), (1, .int a1), (3, .int a3), (4, .int a4), (5, .int x17), (6, .int x18), (7, .int x19)]) hx hb dX8_apart_178 hl (k := 8) rfl (by rw [ex55]; rfl) (by decide) rfl (fun ls hl => ?_)
                        refine lv_goto (tgt := 80) hx hb dX8_apart_181 (by decide) ?_
                        exact ih80 _ _ _ _ _ _ _ _ _ _ _ _ _ _ _ _ hf w (lv_sub hl [2, 3, 4, 5, 6, 7, 8, 0] rfl)
                    refine lv_if_ge (tgt := 132) hx hb dX8_apart_123 (by decide) (fun c123 => ?_) (fun c123 => ?_)
                    · have hf := pf_t c123 hf
                      refine lv_iload hx hb dX8_apart_132 (lv_at hl 0 rfl) ?_
                      exact kJ134 _ _ _ _ hf w (lv_sub hl [2, 3, 4, 5, 6, 7, 8, 9] rfl)
                    · have hf := pf_e c123 hf
                      refine lv_iload hx hb dX8_apart_126 (lv_at hl 0 rfl) ?_
                      refine lv_ineg hx hb dX8_apart_128 ?_
                      refine lv_goto (tgt := 134) hx hb dX8_apart_129 (by decide) ?_
                      exact kJ134 _ _ _ _ hf w (lv_sub hl [2, 3, 4, 5, 6, 7, 8, 9] rfl)
              exact klp_X8_apart_80 FU _ _ _ _ _ _ _ _ _ _ _ _ _ _ _ _ hf w (lv_sub hl [4, 5, 7, 8, 3, 2, 1, 0] rfl)
            · have hf := pf_t c59 hf
              refine lv_ldcw (v := (-1000000)) hx hb hown (X.use ck_X8_283 rfl) dX8_apart_62 ?_
              exact hQ _ _ _ _ _ (t_all, t_base, t_decided, t_wasLate, t_askedOf, t_heldBehind, t_sum, t_heldAll, t_onPaper) (fun _ => 0) hf rfl w dX8_apart_65
set_option maxHeartbeats 8000000 in
set_option maxRecDepth 100000 in
theorem ct_X8_see (l : Launch) (E : hm_E) (sz : Nat) (h0 : Nat) (r_t : Nat → Nat) (t_base t_taped t_at t_faultPlace t_number t_newBits t_newTold t_newDoings t_newThings t_opened t_sum t_heldAll t_onPaper t_turned t_wasConverted t_lastBits t_lastSum t_lastHeld t_lastLeft t_lastCode t_writtenLong t_codeMany t_acts t_done0 t_stoppedAt : Int32) (t_all : Nat → Int32) (a1 : Int32) (a2 : Int32) (R : Int32 × (Nat → Int32)) (hf : pf_X8_see a1 a2 t_all t_base = some R) : hm_Mi l E yX8_see cX8_see 4 .int [] (hm_rr 2 42 0 0) [.ref h0, .int a1, .int a2] sz [oc8 h0 r_t t_base t_taped t_at t_faultPlace t_number t_newBits t_newTold t_newDoings t_newThings t_opened t_sum t_heldAll t_onPaper t_turned t_wasConverted t_lastBits t_lastSum t_lastHeld t_lastLeft t_lastCode t_writtenLong t_codeMany t_acts t_done0 t_stoppedAt, ic E (r_t 0) 800 t_all] R.1 (fun _ => [oc8 h0 r_t t_base t_taped t_at t_faultPlace t_number t_newBits t_newTold t_newDoings t_newThings t_opened t_sum t_heldAll t_onPaper t_turned t_wasConverted t_lastBits t_lastSum t_lastHeld t_lastLeft t_lastCode t_writtenLong t_codeMany t_acts t_done0 t_stoppedAt, ic E (r_t 0) 800 R.2]) := by
  refine hm_ct_i R (fun u qs => [oc8 h0 r_t t_base t_taped t_at t_faultPlace t_number t_newBits t_newTold t_newDoings t_newThings t_opened t_sum t_heldAll t_onPaper t_turned t_wasConverted t_lastBits t_lastSum t_lastHeld t_lastLeft t_lastCode t_writtenLong t_codeMany t_acts t_done0 t_stoppedAt, ic E (r_t 0) 800 u]) (by decide) (Nat.le_of_ble_eq_true rfl) (Or.inl rfl) ?_
  intro p e s m args below meth c A Q ls H locs hx hb hml hown X hA Y hex w hl hQ
  have hl : lv_has ls 4 [(0, .ref h0), (1, .int a1), (2, .int a2)] := hl
  unfold pf_X8_see at hf
  refine lv_iload_n hx hb dX8_see_0 rfl (lv_at hl 1 rfl) ?_
  obtain ⟨r1, hc1, hf⟩ := pf_bi_0 hf
  refine hm_aft_i (ws' := fun _ => [oc8 h0 r_t t_base t_taped t_at t_faultPlace t_number t_newBits t_newTold t_newDoings t_newThings t_opened t_sum t_heldAll t_onPaper t_turned t_wasConverted t_lastBits t_lastSum t_lastHeld t_lastLeft t_lastCode t_writtenLong t_codeMany t_acts t_done0 t_stoppedAt, ic E (r_t 0) 800 t_all]) (hm_runS (rest := []) hx hb hml hown X hA Y w mw_X8_isX ml_X8_280 dX8_see_1 hm_ac0 [.int a1] rfl [] rfl rfl (ct_X8_isX l E H.size a1 (r1, ()) hc1) rfl hl.1 ⟨⟨rfl, rfl⟩, ⟨Nat.le_of_ble_eq_true rfl, Nat.le_of_ble_eq_true rfl⟩, ⟨Nat.le_of_ble_eq_true rfl, Nat.le_of_ble_eq_true rfl⟩, Nat.le_of_ble_eq_true rfl⟩) hA w [] [0, 1] [0, 1] rfl rfl (by decide) (fun _ => rfl) (fun _ H locs w => ?_)
  refine lv_if_ne (tgt := 10) hx hb dX8_see_4 (by decide) (fun c4 => ?_) (fun c4 => ?_)
  · have hf := pf_e c4 hf
    refine lv_aload_n hx hb dX8_see_10 rfl (lv_at hl 0 rfl) ?_
    refine lv_bipush (v := 57) hx hb dX8_see_11 (by decide) ?_
    obtain ⟨r2, hc13, hf⟩ := pf_bi_0 hf
    refine hm_aft_i (ws' := fun _ => [oc8 h0 r_t t_base t_taped t_at t_faultPlace t_number t_newBits t_newTold t_newDoings t_newThings t_opened t_sum t_heldAll t_onPaper t_turned t_wasConverted t_lastBits t_lastSum t_lastHeld t_lastLeft t_lastCode t_writtenLong t_codeMany t_acts t_done0 t_stoppedAt, ic E (r_t 0) 800 t_all]) (hm_runV (rest := []) hx hb hml hown X hA Y w 0 (ci := 7) (T := TX8) (N := 55) rfl rfl mw_X8_get ml_X8_221 dX8_see_13 hm_ac0 [.int 57] rfl [0, 1] rfl rfl (ct_X8_get l E H.size h0 r_t t_base t_taped t_at t_faultPlace t_number t_newBits t_newTold t_newDoings t_newThings t_opened t_sum t_heldAll t_onPaper t_turned t_wasConverted t_lastBits t_lastSum t_lastHeld t_lastLeft t_lastCode t_writtenLong t_codeMany t_acts t_done0 t_stoppedAt t_all 57 (r2, ()) hc13) rfl hl.1 ⟨⟨rfl, rfl⟩, ⟨Nat.le_of_ble_eq_true rfl, Nat.le_of_ble_eq_true rfl⟩, ⟨Nat.le_of_ble_eq_true rfl, Nat.le_of_ble_eq_true rfl⟩, Nat.le_of_ble_eq_true rfl⟩) hA w [0, 1] [] [0, 1] rfl rfl (by decide) (fun _ => rfl) (fun _ H locs w => ?_)
    refine lv_istore_n (lv' := [(3, .int r2), (0, .ref h0), (1, .int a1), (2, .int a2)]) hx hb dX8_see_16 rfl hl (by decide) rfl (fun ls hl => ?_)
    refine lv_iload_n hx hb dX8_see_17 rfl (lv_at hl 0 rfl) ?_
    refine lv_bipush (v := 8) hx hb dX8_see_18 (by decide) ?_
    refine lv_icmp_ne (tgt := 25) hx hb dX8_see_20 (by decide) (fun c20 => ?_) (fun c20 => ?_)
    · have hf := pf_e c20 hf
      refine lv_aload_n hx hb dX8_see_25 rfl (lv_at hl 1 rfl) ?_
      refine lv_bipush (v := 58) hx hb dX8_see_26 (by decide) ?_
      refine lv_iload_n hx hb dX8_see_28 rfl (lv_at hl 0 rfl) ?_
      refine lv_iadd hx hb dX8_see_29 ?_
      refine lv_iload_n hx hb dX8_see_30 rfl (lv_at hl 2 rfl) ?_
      obtain ⟨f3, hc31, hf⟩ := pf_bv_1 hf
      refine hm_aft_v (ws' := fun _ => [oc8 h0 r_t t_base t_taped t_at t_faultPlace t_number t_newBits t_newTold t_newDoings t_newThings t_opened t_sum t_heldAll t_onPaper t_turned t_wasConverted t_lastBits t_lastSum t_lastHeld t_lastLeft t_lastCode t_writtenLong t_codeMany t_acts t_done0 t_stoppedAt, ic E (r_t 0) 800 f3]) (hm_runV (rest := []) hx hb hml hown X hA Y w 0 (ci := 7) (T := TX8) (N := 55) rfl rfl mw_X8_put ml_X8_119 dX8_see_31 hm_ac0 [.int (58 + r2), .int a1] rfl [0, 1] rfl rfl (ct_X8_put l E H.size h0 r_t t_base t_taped t_at t_faultPlace t_number t_newBits t_newTold t_newDoings t_newThings t_opened t_sum t_heldAll t_onPaper t_turned t_wasConverted t_lastBits t_lastSum t_lastHeld t_lastLeft t_lastCode t_writtenLong t_codeMany t_acts t_done0 t_stoppedAt t_all (58 + r2) a1 f3 hc31) rfl hl.1 ⟨⟨rfl, rfl⟩, ⟨Nat.le_of_ble_eq_true rfl, Nat.le_of_ble_eq_true rfl⟩, ⟨Nat.le_of_ble_eq_true rfl, Nat.le_of_ble_eq_true rfl⟩, Nat.le_of_ble_eq_true rfl⟩) hA w [0, 1] [] [0, 1] rfl rfl (by decide) (fun _ => rfl) (fun _ H locs w => ?_)
      refine lv_aload_n hx hb dX8_see_34 rfl (lv_at hl 1 rfl) ?_
      refine lv_bipush (v := 66) hx hb dX8_see_35 (by decide) ?_
      refine lv_iload_n hx hb dX8_see_37 rfl (lv_at hl 0 rfl) ?_
      refine lv_iadd hx hb dX8_see_38 ?_
      refine lv_iload_n hx hb dX8_see_39 rfl (lv_at hl 3 rfl) ?_
      obtain ⟨f4, hc40, hf⟩ := pf_bv_1 hf
      refine hm_aft_v (ws' := fun _ => [oc8 h0 r_t t_base t_taped t_at t_faultPlace t_number t_newBits t_newTold t_newDoings t_newThings t_opened t_sum t_heldAll t_onPaper t_turned t_wasConverted t_lastBits t_lastSum t_lastHeld t_lastLeft t_lastCode t_writtenLong t_codeMany t_acts t_done0 t_stoppedAt, ic E (r_t 0) 800 f4]) (hm_runV (rest := []) hx hb hml hown X hA Y w 0 (ci := 7) (T := TX8) (N := 55) rfl rfl mw_X8_put ml_X8_119 dX8_see_40 hm_ac0 [.int (66 + r2), .int a2] rfl [0, 1] rfl rfl (ct_X8_put l E H.size h0 r_t t_base t_taped t_at t_faultPlace t_number t_newBits t_newTold t_newDoings t_newThings t_opened t_sum t_heldAll t_onPaper t_turned t_wasConverted t_lastBits t_lastSum t_lastHeld t_lastLeft t_lastCode t_writtenLong t_codeMany t_acts t_done0 t_stoppedAt f3 (66 + r2) a2 f4 hc40) rfl hl.1 ⟨⟨rfl, rfl⟩, ⟨Nat.le_of_ble_eq_true rfl, Nat.le_of_ble_eq_true rfl⟩, ⟨Nat.le_of_ble_eq_true rfl, Nat.le_of_ble_eq_true rfl⟩, Nat.le_of_ble_eq_true rfl⟩) hA w [0, 1] [] [0, 1] rfl rfl (by decide) (fun _ => rfl) (fun _ H locs w => ?_)
      refine lv_aload_n hx hb dX8_see_43 rfl (lv_at hl 1 rfl) ?_
      refine lv_bipush (v := 57) hx hb dX8_see_44 (by decide) ?_
      refine lv_iload_n hx hb dX8_see_46 rfl (lv_at hl 0 rfl) ?_
      refine lv_iconst (v := 1) hx hb dX8_see_47 (by decide) ?_
      refine lv_iadd hx hb dX8_see_48 ?_
      obtain ⟨f5, hc49, hf⟩ := pf_bv_1 hf
      refine hm_aft_v (ws' := fun _ => [oc8 h0 r_t t_base t_taped t_at t_faultPlace t_number t_newBits t_newTold t_newDoings t_newThings t_opened t_sum t_heldAll t_onPaper t_turned t_wasConverted t_lastBits t_lastSum t_lastHeld t_lastLeft t_lastCode t_writtenLong t_codeMany t_acts t_done0 t_stoppedAt, ic E (r_t 0) 800 f5]) (hm_runV (rest := []) hx hb hml hown X hA Y w 0 (ci := 7) (T := TX8) (N := 55) rfl rfl mw_X8_put ml_X8_119 dX8_see_49 hm_ac0 [.int 57, .int (r2 + 1)] rfl [0, 1] rfl rfl (ct_X8_put l E H.size h0 r_t t_base t_taped t_at t_faultPlace t_number t_newBits t_newTold t_newDoings t_newThings t_opened t_sum t_heldAll t_onPaper t_turned t_wasConverted t_lastBits t_lastSum t_lastHeld t_lastLeft t_lastCode t_writtenLong t_codeMany t_acts t_done0 t_stoppedAt f4 57 (r2 + 1) f5 hc49) rfl hl.1 ⟨⟨rfl, rfl⟩, ⟨Nat.le_of_ble_eq_true rfl, Nat.le_of_ble_eq_true rfl⟩, ⟨Nat.le_of_ble_eq_true rfl, Nat.le_of_ble_eq_true rfl⟩, Nat.le_of_ble_eq_true rfl⟩) hA w [0, 1] [] [0, 1] rfl rfl (by decide) (fun _ => rfl) (fun _ H locs w => ?_)
      refine lv_iload_n hx hb dX8_see_52 rfl (lv_at hl 0 rfl) ?_
      refine lv_iconst (v := 1) hx hb dX8_see_53 (by decide) ?_
      refine lv_iadd hx hb dX8_see_54 ?_
      exact hQ _ _ _ _ _ f5 (fun _ => 0) hf rfl w dX8_see_55
    · have hf := pf_t c20 hf
      refine lv_iconst (v := (-1)) hx hb dX8_see_23 (by decide) ?_
      exact hQ _ _ _ _ _ t_all (fun _ => 0) hf rfl w dX8_see_24
  · have hf := pf_t c4 hf
    refine lv_bipush (v := (-2)) hx hb dX8_see_7 (by decide) ?_
    exact hQ _ _ _ _ _ t_all (fun _ => 0) hf rfl w dX8_see_9
set_option maxHeartbeats 8000000 in
set_option maxRecDepth 100000 in
theorem ct_X8_wipe (l : Launch) (E : hm_E) (sz : Nat) (h0 : Nat) (r_t : Nat → Nat) (t_base t_taped t_at t_faultPlace t_number t_newBits t_newTold t_newDoings t_newThings t_opened t_sum t_heldAll t_onPaper t_turned t_wasConverted t_lastBits t_lastSum t_lastHeld t_lastLeft t_lastCode t_writtenLong t_codeMany t_acts t_done0 t_stoppedAt : Int32) (t_all : Nat → Int32) (R : Int32 × (Nat → Int32)) (hf : pf_X8_wipe t_all t_base = some R) : hm_Mi l E yX8_wipe cX8_wipe 2 .int [] (hm_rr 1 22 0 0) [.ref h0] sz [oc8 h0 r_t t_base t_taped t_at t_faultPlace t_number t_newBits t_newTold t_newDoings t_newThings t_opened t_sum t_heldAll t_onPaper t_turned t_wasConverted t_lastBits t_lastSum t_lastHeld t_lastLeft t_lastCode t_writtenLong t_codeMany t_acts t_done0 t_stoppedAt, ic E (r_t 0) 800 t_all] R.1 (fun _ => [oc8 h0 r_t t_base t_taped t_at t_faultPlace t_number t_newBits t_newTold t_newDoings t_newThings t_opened t_sum t_heldAll t_onPaper t_turned t_wasConverted t_lastBits t_lastSum t_lastHeld t_lastLeft t_lastCode t_writtenLong t_codeMany t_acts t_done0 t_stoppedAt, ic E (r_t 0) 800 R.2]) := by
  refine hm_ct_i R (fun u qs => [oc8 h0 r_t t_base t_taped t_at t_faultPlace t_number t_newBits t_newTold t_newDoings t_newThings t_opened t_sum t_heldAll t_onPaper t_turned t_wasConverted t_lastBits t_lastSum t_lastHeld t_lastLeft t_lastCode t_writtenLong t_codeMany t_acts t_done0 t_stoppedAt, ic E (r_t 0) 800 u]) (by decide) (Nat.le_of_ble_eq_true rfl) (Or.inl rfl) ?_
  intro p e s m args below meth c A Q ls H locs hx hb hml hown X hA Y hex w hl hQ
  have hl : lv_has ls 2 [(0, .ref h0)] := hl
  unfold pf_X8_wipe at hf
  refine lv_aload_n hx hb dX8_wipe_0 rfl (lv_at hl 0 rfl) ?_
  refine lv_bipush (v := 57) hx hb dX8_wipe_1 (by decide) ?_
  obtain ⟨r1, hc3, hf⟩ := pf_bi_0 hf
  refine hm_aft_i (ws' := fun _ => [oc8 h0 r_t t_base t_taped t_at t_faultPlace t_number t_newBits t_newTold t_newDoings t_newThings t_opened t_sum t_heldAll t_onPaper t_turned t_wasConverted t_lastBits t_lastSum t_lastHeld t_lastLeft t_lastCode t_writtenLong t_codeMany t_acts t_done0 t_stoppedAt, ic E (r_t 0) 800 t_all]) (hm_runV (rest := []) hx hb hml hown X hA Y w 0 (ci := 7) (T := TX8) (N := 55) rfl rfl mw_X8_get ml_X8_221 dX8_wipe_3 hm_ac0 [.int 57] rfl [0, 1] rfl rfl (ct_X8_get l E H.size h0 r_t t_base t_taped t_at t_faultPlace t_number t_newBits t_newTold t_newDoings t_newThings t_opened t_sum t_heldAll t_onPaper t_turned t_wasConverted t_lastBits t_lastSum t_lastHeld t_lastLeft t_lastCode t_writtenLong t_codeMany t_acts t_done0 t_stoppedAt t_all 57 (r1, ()) hc3) rfl hl.1 ⟨⟨rfl, rfl⟩, ⟨Nat.le_of_ble_eq_true rfl, Nat.le_of_ble_eq_true rfl⟩, ⟨Nat.le_of_ble_eq_true rfl, Nat.le_of_ble_eq_true rfl⟩, Nat.le_of_ble_eq_true rfl⟩) hA w [0, 1] [] [0, 1] rfl rfl (by decide) (fun _ => rfl) (fun _ H locs w => ?_)
  refine lv_istore_n (lv' := [(1, .int r1), (0, .ref h0)]) hx hb dX8_wipe_6 rfl hl (by decide) rfl (fun ls hl => ?_)
  refine lv_aload_n hx hb dX8_wipe_7 rfl (lv_at hl 1 rfl) ?_
  refine lv_bipush (v := 57) hx hb dX8_wipe_8 (by decide) ?_
  refine lv_iconst (v := 0) hx hb dX8_wipe_10 (by decide) ?_
  obtain ⟨f2, hc11, hf⟩ := pf_bv_1 hf
  refine hm_aft_v (ws' := fun _ => [oc8 h0 r_t t_base t_taped t_at t_faultPlace t_number t_newBits t_newTold t_newDoings t_newThings t_opened t_sum t_heldAll t_onPaper t_turned t_wasConverted t_lastBits t_lastSum t_lastHeld t_lastLeft t_lastCode t_writtenLong t_codeMany t_acts t_done0 t_stoppedAt, ic E (r_t 0) 800 f2]) (hm_runV (rest := []) hx hb hml hown X hA Y w 0 (ci := 7) (T := TX8) (N := 55) rfl rfl mw_X8_put ml_X8_119 dX8_wipe_11 hm_ac0 [.int 57, .int 0] rfl [0, 1] rfl rfl (ct_X8_put l E H.size h0 r_t t_base t_taped t_at t_faultPlace t_number t_newBits t_newTold t_newDoings t_newThings t_opened t_sum t_heldAll t_onPaper t_turned t_wasConverted t_lastBits t_lastSum t_lastHeld t_lastLeft t_lastCode t_writtenLong t_codeMany t_acts t_done0 t_stoppedAt t_all 57 0 f2 hc11) rfl hl.1 ⟨⟨rfl, rfl⟩, ⟨Nat.le_of_ble_eq_true rfl, Nat.le_of_ble_eq_true rfl⟩, ⟨Nat.le_of_ble_eq_true rfl, Nat.le_of_ble_eq_true rfl⟩, Nat.le_of_ble_eq_true rfl⟩) hA w [0, 1] [] [0, 1] rfl rfl (by decide) (fun _ => rfl) (fun _ H locs w => ?_)
  refine lv_iload_n hx hb dX8_wipe_14 rfl (lv_at hl 0 rfl) ?_
  exact hQ _ _ _ _ _ f2 (fun _ => 0) hf rfl w dX8_wipe_15
set_option maxHeartbeats 8000000 in
set_option maxRecDepth 100000 in
theorem ct_X8_isSeen (l : Launch) (E : hm_E) (sz : Nat) (h0 : Nat) (r_t : Nat → Nat) (t_base t_taped t_at t_faultPlace t_number t_newBits t_newTold t_newDoings t_newThings t_opened t_sum t_heldAll t_onPaper t_turned t_wasConverted t_lastBits t_lastSum t_lastHeld t_lastLeft t_lastCode t_writtenLong t_codeMany t_acts t_done0 t_stoppedAt : Int32) (t_all : Nat → Int32) (t_askedOf : Nat → Int32) (t_decided : Nat → Int32) (t_heldBehind : Nat → Int32) (t_wasLate : Nat → Int32) (R : Int32 × (Nat → Int32) × (Nat → Int32) × (Nat → Int32) × (Nat → Int32) × (Nat → Int32) × Int32 × Int32 × Int32) (hf : pf_X8_isSeen t_all t_base t_decided t_wasLate t_askedOf t_heldBehind t_sum t_heldAll t_onPaper t_turned = some R) : hm_Mi l E yX8_isSeen cX8_isSeen 2 .boolean [] (hm_rr 5 115 0 0) [.ref h0] sz [oc8 h0 r_t t_base t_taped t_at t_faultPlace t_number t_newBits t_newTold t_newDoings t_newThings t_opened t_sum t_heldAll t_onPaper t_turned t_wasConverted t_lastBits t_lastSum t_lastHeld t_lastLeft t_lastCode t_writtenLong t_codeMany t_acts t_done0 t_stoppedAt, ic E (r_t 0) 800 t_all, ic E (r_t 27) 12 t_askedOf, ic E (r_t 25) 12 t_decided, ic E (r_t 28) 12 t_heldBehind, zc E (r_t 26) 12 t_wasLate] R.1 (fun _ => [oc8 h0 r_t t_base t_taped t_at t_faultPlace t_number t_newBits t_newTold t_newDoings t_newThings t_opened (R.2.2.2.2.2.2.1) (R.2.2.2.2.2.2.2.1) (R.2.2.2.2.2.2.2.2) t_turned t_wasConverted t_lastBits t_lastSum t_lastHeld t_lastLeft t_lastCode t_writtenLong t_codeMany t_acts t_done0 t_stoppedAt, ic E (r_t 0) 800 (R.2.1), ic E (r_t 27) 12 (R.2.2.2.2.1), ic E (r_t 25) 12 (R.2.2.1), ic E (r_t 28) 12 (R.2.2.2.2.2.1), zc E (r_t 26) 12 (R.2.2.2.1)]) := by
  refine hm_ct_i R (fun u qs => [oc8 h0 r_t t_base t_taped t_at t_faultPlace t_number t_newBits t_newTold t_newDoings t_newThings t_opened (u.2.2.2.2.2.1) (u.2.2.2.2.2.2.1) (u.2.2.2.2.2.2.2) t_turned t_wasConverted t_lastBits t_lastSum t_lastHeld t_lastLeft t_lastCode t_writtenLong t_codeMany t_acts t_done0 t_stoppedAt, ic E (r_t 0) 800 (u.1), ic E (r_t 27) 12 (u.2.2.2.1), ic E (r_t 25) 12 (u.2.1), ic E (r_t 28) 12 (u.2.2.2.2.1), zc E (r_t 26) 12 (u.2.2.1)]) (by decide) (Nat.le_of_ble_eq_true rfl) (Or.inr rfl) ?_
  intro p e s m args below meth c A Q ls H locs hx hb hml hown X hA Y hex w hl hQ
  have hl : lv_has ls 2 [(0, .ref h0)] := hl
  unfold pf_X8_isSeen at hf
  refine lv_iconst (v := 0) hx hb dX8_isSeen_0 (by decide) ?_
  refine lv_istore_n (lv' := [(1, .int 0), (0, .ref h0)]) hx hb dX8_isSeen_1 rfl hl (by decide) rfl (fun ls hl => ?_)
  have klp_X8_isSeen_2 : ∀ (n : Nat) (x1 : Int32) (f2 : Nat → Int32) (f3 : Nat → Int32) (f4 : Nat → Int32) (f5 : Nat → Int32) (f6 : Nat → Int32) (x7 : Int32) (x8 : Int32) (x9 : Int32) (H : Heap) (locs : List Loc) (ls : Array Slot), lp_X8_isSeen_2 t_base t_turned n x1 f2 f3 f4 f5 f6 x7 x8 x9 = some R → hm_W E A s.heap [oc8 h0 r_t t_base t_taped t_at t_faultPlace t_number t_newBits t_newTold t_newDoings t_newThings t_opened x7 x8 x9 t_turned t_wasConverted t_lastBits t_lastSum t_lastHeld t_lastLeft t_lastCode t_writtenLong t_codeMany t_acts t_done0 t_stoppedAt, ic E (r_t 0) 800 f2, ic E (r_t 27) 12 f5, ic E (r_t 25) 12 f3, ic E (r_t 28) 12 f6, zc E (r_t 26) 12 f4] H locs → lv_has ls 2 [(0, .ref h0), (1, .int x1)] → W p l e (hm_rr 5 115 0 0) s m args below meth c H locs 0 0 Q (F0 m 2 ls []) := by
    intro n
    induction n with
    | zero =>
      intro x1 f2 f3 f4 f5 f6 x7 x8 x9 H locs ls hf w hl
      exact pf_no hf
    | succ n ih2 =>
      intro x1 f2 f3 f4 f5 f6 x7 x8 x9 H locs ls hf w hl
      rw [lp_X8_isSeen_2] at hf
      refine lv_iload_n hx hb dX8_isSeen_2 rfl (lv_at hl 1 rfl) ?_
      refine lv_aload_n hx hb dX8_isSeen_3 rfl (lv_at hl 0 rfl) ?_
      refine lv_bipush (v := 57) hx hb dX8_isSeen_4 (by decide) ?_
      obtain ⟨r10, hc6, hf⟩ := pf_bi_0 hf
      refine hm_aft_i (ws' := fun _ => [oc8 h0 r_t t_base t_taped t_at t_faultPlace t_number t_newBits t_newTold t_newDoings t_newThings t_opened x7 x8 x9 t_turned t_wasConverted t_lastBits t_lastSum t_lastHeld t_lastLeft t_lastCode t_writtenLong t_codeMany t_acts t_done0 t_stoppedAt, ic E (r_t 0) 800 f2, ic E (r_t 27) 12 f5, ic E (r_t 25) 12 f3, ic E (r_t 28) 12 f6, zc E (r_t 26) 12 f4]) (hm_runV (rest := [.int x1]) hx hb hml hown X hA Y w 0 (ci := 7) (T := TX8) (N := 55) rfl rfl mw_X8_get ml_X8_221 dX8_isSeen_6 hm_ac0 [.int 57] rfl [0, 1] rfl rfl (ct_X8_get l E H.size h0 r_t t_base t_taped t_at t_faultPlace t_number t_newBits t_newTold t_newDoings t_newThings t_opened x7 x8 x9 t_turned t_wasConverted t_lastBits t_lastSum t_lastHeld t_lastLeft t_lastCode t_writtenLong t_codeMany t_acts t_done0 t_stoppedAt f2 57 (r10, ()) hc6) rfl hl.1 ⟨⟨rfl, rfl⟩, ⟨Nat.le_of_ble_eq_true rfl, Nat.le_of_ble_eq_true rfl⟩, ⟨Nat.le_of_ble_eq_true rfl, Nat.le_of_ble_eq_true rfl⟩, Nat.le_of_ble_eq_true rfl⟩) hA w [0, 1] [2, 3, 4, 5] [4, 5, 0, 1, 2, 3] rfl rfl (by decide) (fun _ => rfl) (fun _ H locs w => ?_)
      refine lv_icmp_ge (tgt := 43) hx hb dX8_isSeen_9 (by decide) (fun c9 => ?_) (fun c9 => ?_)
      · have hf := pf_t c9 hf
        refine lv_iconst (v := 1) hx hb dX8_isSeen_43 (by decide) ?_
        exact hQ _ _ _ _ _ (f2, f3, f4, f5, f6, x7, x8, x9) (fun _ => 0) hf rfl w dX8_isSeen_44
      · have hf := pf_e c9 hf
        refine lv_aload_n hx hb dX8_isSeen_12 rfl (lv_at hl 0 rfl) ?_
        refine lv_aload_n hx hb dX8_isSeen_13 rfl (lv_at hl 0 rfl) ?_
        refine lv_bipush (v := 58) hx hb dX8_isSeen_14 (by decide) ?_
        refine lv_iload_n hx hb dX8_isSeen_16 rfl (lv_at hl 1 rfl) ?_
        refine lv_iadd hx hb dX8_isSeen_17 ?_
        obtain ⟨r11, hc18, hf⟩ := pf_bi_0 hf
        refine hm_aft_i (ws' := fun _ => [oc8 h0 r_t t_base t_taped t_at t_faultPlace t_number t_newBits t_newTold t_newDoings t_newThings t_opened x7 x8 x9 t_turned t_wasConverted t_lastBits t_lastSum t_lastHeld t_lastLeft t_lastCode t_writtenLong t_codeMany t_acts t_done0 t_stoppedAt, ic E (r_t 0) 800 f2, ic E (r_t 27) 12 f5, ic E (r_t 25) 12 f3, ic E (r_t 28) 12 f6, zc E (r_t 26) 12 f4]) (hm_runV (rest := [.ref h0]) hx hb hml hown X hA Y w 0 (ci := 7) (T := TX8) (N := 55) rfl rfl mw_X8_get ml_X8_221 dX8_isSeen_18 hm_ac0 [.int (58 + x1)] rfl [0, 1] rfl rfl (ct_X8_get l E H.size h0 r_t t_base t_taped t_at t_faultPlace t_number t_newBits t_newTold t_newDoings t_newThings t_opened x7 x8 x9 t_turned t_wasConverted t_lastBits t_lastSum t_lastHeld t_lastLeft t_lastCode t_writtenLong t_codeMany t_acts t_done0 t_stoppedAt f2 (58 + x1) (r11, ()) hc18) rfl hl.1 ⟨⟨rfl, rfl⟩, ⟨Nat.le_of_ble_eq_true rfl, Nat.le_of_ble_eq_true rfl⟩, ⟨Nat.le_of_ble_eq_true rfl, Nat.le_of_ble_eq_true rfl⟩, Nat.le_of_ble_eq_true rfl⟩) hA w [0, 1] [2, 3, 4, 5] [4, 5, 0, 1, 2, 3] rfl rfl (by decide) (fun _ => rfl) (fun _ H locs w => ?_)
        obtain ⟨r12, f13, f14, f15, f16, f17, x18, x19, x20, hc21, hf⟩ := pf_bi_8 hf
        refine hm_aft_i (ws' := fun _ => [oc8 h0 r_t t_base t_taped t_at t_faultPlace t_number t_newBits t_newTold t_newDoings t_newThings t_opened x18 x19 x20 t_turned t_wasConverted t_lastBits t_lastSum t_lastHeld t_lastLeft t_lastCode t_writtenLong t_codeMany t_acts t_done0 t_stoppedAt, ic E (r_t 0) 800 f13, ic E (r_t 27) 12 f16, ic E (r_t 25) 12 f14, ic E (r_t 28) 12 f17, zc E (r_t 26) 12 f15]) (hm_runV (rest := []) hx hb hml hown X hA Y w 0 (ci := 7) (T := TX8) (N := 55) rfl rfl mw_X8_paperCode ml_X8_308 dX8_isSeen_21 hm_ac0 [.int r11] rfl [0, 1, 2, 3, 4, 5] rfl rfl (ct_X8_paperCode l E H.size h0 r_t t_base t_taped t_at t_faultPlace t_number t_newBits t_newTold t_newDoings t_newThings t_opened x7 x8 x9 t_turned t_wasConverted t_lastBits t_lastSum t_lastHeld t_lastLeft t_lastCode t_writtenLong t_codeMany t_acts t_done0 t_stoppedAt f2 f5 f3 f6 f4 r11 (r12, f13, f14, f15, f16, f17, x18, x19, x20) hc21) rfl hl.1 ⟨⟨rfl, rfl⟩, ⟨Nat.le_of_ble_eq_true rfl, Nat.le_of_ble_eq_true rfl⟩, ⟨Nat.le_of_ble_eq_true rfl, Nat.le_of_ble_eq_true rfl⟩, Nat.le_of_ble_eq_true rfl⟩) hA w [0, 1, 2, 3, 4, 5] [] [0, 1, 2, 3, 4, 5] rfl rfl (by decide) (fun _ => rfl) (fun _ H locs w => ?_)
        refine lv_aload_n hx hb dX8_isSeen_24 rfl (lv_at hl 0 rfl) ?_
        refine lv_bipush (v := 66) hx hb dX8_isSeen_25 (by decide) ?_
        refine lv_iload_n hx hb dX8_isSeen_27 rfl (lv_at hl 1 rfl) ?_
        refine lv_iadd hx hb dX8_isSeen_28 ?_
        obtain ⟨r21, hc29, hf⟩ := pf_bi_0 hf
        refine hm_aft_i (ws' := fun _ => [oc8 h0 r_t t_base t_taped t_at t_faultPlace t_number t_newBits t_newTold t_newDoings t_newThings t_opened x18 x19 x20 t_turned t_wasConverted t_lastBits t_lastSum t_lastHeld t_lastLeft t_lastCode t_writtenLong t_codeMany t_acts t_done0 t_stoppedAt, ic E (r_t 0) 800 f13, ic E (r_t 27) 12 f16, ic E (r_t 25) 12 f14, ic E (r_t 28) 12 f17, zc E (r_t 26) 12 f15]) (hm_runV (rest := [.int r12]) hx hb hml hown X hA Y w 0 (ci := 7) (T := TX8) (N := 55) rfl rfl mw_X8_get ml_X8_221 dX8_isSeen_29 hm_ac0 [.int (66 + x1)] rfl [0, 1] rfl rfl (ct_X8_get l E H.size h0 r_t t_base t_taped t_at t_faultPlace t_number t_newBits t_newTold t_newDoings t_newThings t_opened x18 x19 x20 t_turned t_wasConverted t_lastBits t_lastSum t_lastHeld t_lastLeft t_lastCode t_writtenLong t_codeMany t_acts t_done0 t_stoppedAt f13 (66 + x1) (r21, ()) hc29) rfl hl.1 ⟨⟨rfl, rfl⟩, ⟨Nat.le_of_ble_eq_true rfl, Nat.le_of_ble_eq_true rfl⟩, ⟨Nat.le_of_ble_eq_true rfl, Nat.le_of_ble_eq_true rfl⟩, Nat.le_of_ble_eq_true rfl⟩) hA w [0, 1] [2, 3, 4, 5] [4, 5, 0, 1, 2, 3] rfl rfl (by decide) (fun _ => rfl) (fun _ H locs w => ?_)
        refine lv_icmp_eq (tgt := 37) hx hb dX8_isSeen_32 (by decide) (fun c32 => ?_) (fun c32 => ?_)
        · have hf := pf_t c32 hf
          obtain ⟨x22, ex22⟩ : ∃ y : Int32, y = (x1 + 1) := ⟨_, rfl⟩
          have hf := pf_nm ex22 hf
          refine lv_iinc (v := x22) (lv' := [(1, .int x22), (0, .ref h0)]) hx hb dX8_isSeen_37 hl (k := 1) rfl (by rw [ex22]; rfl) (by decide) rfl (fun ls hl => ?_)
          refine lv_goto (tgt := 2) hx hb dX8_isSeen_40 (by decide) ?_
          exact ih2 _ _ _ _ _ _ _ _ _ _ _ _ hf w (lv_sub hl [1, 0] rfl)
        · have hf := pf_e c32 hf
          refine lv_iconst (v := 0) hx hb dX8_isSeen_35 (by decide) ?_
          exact hQ _ _ _ _ _ (f13, f14, f15, f16, f17, x18, x19, x20) (fun _ => 0) hf rfl w dX8_isSeen_36
  exact klp_X8_isSeen_2 FU _ _ _ _ _ _ _ _ _ _ _ _ hf w (lv_sub hl [1, 0] rfl)
set_option maxHeartbeats 8000000 in
set_option maxRecDepth 100000 in
theorem ct_X8_isFault (l : Launch) (E : hm_E) (sz : Nat) (h0 : Nat) (r_t : Nat → Nat) (t_base t_taped t_at t_faultPlace t_number t_newBits t_newTold t_newDoings t_newThings t_opened t_sum t_heldAll t_onPaper t_turned t_wasConverted t_lastBits t_lastSum t_lastHeld t_lastLeft t_lastCode t_writtenLong t_codeMany t_acts t_done0 t_stoppedAt : Int32) (t_all : Nat → Int32) (t_askedOf : Nat → Int32) (t_decided : Nat → Int32) (t_heldBehind : Nat → Int32) (t_wasLate : Nat → Int32) (a1 : Int32) (a2 : Int32) (a3 : Int32) (R : Int32 × (Nat → Int32) × (Nat → Int32) × (Nat → Int32) × (Nat → Int32) × (Nat → Int32) × Int32 × Int32 × Int32) (hf : pf_X8_isFault a1 a2 a3 t_all t_base t_decided t_wasLate t_askedOf t_heldBehind t_sum t_heldAll t_onPaper t_turned = some R) : hm_Mi l E yX8_isFault cX8_isFault 7 .boolean [] (hm_rr 6 136 0 0) [.ref h0, .int a1, .int a2, .int a3] sz [oc8 h0 r_t t_base t_taped t_at t_faultPlace t_number t_newBits t_newTold t_newDoings t_newThings t_opened t_sum t_heldAll t_onPaper t_turned t_wasConverted t_lastBits t_lastSum t_lastHeld t_lastLeft t_lastCode t_writtenLong t_codeMany t_acts t_done0 t_stoppedAt, ic E (r_t 0) 800 t_all, ic E (r_t 27) 12 t_askedOf, ic E (r_t 25) 12 t_decided, ic E (r_t 28) 12 t_heldBehind, zc E (r_t 26) 12 t_wasLate] R.1 (fun _ => [oc8 h0 r_t t_base t_taped t_at t_faultPlace t_number t_newBits t_newTold t_newDoings t_newThings t_opened (R.2.2.2.2.2.2.1) (R.2.2.2.2.2.2.2.1) (R.2.2.2.2.2.2.2.2) t_turned t_wasConverted t_lastBits t_lastSum t_lastHeld t_lastLeft t_lastCode t_writtenLong t_codeMany t_acts t_done0 t_stoppedAt, ic E (r_t 0) 800 (R.2.1), ic E (r_t 27) 12 (R.2.2.2.2.1), ic E (r_t 25) 12 (R.2.2.1), ic E (r_t 28) 12 (R.2.2.2.2.2.1), zc E (r_t 26) 12 (R.2.2.2.1)]) := by
  refine hm_ct_i R (fun u qs => [oc8 h0 r_t t_base t_taped t_at t_faultPlace t_number t_newBits t_newTold t_newDoings t_newThings t_opened (u.2.2.2.2.2.1) (u.2.2.2.2.2.2.1) (u.2.2.2.2.2.2.2) t_turned t_wasConverted t_lastBits t_lastSum t_lastHeld t_lastLeft t_lastCode t_writtenLong t_codeMany t_acts t_done0 t_stoppedAt, ic E (r_t 0) 800 (u.1), ic E (r_t 27) 12 (u.2.2.2.1), ic E (r_t 25) 12 (u.2.1), ic E (r_t 28) 12 (u.2.2.2.2.1), zc E (r_t 26) 12 (u.2.2.1)]) (by decide) (Nat.le_of_ble_eq_true rfl) (Or.inr rfl) ?_
  intro p e s m args below meth c A Q ls H locs hx hb hml hown X hA Y hex w hl hQ
  have hl : lv_has ls 7 [(0, .ref h0), (1, .int a1), (2, .int a2), (3, .int a3)] := hl
  unfold pf_X8_isFault at hf
  refine lv_iload_n hx hb dX8_isFault_0 rfl (lv_at hl 1 rfl) ?_
  obtain ⟨J15, hJ15, hf⟩ := pf_jn hf
  have kJ15 : ∀ (x1 : Int32) (H : Heap) (locs : List Loc) (ls : Array Slot), J15 x1 = some R → hm_W E A s.heap [oc8 h0 r_t t_base t_taped t_at t_faultPlace t_number t_newBits t_newTold t_newDoings t_newThings t_opened t_sum t_heldAll t_onPaper t_turned t_wasConverted t_lastBits t_lastSum t_lastHeld t_lastLeft t_lastCode t_writtenLong t_codeMany t_acts t_done0 t_stoppedAt, ic E (r_t 0) 800 t_all, ic E (r_t 27) 12 t_askedOf, ic E (r_t 25) 12 t_decided, ic E (r_t 28) 12 t_heldBehind, zc E (r_t 26) 12 t_wasLate] H locs → lv_has ls 7 [(0, .ref h0), (1, .int a1), (2, .int a2), (3, .int a3)] → W p l e (hm_rr 6 136 0 0) s m args below meth c H locs 0 0 Q (F0 m 15 ls [.int x1]) := by
    intro x1 H locs ls hf w hl
    have hf := pf_j1 hJ15 hf
    refine lv_istore (lv' := [(4, .int x1), (0, .ref h0), (1, .int a1), (2, .int a2), (3, .int a3)]) hx hb dX8_isFault_15 hl (by decide) rfl (fun ls hl => ?_)
    refine lv_aload_n hx hb dX8_isFault_17 rfl (lv_at hl 1 rfl) ?_
    refine lv_iload hx hb dX8_isFault_18 (lv_at hl 0 rfl) ?_
    obtain ⟨r2, hc20, hf⟩ := pf_bi_0 hf
    refine hm_aft_i (ws' := fun _ => [oc8 h0 r_t t_base t_taped t_at t_faultPlace t_number t_newBits t_newTold t_newDoings t_newThings t_opened t_sum t_heldAll t_onPaper t_turned t_wasConverted t_lastBits t_lastSum t_lastHeld t_lastLeft t_lastCode t_writtenLong t_codeMany t_acts t_done0 t_stoppedAt, ic E (r_t 0) 800 t_all, ic E (r_t 27) 12 t_askedOf, ic E (r_t 25) 12 t_decided, ic E (r_t 28) 12 t_heldBehind, zc E (r_t 26) 12 t_wasLate]) (hm_runV (rest := []) hx hb hml hown X hA Y w 0 (ci := 7) (T := TX8) (N := 55) rfl rfl mw_X8_get ml_X8_221 dX8_isFault_20 hm_ac0 [.int x1] rfl [0, 1] rfl rfl (ct_X8_get l E H.size h0 r_t t_base t_taped t_at t_faultPlace t_number t_newBits t_newTold t_newDoings t_newThings t_opened t_sum t_heldAll t_onPaper t_turned t_wasConverted t_lastBits t_lastSum t_lastHeld t_lastLeft t_lastCode t_writtenLong t_codeMany t_acts t_done0 t_stoppedAt t_all x1 (r2, ()) hc20) rfl hl.1 ⟨⟨rfl, rfl⟩, ⟨Nat.le_of_ble_eq_true rfl, Nat.le_of_ble_eq_true rfl⟩, ⟨Nat.le_of_ble_eq_true rfl, Nat.le_of_ble_eq_true rfl⟩, Nat.le_of_ble_eq_true rfl⟩) hA w [0, 1] [2, 3, 4, 5] [4, 5, 0, 1, 2, 3] rfl rfl (by decide) (fun _ => rfl) (fun _ H locs w => ?_)
    refine lv_istore (lv' := [(5, .int r2), (4, .int x1), (0, .ref h0), (1, .int a1), (2, .int a2), (3, .int a3)]) hx hb dX8_isFault_23 hl (by decide) rfl (fun ls hl => ?_)
    refine lv_iload_n hx hb dX8_isFault_25 rfl (lv_at hl 3 rfl) ?_
    refine lv_iconst (v := 1) hx hb dX8_isFault_26 (by decide) ?_
    obtain ⟨J43, hJ43, hf⟩ := pf_jn hf
    have kJ43 : ∀ (H : Heap) (locs : List Loc) (ls : Array Slot), J43 = some R → hm_W E A s.heap [oc8 h0 r_t t_base t_taped t_at t_faultPlace t_number t_newBits t_newTold t_newDoings t_newThings t_opened t_sum t_heldAll t_onPaper t_turned t_wasConverted t_lastBits t_lastSum t_lastHeld t_lastLeft t_lastCode t_writtenLong t_codeMany t_acts t_done0 t_stoppedAt, ic E (r_t 0) 800 t_all, ic E (r_t 27) 12 t_askedOf, ic E (r_t 25) 12 t_decided, ic E (r_t 28) 12 t_heldBehind, zc E (r_t 26) 12 t_wasLate] H locs → lv_has ls 7 [(0, .ref h0), (1, .int a1), (3, .int a3), (4, .int x1), (5, .int r2)] → W p l e (hm_rr 6 136 0 0) s m args below meth c H locs 0 0 Q (F0 m 43 ls []) := by
      intro H locs ls hf w hl
      have hf := pf_j0 hJ43 hf
      refine lv_aload_n hx hb dX8_isFault_43 rfl (lv_at hl 0 rfl) ?_
      refine lv_iload hx hb dX8_isFault_44 (lv_at hl 3 rfl) ?_
      refine lv_iload_n hx hb dX8_isFault_46 rfl (lv_at hl 1 rfl) ?_
      obtain ⟨J58, hJ58, hf⟩ := pf_jn hf
      have kJ58 : ∀ (x3 : Int32) (H : Heap) (locs : List Loc) (ls : Array Slot), J58 x3 = some R → hm_W E A s.heap [oc8 h0 r_t t_base t_taped t_at t_faultPlace t_number t_newBits t_newTold t_newDoings t_newThings t_opened t_sum t_heldAll t_onPaper t_turned t_wasConverted t_lastBits t_lastSum t_lastHeld t_lastLeft t_lastCode t_writtenLong t_codeMany t_acts t_done0 t_stoppedAt, ic E (r_t 0) 800 t_all, ic E (r_t 27) 12 t_askedOf, ic E (r_t 25) 12 t_decided, ic E (r_t 28) 12 t_heldBehind, zc E (r_t 26) 12 t_wasLate] H locs → lv_has ls 7 [(0, .ref h0), (4, .int x1), (5, .int r2)] → W p l e (hm_rr 6 136 0 0) s m args below meth c H locs 0 0 Q (F0 m 58 ls [.int x3, .int x1, .ref h0]) := by
        intro x3 H locs ls hf w hl
        have hf := pf_j1 hJ58 hf
        obtain ⟨f4, hc58, hf⟩ := pf_bv_1 hf
        refine hm_aft_v (ws' := fun _ => [oc8 h0 r_t t_base t_taped t_at t_faultPlace t_number t_newBits t_newTold t_newDoings t_newThings t_opened t_sum t_heldAll t_onPaper t_turned t_wasConverted t_lastBits t_lastSum t_lastHeld t_lastLeft t_lastCode t_writtenLong t_codeMany t_acts t_done0 t_stoppedAt, ic E (r_t 0) 800 f4, ic E (r_t 27) 12 t_askedOf, ic E (r_t 25) 12 t_decided, ic E (r_t 28) 12 t_heldBehind, zc E (r_t 26) 12 t_wasLate]) (hm_runV (rest := []) hx hb hml hown X hA Y w 0 (ci := 7) (T := TX8) (N := 55) rfl rfl mw_X8_put ml_X8_119 dX8_isFault_58 hm_ac0 [.int x1, .int x3] rfl [0, 1] rfl rfl (ct_X8_put l E H.size h0 r_t t_base t_taped t_at t_faultPlace t_number t_newBits t_newTold t_newDoings t_newThings t_opened t_sum t_heldAll t_onPaper t_turned t_wasConverted t_lastBits t_lastSum t_lastHeld t_lastLeft t_lastCode t_writtenLong t_codeMany t_acts t_done0 t_stoppedAt t_all x1 x3 f4 hc58) rfl hl.1 ⟨⟨rfl, rfl⟩, ⟨Nat.le_of_ble_eq_true rfl, Nat.le_of_ble_eq_true rfl⟩, ⟨Nat.le_of_ble_eq_true rfl, Nat.le_of_ble_eq_true rfl⟩, Nat.le_of_ble_eq_true rfl⟩) hA w [0, 1] [2, 3, 4, 5] [4, 5, 0, 1, 2, 3] rfl rfl (by decide) (fun _ => rfl) (fun _ H locs w => ?_)
        refine lv_aload_n hx hb dX8_isFault_61 rfl (lv_at hl 0 rfl) ?_
        obtain ⟨r5, f6, f7, f8, f9, f10, x11, x12, x13, hc62, hf⟩ := pf_bi_8 hf
        refine hm_aft_i (ws' := fun _ => [oc8 h0 r_t t_base t_taped t_at t_faultPlace t_number t_newBits t_newTold t_newDoings t_newThings t_opened x11 x12 x13 t_turned t_wasConverted t_lastBits t_lastSum t_lastHeld t_lastLeft t_lastCode t_writtenLong t_codeMany t_acts t_done0 t_stoppedAt, ic E (r_t 0) 800 f6, ic E (r_t 27) 12 f9, ic E (r_t 25) 12 f7, ic E (r_t 28) 12 f10, zc E (r_t 26) 12 f8]) (hm_runV (rest := []) hx hb hml hown X hA Y w 0 (ci := 7) (T := TX8) (N := 55) rfl rfl mw_X8_isSeen ml_X8_394 dX8_isFault_62 hm_ac0 [] rfl [0, 1, 2, 3, 4, 5] rfl rfl (ct_X8_isSeen l E H.size h0 r_t t_base t_taped t_at t_faultPlace t_number t_newBits t_newTold t_newDoings t_newThings t_opened t_sum t_heldAll t_onPaper t_turned t_wasConverted t_lastBits t_lastSum t_lastHeld t_lastLeft t_lastCode t_writtenLong t_codeMany t_acts t_done0 t_stoppedAt f4 t_askedOf t_decided t_heldBehind t_wasLate (r5, f6, f7, f8, f9, f10, x11, x12, x13) hc62) rfl hl.1 ⟨⟨rfl, rfl⟩, ⟨Nat.le_of_ble_eq_true rfl, Nat.le_of_ble_eq_true rfl⟩, ⟨Nat.le_of_ble_eq_true rfl, Nat.le_of_ble_eq_true rfl⟩, Nat.le_of_ble_eq_true rfl⟩) hA w [0, 1, 2, 3, 4, 5] [] [0, 1, 2, 3, 4, 5] rfl rfl (by decide) (fun _ => rfl) (fun _ H locs w => ?_)
        refine lv_istore (lv' := [(6, .int r5), (0, .ref h0), (4, .int x1), (5, .int r2)]) hx hb dX8_isFault_65 hl (by decide) rfl (fun ls hl => ?_)
        refine lv_aload_n hx hb dX8_isFault_67 rfl (lv_at hl 1 rfl) ?_
        refine lv_iload hx hb dX8_isFault_68 (lv_at hl 2 rfl) ?_
        refine lv_iload hx hb dX8_isFault_70 (lv_at hl 3 rfl) ?_
        obtain ⟨f14, hc72, hf⟩ := pf_bv_1 hf
        refine hm_aft_v (ws' := fun _ => [oc8 h0 r_t t_base t_taped t_at t_faultPlace t_number t_newBits t_newTold t_newDoings t_newThings t_opened x11 x12 x13 t_turned t_wasConverted t_lastBits t_lastSum t_lastHeld t_lastLeft t_lastCode t_writtenLong t_codeMany t_acts t_done0 t_stoppedAt, ic E (r_t 0) 800 f14, ic E (r_t 27) 12 f9, ic E (r_t 25) 12 f7, ic E (r_t 28) 12 f10, zc E (r_t 26) 12 f8]) (hm_runV (rest := []) hx hb hml hown X hA Y w 0 (ci := 7) (T := TX8) (N := 55) rfl rfl mw_X8_put ml_X8_119 dX8_isFault_72 hm_ac0 [.int x1, .int r2] rfl [0, 1] rfl rfl (ct_X8_put l E H.size h0 r_t t_base t_taped t_at t_faultPlace t_number t_newBits t_newTold t_newDoings t_newThings t_opened x11 x12 x13 t_turned t_wasConverted t_lastBits t_lastSum t_lastHeld t_lastLeft t_lastCode t_writtenLong t_codeMany t_acts t_done0 t_stoppedAt f6 x1 r2 f14 hc72) rfl hl.1 ⟨⟨rfl, rfl⟩, ⟨Nat.le_of_ble_eq_true rfl, Nat.le_of_ble_eq_true rfl⟩, ⟨Nat.le_of_ble_eq_true rfl, Nat.le_of_ble_eq_true rfl⟩, Nat.le_of_ble_eq_true rfl⟩) hA w [0, 1] [2, 3, 4, 5] [4, 5, 0, 1, 2, 3] rfl rfl (by decide) (fun _ => rfl) (fun _ H locs w => ?_)
        refine lv_iload hx hb dX8_isFault_75 (lv_at hl 0 rfl) ?_
        obtain ⟨g77, hf⟩ := pf_ckZ hf
        exact hQ _ _ _ _ _ (f14, f7, f8, f9, f10, x11, x12, x13) (fun _ => 0) hf (hm_z g77) w dX8_isFault_77
      refine lv_if_ne (tgt := 54) hx hb dX8_isFault_47 (by decide) (fun c47 => ?_) (fun c47 => ?_)
      · have hf := pf_e c47 hf
        refine lv_iload hx hb dX8_isFault_54 (lv_at hl 4 rfl) ?_
        refine lv_iload_n hx hb dX8_isFault_56 rfl (lv_at hl 2 rfl) ?_
        refine lv_iadd hx hb dX8_isFault_57 ?_
        exact kJ58 _ _ _ _ hf w (lv_sub hl [0, 3, 4] rfl)
      · have hf := pf_t c47 hf
        refine lv_iload_n hx hb dX8_isFault_50 rfl (lv_at hl 2 rfl) ?_
        refine lv_goto (tgt := 58) hx hb dX8_isFault_51 (by decide) ?_
        exact kJ58 _ _ _ _ hf w (lv_sub hl [0, 3, 4] rfl)
    refine lv_icmp_ne (tgt := 43) hx hb dX8_isFault_27 (by decide) (fun c27 => ?_) (fun c27 => ?_)
    · have hf := pf_e c27 hf
      exact kJ43 _ _ _ hf w (lv_sub hl [2, 3, 5, 1, 0] rfl)
    · have hf := pf_t c27 hf
      refine lv_aload_n hx hb dX8_isFault_30 rfl (lv_at hl 2 rfl) ?_
      refine lv_iload_n hx hb dX8_isFault_31 rfl (lv_at hl 4 rfl) ?_
      obtain ⟨r15, hc32, hf⟩ := pf_bi_0 hf
      refine hm_aft_i (ws' := fun _ => [oc8 h0 r_t t_base t_taped t_at t_faultPlace t_number t_newBits t_newTold t_newDoings t_newThings t_opened t_sum t_heldAll t_onPaper t_turned t_wasConverted t_lastBits t_lastSum t_lastHeld t_lastLeft t_lastCode t_writtenLong t_codeMany t_acts t_done0 t_stoppedAt, ic E (r_t 0) 800 t_all, ic E (r_t 27) 12 t_askedOf, ic E (r_t 25) 12 t_decided, ic E (r_t 28) 12 t_heldBehind, zc E (r_t 26) 12 t_wasLate]) (hm_runV (rest := []) hx hb hml hown X hA Y w 0 (ci := 7) (T := TX8) (N := 55) rfl rfl mw_X8_weight ml_X8_224 dX8_isFault_32 hm_ac0 [.int a2] rfl [0, 1] rfl rfl (ct_X8_weight l E H.size h0 r_t t_base t_taped t_at t_faultPlace t_number t_newBits t_newTold t_newDoings t_newThings t_opened t_sum t_heldAll t_onPaper t_turned t_wasConverted t_lastBits t_lastSum t_lastHeld t_lastLeft t_lastCode t_writtenLong t_codeMany t_acts t_done0 t_stoppedAt t_all a2 (r15, ()) hc32) rfl hl.1 ⟨⟨rfl, rfl⟩, ⟨Nat.le_of_ble_eq_true rfl, Nat.le_of_ble_eq_true rfl⟩, ⟨Nat.le_of_ble_eq_true rfl, Nat.le_of_ble_eq_true rfl⟩, Nat.le_of_ble_eq_true rfl⟩) hA w [0, 1] [2, 3, 4, 5] [4, 5, 0, 1, 2, 3] rfl rfl (by decide) (fun _ => rfl) (fun _ H locs w => ?_)
      refine lv_iload_n hx hb dX8_isFault_35 rfl (lv_at hl 5 rfl) ?_
      refine lv_iadd hx hb dX8_isFault_36 ?_
      refine lv_iconst (v := 1) hx hb dX8_isFault_37 (by decide) ?_
      refine lv_icmp_ge (tgt := 43) hx hb dX8_isFault_38 (by decide) (fun c38 => ?_) (fun c38 => ?_)
      · have hf := pf_t c38 hf
        exact kJ43 _ _ _ hf w (lv_sub hl [2, 3, 5, 1, 0] rfl)
      · have hf := pf_e c38 hf
        refine lv_iconst (v := 0) hx hb dX8_isFault_41 (by decide) ?_
        exact hQ _ _ _ _ _ (t_all, t_decided, t_wasLate, t_askedOf, t_heldBehind, t_sum, t_heldAll, t_onPaper) (fun _ => 0) hf rfl w dX8_isFault_42
  refine lv_if_ne (tgt := 11) hx hb dX8_isFault_1 (by decide) (fun c1 => ?_) (fun c1 => ?_)
  · have hf := pf_e c1 hf
    refine lv_bipush (v := 21) hx hb dX8_isFault_11 (by decide) ?_
    refine lv_iload_n hx hb dX8_isFault_13 rfl (lv_at hl 2 rfl) ?_
    refine lv_iadd hx hb dX8_isFault_14 ?_
    exact kJ15 _ _ _ _ hf w (lv_sub hl [0, 1, 2, 3] rfl)
  · have hf := pf_t c1 hf
    refine lv_bipush (v := 45) hx hb dX8_isFault_4 (by decide) ?_
    refine lv_iload_n hx hb dX8_isFault_6 rfl (lv_at hl 2 rfl) ?_
    refine lv_iadd hx hb dX8_isFault_7 ?_
    refine lv_goto (tgt := 15) hx hb dX8_isFault_8 (by decide) ?_
    exact kJ15 _ _ _ _ hf w (lv_sub hl [0, 1, 2, 3] rfl)
set_option maxHeartbeats 8000000 in
set_option maxRecDepth 100000 in
theorem ct_X8_faults (l : Launch) (E : hm_E) (sz : Nat) (h0 : Nat) (r_t : Nat → Nat) (t_base t_taped t_at t_faultPlace t_number t_newBits t_newTold t_newDoings t_newThings t_opened t_sum t_heldAll t_onPaper t_turned t_wasConverted t_lastBits t_lastSum t_lastHeld t_lastLeft t_lastCode t_writtenLong t_codeMany t_acts t_done0 t_stoppedAt : Int32) (t_all : Nat → Int32) (t_askedOf : Nat → Int32) (t_decided : Nat → Int32) (t_heldBehind : Nat → Int32) (t_wasLate : Nat → Int32) (a1 : Int32) (a2 : Int32) (R : Int32 × (Nat → Int32) × (Nat → Int32) × (Nat → Int32) × (Nat → Int32) × (Nat → Int32) × Int32 × Int32 × Int32) (hf : pf_X8_faults a1 a2 t_all t_base t_decided t_wasLate t_askedOf t_heldBehind t_sum t_heldAll t_onPaper t_turned = some R) : hm_Mi l E yX8_faults cX8_faults 9 .int [] (hm_rr 7 162 0 0) [.ref h0, .int a1, .int a2] sz [oc8 h0 r_t t_base t_taped t_at t_faultPlace t_number t_newBits t_newTold t_newDoings t_newThings t_opened t_sum t_heldAll t_onPaper t_turned t_wasConverted t_lastBits t_lastSum t_lastHeld t_lastLeft t_lastCode t_writtenLong t_codeMany t_acts t_done0 t_stoppedAt, ic E (r_t 0) 800 t_all, ic E (r_t 27) 12 t_askedOf, ic E (r_t 25) 12 t_decided, ic E (r_t 28) 12 t_heldBehind, zc E (r_t 26) 12 t_wasLate] R.1 (fun _ => [oc8 h0 r_t t_base t_taped t_at t_faultPlace t_number t_newBits t_newTold t_newDoings t_newThings t_opened (R.2.2.2.2.2.2.1) (R.2.2.2.2.2.2.2.1) (R.2.2.2.2.2.2.2.2) t_turned t_wasConverted t_lastBits t_lastSum t_lastHeld t_lastLeft t_lastCode t_writtenLong t_codeMany t_acts t_done0 t_stoppedAt, ic E (r_t 0) 800 (R.2.1), ic E (r_t 27) 12 (R.2.2.2.2.1), ic E (r_t 25) 12 (R.2.2.1), ic E (r_t 28) 12 (R.2.2.2.2.2.1), zc E (r_t 26) 12 (R.2.2.2.1)]) := by
  refine hm_ct_i R (fun u qs => [oc8 h0 r_t t_base t_taped t_at t_faultPlace t_number t_newBits t_newTold t_newDoings t_newThings t_opened (u.2.2.2.2.2.1) (u.2.2.2.2.2.2.1) (u.2.2.2.2.2.2.2) t_turned t_wasConverted t_lastBits t_lastSum t_lastHeld t_lastLeft t_lastCode t_writtenLong t_codeMany t_acts t_done0 t_stoppedAt, ic E (r_t 0) 800 (u.1), ic E (r_t 27) 12 (u.2.2.2.1), ic E (r_t 25) 12 (u.2.1), ic E (r_t 28) 12 (u.2.2.2.2.1), zc E (r_t 26) 12 (u.2.2.1)]) (by decide) (Nat.le_of_ble_eq_true rfl) (Or.inl rfl) ?_
  intro p e s m args below meth c A Q ls H locs hx hb hml hown X hA Y hex w hl hQ
  have hl : lv_has ls 9 [(0, .ref h0), (1, .int a1), (2, .int a2)] := hl
  unfold pf_X8_faults at hf
  refine lv_aload_n hx hb dX8_faults_0 rfl (lv_at hl 0 rfl) ?_
  refine lv_iconst (v := 0) hx hb dX8_faults_1 (by decide) ?_
  obtain ⟨r1, hc2, hf⟩ := pf_bi_0 hf
  refine hm_aft_i (ws' := fun _ => [oc8 h0 r_t t_base t_taped t_at t_faultPlace t_number t_newBits t_newTold t_newDoings t_newThings t_opened t_sum t_heldAll t_onPaper t_turned t_wasConverted t_lastBits t_lastSum t_lastHeld t_lastLeft t_lastCode t_writtenLong t_codeMany t_acts t_done0 t_stoppedAt, ic E (r_t 0) 800 t_all, ic E (r_t 27) 12 t_askedOf, ic E (r_t 25) 12 t_decided, ic E (r_t 28) 12 t_heldBehind, zc E (r_t 26) 12 t_wasLate]) (hm_runV (rest := []) hx hb hml hown X hA Y w 0 (ci := 7) (T := TX8) (N := 55) rfl rfl mw_X8_get ml_X8_221 dX8_faults_2 hm_ac0 [.int 0] rfl [0, 1] rfl rfl (ct_X8_get l E H.size h0 r_t t_base t_taped t_at t_faultPlace t_number t_newBits t_newTold t_newDoings t_newThings t_opened t_sum t_heldAll t_onPaper t_turned t_wasConverted t_lastBits t_lastSum t_lastHeld t_lastLeft t_lastCode t_writtenLong t_codeMany t_acts t_done0 t_stoppedAt t_all 0 (r1, ()) hc2) rfl hl.1 ⟨⟨rfl, rfl⟩, ⟨Nat.le_of_ble_eq_true rfl, Nat.le_of_ble_eq_true rfl⟩, ⟨Nat.le_of_ble_eq_true rfl, Nat.le_of_ble_eq_true rfl⟩, Nat.le_of_ble_eq_true rfl⟩) hA w [0, 1] [2, 3, 4, 5] [4, 5, 0, 1, 2, 3] rfl rfl (by decide) (fun _ => rfl) (fun _ H locs w => ?_)
  refine lv_istore_n (lv' := [(3, .int r1), (0, .ref h0), (1, .int a1), (2, .int a2)]) hx hb dX8_faults_5 rfl hl (by decide) rfl (fun ls hl => ?_)
  refine lv_iload_n hx hb dX8_faults_6 rfl (lv_at hl 0 rfl) ?_
  refine lv_if_eq (tgt := 28) hx hb dX8_faults_7 (by decide) (fun c7 => ?_) (fun c7 => ?_)
  · have hf := pf_t c7 hf
    refine lv_bipush (v := (-100)) hx hb dX8_faults_28 (by decide) ?_
    exact hQ _ _ _ _ _ (t_all, t_decided, t_wasLate, t_askedOf, t_heldBehind, t_sum, t_heldAll, t_onPaper) (fun _ => 0) hf rfl w dX8_faults_30
  · have hf := pf_e c7 hf
    refine lv_iload_n hx hb dX8_faults_10 rfl (lv_at hl 2 rfl) ?_
    refine lv_iconst (v := 0) hx hb dX8_faults_11 (by decide) ?_
    refine lv_iconst (v := 1) hx hb dX8_faults_12 (by decide) ?_
    obtain ⟨r2, hc13, hf⟩ := pf_bi_0 hf
    refine hm_aft_i (ws' := fun _ => [oc8 h0 r_t t_base t_taped t_at t_faultPlace t_number t_newBits t_newTold t_newDoings t_newThings t_opened t_sum t_heldAll t_onPaper t_turned t_wasConverted t_lastBits t_lastSum t_lastHeld t_lastLeft t_lastCode t_writtenLong t_codeMany t_acts t_done0 t_stoppedAt, ic E (r_t 0) 800 t_all, ic E (r_t 27) 12 t_askedOf, ic E (r_t 25) 12 t_decided, ic E (r_t 28) 12 t_heldBehind, zc E (r_t 26) 12 t_wasLate]) (hm_runS (rest := []) hx hb hml hown X hA Y w mw_X8_isIn ml_X8_129 dX8_faults_13 hm_ac0 [.int a1, .int 0, .int 1] rfl [] rfl rfl (ct_X8_isIn l E H.size a1 0 1 (r2, ()) hc13) rfl hl.1 ⟨⟨rfl, rfl⟩, ⟨Nat.le_of_ble_eq_true rfl, Nat.le_of_ble_eq_true rfl⟩, ⟨Nat.le_of_ble_eq_true rfl, Nat.le_of_ble_eq_true rfl⟩, Nat.le_of_ble_eq_true rfl⟩) hA w [] [0, 1, 2, 3, 4, 5] [0, 1, 2, 3, 4, 5] rfl rfl (by decide) (fun _ => rfl) (fun _ H locs w => ?_)
    refine lv_if_eq (tgt := 28) hx hb dX8_faults_16 (by decide) (fun c16 => ?_) (fun c16 => ?_)
    · have hf := pf_t c16 hf
      refine lv_bipush (v := (-100)) hx hb dX8_faults_28 (by decide) ?_
      exact hQ _ _ _ _ _ (t_all, t_decided, t_wasLate, t_askedOf, t_heldBehind, t_sum, t_heldAll, t_onPaper) (fun _ => 0) hf rfl w dX8_faults_30
    · have hf := pf_e c16 hf
      refine lv_iload_n hx hb dX8_faults_19 rfl (lv_at hl 3 rfl) ?_
      refine lv_iconst (v := 0) hx hb dX8_faults_20 (by decide) ?_
      refine lv_iconst (v := 2) hx hb dX8_faults_21 (by decide) ?_
      obtain ⟨r3, hc22, hf⟩ := pf_bi_0 hf
      refine hm_aft_i (ws' := fun _ => [oc8 h0 r_t t_base t_taped t_at t_faultPlace t_number t_newBits t_newTold t_newDoings t_newThings t_opened t_sum t_heldAll t_onPaper t_turned t_wasConverted t_lastBits t_lastSum t_lastHeld t_lastLeft t_lastCode t_writtenLong t_codeMany t_acts t_done0 t_stoppedAt, ic E (r_t 0) 800 t_all, ic E (r_t 27) 12 t_askedOf, ic E (r_t 25) 12 t_decided, ic E (r_t 28) 12 t_heldBehind, zc E (r_t 26) 12 t_wasLate]) (hm_runS (rest := []) hx hb hml hown X hA Y w mw_X8_isIn ml_X8_129 dX8_faults_22 hm_ac0 [.int a2, .int 0, .int 2] rfl [] rfl rfl (ct_X8_isIn l E H.size a2 0 2 (r3, ()) hc22) rfl hl.1 ⟨⟨rfl, rfl⟩, ⟨Nat.le_of_ble_eq_true rfl, Nat.le_of_ble_eq_true rfl⟩, ⟨Nat.le_of_ble_eq_true rfl, Nat.le_of_ble_eq_true rfl⟩, Nat.le_of_ble_eq_true rfl⟩) hA w [] [0, 1, 2, 3, 4, 5] [0, 1, 2, 3, 4, 5] rfl rfl (by decide) (fun _ => rfl) (fun _ H locs w => ?_)
      refine lv_if_ne (tgt := 31) hx hb dX8_faults_25 (by decide) (fun c25 => ?_) (fun c25 => ?_)
      · have hf := pf_e c25 hf
        refine lv_iconst (v := 0) hx hb dX8_faults_31 (by decide) ?_
        refine lv_istore (lv' := [(4, .int 0), (3, .int r1), (0, .ref h0), (1, .int a1), (2, .int a2)]) hx hb dX8_faults_32 hl (by decide) rfl (fun ls hl => ?_)
        refine lv_bipush (v := (-100)) hx hb dX8_faults_34 (by decide) ?_
        refine lv_istore (lv' := [(5, .int (-100)), (4, .int 0), (3, .int r1), (0, .ref h0), (1, .int a1), (2, .int a2)]) hx hb dX8_faults_36 hl (by decide) rfl (fun ls hl => ?_)
        refine lv_bipush (v := (-100)) hx hb dX8_faults_38 (by decide) ?_
        refine lv_istore (lv' := [(6, .int (-100)), (5, .int (-100)), (4, .int 0), (3, .int r1), (0, .ref h0), (1, .int a1), (2, .int a2)]) hx hb dX8_faults_40 hl (by decide) rfl (fun ls hl => ?_)
        refine lv_iconst (v := 0) hx hb dX8_faults_42 (by decide) ?_
        refine lv_istore (lv' := [(7, .int 0), (6, .int (-100)), (5, .int (-100)), (4, .int 0), (3, .int r1), (0, .ref h0), (1, .int a1), (2, .int a2)]) hx hb dX8_faults_43 hl (by decide) rfl (fun ls hl => ?_)
        obtain ⟨J148, hJ148, hf⟩ := pf_jn hf
        have kJ148 : ∀ (x4 : Int32) (x5 : Int32) (x6 : Int32) (f7 : Nat → Int32) (f8 : Nat → Int32) (f9 : Nat → Int32) (f10 : Nat → Int32) (f11 : Nat → Int32) (x12 : Int32) (x13 : Int32) (x14 : Int32) (H : Heap) (locs : List Loc) (ls : Array Slot), J148 x4 x5 x6 f7 f8 f9 f10 f11 x12 x13 x14 = some R → hm_W E A s.heap [oc8 h0 r_t t_base t_taped t_at t_faultPlace t_number t_newBits t_newTold t_newDoings t_newThings t_opened x12 x13 x14 t_turned t_wasConverted t_lastBits t_lastSum t_lastHeld t_lastLeft t_lastCode t_writtenLong t_codeMany t_acts t_done0 t_stoppedAt, ic E (r_t 0) 800 f7, ic E (r_t 27) 12 f10, ic E (r_t 25) 12 f8, ic E (r_t 28) 12 f11, zc E (r_t 26) 12 f9] H locs → lv_has ls 9 [(2, .int a2), (4, .int x4), (5, .int x5), (6, .int x6)] → W p l e (hm_rr 7 162 0 0) s m args below meth c H locs 0 0 Q (F0 m 148 ls []) := by
          intro x4 x5 x6 f7 f8 f9 f10 f11 x12 x13 x14 H locs ls hf w hl
          have hf := pf_j11 hJ148 hf
          refine lv_iload_n hx hb dX8_faults_148 rfl (lv_at hl 0 rfl) ?_
          refine lv_if_ne (tgt := 157) hx hb dX8_faults_149 (by decide) (fun c149 => ?_) (fun c149 => ?_)
          · have hf := pf_e c149 hf
            refine lv_iload_n hx hb dX8_faults_157 rfl (lv_at hl 0 rfl) ?_
            refine lv_iconst (v := 1) hx hb dX8_faults_158 (by decide) ?_
            refine lv_icmp_ne (tgt := 167) hx hb dX8_faults_159 (by decide) (fun c159 => ?_) (fun c159 => ?_)
            · have hf := pf_e c159 hf
              refine lv_iload hx hb dX8_faults_167 (lv_at hl 3 rfl) ?_
              exact hQ _ _ _ _ _ (f7, f8, f9, f10, f11, x12, x13, x14) (fun _ => 0) hf rfl w dX8_faults_169
            · have hf := pf_t c159 hf
              refine lv_iload hx hb dX8_faults_162 (lv_at hl 2 rfl) ?_
              refine lv_goto (tgt := 169) hx hb dX8_faults_164 (by decide) ?_
              exact hQ _ _ _ _ _ (f7, f8, f9, f10, f11, x12, x13, x14) (fun _ => 0) hf rfl w dX8_faults_169
          · have hf := pf_t c149 hf
            refine lv_iload hx hb dX8_faults_152 (lv_at hl 1 rfl) ?_
            refine lv_goto (tgt := 169) hx hb dX8_faults_154 (by decide) ?_
            exact hQ _ _ _ _ _ (f7, f8, f9, f10, f11, x12, x13, x14) (fun _ => 0) hf rfl w dX8_faults_169
        have klp_X8_faults_45 : ∀ (n : Nat) (x15 : Int32) (x16 : Int32) (x17 : Int32) (x18 : Int32) (f19 : Nat → Int32) (f20 : Nat → Int32) (f21 : Nat → Int32) (f22 : Nat → Int32) (f23 : Nat → Int32) (x24 : Int32) (x25 : Int32) (x26 : Int32) (H : Heap) (locs : List Loc) (ls : Array Slot), lp_X8_faults_45 a1 t_base t_turned r1 J148 n x15 x16 x17 x18 f19 f20 f21 f22 f23 x24 x25 x26 = some R → hm_W E A s.heap [oc8 h0 r_t t_base t_taped t_at t_faultPlace t_number t_newBits t_newTold t_newDoings t_newThings t_opened x24 x25 x26 t_turned t_wasConverted t_lastBits t_lastSum t_lastHeld t_lastLeft t_lastCode t_writtenLong t_codeMany t_acts t_done0 t_stoppedAt, ic E (r_t 0) 800 f19, ic E (r_t 27) 12 f22, ic E (r_t 25) 12 f20, ic E (r_t 28) 12 f23, zc E (r_t 26) 12 f21] H locs → lv_has ls 9 [(0, .ref h0), (1, .int a1), (2, .int a2), (3, .int r1), (4, .int x15), (5, .int x16), (6, .int x17), (7, .int x18)] → W p l e (hm_rr 7 162 0 0) s m args below meth c H locs 0 0 Q (F0 m 45 ls []) := by
          intro n
          induction n with
          | zero =>
            intro x15 x16 x17 x18 f19 f20 f21 f22 f23 x24 x25 x26 H locs ls hf w hl
            exact pf_no hf
          | succ n ih45 =>
            intro x15 x16 x17 x18 f19 f20 f21 f22 f23 x24 x25 x26 H locs ls hf w hl
            rw [lp_X8_faults_45] at hf
            refine lv_iload hx hb dX8_faults_45 (lv_at hl 7 rfl) ?_
            refine lv_iload_n hx hb dX8_faults_47 rfl (lv_at hl 3 rfl) ?_
            refine lv_icmp_ge (tgt := 148) hx hb dX8_faults_48 (by decide) (fun c48 => ?_) (fun c48 => ?_)
            · have hf := pf_t c48 hf
              exact kJ148 _ _ _ _ _ _ _ _ _ _ _ _ _ _ hf w (lv_sub hl [2, 4, 5, 6] rfl)
            · have hf := pf_e c48 hf
              refine lv_iload_n hx hb dX8_faults_51 rfl (lv_at hl 1 rfl) ?_
              obtain ⟨J61, hJ61, hf⟩ := pf_jn hf
              have kJ61 : ∀ (x27 : Int32) (H : Heap) (locs : List Loc) (ls : Array Slot), J61 x27 = some R → hm_W E A s.heap [oc8 h0 r_t t_base t_taped t_at t_faultPlace t_number t_newBits t_newTold t_newDoings t_newThings t_opened x24 x25 x26 t_turned t_wasConverted t_lastBits t_lastSum t_lastHeld t_lastLeft t_lastCode t_writtenLong t_codeMany t_acts t_done0 t_stoppedAt, ic E (r_t 0) 800 f19, ic E (r_t 27) 12 f22, ic E (r_t 25) 12 f20, ic E (r_t 28) 12 f23, zc E (r_t 26) 12 f21] H locs → lv_has ls 9 [(0, .ref h0), (1, .int a1), (2, .int a2), (3, .int r1), (4, .int x15), (5, .int x16), (6, .int x17), (7, .int x18)] → W p l e (hm_rr 7 162 0 0) s m args below meth c H locs 0 0 Q (F0 m 61 ls [.int x27]) := by
                intro x27 H locs ls hf w hl
                have hf := pf_j1 hJ61 hf
                refine lv_istore (lv' := [(8, .int x27), (0, .ref h0), (1, .int a1), (2, .int a2), (3, .int r1), (4, .int x15), (5, .int x16), (6, .int x17), (7, .int x18)]) hx hb dX8_faults_61 hl (by decide) rfl (fun ls hl => ?_)
                obtain ⟨B45, hB45, hf⟩ := pf_jn hf
                have kB45 : ∀ (x15 : Int32) (x16 : Int32) (x17 : Int32) (x18 : Int32) (f19 : Nat → Int32) (f20 : Nat → Int32) (f21 : Nat → Int32) (f22 : Nat → Int32) (f23 : Nat → Int32) (x24 : Int32) (x25 : Int32) (x26 : Int32) (H : Heap) (locs : List Loc) (ls : Array Slot), B45 x15 x16 x17 x18 f19 f20 f21 f22 f23 x24 x25 x26 = some R → hm_W E A s.heap [oc8 h0 r_t t_base t_taped t_at t_faultPlace t_number t_newBits t_newTold t_newDoings t_newThings t_opened x24 x25 x26 t_turned t_wasConverted t_lastBits t_lastSum t_lastHeld t_lastLeft t_lastCode t_writtenLong t_codeMany t_acts t_done0 t_stoppedAt, ic E (r_t 0) 800 f19, ic E (r_t 27) 12 f22, ic E (r_t 25) 12 f20, ic E (r_t 28) 12 f23, zc E (r_t 26) 12 f21] H locs → lv_has ls 9 [(0, .ref h0), (1, .int a1), (2, .int a2), (3, .int r1), (4, .int x15), (5, .int x16), (6, .int x17), (7, .int x18)] → W p l e (hm_rr 7 162 0 0) s m args below meth c H locs 0 0 Q (F0 m 45 ls []) := by
                  intro x15 x16 x17 x18 f19 f20 f21 f22 f23 x24 x25 x26 H locs ls hf w hl
                  have hf := pf_j12 hB45 hf
                  exact ih45 x15 x16 x17 x18 f19 f20 f21 f22 f23 x24 x25 x26 _ _ _ hf w hl
                have klp_X8_faults_63 : ∀ (n : Nat) (x28 : Int32) (x29 : Int32) (x30 : Int32) (x31 : Int32) (f32 : Nat → Int32) (f33 : Nat → Int32) (f34 : Nat → Int32) (f35 : Nat → Int32) (f36 : Nat → Int32) (x37 : Int32) (x38 : Int32) (x39 : Int32) (H : Heap) (locs : List Loc) (ls : Array Slot), lp_X8_faults_63 a1 t_base t_turned x18 B45 n x28 x29 x30 x31 f32 f33 f34 f35 f36 x37 x38 x39 = some R → hm_W E A s.heap [oc8 h0 r_t t_base t_taped t_at t_faultPlace t_number t_newBits t_newTold t_newDoings t_newThings t_opened x37 x38 x39 t_turned t_wasConverted t_lastBits t_lastSum t_lastHeld t_lastLeft t_lastCode t_writtenLong t_codeMany t_acts t_done0 t_stoppedAt, ic E (r_t 0) 800 f32, ic E (r_t 27) 12 f35, ic E (r_t 25) 12 f33, ic E (r_t 28) 12 f36, zc E (r_t 26) 12 f34] H locs → lv_has ls 9 [(0, .ref h0), (1, .int a1), (2, .int a2), (3, .int r1), (4, .int x28), (5, .int x29), (6, .int x30), (7, .int x18), (8, .int x31)] → W p l e (hm_rr 7 162 0 0) s m args below meth c H locs 0 0 Q (F0 m 63 ls []) := by
                  intro n
                  induction n with
                  | zero =>
                    intro x28 x29 x30 x31 f32 f33 f34 f35 f36 x37 x38 x39 H locs ls hf w hl
                    exact pf_no hf
                  | succ n ih63 =>
                    intro x28 x29 x30 x31 f32 f33 f34 f35 f36 x37 x38 x39 H locs ls hf w hl
                    rw [lp_X8_faults_63] at hf
                    refine lv_iload hx hb dX8_faults_63 (lv_at hl 8 rfl) ?_
                    refine lv_iload_n hx hb dX8_faults_65 rfl (lv_at hl 1 rfl) ?_
                    obtain ⟨J75, hJ75, hf⟩ := pf_jn hf
                    have kJ75 : ∀ (x40 : Int32) (H : Heap) (locs : List Loc) (ls : Array Slot), J75 x40 = some R → hm_W E A s.heap [oc8 h0 r_t t_base t_taped t_at t_faultPlace t_number t_newBits t_newTold t_newDoings t_newThings t_opened x37 x38 x39 t_turned t_wasConverted t_lastBits t_lastSum t_lastHeld t_lastLeft t_lastCode t_writtenLong t_codeMany t_acts t_done0 t_stoppedAt, ic E (r_t 0) 800 f32, ic E (r_t 27) 12 f35, ic E (r_t 25) 12 f33, ic E (r_t 28) 12 f36, zc E (r_t 26) 12 f34] H locs → lv_has ls 9 [(0, .ref h0), (1, .int a1), (2, .int a2), (3, .int r1), (4, .int x28), (5, .int x29), (6, .int x30), (7, .int x18), (8, .int x31)] → W p l e (hm_rr 7 162 0 0) s m args below meth c H locs 0 0 Q (F0 m 75 ls [.int x40, .int x31]) := by
                      intro x40 H locs ls hf w hl
                      have hf := pf_j1 hJ75 hf
                      refine lv_icmp_gt (tgt := 142) hx hb dX8_faults_75 (by decide) (fun c75 => ?_) (fun c75 => ?_)
                      · have hf := pf_t c75 hf
                        obtain ⟨x41, ex41⟩ : ∃ y : Int32, y = (x18 + 1) := ⟨_, rfl⟩
                        have hf := pf_nm ex41 hf
                        refine lv_iinc (v := x41) (lv' := [(7, .int x41), (0, .ref h0), (1, .int a1), (2, .int a2), (3, .int r1), (4, .int x28), (5, .int x29), (6, .int x30), (8, .int x31)]) hx hb dX8_faults_142 hl (k := 7) rfl (by rw [ex41]; rfl) (by decide) rfl (fun ls hl => ?_)
                        refine lv_goto (tgt := 45) hx hb dX8_faults_145 (by decide) ?_
                        exact kB45 _ _ _ _ _ _ _ _ _ _ _ _ _ _ _ hf w (lv_sub hl [1, 2, 3, 4, 5, 6, 7, 0] rfl)
                      · have hf := pf_e c75 hf
                        refine lv_iload_n hx hb dX8_faults_78 rfl (lv_at hl 1 rfl) ?_
                        refine lv_iconst (v := 1) hx hb dX8_faults_79 (by decide) ?_
                        obtain ⟨J88, hJ88, hf⟩ := pf_jn hf
                        have kJ88 : ∀ (H : Heap) (locs : List Loc) (ls : Array Slot), J88 = some R → hm_W E A s.heap [oc8 h0 r_t t_base t_taped t_at t_faultPlace t_number t_newBits t_newTold t_newDoings t_newThings t_opened x37 x38 x39 t_turned t_wasConverted t_lastBits t_lastSum t_lastHeld t_lastLeft t_lastCode t_writtenLong t_codeMany t_acts t_done0 t_stoppedAt, ic E (r_t 0) 800 f32, ic E (r_t 27) 12 f35, ic E (r_t 25) 12 f33, ic E (r_t 28) 12 f36, zc E (r_t 26) 12 f34] H locs → lv_has ls 9 [(0, .ref h0), (1, .int a1), (2, .int a2), (3, .int r1), (4, .int x28), (5, .int x29), (6, .int x30), (7, .int x18), (8, .int x31)] → W p l e (hm_rr 7 162 0 0) s m args below meth c H locs 0 0 Q (F0 m 88 ls []) := by
                          intro H locs ls hf w hl
                          have hf := pf_j0 hJ88 hf
                          refine lv_aload_n hx hb dX8_faults_88 rfl (lv_at hl 0 rfl) ?_
                          refine lv_iload_n hx hb dX8_faults_89 rfl (lv_at hl 1 rfl) ?_
                          refine lv_iload hx hb dX8_faults_90 (lv_at hl 7 rfl) ?_
                          refine lv_iload hx hb dX8_faults_92 (lv_at hl 8 rfl) ?_
                          obtain ⟨r42, f43, f44, f45, f46, f47, x48, x49, x50, hc94, hf⟩ := pf_bi_8 hf
                          refine hm_aft_i (ws' := fun _ => [oc8 h0 r_t t_base t_taped t_at t_faultPlace t_number t_newBits t_newTold t_newDoings t_newThings t_opened x48 x49 x50 t_turned t_wasConverted t_lastBits t_lastSum t_lastHeld t_lastLeft t_lastCode t_writtenLong t_codeMany t_acts t_done0 t_stoppedAt, ic E (r_t 0) 800 f43, ic E (r_t 27) 12 f46, ic E (r_t 25) 12 f44, ic E (r_t 28) 12 f47, zc E (r_t 26) 12 f45]) (hm_runV (rest := []) hx hb hml hown X hA Y w 0 (ci := 7) (T := TX8) (N := 55) rfl rfl mw_X8_isFault ml_X8_397 dX8_faults_94 hm_ac0 [.int a1, .int x18, .int x31] rfl [0, 1, 2, 3, 4, 5] rfl rfl (ct_X8_isFault l E H.size h0 r_t t_base t_taped t_at t_faultPlace t_number t_newBits t_newTold t_newDoings t_newThings t_opened x37 x38 x39 t_turned t_wasConverted t_lastBits t_lastSum t_lastHeld t_lastLeft t_lastCode t_writtenLong t_codeMany t_acts t_done0 t_stoppedAt f32 f35 f33 f36 f34 a1 x18 x31 (r42, f43, f44, f45, f46, f47, x48, x49, x50) hc94) rfl hl.1 ⟨⟨rfl, rfl⟩, ⟨Nat.le_of_ble_eq_true rfl, Nat.le_of_ble_eq_true rfl⟩, ⟨Nat.le_of_ble_eq_true rfl, Nat.le_of_ble_eq_true rfl⟩, Nat.le_of_ble_eq_true rfl⟩) hA w [0, 1, 2, 3, 4, 5] [] [0, 1, 2, 3, 4, 5] rfl rfl (by decide) (fun _ => rfl) (fun _ H locs w => ?_)
                          refine lv_if_ne (tgt := 103) hx hb dX8_faults_97 (by decide) (fun c97 => ?_) (fun c97 => ?_)
                          · have hf := pf_e c97 hf
                            obtain ⟨x51, ex51⟩ : ∃ y : Int32, y = (x28 + 1) := ⟨_, rfl⟩
                            have hf := pf_nm ex51 hf
                            refine lv_iinc (v := x51) (lv' := [(4, .int x51), (0, .ref h0), (1, .int a1), (2, .int a2), (3, .int r1), (5, .int x29), (6, .int x30), (7, .int x18), (8, .int x31)]) hx hb dX8_faults_103 hl (k := 4) rfl (by rw [ex51]; rfl) (by decide) rfl (fun ls hl => ?_)
                            refine lv_iload hx hb dX8_faults_106 (lv_at hl 0 rfl) ?_
                            refine lv_iconst (v := 1) hx hb dX8_faults_108 (by decide) ?_
                            obtain ⟨J119, hJ119, hf⟩ := pf_jn hf
                            have kJ119 : ∀ (x52 : Int32) (H : Heap) (locs : List Loc) (ls : Array Slot), J119 x52 = some R → hm_W E A s.heap [oc8 h0 r_t t_base t_taped t_at t_faultPlace t_number t_newBits t_newTold t_newDoings t_newThings t_opened x48 x49 x50 t_turned t_wasConverted t_lastBits t_lastSum t_lastHeld t_lastLeft t_lastCode t_writtenLong t_codeMany t_acts t_done0 t_stoppedAt, ic E (r_t 0) 800 f43, ic E (r_t 27) 12 f46, ic E (r_t 25) 12 f44, ic E (r_t 28) 12 f47, zc E (r_t 26) 12 f45] H locs → lv_has ls 9 [(0, .ref h0), (1, .int a1), (2, .int a2), (3, .int r1), (4, .int x51), (6, .int x30), (7, .int x18), (8, .int x31)] → W p l e (hm_rr 7 162 0 0) s m args below meth c H locs 0 0 Q (F0 m 119 ls [.int x52]) := by
                              intro x52 H locs ls hf w hl
                              have hf := pf_j1 hJ119 hf
                              refine lv_istore (lv' := [(5, .int x52), (0, .ref h0), (1, .int a1), (2, .int a2), (3, .int r1), (4, .int x51), (6, .int x30), (7, .int x18), (8, .int x31)]) hx hb dX8_faults_119 hl (by decide) rfl (fun ls hl => ?_)
                              refine lv_iload hx hb dX8_faults_121 (lv_at hl 5 rfl) ?_
                              refine lv_iconst (v := 1) hx hb dX8_faults_123 (by decide) ?_
                              refine lv_icmp_ne (tgt := 132) hx hb dX8_faults_124 (by decide) (fun c124 => ?_) (fun c124 => ?_)
                              · have hf := pf_e c124 hf
                                refine lv_iload hx hb dX8_faults_132 (lv_at hl 6 rfl) ?_
                                refine lv_istore (lv' := [(6, .int x30), (5, .int x52), (0, .ref h0), (1, .int a1), (2, .int a2), (3, .int r1), (4, .int x51), (7, .int x18), (8, .int x31)]) hx hb dX8_faults_134 hl (by decide) rfl (fun ls hl => ?_)
                                obtain ⟨x53, ex53⟩ : ∃ y : Int32, y = (x31 + 1) := ⟨_, rfl⟩
                                have hf := pf_nm ex53 hf
                                refine lv_iinc (v := x53) (lv' := [(8, .int x53), (6, .int x30), (5, .int x52), (0, .ref h0), (1, .int a1), (2, .int a2), (3, .int r1), (4, .int x51), (7, .int x18)]) hx hb dX8_faults_136 hl (k := 8) rfl (by rw [ex53]; rfl) (by decide) rfl (fun ls hl => ?_)
                                refine lv_goto (tgt := 63) hx hb dX8_faults_139 (by decide) ?_
                                exact ih63 _ _ _ _ _ _ _ _ _ _ _ _ _ _ _ hf w (lv_sub hl [3, 4, 5, 6, 7, 2, 1, 8, 0] rfl)
                              · have hf := pf_t c124 hf
                                refine lv_iload hx hb dX8_faults_127 (lv_at hl 8 rfl) ?_
                                refine lv_goto (tgt := 134) hx hb dX8_faults_129 (by decide) ?_
                                refine lv_istore (lv' := [(6, .int x31), (5, .int x52), (0, .ref h0), (1, .int a1), (2, .int a2), (3, .int r1), (4, .int x51), (7, .int x18), (8, .int x31)]) hx hb dX8_faults_134 hl (by decide) rfl (fun ls hl => ?_)
                                obtain ⟨x54, ex54⟩ : ∃ y : Int32, y = (x31 + 1) := ⟨_, rfl⟩
                                have hf := pf_nm ex54 hf
                                refine lv_iinc (v := x54) (lv' := [(8, .int x54), (6, .int x31), (5, .int x52), (0, .ref h0), (1, .int a1), (2, .int a2), (3, .int r1), (4, .int x51), (7, .int x18)]) hx hb dX8_faults_136 hl (k := 8) rfl (by rw [ex54]; rfl) (by decide) rfl (fun ls hl => ?_)
                                refine lv_goto (tgt := 63) hx hb dX8_faults_139 (by decide) ?_
                                exact ih63 _ _ _ _ _ _ _ _ _ _ _ _ _ _ _ hf w (lv_sub hl [3, 4, 5, 6, 7, 2, 1, 8, 0] rfl)
                            refine lv_icmp_ne (tgt := 117) hx hb dX8_faults_109 (by decide) (fun c109 => ?_) (fun c109 => ?_)
                            · have hf := pf_e c109 hf
                              refine lv_iload hx hb dX8_faults_117 (lv_at hl 5 rfl) ?_
                              exact kJ119 _ _ _ _ hf w (lv_sub hl [1, 2, 3, 4, 0, 6, 7, 8] rfl)
                            · have hf := pf_t c109 hf
                              refine lv_iload hx hb dX8_faults_112 (lv_at hl 7 rfl) ?_
                              refine lv_goto (tgt := 119) hx hb dX8_faults_114 (by decide) ?_
                              exact kJ119 _ _ _ _ hf w (lv_sub hl [1, 2, 3, 4, 0, 6, 7, 8] rfl)
                          · have hf := pf_t c97 hf
                            refine lv_goto (tgt := 136) hx hb dX8_faults_100 (by decide) ?_
                            obtain ⟨x55, ex55⟩ : ∃ y : Int32, y = (x31 + 1) := ⟨_, rfl⟩
                            have hf := pf_nm ex55 hf
                            refine lv_iinc (v := x55) (lv' := [(8, .int x55), (0, .ref h0), (1, .int a1), (2, .int a2), (3, .int r1), (4, .int x28), (5, .int x29), (6, .int x30), (7, .int x18)]) hx hb dX8_faults_136 hl (k := 8) rfl (by rw [ex55]; rfl) (by decide) rfl (fun ls hl => ?_)
                            refine lv_goto (tgt := 63) hx hb dX8_faults_139 (by decide) ?_
                            exact ih63 _ _ _ _ _ _ _ _ _ _ _ _ _ _ _ hf w (lv_sub hl [1, 2, 3, 4, 5, 6, 7, 8, 0] rfl)
                        refine lv_icmp_ne (tgt := 88) hx hb dX8_faults_80 (by decide) (fun c80 => ?_) (fun c80 => ?_)
                        · have hf := pf_e c80 hf
                          exact kJ88 _ _ _ hf w (lv_sub hl [0, 1, 2, 3, 4, 5, 6, 7, 8] rfl)
                        · have hf := pf_t c80 hf
                          refine lv_iload hx hb dX8_faults_83 (lv_at hl 8 rfl) ?_
                          refine lv_if_eq (tgt := 136) hx hb dX8_faults_85 (by decide) (fun c85 => ?_) (fun c85 => ?_)
                          · have hf := pf_t c85 hf
                            obtain ⟨x56, ex56⟩ : ∃ y : Int32, y = (x31 + 1) := ⟨_, rfl⟩
                            have hf := pf_nm ex56 hf
                            refine lv_iinc (v := x56) (lv' := [(8, .int x56), (0, .ref h0), (1, .int a1), (2, .int a2), (3, .int r1), (4, .int x28), (5, .int x29), (6, .int x30), (7, .int x18)]) hx hb dX8_faults_136 hl (k := 8) rfl (by rw [ex56]; rfl) (by decide) rfl (fun ls hl => ?_)
                            refine lv_goto (tgt := 63) hx hb dX8_faults_139 (by decide) ?_
                            exact ih63 _ _ _ _ _ _ _ _ _ _ _ _ _ _ _ hf w (lv_sub hl [1, 2, 3, 4, 5, 6, 7, 8, 0] rfl)
                          · have hf := pf_e c85 hf
                            exact kJ88 _ _ _ hf w (lv_sub hl [0, 1, 2, 3, 4, 5, 6, 7, 8] rfl)
                    refine lv_if_ne (tgt := 73) hx hb dX8_faults_66 (by decide) (fun c66 => ?_) (fun c66 => ?_)
                    · have hf := pf_e c66 hf
                      refine lv_bipush (v := 20) hx hb dX8_faults_73 (by decide) ?_
                      exact kJ75 _ _ _ _ hf w (lv_sub hl [0, 1, 2, 3, 4, 5, 6, 7, 8] rfl)
                    · have hf := pf_t c66 hf
                      refine lv_iconst (v := 1) hx hb dX8_faults_69 (by decide) ?_
                      refine lv_goto (tgt := 75) hx hb dX8_faults_70 (by decide) ?_
                      exact kJ75 _ _ _ _ hf w (lv_sub hl [0, 1, 2, 3, 4, 5, 6, 7, 8] rfl)
                exact klp_X8_faults_63 FU _ _ _ _ _ _ _ _ _ _ _ _ _ _ _ hf w (lv_sub hl [1, 2, 3, 4, 5, 6, 7, 8, 0] rfl)
              refine lv_if_ne (tgt := 59) hx hb dX8_faults_52 (by decide) (fun c52 => ?_) (fun c52 => ?_)
              · have hf := pf_e c52 hf
                refine lv_bipush (v := (-20)) hx hb dX8_faults_59 (by decide) ?_
                exact kJ61 _ _ _ _ hf w (lv_sub hl [0, 1, 2, 3, 4, 5, 6, 7] rfl)
              · have hf := pf_t c52 hf
                refine lv_iconst (v := 0) hx hb dX8_faults_55 (by decide) ?_
                refine lv_goto (tgt := 61) hx hb dX8_faults_56 (by decide) ?_
                exact kJ61 _ _ _ _ hf w (lv_sub hl [0, 1, 2, 3, 4, 5, 6, 7] rfl)
        exact klp_X8_faults_45 FU _ _ _ _ _ _ _ _ _ _ _ _ _ _ _ hf w (lv_sub hl [5, 6, 7, 4, 3, 2, 1, 0] rfl)
      · have hf := pf_t c25 hf
        refine lv_bipush (v := (-100)) hx hb dX8_faults_28 (by decide) ?_
        exact hQ _ _ _ _ _ (t_all, t_decided, t_wasLate, t_askedOf, t_heldBehind, t_sum, t_heldAll, t_onPaper) (fun _ => 0) hf rfl w dX8_faults_30
set_option maxHeartbeats 8000000 in
set_option maxRecDepth 100000 in
theorem ct_X8_readValue (l : Launch) (E : hm_E) (sz : Nat) (h0 : Nat) (r_t : Nat → Nat) (t_base t_taped t_at t_faultPlace t_number t_newBits t_newTold t_newDoings t_newThings t_opened t_sum t_heldAll t_onPaper t_turned t_wasConverted t_lastBits t_lastSum t_lastHeld t_lastLeft t_lastCode t_writtenLong t_codeMany t_acts t_done0 t_stoppedAt : Int32) (t_tape : Nat → Int32) (a1 : Int32) (R : Int32 × Int32 × Int32 × Int32) (hf : pf_X8_readValue a1 t_tape t_taped t_at t_faultPlace t_number = some R) : hm_Mi l E yX8_readValue cX8_readValue 3 .boolean [] (hm_rr 2 42 0 0) [.ref h0, .int a1] sz [oc8 h0 r_t t_base t_taped t_at t_faultPlace t_number t_newBits t_newTold t_newDoings t_newThings t_opened t_sum t_heldAll t_onPaper t_turned t_wasConverted t_lastBits t_lastSum t_lastHeld t_lastLeft t_lastCode t_writtenLong t_codeMany t_acts t_done0 t_stoppedAt, bc E (r_t 2) 400 t_tape] R.1 (fun _ => [oc8 h0 r_t t_base t_taped (R.2.1) (R.2.2.1) (R.2.2.2) t_newBits t_newTold t_newDoings t_newThings t_opened t_sum t_heldAll t_onPaper t_turned t_wasConverted t_lastBits t_lastSum t_lastHeld t_lastLeft t_lastCode t_writtenLong t_codeMany t_acts t_done0 t_stoppedAt, bc E (r_t 2) 400 t_tape]) := by
  refine hm_ct_i R (fun u qs => [oc8 h0 r_t t_base t_taped (u.1) (u.2.1) (u.2.2) t_newBits t_newTold t_newDoings t_newThings t_opened t_sum t_heldAll t_onPaper t_turned t_wasConverted t_lastBits t_lastSum t_lastHeld t_lastLeft t_lastCode t_writtenLong t_codeMany t_acts t_done0 t_stoppedAt, bc E (r_t 2) 400 t_tape]) (by decide) (Nat.le_of_ble_eq_true rfl) (Or.inr rfl) ?_
  intro p e s m args below meth c A Q ls H locs hx hb hml hown X hA Y hex w hl hQ
  have hl : lv_has ls 3 [(0, .ref h0), (1, .int a1)] := hl
  unfold pf_X8_readValue at hf
  refine lv_iload_n hx hb dX8_readValue_0 rfl (lv_at hl 1 rfl) ?_
  obtain ⟨J18, hJ18, hf⟩ := pf_jn hf
  have kJ18 : ∀ (x1 : Int32) (H : Heap) (locs : List Loc) (ls : Array Slot), J18 x1 = some R → hm_W E A s.heap [oc8 h0 r_t t_base t_taped t_at t_faultPlace t_number t_newBits t_newTold t_newDoings t_newThings t_opened t_sum t_heldAll t_onPaper t_turned t_wasConverted t_lastBits t_lastSum t_lastHeld t_lastLeft t_lastCode t_writtenLong t_codeMany t_acts t_done0 t_stoppedAt, bc E (r_t 2) 400 t_tape] H locs → lv_has ls 3 [(0, .ref h0)] → W p l e (hm_rr 2 42 0 0) s m args below meth c H locs 0 0 Q (F0 m 18 ls [.int x1]) := by
    intro x1 H locs ls hf w hl
    have hf := pf_j1 hJ18 hf
    refine lv_istore_n (lv' := [(2, .int x1), (0, .ref h0)]) hx hb dX8_readValue_18 rfl hl (by decide) rfl (fun ls hl => ?_)
    refine lv_iload_n hx hb dX8_readValue_19 rfl (lv_at hl 0 rfl) ?_
    obtain ⟨J33, hJ33, hf⟩ := pf_jn hf
    have kJ33 : ∀ (x2 : Int32) (H : Heap) (locs : List Loc) (ls : Array Slot), J33 x2 = some R → hm_W E A s.heap [oc8 h0 r_t t_base t_taped x2 t_faultPlace t_number t_newBits t_newTold t_newDoings t_newThings t_opened t_sum t_heldAll t_onPaper t_turned t_wasConverted t_lastBits t_lastSum t_lastHeld t_lastLeft t_lastCode t_writtenLong t_codeMany t_acts t_done0 t_stoppedAt, bc E (r_t 2) 400 t_tape] H locs → lv_has ls 3 [(0, .ref h0), (2, .int x1)] → W p l e (hm_rr 2 42 0 0) s m args below meth c H locs 0 0 Q (F0 m 33 ls []) := by
      intro x2 H locs ls hf w hl
      have hf := pf_j1 hJ33 hf
      refine lv_aload_n hx hb dX8_readValue_33 rfl (lv_at hl 0 rfl) ?_
      obtain ⟨r3, x4, x5, x6, hc34, hf⟩ := pf_bi_3 hf
      refine hm_aft_i (ws' := fun _ => [oc8 h0 r_t t_base t_taped x4 x5 x6 t_newBits t_newTold t_newDoings t_newThings t_opened t_sum t_heldAll t_onPaper t_turned t_wasConverted t_lastBits t_lastSum t_lastHeld t_lastLeft t_lastCode t_writtenLong t_codeMany t_acts t_done0 t_stoppedAt, bc E (r_t 2) 400 t_tape]) (hm_runV (rest := []) hx hb hml hown X hA Y w 0 (ci := 7) (T := TX8) (N := 55) rfl rfl mw_X8_readDigits ml_X8_150 dX8_readValue_34 hm_ac0 [] rfl [0, 1] rfl rfl (ct_X8_readDigits l E H.size h0 r_t t_base t_taped x2 t_faultPlace t_number t_newBits t_newTold t_newDoings t_newThings t_opened t_sum t_heldAll t_onPaper t_turned t_wasConverted t_lastBits t_lastSum t_lastHeld t_lastLeft t_lastCode t_writtenLong t_codeMany t_acts t_done0 t_stoppedAt t_tape (r3, x4, x5, x6) hc34) rfl hl.1 ⟨⟨rfl, rfl⟩, ⟨Nat.le_of_ble_eq_true rfl, Nat.le_of_ble_eq_true rfl⟩, ⟨Nat.le_of_ble_eq_true rfl, Nat.le_of_ble_eq_true rfl⟩, Nat.le_of_ble_eq_true rfl⟩) hA w [0, 1] [] [0, 1] rfl rfl (by decide) (fun _ => rfl) (fun _ H locs w => ?_)
      refine lv_if_ne (tgt := 42) hx hb dX8_readValue_37 (by decide) (fun c37 => ?_) (fun c37 => ?_)
      · have hf := pf_e c37 hf
        refine lv_aload_n hx hb dX8_readValue_42 rfl (lv_at hl 0 rfl) ?_
        refine lv_iload_n hx hb dX8_readValue_43 rfl (lv_at hl 1 rfl) ?_
        obtain ⟨J59, hJ59, hf⟩ := pf_jn hf
        have kJ59 : ∀ (x7 : Int32) (H : Heap) (locs : List Loc) (ls : Array Slot), J59 x7 = some R → hm_W E A s.heap [oc8 h0 r_t t_base t_taped x4 x5 x6 t_newBits t_newTold t_newDoings t_newThings t_opened t_sum t_heldAll t_onPaper t_turned t_wasConverted t_lastBits t_lastSum t_lastHeld t_lastLeft t_lastCode t_writtenLong t_codeMany t_acts t_done0 t_stoppedAt, bc E (r_t 2) 400 t_tape] H locs → lv_has ls 3 [] → W p l e (hm_rr 2 42 0 0) s m args below meth c H locs 0 0 Q (F0 m 59 ls [.int x7, .ref h0]) := by
          intro x7 H locs ls hf w hl
          have hf := pf_j1 hJ59 hf
          refine hm_put (ws' := [oc8 h0 r_t t_base t_taped x4 x5 x7 t_newBits t_newTold t_newDoings t_newThings t_opened t_sum t_heldAll t_onPaper t_turned t_wasConverted t_lastBits t_lastSum t_lastHeld t_lastLeft t_lastCode t_writtenLong t_codeMany t_acts t_done0 t_stoppedAt, bc E (r_t 2) 400 t_tape]) cb_X8 hx hb hown X w 0 6 fl_X8_147 dX8_readValue_59 rfl (by decide) (Nat.le_of_ble_eq_true rfl) rfl rfl rfl rfl (fun H locs w => ?_)
          refine lv_iconst (v := 1) hx hb dX8_readValue_62 (by decide) ?_
          exact hQ _ _ _ _ _ (x4, x5, x7) (fun _ => 0) hf rfl w dX8_readValue_63
        refine lv_if_eq (tgt := 55) hx hb dX8_readValue_44 (by decide) (fun c44 => ?_) (fun c44 => ?_)
        · have hf := pf_t c44 hf
          refine lv_aload_n hx hb dX8_readValue_55 rfl (lv_at hl 0 rfl) ?_
          refine hm_get cb_X8 hx hb hown X w 0 6 fl_X8_147 dX8_readValue_56 rfl (by decide) rfl ?_
          exact kJ59 _ _ _ _ hf w (lv_sub hl [] rfl)
        · have hf := pf_e c44 hf
          refine lv_aload_n hx hb dX8_readValue_47 rfl (lv_at hl 0 rfl) ?_
          refine hm_get cb_X8 hx hb hown X w 0 6 fl_X8_147 dX8_readValue_48 rfl (by decide) rfl ?_
          refine lv_ineg hx hb dX8_readValue_51 ?_
          refine lv_goto (tgt := 59) hx hb dX8_readValue_52 (by decide) ?_
          exact kJ59 _ _ _ _ hf w (lv_sub hl [] rfl)
      · have hf := pf_t c37 hf
        refine lv_iconst (v := 0) hx hb dX8_readValue_40 (by decide) ?_
        exact hQ _ _ _ _ _ (x4, x5, x6) (fun _ => 0) hf rfl w dX8_readValue_41
    refine lv_if_eq (tgt := 33) hx hb dX8_readValue_20 (by decide) (fun c20 => ?_) (fun c20 => ?_)
    · have hf := pf_t c20 hf
      exact kJ33 _ _ _ _ hf w (lv_sub hl [1, 0] rfl)
    · have hf := pf_e c20 hf
      refine lv_aload_n hx hb dX8_readValue_23 rfl (lv_at hl 1 rfl) ?_
      refine lv_dup hx hb dX8_readValue_24 rfl ?_
      refine hm_get cb_X8 hx hb hown X w 0 4 fl_X8_133 dX8_readValue_25 rfl (by decide) rfl ?_
      refine lv_iconst (v := 1) hx hb dX8_readValue_28 (by decide) ?_
      refine lv_iadd hx hb dX8_readValue_29 ?_
      refine lv_topi (fun x8 ex8 => ?_)
      have hf := pf_nm ex8 hf
      refine hm_put (ws' := [oc8 h0 r_t t_base t_taped x8 t_faultPlace t_number t_newBits t_newTold t_newDoings t_newThings t_opened t_sum t_heldAll t_onPaper t_turned t_wasConverted t_lastBits t_lastSum t_lastHeld t_lastLeft t_lastCode t_writtenLong t_codeMany t_acts t_done0 t_stoppedAt, bc E (r_t 2) 400 t_tape]) cb_X8 hx hb hown X w 0 4 fl_X8_133 dX8_readValue_30 rfl (by decide) (Nat.le_of_ble_eq_true rfl) rfl rfl rfl rfl (fun H locs w => ?_)
      exact kJ33 _ _ _ _ hf w (lv_sub hl [1, 0] rfl)
  obtain ⟨J17, hJ17, hf⟩ := pf_jn hf
  have kJ17 : ∀ (H : Heap) (locs : List Loc) (ls : Array Slot), J17 = some R → hm_W E A s.heap [oc8 h0 r_t t_base t_taped t_at t_faultPlace t_number t_newBits t_newTold t_newDoings t_newThings t_opened t_sum t_heldAll t_onPaper t_turned t_wasConverted t_lastBits t_lastSum t_lastHeld t_lastLeft t_lastCode t_writtenLong t_codeMany t_acts t_done0 t_stoppedAt, bc E (r_t 2) 400 t_tape] H locs → lv_has ls 3 [(0, .ref h0)] → W p l e (hm_rr 2 42 0 0) s m args below meth c H locs 0 0 Q (F0 m 17 ls []) := by
    intro H locs ls hf w hl
    have hf := pf_j0 hJ17 hf
    refine lv_iconst (v := 0) hx hb dX8_readValue_17 (by decide) ?_
    exact kJ18 _ _ _ _ hf w (lv_sub hl [0] rfl)
  refine lv_if_eq (tgt := 17) hx hb dX8_readValue_1 (by decide) (fun c1 => ?_) (fun c1 => ?_)
  · have hf := pf_t c1 hf
    exact kJ17 _ _ _ hf w (lv_sub hl [0] rfl)
  · have hf := pf_e c1 hf
    refine lv_aload_n hx hb dX8_readValue_4 rfl (lv_at hl 0 rfl) ?_
    obtain ⟨r9, hc5, hf⟩ := pf_bi_0 hf
    refine hm_aft_i (ws' := fun _ => [oc8 h0 r_t t_base t_taped t_at t_faultPlace t_number t_newBits t_newTold t_newDoings t_newThings t_opened t_sum t_heldAll t_onPaper t_turned t_wasConverted t_lastBits t_lastSum t_lastHeld t_lastLeft t_lastCode t_writtenLong t_codeMany t_acts t_done0 t_stoppedAt, bc E (r_t 2) 400 t_tape]) (hm_runV (rest := []) hx hb hml hown X hA Y w 0 (ci := 7) (T := TX8) (N := 55) rfl rfl mw_X8_here ml_X8_136 dX8_readValue_5 hm_ac0 [] rfl [0, 1] rfl rfl (ct_X8_here l E H.size h0 r_t t_base t_taped t_at t_faultPlace t_number t_newBits t_newTold t_newDoings t_newThings t_opened t_sum t_heldAll t_onPaper t_turned t_wasConverted t_lastBits t_lastSum t_lastHeld t_lastLeft t_lastCode t_writtenLong t_codeMany t_acts t_done0 t_stoppedAt t_tape (r9, ()) hc5) rfl hl.1 ⟨⟨rfl, rfl⟩, ⟨Nat.le_of_ble_eq_true rfl, Nat.le_of_ble_eq_true rfl⟩, ⟨Nat.le_of_ble_eq_true rfl, Nat.le_of_ble_eq_true rfl⟩, Nat.le_of_ble_eq_true rfl⟩) hA w [0, 1] [] [0, 1] rfl rfl (by decide) (fun _ => rfl) (fun _ H locs w => ?_)
    refine lv_bipush (v := 45) hx hb dX8_readValue_8 (by decide) ?_
    refine lv_icmp_ne (tgt := 17) hx hb dX8_readValue_10 (by decide) (fun c10 => ?_) (fun c10 => ?_)
    · have hf := pf_e c10 hf
      exact kJ17 _ _ _ hf w (lv_sub hl [0] rfl)
    · have hf := pf_t c10 hf
      refine lv_iconst (v := 1) hx hb dX8_readValue_13 (by decide) ?_
      refine lv_goto (tgt := 18) hx hb dX8_readValue_14 (by decide) ?_
      exact kJ18 _ _ _ _ hf w (lv_sub hl [0] rfl)
set_option maxHeartbeats 8000000 in
set_option maxRecDepth 100000 in
theorem ct_X8_isAct (l : Launch) (E : hm_E) (sz : Nat) (a0 : Int32) (R : Int32 × Unit) (hf : pf_X8_isAct a0 = some R) : hm_Mi l E yX8_isAct cX8_isAct 1 .boolean [] (hm_rr 0 0 0 0) [.int a0] sz [] R.1 (fun _ => []) := by
  refine hm_ct_i R (fun u qs => []) (by decide) (Nat.le_of_ble_eq_true rfl) (Or.inr rfl) ?_
  intro p e s m args below meth c A Q ls H locs hx hb hml hown X hA Y hex w hl hQ
  have hl : lv_has ls 1 [(0, .int a0)] := hl
  unfold pf_X8_isAct at hf
  refine lv_iload_n hx hb dX8_isAct_0 rfl (lv_at hl 0 rfl) ?_
  refine lv_bipush (v := 99) hx hb dX8_isAct_1 (by decide) ?_
  refine lv_icmp_eq (tgt := 54) hx hb dX8_isAct_3 (by decide) (fun c3 => ?_) (fun c3 => ?_)
  · have hf := pf_t c3 hf
    refine lv_iconst (v := 1) hx hb dX8_isAct_54 (by decide) ?_
    refine lv_goto (tgt := 59) hx hb dX8_isAct_55 (by decide) ?_
    exact hQ _ _ _ _ _ () (fun _ => 0) hf rfl w dX8_isAct_59
  · have hf := pf_e c3 hf
    refine lv_iload_n hx hb dX8_isAct_6 rfl (lv_at hl 0 rfl) ?_
    refine lv_bipush (v := 108) hx hb dX8_isAct_7 (by decide) ?_
    refine lv_icmp_eq (tgt := 54) hx hb dX8_isAct_9 (by decide) (fun c9 => ?_) (fun c9 => ?_)
    · have hf := pf_t c9 hf
      refine lv_iconst (v := 1) hx hb dX8_isAct_54 (by decide) ?_
      refine lv_goto (tgt := 59) hx hb dX8_isAct_55 (by decide) ?_
      exact hQ _ _ _ _ _ () (fun _ => 0) hf rfl w dX8_isAct_59
    · have hf := pf_e c9 hf
      refine lv_iload_n hx hb dX8_isAct_12 rfl (lv_at hl 0 rfl) ?_
      refine lv_bipush (v := 112) hx hb dX8_isAct_13 (by decide) ?_
      refine lv_icmp_eq (tgt := 54) hx hb dX8_isAct_15 (by decide) (fun c15 => ?_) (fun c15 => ?_)
      · have hf := pf_t c15 hf
        refine lv_iconst (v := 1) hx hb dX8_isAct_54 (by decide) ?_
        refine lv_goto (tgt := 59) hx hb dX8_isAct_55 (by decide) ?_
        exact hQ _ _ _ _ _ () (fun _ => 0) hf rfl w dX8_isAct_59
      · have hf := pf_e c15 hf
        refine lv_iload_n hx hb dX8_isAct_18 rfl (lv_at hl 0 rfl) ?_
        refine lv_bipush (v := 104) hx hb dX8_isAct_19 (by decide) ?_
        refine lv_icmp_eq (tgt := 54) hx hb dX8_isAct_21 (by decide) (fun c21 => ?_) (fun c21 => ?_)
        · have hf := pf_t c21 hf
          refine lv_iconst (v := 1) hx hb dX8_isAct_54 (by decide) ?_
          refine lv_goto (tgt := 59) hx hb dX8_isAct_55 (by decide) ?_
          exact hQ _ _ _ _ _ () (fun _ => 0) hf rfl w dX8_isAct_59
        · have hf := pf_e c21 hf
          refine lv_iload_n hx hb dX8_isAct_24 rfl (lv_at hl 0 rfl) ?_
          refine lv_bipush (v := 115) hx hb dX8_isAct_25 (by decide) ?_
          refine lv_icmp_eq (tgt := 54) hx hb dX8_isAct_27 (by decide) (fun c27 => ?_) (fun c27 => ?_)
          · have hf := pf_t c27 hf
            refine lv_iconst (v := 1) hx hb dX8_isAct_54 (by decide) ?_
            refine lv_goto (tgt := 59) hx hb dX8_isAct_55 (by decide) ?_
            exact hQ _ _ _ _ _ () (fun _ => 0) hf rfl w dX8_isAct_59
          · have hf := pf_e c27 hf
            refine lv_iload_n hx hb dX8_isAct_30 rfl (lv_at hl 0 rfl) ?_
            refine lv_bipush (v := 111) hx hb dX8_isAct_31 (by decide) ?_
            refine lv_icmp_eq (tgt := 54) hx hb dX8_isAct_33 (by decide) (fun c33 => ?_) (fun c33 => ?_)
            · have hf := pf_t c33 hf
              refine lv_iconst (v := 1) hx hb dX8_isAct_54 (by decide) ?_
              refine lv_goto (tgt := 59) hx hb dX8_isAct_55 (by decide) ?_
              exact hQ _ _ _ _ _ () (fun _ => 0) hf rfl w dX8_isAct_59
            · have hf := pf_e c33 hf
              refine lv_iload_n hx hb dX8_isAct_36 rfl (lv_at hl 0 rfl) ?_
              refine lv_bipush (v := 102) hx hb dX8_isAct_37 (by decide) ?_
              refine lv_icmp_eq (tgt := 54) hx hb dX8_isAct_39 (by decide) (fun c39 => ?_) (fun c39 => ?_)
              · have hf := pf_t c39 hf
                refine lv_iconst (v := 1) hx hb dX8_isAct_54 (by decide) ?_
                refine lv_goto (tgt := 59) hx hb dX8_isAct_55 (by decide) ?_
                exact hQ _ _ _ _ _ () (fun _ => 0) hf rfl w dX8_isAct_59
              · have hf := pf_e c39 hf
                refine lv_iload_n hx hb dX8_isAct_42 rfl (lv_at hl 0 rfl) ?_
                refine lv_bipush (v := 120) hx hb dX8_isAct_43 (by decide) ?_
                refine lv_icmp_eq (tgt := 54) hx hb dX8_isAct_45 (by decide) (fun c45 => ?_) (fun c45 => ?_)
                · have hf := pf_t c45 hf
                  refine lv_iconst (v := 1) hx hb dX8_isAct_54 (by decide) ?_
                  refine lv_goto (tgt := 59) hx hb dX8_isAct_55 (by decide) ?_
                  exact hQ _ _ _ _ _ () (fun _ => 0) hf rfl w dX8_isAct_59
                · have hf := pf_e c45 hf
                  refine lv_iload_n hx hb dX8_isAct_48 rfl (lv_at hl 0 rfl) ?_
                  refine lv_bipush (v := 61) hx hb dX8_isAct_49 (by decide) ?_
                  refine lv_icmp_ne (tgt := 58) hx hb dX8_isAct_51 (by decide) (fun c51 => ?_) (fun c51 => ?_)
                  · have hf := pf_e c51 hf
                    refine lv_iconst (v := 0) hx hb dX8_isAct_58 (by decide) ?_
                    exact hQ _ _ _ _ _ () (fun _ => 0) hf rfl w dX8_isAct_59
                  · have hf := pf_t c51 hf
                    refine lv_iconst (v := 1) hx hb dX8_isAct_54 (by decide) ?_
                    refine lv_goto (tgt := 59) hx hb dX8_isAct_55 (by decide) ?_
                    exact hQ _ _ _ _ _ () (fun _ => 0) hf rfl w dX8_isAct_59
set_option maxHeartbeats 8000000 in
set_option maxRecDepth 100000 in
theorem ct_X8_readAct (l : Launch) (E : hm_E) (sz : Nat) (h0 : Nat) (r_t : Nat → Nat) (t_base t_taped t_at t_faultPlace t_number t_newBits t_newTold t_newDoings t_newThings t_opened t_sum t_heldAll t_onPaper t_turned t_wasConverted t_lastBits t_lastSum t_lastHeld t_lastLeft t_lastCode t_writtenLong t_codeMany t_acts t_done0 t_stoppedAt : Int32) (t_act : Nat → Int32) (t_actA : Nat → Int32) (t_actB : Nat → Int32) (t_tape : Nat → Int32) (R : Int32 × Int32 × Int32 × Int32 × (Nat → Int32) × (Nat → Int32) × (Nat → Int32) × Int32) (hf : pf_X8_readAct t_tape t_taped t_at t_faultPlace t_number t_act t_actA t_actB t_acts = some R) : hm_Mi l E yX8_readAct cX8_readAct 2 .boolean [] (hm_rr 3 64 0 0) [.ref h0] sz [oc8 h0 r_t t_base t_taped t_at t_faultPlace t_number t_newBits t_newTold t_newDoings t_newThings t_opened t_sum t_heldAll t_onPaper t_turned t_wasConverted t_lastBits t_lastSum t_lastHeld t_lastLeft t_lastCode t_writtenLong t_codeMany t_acts t_done0 t_stoppedAt, ic E (r_t 48) 40 t_act, ic E (r_t 49) 40 t_actA, ic E (r_t 50) 40 t_actB, bc E (r_t 2) 400 t_tape] R.1 (fun _ => [oc8 h0 r_t t_base t_taped (R.2.1) (R.2.2.1) (R.2.2.2.1) t_newBits t_newTold t_newDoings t_newThings t_opened t_sum t_heldAll t_onPaper t_turned t_wasConverted t_lastBits t_lastSum t_lastHeld t_lastLeft t_lastCode t_writtenLong t_codeMany (R.2.2.2.2.2.2.2) t_done0 t_stoppedAt, ic E (r_t 48) 40 (R.2.2.2.2.1), ic E (r_t 49) 40 (R.2.2.2.2.2.1), ic E (r_t 50) 40 (R.2.2.2.2.2.2.1), bc E (r_t 2) 400 t_tape]) := by
  refine hm_ct_i R (fun u qs => [oc8 h0 r_t t_base t_taped (u.1) (u.2.1) (u.2.2.1) t_newBits t_newTold t_newDoings t_newThings t_opened t_sum t_heldAll t_onPaper t_turned t_wasConverted t_lastBits t_lastSum t_lastHeld t_lastLeft t_lastCode t_writtenLong t_codeMany (u.2.2.2.2.2.2) t_done0 t_stoppedAt, ic E (r_t 48) 40 (u.2.2.2.1), ic E (r_t 49) 40 (u.2.2.2.2.1), ic E (r_t 50) 40 (u.2.2.2.2.2.1), bc E (r_t 2) 400 t_tape]) (by decide) (Nat.le_of_ble_eq_true rfl) (Or.inr rfl) ?_
  intro p e s m args below meth c A Q ls H locs hx hb hml hown X hA Y hex w hl hQ
  have hl : lv_has ls 2 [(0, .ref h0)] := hl
  unfold pf_X8_readAct at hf
  refine lv_aload_n hx hb dX8_readAct_0 rfl (lv_at hl 0 rfl) ?_
  obtain ⟨r1, hc1, hf⟩ := pf_bi_0 hf
  refine hm_aft_i (ws' := fun _ => [oc8 h0 r_t t_base t_taped t_at t_faultPlace t_number t_newBits t_newTold t_newDoings t_newThings t_opened t_sum t_heldAll t_onPaper t_turned t_wasConverted t_lastBits t_lastSum t_lastHeld t_lastLeft t_lastCode t_writtenLong t_codeMany t_acts t_done0 t_stoppedAt, ic E (r_t 48) 40 t_act, ic E (r_t 49) 40 t_actA, ic E (r_t 50) 40 t_actB, bc E (r_t 2) 400 t_tape]) (hm_runV (rest := []) hx hb hml hown X hA Y w 0 (ci := 7) (T := TX8) (N := 55) rfl rfl mw_X8_here ml_X8_136 dX8_readAct_1 hm_ac0 [] rfl [0, 4] rfl rfl (ct_X8_here l E H.size h0 r_t t_base t_taped t_at t_faultPlace t_number t_newBits t_newTold t_newDoings t_newThings t_opened t_sum t_heldAll t_onPaper t_turned t_wasConverted t_lastBits t_lastSum t_lastHeld t_lastLeft t_lastCode t_writtenLong t_codeMany t_acts t_done0 t_stoppedAt t_tape (r1, ()) hc1) rfl hl.1 ⟨⟨rfl, rfl⟩, ⟨Nat.le_of_ble_eq_true rfl, Nat.le_of_ble_eq_true rfl⟩, ⟨Nat.le_of_ble_eq_true rfl, Nat.le_of_ble_eq_true rfl⟩, Nat.le_of_ble_eq_true rfl⟩) hA w [0, 4] [1, 2, 3] [3, 0, 1, 2, 4] rfl rfl (by decide) (fun _ => rfl) (fun _ H locs w => ?_)
  refine lv_istore_n (lv' := [(1, .int r1), (0, .ref h0)]) hx hb dX8_readAct_4 rfl hl (by decide) rfl (fun ls hl => ?_)
  refine lv_iload_n hx hb dX8_readAct_5 rfl (lv_at hl 0 rfl) ?_
  obtain ⟨r2, hc6, hf⟩ := pf_bi_0 hf
  refine hm_aft_i (ws' := fun _ => [oc8 h0 r_t t_base t_taped t_at t_faultPlace t_number t_newBits t_newTold t_newDoings t_newThings t_opened t_sum t_heldAll t_onPaper t_turned t_wasConverted t_lastBits t_lastSum t_lastHeld t_lastLeft t_lastCode t_writtenLong t_codeMany t_acts t_done0 t_stoppedAt, ic E (r_t 48) 40 t_act, ic E (r_t 49) 40 t_actA, ic E (r_t 50) 40 t_actB, bc E (r_t 2) 400 t_tape]) (hm_runS (rest := []) hx hb hml hown X hA Y w mw_X8_isAct ml_X8_400 dX8_readAct_6 hm_ac0 [.int r1] rfl [] rfl rfl (ct_X8_isAct l E H.size r1 (r2, ()) hc6) rfl hl.1 ⟨⟨rfl, rfl⟩, ⟨Nat.le_of_ble_eq_true rfl, Nat.le_of_ble_eq_true rfl⟩, ⟨Nat.le_of_ble_eq_true rfl, Nat.le_of_ble_eq_true rfl⟩, Nat.le_of_ble_eq_true rfl⟩) hA w [] [0, 1, 2, 3, 4] [0, 1, 2, 3, 4] rfl rfl (by decide) (fun _ => rfl) (fun _ H locs w => ?_)
  refine lv_if_eq (tgt := 21) hx hb dX8_readAct_9 (by decide) (fun c9 => ?_) (fun c9 => ?_)
  · have hf := pf_t c9 hf
    refine lv_aload_n hx hb dX8_readAct_21 rfl (lv_at hl 1 rfl) ?_
    refine lv_aload_n hx hb dX8_readAct_22 rfl (lv_at hl 1 rfl) ?_
    refine hm_get cb_X8 hx hb hown X w 0 4 fl_X8_133 dX8_readAct_23 rfl (by decide) rfl ?_
    obtain ⟨r3, x4, hc26, hf⟩ := pf_bi_1 hf
    refine hm_aft_i (ws' := fun _ => [oc8 h0 r_t t_base t_taped t_at x4 t_number t_newBits t_newTold t_newDoings t_newThings t_opened t_sum t_heldAll t_onPaper t_turned t_wasConverted t_lastBits t_lastSum t_lastHeld t_lastLeft t_lastCode t_writtenLong t_codeMany t_acts t_done0 t_stoppedAt, ic E (r_t 48) 40 t_act, ic E (r_t 49) 40 t_actA, ic E (r_t 50) 40 t_actB, bc E (r_t 2) 400 t_tape]) (hm_runV (rest := []) hx hb hml hown X hA Y w 0 (ci := 7) (T := TX8) (N := 55) rfl rfl mw_X8_fails ml_X8_144 dX8_readAct_26 hm_ac0 [.int t_at] rfl [0] rfl rfl (ct_X8_fails l E H.size h0 r_t t_base t_taped t_at t_faultPlace t_number t_newBits t_newTold t_newDoings t_newThings t_opened t_sum t_heldAll t_onPaper t_turned t_wasConverted t_lastBits t_lastSum t_lastHeld t_lastLeft t_lastCode t_writtenLong t_codeMany t_acts t_done0 t_stoppedAt t_at (r3, x4) hc26) rfl hl.1 ⟨⟨rfl, rfl⟩, ⟨Nat.le_of_ble_eq_true rfl, Nat.le_of_ble_eq_true rfl⟩, ⟨Nat.le_of_ble_eq_true rfl, Nat.le_of_ble_eq_true rfl⟩, Nat.le_of_ble_eq_true rfl⟩) hA w [0] [1, 2, 3, 4] [4, 0, 1, 2, 3] rfl rfl (by decide) (fun _ => rfl) (fun _ H locs w => ?_)
    obtain ⟨g29, hf⟩ := pf_ckZ hf
    exact hQ _ _ _ _ _ (t_at, x4, t_number, t_act, t_actA, t_actB, t_acts) (fun _ => 0) hf (hm_z g29) w dX8_readAct_29
  · have hf := pf_e c9 hf
    refine lv_aload_n hx hb dX8_readAct_12 rfl (lv_at hl 1 rfl) ?_
    refine hm_get cb_X8 hx hb hown X w 0 52 fl_X8_403 dX8_readAct_13 rfl (by decide) rfl ?_
    refine lv_bipush (v := 40) hx hb dX8_readAct_16 (by decide) ?_
    refine lv_icmp_ne (tgt := 30) hx hb dX8_readAct_18 (by decide) (fun c18 => ?_) (fun c18 => ?_)
    · have hf := pf_e c18 hf
      refine lv_aload_n hx hb dX8_readAct_30 rfl (lv_at hl 1 rfl) ?_
      refine lv_dup hx hb dX8_readAct_31 rfl ?_
      refine hm_get cb_X8 hx hb hown X w 0 4 fl_X8_133 dX8_readAct_32 rfl (by decide) rfl ?_
      refine lv_iconst (v := 1) hx hb dX8_readAct_35 (by decide) ?_
      refine lv_iadd hx hb dX8_readAct_36 ?_
      refine lv_topi (fun x5 ex5 => ?_)
      have hf := pf_nm ex5 hf
      refine hm_put (ws' := [oc8 h0 r_t t_base t_taped x5 t_faultPlace t_number t_newBits t_newTold t_newDoings t_newThings t_opened t_sum t_heldAll t_onPaper t_turned t_wasConverted t_lastBits t_lastSum t_lastHeld t_lastLeft t_lastCode t_writtenLong t_codeMany t_acts t_done0 t_stoppedAt, ic E (r_t 48) 40 t_act, ic E (r_t 49) 40 t_actA, ic E (r_t 50) 40 t_actB, bc E (r_t 2) 400 t_tape]) cb_X8 hx hb hown X w 0 4 fl_X8_133 dX8_readAct_37 rfl (by decide) (Nat.le_of_ble_eq_true rfl) rfl rfl rfl rfl (fun H locs w => ?_)
      refine lv_aload_n hx hb dX8_readAct_40 rfl (lv_at hl 1 rfl) ?_
      refine hm_get cb_X8 hx hb hown X w 0 48 fl_X8_104 dX8_readAct_41 rfl (by decide) rfl ?_
      refine lv_aload_n hx hb dX8_readAct_44 rfl (lv_at hl 1 rfl) ?_
      refine hm_get cb_X8 hx hb hown X w 0 52 fl_X8_403 dX8_readAct_45 rfl (by decide) rfl ?_
      refine lv_iload_n hx hb dX8_readAct_48 rfl (lv_at hl 0 rfl) ?_
      obtain ⟨g49, hf⟩ := pf_ckI hf
      refine hm_iast (ws' := [oc8 h0 r_t t_base t_taped x5 t_faultPlace t_number t_newBits t_newTold t_newDoings t_newThings t_opened t_sum t_heldAll t_onPaper t_turned t_wasConverted t_lastBits t_lastSum t_lastHeld t_lastLeft t_lastCode t_writtenLong t_codeMany t_acts t_done0 t_stoppedAt, ic E (r_t 48) 40 (upd t_act t_acts.toNatClampNeg r1), ic E (r_t 49) 40 t_actA, ic E (r_t 50) 40 t_actB, bc E (r_t 2) 400 t_tape]) hx hb X w 1 dX8_readAct_49 rfl g49 rfl (fun H locs w => ?_)
      refine lv_aload_n hx hb dX8_readAct_50 rfl (lv_at hl 1 rfl) ?_
      refine hm_get cb_X8 hx hb hown X w 0 49 fl_X8_107 dX8_readAct_51 rfl (by decide) rfl ?_
      refine lv_aload_n hx hb dX8_readAct_54 rfl (lv_at hl 1 rfl) ?_
      refine hm_get cb_X8 hx hb hown X w 0 52 fl_X8_403 dX8_readAct_55 rfl (by decide) rfl ?_
      refine lv_iconst (v := 0) hx hb dX8_readAct_58 (by decide) ?_
      obtain ⟨g59, hf⟩ := pf_ckI hf
      refine hm_iast (ws' := [oc8 h0 r_t t_base t_taped x5 t_faultPlace t_number t_newBits t_newTold t_newDoings t_newThings t_opened t_sum t_heldAll t_onPaper t_turned t_wasConverted t_lastBits t_lastSum t_lastHeld t_lastLeft t_lastCode t_writtenLong t_codeMany t_acts t_done0 t_stoppedAt, ic E (r_t 48) 40 (upd t_act t_acts.toNatClampNeg r1), ic E (r_t 49) 40 (upd t_actA t_acts.toNatClampNeg 0), ic E (r_t 50) 40 t_actB, bc E (r_t 2) 400 t_tape]) hx hb X w 2 dX8_readAct_59 rfl g59 rfl (fun H locs w => ?_)
      refine lv_aload_n hx hb dX8_readAct_60 rfl (lv_at hl 1 rfl) ?_
      refine hm_get cb_X8 hx hb hown X w 0 50 fl_X8_110 dX8_readAct_61 rfl (by decide) rfl ?_
      refine lv_aload_n hx hb dX8_readAct_64 rfl (lv_at hl 1 rfl) ?_
      refine hm_get cb_X8 hx hb hown X w 0 52 fl_X8_403 dX8_readAct_65 rfl (by decide) rfl ?_
      refine lv_iconst (v := 0) hx hb dX8_readAct_68 (by decide) ?_
      obtain ⟨g69, hf⟩ := pf_ckI hf
      refine hm_iast (ws' := [oc8 h0 r_t t_base t_taped x5 t_faultPlace t_number t_newBits t_newTold t_newDoings t_newThings t_opened t_sum t_heldAll t_onPaper t_turned t_wasConverted t_lastBits t_lastSum t_lastHeld t_lastLeft t_lastCode t_writtenLong t_codeMany t_acts t_done0 t_stoppedAt, ic E (r_t 48) 40 (upd t_act t_acts.toNatClampNeg r1), ic E (r_t 49) 40 (upd t_actA t_acts.toNatClampNeg 0), ic E (r_t 50) 40 (upd t_actB t_acts.toNatClampNeg 0), bc E (r_t 2) 400 t_tape]) hx hb X w 3 dX8_readAct_69 rfl g69 rfl (fun H locs w => ?_)
      refine lv_iload_n hx hb dX8_readAct_70 rfl (lv_at hl 0 rfl) ?_
      refine lv_bipush (v := 102) hx hb dX8_readAct_71 (by decide) ?_
      obtain ⟨J121, hJ121, hf⟩ := pf_jn hf
      have kJ121 : ∀ (x6 : Int32) (x7 : Int32) (x8 : Int32) (f9 : Nat → Int32) (H : Heap) (locs : List Loc) (ls : Array Slot), J121 x6 x7 x8 f9 = some R → hm_W E A s.heap [oc8 h0 r_t t_base t_taped x6 x7 x8 t_newBits t_newTold t_newDoings t_newThings t_opened t_sum t_heldAll t_onPaper t_turned t_wasConverted t_lastBits t_lastSum t_lastHeld t_lastLeft t_lastCode t_writtenLong t_codeMany t_acts t_done0 t_stoppedAt, ic E (r_t 48) 40 (upd t_act t_acts.toNatClampNeg r1), ic E (r_t 49) 40 f9, ic E (r_t 50) 40 (upd t_actB t_acts.toNatClampNeg 0), bc E (r_t 2) 400 t_tape] H locs → lv_has ls 2 [(0, .ref h0), (1, .int r1)] → W p l e (hm_rr 3 64 0 0) s m args below meth c H locs 0 0 Q (F0 m 121 ls []) := by
        intro x6 x7 x8 f9 H locs ls hf w hl
        have hf := pf_j4 hJ121 hf
        refine lv_iload_n hx hb dX8_readAct_121 rfl (lv_at hl 1 rfl) ?_
        refine lv_bipush (v := 108) hx hb dX8_readAct_122 (by decide) ?_
        obtain ⟨J200, hJ200, hf⟩ := pf_jn hf
        have kJ200 : ∀ (x10 : Int32) (x11 : Int32) (x12 : Int32) (f13 : Nat → Int32) (H : Heap) (locs : List Loc) (ls : Array Slot), J200 x10 x11 x12 f13 = some R → hm_W E A s.heap [oc8 h0 r_t t_base t_taped x10 x11 x12 t_newBits t_newTold t_newDoings t_newThings t_opened t_sum t_heldAll t_onPaper t_turned t_wasConverted t_lastBits t_lastSum t_lastHeld t_lastLeft t_lastCode t_writtenLong t_codeMany t_acts t_done0 t_stoppedAt, ic E (r_t 48) 40 (upd t_act t_acts.toNatClampNeg r1), ic E (r_t 49) 40 f9, ic E (r_t 50) 40 f13, bc E (r_t 2) 400 t_tape] H locs → lv_has ls 2 [(0, .ref h0)] → W p l e (hm_rr 3 64 0 0) s m args below meth c H locs 0 0 Q (F0 m 200 ls []) := by
          intro x10 x11 x12 f13 H locs ls hf w hl
          have hf := pf_j4 hJ200 hf
          refine lv_aload_n hx hb dX8_readAct_200 rfl (lv_at hl 0 rfl) ?_
          obtain ⟨r14, hc201, hf⟩ := pf_bi_0 hf
          refine hm_aft_i (ws' := fun _ => [oc8 h0 r_t t_base t_taped x10 x11 x12 t_newBits t_newTold t_newDoings t_newThings t_opened t_sum t_heldAll t_onPaper t_turned t_wasConverted t_lastBits t_lastSum t_lastHeld t_lastLeft t_lastCode t_writtenLong t_codeMany t_acts t_done0 t_stoppedAt, ic E (r_t 48) 40 (upd t_act t_acts.toNatClampNeg r1), ic E (r_t 49) 40 f9, ic E (r_t 50) 40 f13, bc E (r_t 2) 400 t_tape]) (hm_runV (rest := []) hx hb hml hown X hA Y w 0 (ci := 7) (T := TX8) (N := 55) rfl rfl mw_X8_here ml_X8_136 dX8_readAct_201 hm_ac0 [] rfl [0, 4] rfl rfl (ct_X8_here l E H.size h0 r_t t_base t_taped x10 x11 x12 t_newBits t_newTold t_newDoings t_newThings t_opened t_sum t_heldAll t_onPaper t_turned t_wasConverted t_lastBits t_lastSum t_lastHeld t_lastLeft t_lastCode t_writtenLong t_codeMany t_acts t_done0 t_stoppedAt t_tape (r14, ()) hc201) rfl hl.1 ⟨⟨rfl, rfl⟩, ⟨Nat.le_of_ble_eq_true rfl, Nat.le_of_ble_eq_true rfl⟩, ⟨Nat.le_of_ble_eq_true rfl, Nat.le_of_ble_eq_true rfl⟩, Nat.le_of_ble_eq_true rfl⟩) hA w [0, 4] [1, 2, 3] [3, 0, 1, 2, 4] rfl rfl (by decide) (fun _ => rfl) (fun _ H locs w => ?_)
          refine lv_bipush (v := 59) hx hb dX8_readAct_204 (by decide) ?_
          refine lv_icmp_eq (tgt := 218) hx hb dX8_readAct_206 (by decide) (fun c206 => ?_) (fun c206 => ?_)
          · have hf := pf_t c206 hf
            refine lv_aload_n hx hb dX8_readAct_218 rfl (lv_at hl 0 rfl) ?_
            refine lv_dup hx hb dX8_readAct_219 rfl ?_
            refine hm_get cb_X8 hx hb hown X w 0 4 fl_X8_133 dX8_readAct_220 rfl (by decide) rfl ?_
            refine lv_iconst (v := 1) hx hb dX8_readAct_223 (by decide) ?_
            refine lv_iadd hx hb dX8_readAct_224 ?_
            refine lv_topi (fun x15 ex15 => ?_)
            have hf := pf_nm ex15 hf
            refine hm_put (ws' := [oc8 h0 r_t t_base t_taped x15 x11 x12 t_newBits t_newTold t_newDoings t_newThings t_opened t_sum t_heldAll t_onPaper t_turned t_wasConverted t_lastBits t_lastSum t_lastHeld t_lastLeft t_lastCode t_writtenLong t_codeMany t_acts t_done0 t_stoppedAt, ic E (r_t 48) 40 (upd t_act t_acts.toNatClampNeg r1), ic E (r_t 49) 40 f9, ic E (r_t 50) 40 f13, bc E (r_t 2) 400 t_tape]) cb_X8 hx hb hown X w 0 4 fl_X8_133 dX8_readAct_225 rfl (by decide) (Nat.le_of_ble_eq_true rfl) rfl rfl rfl rfl (fun H locs w => ?_)
            refine lv_aload_n hx hb dX8_readAct_228 rfl (lv_at hl 0 rfl) ?_
            refine lv_dup hx hb dX8_readAct_229 rfl ?_
            refine hm_get cb_X8 hx hb hown X w 0 52 fl_X8_403 dX8_readAct_230 rfl (by decide) rfl ?_
            refine lv_iconst (v := 1) hx hb dX8_readAct_233 (by decide) ?_
            refine lv_iadd hx hb dX8_readAct_234 ?_
            refine lv_topi (fun x16 ex16 => ?_)
            have hf := pf_nm ex16 hf
            refine hm_put (ws' := [oc8 h0 r_t t_base t_taped x15 x11 x12 t_newBits t_newTold t_newDoings t_newThings t_opened t_sum t_heldAll t_onPaper t_turned t_wasConverted t_lastBits t_lastSum t_lastHeld t_lastLeft t_lastCode t_writtenLong t_codeMany x16 t_done0 t_stoppedAt, ic E (r_t 48) 40 (upd t_act t_acts.toNatClampNeg r1), ic E (r_t 49) 40 f9, ic E (r_t 50) 40 f13, bc E (r_t 2) 400 t_tape]) cb_X8 hx hb hown X w 0 52 fl_X8_403 dX8_readAct_235 rfl (by decide) (Nat.le_of_ble_eq_true rfl) rfl rfl rfl rfl (fun H locs w => ?_)
            refine lv_iconst (v := 1) hx hb dX8_readAct_238 (by decide) ?_
            exact hQ _ _ _ _ _ (x15, x11, x12, (upd t_act t_acts.toNatClampNeg r1), f9, f13, x16) (fun _ => 0) hf rfl w dX8_readAct_239
          · have hf := pf_e c206 hf
            refine lv_aload_n hx hb dX8_readAct_209 rfl (lv_at hl 0 rfl) ?_
            refine lv_aload_n hx hb dX8_readAct_210 rfl (lv_at hl 0 rfl) ?_
            refine hm_get cb_X8 hx hb hown X w 0 4 fl_X8_133 dX8_readAct_211 rfl (by decide) rfl ?_
            obtain ⟨r17, x18, hc214, hf⟩ := pf_bi_1 hf
            refine hm_aft_i (ws' := fun _ => [oc8 h0 r_t t_base t_taped x10 x18 x12 t_newBits t_newTold t_newDoings t_newThings t_opened t_sum t_heldAll t_onPaper t_turned t_wasConverted t_lastBits t_lastSum t_lastHeld t_lastLeft t_lastCode t_writtenLong t_codeMany t_acts t_done0 t_stoppedAt, ic E (r_t 48) 40 (upd t_act t_acts.toNatClampNeg r1), ic E (r_t 49) 40 f9, ic E (r_t 50) 40 f13, bc E (r_t 2) 400 t_tape]) (hm_runV (rest := []) hx hb hml hown X hA Y w 0 (ci := 7) (T := TX8) (N := 55) rfl rfl mw_X8_fails ml_X8_144 dX8_readAct_214 hm_ac0 [.int x10] rfl [0] rfl rfl (ct_X8_fails l E H.size h0 r_t t_base t_taped x10 x11 x12 t_newBits t_newTold t_newDoings t_newThings t_opened t_sum t_heldAll t_onPaper t_turned t_wasConverted t_lastBits t_lastSum t_lastHeld t_lastLeft t_lastCode t_writtenLong t_codeMany t_acts t_done0 t_stoppedAt x10 (r17, x18) hc214) rfl hl.1 ⟨⟨rfl, rfl⟩, ⟨Nat.le_of_ble_eq_true rfl, Nat.le_of_ble_eq_true rfl⟩, ⟨Nat.le_of_ble_eq_true rfl, Nat.le_of_ble_eq_true rfl⟩, Nat.le_of_ble_eq_true rfl⟩) hA w [0] [1, 2, 3, 4] [4, 0, 1, 2, 3] rfl rfl (by decide) (fun _ => rfl) (fun _ H locs w => ?_)
            obtain ⟨g217, hf⟩ := pf_ckZ hf
            exact hQ _ _ _ _ _ (x10, x18, x12, (upd t_act t_acts.toNatClampNeg r1), f9, f13, t_acts) (fun _ => 0) hf (hm_z g217) w dX8_readAct_217
        obtain ⟨J139, hJ139, hf⟩ := pf_jn hf
        have kJ139 : ∀ (H : Heap) (locs : List Loc) (ls : Array Slot), J139 = some R → hm_W E A s.heap [oc8 h0 r_t t_base t_taped x6 x7 x8 t_newBits t_newTold t_newDoings t_newThings t_opened t_sum t_heldAll t_onPaper t_turned t_wasConverted t_lastBits t_lastSum t_lastHeld t_lastLeft t_lastCode t_writtenLong t_codeMany t_acts t_done0 t_stoppedAt, ic E (r_t 48) 40 (upd t_act t_acts.toNatClampNeg r1), ic E (r_t 49) 40 f9, ic E (r_t 50) 40 (upd t_actB t_acts.toNatClampNeg 0), bc E (r_t 2) 400 t_tape] H locs → lv_has ls 2 [(0, .ref h0), (1, .int r1)] → W p l e (hm_rr 3 64 0 0) s m args below meth c H locs 0 0 Q (F0 m 139 ls []) := by
          intro H locs ls hf w hl
          have hf := pf_j0 hJ139 hf
          refine lv_aload_n hx hb dX8_readAct_139 rfl (lv_at hl 0 rfl) ?_
          obtain ⟨r19, hc140, hf⟩ := pf_bi_0 hf
          refine hm_aft_i (ws' := fun _ => [oc8 h0 r_t t_base t_taped x6 x7 x8 t_newBits t_newTold t_newDoings t_newThings t_opened t_sum t_heldAll t_onPaper t_turned t_wasConverted t_lastBits t_lastSum t_lastHeld t_lastLeft t_lastCode t_writtenLong t_codeMany t_acts t_done0 t_stoppedAt, ic E (r_t 48) 40 (upd t_act t_acts.toNatClampNeg r1), ic E (r_t 49) 40 f9, ic E (r_t 50) 40 (upd t_actB t_acts.toNatClampNeg 0), bc E (r_t 2) 400 t_tape]) (hm_runV (rest := []) hx hb hml hown X hA Y w 0 (ci := 7) (T := TX8) (N := 55) rfl rfl mw_X8_here ml_X8_136 dX8_readAct_140 hm_ac0 [] rfl [0, 4] rfl rfl (ct_X8_here l E H.size h0 r_t t_base t_taped x6 x7 x8 t_newBits t_newTold t_newDoings t_newThings t_opened t_sum t_heldAll t_onPaper t_turned t_wasConverted t_lastBits t_lastSum t_lastHeld t_lastLeft t_lastCode t_writtenLong t_codeMany t_acts t_done0 t_stoppedAt t_tape (r19, ()) hc140) rfl hl.1 ⟨⟨rfl, rfl⟩, ⟨Nat.le_of_ble_eq_true rfl, Nat.le_of_ble_eq_true rfl⟩, ⟨Nat.le_of_ble_eq_true rfl, Nat.le_of_ble_eq_true rfl⟩, Nat.le_of_ble_eq_true rfl⟩) hA w [0, 4] [1, 2, 3] [3, 0, 1, 2, 4] rfl rfl (by decide) (fun _ => rfl) (fun _ H locs w => ?_)
          refine lv_bipush (v := 44) hx hb dX8_readAct_143 (by decide) ?_
          refine lv_icmp_eq (tgt := 157) hx hb dX8_readAct_145 (by decide) (fun c145 => ?_) (fun c145 => ?_)
          · have hf := pf_t c145 hf
            refine lv_aload_n hx hb dX8_readAct_157 rfl (lv_at hl 0 rfl) ?_
            refine lv_dup hx hb dX8_readAct_158 rfl ?_
            refine hm_get cb_X8 hx hb hown X w 0 4 fl_X8_133 dX8_readAct_159 rfl (by decide) rfl ?_
            refine lv_iconst (v := 1) hx hb dX8_readAct_162 (by decide) ?_
            refine lv_iadd hx hb dX8_readAct_163 ?_
            refine lv_topi (fun x20 ex20 => ?_)
            have hf := pf_nm ex20 hf
            refine hm_put (ws' := [oc8 h0 r_t t_base t_taped x20 x7 x8 t_newBits t_newTold t_newDoings t_newThings t_opened t_sum t_heldAll t_onPaper t_turned t_wasConverted t_lastBits t_lastSum t_lastHeld t_lastLeft t_lastCode t_writtenLong t_codeMany t_acts t_done0 t_stoppedAt, ic E (r_t 48) 40 (upd t_act t_acts.toNatClampNeg r1), ic E (r_t 49) 40 f9, ic E (r_t 50) 40 (upd t_actB t_acts.toNatClampNeg 0), bc E (r_t 2) 400 t_tape]) cb_X8 hx hb hown X w 0 4 fl_X8_133 dX8_readAct_164 rfl (by decide) (Nat.le_of_ble_eq_true rfl) rfl rfl rfl rfl (fun H locs w => ?_)
            refine lv_aload_n hx hb dX8_readAct_167 rfl (lv_at hl 0 rfl) ?_
            refine lv_iload_n hx hb dX8_readAct_168 rfl (lv_at hl 1 rfl) ?_
            refine lv_bipush (v := 108) hx hb dX8_readAct_169 (by decide) ?_
            obtain ⟨J179, hJ179, hf⟩ := pf_jn hf
            have kJ179 : ∀ (x21 : Int32) (H : Heap) (locs : List Loc) (ls : Array Slot), J179 x21 = some R → hm_W E A s.heap [oc8 h0 r_t t_base t_taped x20 x7 x8 t_newBits t_newTold t_newDoings t_newThings t_opened t_sum t_heldAll t_onPaper t_turned t_wasConverted t_lastBits t_lastSum t_lastHeld t_lastLeft t_lastCode t_writtenLong t_codeMany t_acts t_done0 t_stoppedAt, ic E (r_t 48) 40 (upd t_act t_acts.toNatClampNeg r1), ic E (r_t 49) 40 f9, ic E (r_t 50) 40 (upd t_actB t_acts.toNatClampNeg 0), bc E (r_t 2) 400 t_tape] H locs → lv_has ls 2 [(0, .ref h0)] → W p l e (hm_rr 3 64 0 0) s m args below meth c H locs 0 0 Q (F0 m 179 ls [.int x21, .ref h0]) := by
              intro x21 H locs ls hf w hl
              have hf := pf_j1 hJ179 hf
              obtain ⟨r22, x23, x24, x25, hc179, hf⟩ := pf_bi_3 hf
              refine hm_aft_i (ws' := fun _ => [oc8 h0 r_t t_base t_taped x23 x24 x25 t_newBits t_newTold t_newDoings t_newThings t_opened t_sum t_heldAll t_onPaper t_turned t_wasConverted t_lastBits t_lastSum t_lastHeld t_lastLeft t_lastCode t_writtenLong t_codeMany t_acts t_done0 t_stoppedAt, ic E (r_t 48) 40 (upd t_act t_acts.toNatClampNeg r1), ic E (r_t 49) 40 f9, ic E (r_t 50) 40 (upd t_actB t_acts.toNatClampNeg 0), bc E (r_t 2) 400 t_tape]) (hm_runV (rest := []) hx hb hml hown X hA Y w 0 (ci := 7) (T := TX8) (N := 55) rfl rfl mw_X8_readValue ml_X8_406 dX8_readAct_179 hm_ac0 [.int x21] rfl [0, 4] rfl rfl (ct_X8_readValue l E H.size h0 r_t t_base t_taped x20 x7 x8 t_newBits t_newTold t_newDoings t_newThings t_opened t_sum t_heldAll t_onPaper t_turned t_wasConverted t_lastBits t_lastSum t_lastHeld t_lastLeft t_lastCode t_writtenLong t_codeMany t_acts t_done0 t_stoppedAt t_tape x21 (r22, x23, x24, x25) hc179) rfl hl.1 ⟨⟨rfl, rfl⟩, ⟨Nat.le_of_ble_eq_true rfl, Nat.le_of_ble_eq_true rfl⟩, ⟨Nat.le_of_ble_eq_true rfl, Nat.le_of_ble_eq_true rfl⟩, Nat.le_of_ble_eq_true rfl⟩) hA w [0, 4] [1, 2, 3] [3, 0, 1, 2, 4] rfl rfl (by decide) (fun _ => rfl) (fun _ H locs w => ?_)
              refine lv_if_ne (tgt := 187) hx hb dX8_readAct_182 (by decide) (fun c182 => ?_) (fun c182 => ?_)
              · have hf := pf_e c182 hf
                refine lv_aload_n hx hb dX8_readAct_187 rfl (lv_at hl 0 rfl) ?_
                refine hm_get cb_X8 hx hb hown X w 0 50 fl_X8_110 dX8_readAct_188 rfl (by decide) rfl ?_
                refine lv_aload_n hx hb dX8_readAct_191 rfl (lv_at hl 0 rfl) ?_
                refine hm_get cb_X8 hx hb hown X w 0 52 fl_X8_403 dX8_readAct_192 rfl (by decide) rfl ?_
                refine lv_aload_n hx hb dX8_readAct_195 rfl (lv_at hl 0 rfl) ?_
                refine hm_get cb_X8 hx hb hown X w 0 6 fl_X8_147 dX8_readAct_196 rfl (by decide) rfl ?_
                obtain ⟨g199, hf⟩ := pf_ckI hf
                refine hm_iast (ws' := [oc8 h0 r_t t_base t_taped x23 x24 x25 t_newBits t_newTold t_newDoings t_newThings t_opened t_sum t_heldAll t_onPaper t_turned t_wasConverted t_lastBits t_lastSum t_lastHeld t_lastLeft t_lastCode t_writtenLong t_codeMany t_acts t_done0 t_stoppedAt, ic E (r_t 48) 40 (upd t_act t_acts.toNatClampNeg r1), ic E (r_t 49) 40 f9, ic E (r_t 50) 40 (upd (upd t_actB t_acts.toNatClampNeg 0) t_acts.toNatClampNeg x25), bc E (r_t 2) 400 t_tape]) hx hb X w 3 dX8_readAct_199 rfl g199 rfl (fun H locs w => ?_)
                exact kJ200 _ _ _ _ _ _ _ hf w (lv_sub hl [0] rfl)
              · have hf := pf_t c182 hf
                refine lv_iconst (v := 0) hx hb dX8_readAct_185 (by decide) ?_
                exact hQ _ _ _ _ _ (x23, x24, x25, (upd t_act t_acts.toNatClampNeg r1), f9, (upd t_actB t_acts.toNatClampNeg 0), t_acts) (fun _ => 0) hf rfl w dX8_readAct_186
            refine lv_icmp_eq (tgt := 178) hx hb dX8_readAct_171 (by decide) (fun c171 => ?_) (fun c171 => ?_)
            · have hf := pf_t c171 hf
              refine lv_iconst (v := 0) hx hb dX8_readAct_178 (by decide) ?_
              exact kJ179 _ _ _ _ hf w (lv_sub hl [0] rfl)
            · have hf := pf_e c171 hf
              refine lv_iconst (v := 1) hx hb dX8_readAct_174 (by decide) ?_
              refine lv_goto (tgt := 179) hx hb dX8_readAct_175 (by decide) ?_
              exact kJ179 _ _ _ _ hf w (lv_sub hl [0] rfl)
          · have hf := pf_e c145 hf
            refine lv_aload_n hx hb dX8_readAct_148 rfl (lv_at hl 0 rfl) ?_
            refine lv_aload_n hx hb dX8_readAct_149 rfl (lv_at hl 0 rfl) ?_
            refine hm_get cb_X8 hx hb hown X w 0 4 fl_X8_133 dX8_readAct_150 rfl (by decide) rfl ?_
            obtain ⟨r26, x27, hc153, hf⟩ := pf_bi_1 hf
            refine hm_aft_i (ws' := fun _ => [oc8 h0 r_t t_base t_taped x6 x27 x8 t_newBits t_newTold t_newDoings t_newThings t_opened t_sum t_heldAll t_onPaper t_turned t_wasConverted t_lastBits t_lastSum t_lastHeld t_lastLeft t_lastCode t_writtenLong t_codeMany t_acts t_done0 t_stoppedAt, ic E (r_t 48) 40 (upd t_act t_acts.toNatClampNeg r1), ic E (r_t 49) 40 f9, ic E (r_t 50) 40 (upd t_actB t_acts.toNatClampNeg 0), bc E (r_t 2) 400 t_tape]) (hm_runV (rest := []) hx hb hml hown X hA Y w 0 (ci := 7) (T := TX8) (N := 55) rfl rfl mw_X8_fails ml_X8_144 dX8_readAct_153 hm_ac0 [.int x6] rfl [0] rfl rfl (ct_X8_fails l E H.size h0 r_t t_base t_taped x6 x7 x8 t_newBits t_newTold t_newDoings t_newThings t_opened t_sum t_heldAll t_onPaper t_turned t_wasConverted t_lastBits t_lastSum t_lastHeld t_lastLeft t_lastCode t_writtenLong t_codeMany t_acts t_done0 t_stoppedAt x6 (r26, x27) hc153) rfl hl.1 ⟨⟨rfl, rfl⟩, ⟨Nat.le_of_ble_eq_true rfl, Nat.le_of_ble_eq_true rfl⟩, ⟨Nat.le_of_ble_eq_true rfl, Nat.le_of_ble_eq_true rfl⟩, Nat.le_of_ble_eq_true rfl⟩) hA w [0] [1, 2, 3, 4] [4, 0, 1, 2, 3] rfl rfl (by decide) (fun _ => rfl) (fun _ H locs w => ?_)
            obtain ⟨g156, hf⟩ := pf_ckZ hf
            exact hQ _ _ _ _ _ (x6, x27, x8, (upd t_act t_acts.toNatClampNeg r1), f9, (upd t_actB t_acts.toNatClampNeg 0), t_acts) (fun _ => 0) hf (hm_z g156) w dX8_readAct_156
        refine lv_icmp_eq (tgt := 139) hx hb dX8_readAct_124 (by decide) (fun c124 => ?_) (fun c124 => ?_)
        · have hf := pf_t c124 hf
          exact kJ139 _ _ _ hf w (lv_sub hl [0, 1] rfl)
        · have hf := pf_e c124 hf
          refine lv_iload_n hx hb dX8_readAct_127 rfl (lv_at hl 1 rfl) ?_
          refine lv_bipush (v := 115) hx hb dX8_readAct_128 (by decide) ?_
          refine lv_icmp_eq (tgt := 139) hx hb dX8_readAct_130 (by decide) (fun c130 => ?_) (fun c130 => ?_)
          · have hf := pf_t c130 hf
            exact kJ139 _ _ _ hf w (lv_sub hl [0, 1] rfl)
          · have hf := pf_e c130 hf
            refine lv_iload_n hx hb dX8_readAct_133 rfl (lv_at hl 1 rfl) ?_
            refine lv_bipush (v := 111) hx hb dX8_readAct_134 (by decide) ?_
            refine lv_icmp_ne (tgt := 200) hx hb dX8_readAct_136 (by decide) (fun c136 => ?_) (fun c136 => ?_)
            · have hf := pf_e c136 hf
              exact kJ200 _ _ _ _ _ _ _ hf w (lv_sub hl [0] rfl)
            · have hf := pf_t c136 hf
              exact kJ139 _ _ _ hf w (lv_sub hl [0, 1] rfl)
      refine lv_icmp_eq (tgt := 121) hx hb dX8_readAct_73 (by decide) (fun c73 => ?_) (fun c73 => ?_)
      · have hf := pf_t c73 hf
        exact kJ121 _ _ _ _ _ _ _ hf w (lv_sub hl [1, 0] rfl)
      · have hf := pf_e c73 hf
        refine lv_aload_n hx hb dX8_readAct_76 rfl (lv_at hl 1 rfl) ?_
        refine lv_iload_n hx hb dX8_readAct_77 rfl (lv_at hl 0 rfl) ?_
        refine lv_bipush (v := 99) hx hb dX8_readAct_78 (by decide) ?_
        obtain ⟨J100, hJ100, hf⟩ := pf_jn hf
        have kJ100 : ∀ (x28 : Int32) (H : Heap) (locs : List Loc) (ls : Array Slot), J100 x28 = some R → hm_W E A s.heap [oc8 h0 r_t t_base t_taped x5 t_faultPlace t_number t_newBits t_newTold t_newDoings t_newThings t_opened t_sum t_heldAll t_onPaper t_turned t_wasConverted t_lastBits t_lastSum t_lastHeld t_lastLeft t_lastCode t_writtenLong t_codeMany t_acts t_done0 t_stoppedAt, ic E (r_t 48) 40 (upd t_act t_acts.toNatClampNeg r1), ic E (r_t 49) 40 (upd t_actA t_acts.toNatClampNeg 0), ic E (r_t 50) 40 (upd t_actB t_acts.toNatClampNeg 0), bc E (r_t 2) 400 t_tape] H locs → lv_has ls 2 [(0, .ref h0), (1, .int r1)] → W p l e (hm_rr 3 64 0 0) s m args below meth c H locs 0 0 Q (F0 m 100 ls [.int x28, .ref h0]) := by
          intro x28 H locs ls hf w hl
          have hf := pf_j1 hJ100 hf
          obtain ⟨r29, x30, x31, x32, hc100, hf⟩ := pf_bi_3 hf
          refine hm_aft_i (ws' := fun _ => [oc8 h0 r_t t_base t_taped x30 x31 x32 t_newBits t_newTold t_newDoings t_newThings t_opened t_sum t_heldAll t_onPaper t_turned t_wasConverted t_lastBits t_lastSum t_lastHeld t_lastLeft t_lastCode t_writtenLong t_codeMany t_acts t_done0 t_stoppedAt, ic E (r_t 48) 40 (upd t_act t_acts.toNatClampNeg r1), ic E (r_t 49) 40 (upd t_actA t_acts.toNatClampNeg 0), ic E (r_t 50) 40 (upd t_actB t_acts.toNatClampNeg 0), bc E (r_t 2) 400 t_tape]) (hm_runV (rest := []) hx hb hml hown X hA Y w 0 (ci := 7) (T := TX8) (N := 55) rfl rfl mw_X8_readValue ml_X8_406 dX8_readAct_100 hm_ac0 [.int x28] rfl [0, 4] rfl rfl (ct_X8_readValue l E H.size h0 r_t t_base t_taped x5 t_faultPlace t_number t_newBits t_newTold t_newDoings t_newThings t_opened t_sum t_heldAll t_onPaper t_turned t_wasConverted t_lastBits t_lastSum t_lastHeld t_lastLeft t_lastCode t_writtenLong t_codeMany t_acts t_done0 t_stoppedAt t_tape x28 (r29, x30, x31, x32) hc100) rfl hl.1 ⟨⟨rfl, rfl⟩, ⟨Nat.le_of_ble_eq_true rfl, Nat.le_of_ble_eq_true rfl⟩, ⟨Nat.le_of_ble_eq_true rfl, Nat.le_of_ble_eq_true rfl⟩, Nat.le_of_ble_eq_true rfl⟩) hA w [0, 4] [1, 2, 3] [3, 0, 1, 2, 4] rfl rfl (by decide) (fun _ => rfl) (fun _ H locs w => ?_)
          refine lv_if_ne (tgt := 108) hx hb dX8_readAct_103 (by decide) (fun c103 => ?_) (fun c103 => ?_)
          · have hf := pf_e c103 hf
            refine lv_aload_n hx hb dX8_readAct_108 rfl (lv_at hl 0 rfl) ?_
            refine hm_get cb_X8 hx hb hown X w 0 49 fl_X8_107 dX8_readAct_109 rfl (by decide) rfl ?_
            refine lv_aload_n hx hb dX8_readAct_112 rfl (lv_at hl 0 rfl) ?_
            refine hm_get cb_X8 hx hb hown X w 0 52 fl_X8_403 dX8_readAct_113 rfl (by decide) rfl ?_
            refine lv_aload_n hx hb dX8_readAct_116 rfl (lv_at hl 0 rfl) ?_
            refine hm_get cb_X8 hx hb hown X w 0 6 fl_X8_147 dX8_readAct_117 rfl (by decide) rfl ?_
            obtain ⟨g120, hf⟩ := pf_ckI hf
            refine hm_iast (ws' := [oc8 h0 r_t t_base t_taped x30 x31 x32 t_newBits t_newTold t_newDoings t_newThings t_opened t_sum t_heldAll t_onPaper t_turned t_wasConverted t_lastBits t_lastSum t_lastHeld t_lastLeft t_lastCode t_writtenLong t_codeMany t_acts t_done0 t_stoppedAt, ic E (r_t 48) 40 (upd t_act t_acts.toNatClampNeg r1), ic E (r_t 49) 40 (upd (upd t_actA t_acts.toNatClampNeg 0) t_acts.toNatClampNeg x32), ic E (r_t 50) 40 (upd t_actB t_acts.toNatClampNeg 0), bc E (r_t 2) 400 t_tape]) hx hb X w 2 dX8_readAct_120 rfl g120 rfl (fun H locs w => ?_)
            exact kJ121 _ _ _ _ _ _ _ hf w (lv_sub hl [0, 1] rfl)
          · have hf := pf_t c103 hf
            refine lv_iconst (v := 0) hx hb dX8_readAct_106 (by decide) ?_
            exact hQ _ _ _ _ _ (x30, x31, x32, (upd t_act t_acts.toNatClampNeg r1), (upd t_actA t_acts.toNatClampNeg 0), (upd t_actB t_acts.toNatClampNeg 0), t_acts) (fun _ => 0) hf rfl w dX8_readAct_107
        obtain ⟨J95, hJ95, hf⟩ := pf_jn hf
        have kJ95 : ∀ (H : Heap) (locs : List Loc) (ls : Array Slot), J95 = some R → hm_W E A s.heap [oc8 h0 r_t t_base t_taped x5 t_faultPlace t_number t_newBits t_newTold t_newDoings t_newThings t_opened t_sum t_heldAll t_onPaper t_turned t_wasConverted t_lastBits t_lastSum t_lastHeld t_lastLeft t_lastCode t_writtenLong t_codeMany t_acts t_done0 t_stoppedAt, ic E (r_t 48) 40 (upd t_act t_acts.toNatClampNeg r1), ic E (r_t 49) 40 (upd t_actA t_acts.toNatClampNeg 0), ic E (r_t 50) 40 (upd t_actB t_acts.toNatClampNeg 0), bc E (r_t 2) 400 t_tape] H locs → lv_has ls 2 [(0, .ref h0), (1, .int r1)] → W p l e (hm_rr 3 64 0 0) s m args below meth c H locs 0 0 Q (F0 m 95 ls [.ref h0]) := by
          intro H locs ls hf w hl
          have hf := pf_j0 hJ95 hf
          refine lv_iconst (v := 1) hx hb dX8_readAct_95 (by decide) ?_
          refine lv_goto (tgt := 100) hx hb dX8_readAct_96 (by decide) ?_
          exact kJ100 _ _ _ _ hf w (lv_sub hl [0, 1] rfl)
        refine lv_icmp_eq (tgt := 95) hx hb dX8_readAct_80 (by decide) (fun c80 => ?_) (fun c80 => ?_)
        · have hf := pf_t c80 hf
          exact kJ95 _ _ _ hf w (lv_sub hl [1, 0] rfl)
        · have hf := pf_e c80 hf
          refine lv_iload_n hx hb dX8_readAct_83 rfl (lv_at hl 0 rfl) ?_
          refine lv_bipush (v := 120) hx hb dX8_readAct_84 (by decide) ?_
          refine lv_icmp_eq (tgt := 95) hx hb dX8_readAct_86 (by decide) (fun c86 => ?_) (fun c86 => ?_)
          · have hf := pf_t c86 hf
            exact kJ95 _ _ _ hf w (lv_sub hl [1, 0] rfl)
          · have hf := pf_e c86 hf
            refine lv_iload_n hx hb dX8_readAct_89 rfl (lv_at hl 0 rfl) ?_
            refine lv_bipush (v := 61) hx hb dX8_readAct_90 (by decide) ?_
            refine lv_icmp_ne (tgt := 99) hx hb dX8_readAct_92 (by decide) (fun c92 => ?_) (fun c92 => ?_)
            · have hf := pf_e c92 hf
              refine lv_iconst (v := 0) hx hb dX8_readAct_99 (by decide) ?_
              exact kJ100 _ _ _ _ hf w (lv_sub hl [1, 0] rfl)
            · have hf := pf_t c92 hf
              exact kJ95 _ _ _ hf w (lv_sub hl [1, 0] rfl)
    · have hf := pf_t c18 hf
      refine lv_aload_n hx hb dX8_readAct_21 rfl (lv_at hl 1 rfl) ?_
      refine lv_aload_n hx hb dX8_readAct_22 rfl (lv_at hl 1 rfl) ?_
      refine hm_get cb_X8 hx hb hown X w 0 4 fl_X8_133 dX8_readAct_23 rfl (by decide) rfl ?_
      obtain ⟨r33, x34, hc26, hf⟩ := pf_bi_1 hf
      refine hm_aft_i (ws' := fun _ => [oc8 h0 r_t t_base t_taped t_at x34 t_number t_newBits t_newTold t_newDoings t_newThings t_opened t_sum t_heldAll t_onPaper t_turned t_wasConverted t_lastBits t_lastSum t_lastHeld t_lastLeft t_lastCode t_writtenLong t_codeMany t_acts t_done0 t_stoppedAt, ic E (r_t 48) 40 t_act, ic E (r_t 49) 40 t_actA, ic E (r_t 50) 40 t_actB, bc E (r_t 2) 400 t_tape]) (hm_runV (rest := []) hx hb hml hown X hA Y w 0 (ci := 7) (T := TX8) (N := 55) rfl rfl mw_X8_fails ml_X8_144 dX8_readAct_26 hm_ac0 [.int t_at] rfl [0] rfl rfl (ct_X8_fails l E H.size h0 r_t t_base t_taped t_at t_faultPlace t_number t_newBits t_newTold t_newDoings t_newThings t_opened t_sum t_heldAll t_onPaper t_turned t_wasConverted t_lastBits t_lastSum t_lastHeld t_lastLeft t_lastCode t_writtenLong t_codeMany t_acts t_done0 t_stoppedAt t_at (r33, x34) hc26) rfl hl.1 ⟨⟨rfl, rfl⟩, ⟨Nat.le_of_ble_eq_true rfl, Nat.le_of_ble_eq_true rfl⟩, ⟨Nat.le_of_ble_eq_true rfl, Nat.le_of_ble_eq_true rfl⟩, Nat.le_of_ble_eq_true rfl⟩) hA w [0] [1, 2, 3, 4] [4, 0, 1, 2, 3] rfl rfl (by decide) (fun _ => rfl) (fun _ H locs w => ?_)
      obtain ⟨g29, hf⟩ := pf_ckZ hf
      exact hQ _ _ _ _ _ (t_at, x34, t_number, t_act, t_actA, t_actB, t_acts) (fun _ => 0) hf (hm_z g29) w dX8_readAct_29