set_option maxHeartbeats 8000000 in
set_option maxRecDepth 100000 in
theorem ct_X8_layBit (l : Launch) (E : hm_E) (sz : Nat) (h0 : Nat) (r_t : Nat → Nat) (t_base t_taped t_at t_faultPlace t_number t_newBits t_newTold t_newDoings t_newThings t_opened t_sum t_heldAll t_onPaper t_turned t_wasConverted t_lastBits t_lastSum t_lastHeld t_lastLeft t_lastCode t_writtenLong t_codeMany t_acts t_done0 t_stoppedAt : Int32) (t_all : Nat → Int32) (a1 : Int32) (a2 : Int32) (a3 : Int32) (R : (Nat → Int32)) (hf : pf_X8_layBit a1 a2 a3 t_all t_base = some R) : hm_Mv l E yX8_layBit cX8_layBit 4 [] (hm_rr 1 22 0 0) [.ref h0, .int a1, .int a2, .int a3] sz [oc8 h0 r_t t_base t_taped t_at t_faultPlace t_number t_newBits t_newTold t_newDoings t_newThings t_opened t_sum t_heldAll t_onPaper t_turned t_wasConverted t_lastBits t_lastSum t_lastHeld t_lastLeft t_lastCode t_writtenLong t_codeMany t_acts t_done0 t_stoppedAt, ic E (r_t 0) 800 t_all] (fun _ => [oc8 h0 r_t t_base t_taped t_at t_faultPlace t_number t_newBits t_newTold t_newDoings t_newThings t_opened t_sum t_heldAll t_onPaper t_turned t_wasConverted t_lastBits t_lastSum t_lastHeld t_lastLeft t_lastCode t_writtenLong t_codeMany t_acts t_done0 t_stoppedAt, ic E (r_t 0) 800 R]) := by
  refine hm_ct_v R (fun u _ => [oc8 h0 r_t t_base t_taped t_at t_faultPlace t_number t_newBits t_newTold t_newDoings t_newThings t_opened t_sum t_heldAll t_onPaper t_turned t_wasConverted t_lastBits t_lastSum t_lastHeld t_lastLeft t_lastCode t_writtenLong t_codeMany t_acts t_done0 t_stoppedAt, ic E (r_t 0) 800 u]) (by decide) (Nat.le_of_ble_eq_true rfl) ?_
  intro p e s m args below meth c A Q ls H locs hx hb hml hown X hA Y hex hin w hl hQ
  have hl : lv_has ls 4 [(0, .ref h0), (1, .int a1), (2, .int a2), (3, .int a3)] := hl
  unfold pf_X8_layBit at hf
  refine lv_aload_n hx hb dX8_layBit_0 rfl (lv_at hl 0 rfl) ?_
  refine lv_bipush (v := 9) hx hb dX8_layBit_1 (by decide) ?_
  refine lv_iload_n hx hb dX8_layBit_3 rfl (lv_at hl 1 rfl) ?_
  refine lv_iadd hx hb dX8_layBit_4 ?_
  refine lv_iload_n hx hb dX8_layBit_5 rfl (lv_at hl 2 rfl) ?_
  obtain ⟨f1, hc6, hf⟩ := pf_bv_1 hf
  refine hm_aft_v (ws' := fun _ => [oc8 h0 r_t t_base t_taped t_at t_faultPlace t_number t_newBits t_newTold t_newDoings t_newThings t_opened t_sum t_heldAll t_onPaper t_turned t_wasConverted t_lastBits t_lastSum t_lastHeld t_lastLeft t_lastCode t_writtenLong t_codeMany t_acts t_done0 t_stoppedAt, ic E (r_t 0) 800 f1]) (hm_runV (rest := []) hx hb hml hown X hA Y w 0 (ci := 7) (T := TX8) (N := 55) rfl rfl mw_X8_put ml_X8_119 dX8_layBit_6 hm_ac0 [.int (9 + a1), .int a2] rfl [0, 1] rfl rfl (ct_X8_put l E H.size h0 r_t t_base t_taped t_at t_faultPlace t_number t_newBits t_newTold t_newDoings t_newThings t_opened t_sum t_heldAll t_onPaper t_turned t_wasConverted t_lastBits t_lastSum t_lastHeld t_lastLeft t_lastCode t_writtenLong t_codeMany t_acts t_done0 t_stoppedAt t_all (9 + a1) a2 f1 hc6) rfl hl.1 ⟨⟨rfl, rfl⟩, ⟨Nat.le_of_ble_eq_true rfl, Nat.le_of_ble_eq_true rfl⟩, ⟨Nat.le_of_ble_eq_true rfl, Nat.le_of_ble_eq_true rfl⟩, Nat.le_of_ble_eq_true rfl⟩) hA w [0, 1] [] [0, 1] rfl rfl (by decide) (fun _ => rfl) (fun _ H locs w => ?_)
  refine lv_aload_n hx hb dX8_layBit_9 rfl (lv_at hl 0 rfl) ?_
  refine lv_bipush (v := 21) hx hb dX8_layBit_10 (by decide) ?_
  refine lv_iload_n hx hb dX8_layBit_12 rfl (lv_at hl 1 rfl) ?_
  refine lv_iadd hx hb dX8_layBit_13 ?_
  refine lv_iload_n hx hb dX8_layBit_14 rfl (lv_at hl 3 rfl) ?_
  obtain ⟨f2, hc15, hf⟩ := pf_bv_1 hf
  refine hm_aft_v (ws' := fun _ => [oc8 h0 r_t t_base t_taped t_at t_faultPlace t_number t_newBits t_newTold t_newDoings t_newThings t_opened t_sum t_heldAll t_onPaper t_turned t_wasConverted t_lastBits t_lastSum t_lastHeld t_lastLeft t_lastCode t_writtenLong t_codeMany t_acts t_done0 t_stoppedAt, ic E (r_t 0) 800 f2]) (hm_runV (rest := []) hx hb hml hown X hA Y w 0 (ci := 7) (T := TX8) (N := 55) rfl rfl mw_X8_put ml_X8_119 dX8_layBit_15 hm_ac0 [.int (21 + a1), .int a3] rfl [0, 1] rfl rfl (ct_X8_put l E H.size h0 r_t t_base t_taped t_at t_faultPlace t_number t_newBits t_newTold t_newDoings t_newThings t_opened t_sum t_heldAll t_onPaper t_turned t_wasConverted t_lastBits t_lastSum t_lastHeld t_lastLeft t_lastCode t_writtenLong t_codeMany t_acts t_done0 t_stoppedAt f1 (21 + a1) a3 f2 hc15) rfl hl.1 ⟨⟨rfl, rfl⟩, ⟨Nat.le_of_ble_eq_true rfl, Nat.le_of_ble_eq_true rfl⟩, ⟨Nat.le_of_ble_eq_true rfl, Nat.le_of_ble_eq_true rfl⟩, Nat.le_of_ble_eq_true rfl⟩) hA w [0, 1] [] [0, 1] rfl rfl (by decide) (fun _ => rfl) (fun _ H locs w => ?_)
  refine lv_aload_n hx hb dX8_layBit_18 rfl (lv_at hl 0 rfl) ?_
  refine lv_bipush (v := 33) hx hb dX8_layBit_19 (by decide) ?_
  refine lv_iload_n hx hb dX8_layBit_21 rfl (lv_at hl 1 rfl) ?_
  refine lv_iadd hx hb dX8_layBit_22 ?_
  refine lv_iload_n hx hb dX8_layBit_23 rfl (lv_at hl 2 rfl) ?_
  obtain ⟨f3, hc24, hf⟩ := pf_bv_1 hf
  refine hm_aft_v (ws' := fun _ => [oc8 h0 r_t t_base t_taped t_at t_faultPlace t_number t_newBits t_newTold t_newDoings t_newThings t_opened t_sum t_heldAll t_onPaper t_turned t_wasConverted t_lastBits t_lastSum t_lastHeld t_lastLeft t_lastCode t_writtenLong t_codeMany t_acts t_done0 t_stoppedAt, ic E (r_t 0) 800 f3]) (hm_runV (rest := []) hx hb hml hown X hA Y w 0 (ci := 7) (T := TX8) (N := 55) rfl rfl mw_X8_put ml_X8_119 dX8_layBit_24 hm_ac0 [.int (33 + a1), .int a2] rfl [0, 1] rfl rfl (ct_X8_put l E H.size h0 r_t t_base t_taped t_at t_faultPlace t_number t_newBits t_newTold t_newDoings t_newThings t_opened t_sum t_heldAll t_onPaper t_turned t_wasConverted t_lastBits t_lastSum t_lastHeld t_lastLeft t_lastCode t_writtenLong t_codeMany t_acts t_done0 t_stoppedAt f2 (33 + a1) a2 f3 hc24) rfl hl.1 ⟨⟨rfl, rfl⟩, ⟨Nat.le_of_ble_eq_true rfl, Nat.le_of_ble_eq_true rfl⟩, ⟨Nat.le_of_ble_eq_true rfl, Nat.le_of_ble_eq_true rfl⟩, Nat.le_of_ble_eq_true rfl⟩) hA w [0, 1] [] [0, 1] rfl rfl (by decide) (fun _ => rfl) (fun _ H locs w => ?_)
  refine lv_aload_n hx hb dX8_layBit_27 rfl (lv_at hl 0 rfl) ?_
  refine lv_bipush (v := 45) hx hb dX8_layBit_28 (by decide) ?_
  refine lv_iload_n hx hb dX8_layBit_30 rfl (lv_at hl 1 rfl) ?_
  refine lv_iadd hx hb dX8_layBit_31 ?_
  refine lv_iconst (v := (-1)) hx hb dX8_layBit_32 (by decide) ?_
  obtain ⟨f4, hc33, hf⟩ := pf_bv_1 hf
  refine hm_aft_v (ws' := fun _ => [oc8 h0 r_t t_base t_taped t_at t_faultPlace t_number t_newBits t_newTold t_newDoings t_newThings t_opened t_sum t_heldAll t_onPaper t_turned t_wasConverted t_lastBits t_lastSum t_lastHeld t_lastLeft t_lastCode t_writtenLong t_codeMany t_acts t_done0 t_stoppedAt, ic E (r_t 0) 800 f4]) (hm_runV (rest := []) hx hb hml hown X hA Y w 0 (ci := 7) (T := TX8) (N := 55) rfl rfl mw_X8_put ml_X8_119 dX8_layBit_33 hm_ac0 [.int (45 + a1), .int (-1)] rfl [0, 1] rfl rfl (ct_X8_put l E H.size h0 r_t t_base t_taped t_at t_faultPlace t_number t_newBits t_newTold t_newDoings t_newThings t_opened t_sum t_heldAll t_onPaper t_turned t_wasConverted t_lastBits t_lastSum t_lastHeld t_lastLeft t_lastCode t_writtenLong t_codeMany t_acts t_done0 t_stoppedAt f3 (45 + a1) (-1) f4 hc33) rfl hl.1 ⟨⟨rfl, rfl⟩, ⟨Nat.le_of_ble_eq_true rfl, Nat.le_of_ble_eq_true rfl⟩, ⟨Nat.le_of_ble_eq_true rfl, Nat.le_of_ble_eq_true rfl⟩, Nat.le_of_ble_eq_true rfl⟩) hA w [0, 1] [] [0, 1] rfl rfl (by decide) (fun _ => rfl) (fun _ H locs w => ?_)
  exact hQ _ _ _ _ f4 (fun _ => 0) hf w dX8_layBit_36
set_option maxHeartbeats 8000000 in
set_option maxRecDepth 100000 in
theorem ct_X8_text (l : Launch) (E : hm_E) (sz : Nat) (h0 : Nat) (r_t : Nat → Nat) (t_base t_taped t_at t_faultPlace t_number t_newBits t_newTold t_newDoings t_newThings t_opened t_sum t_heldAll t_onPaper t_turned t_wasConverted t_lastBits t_lastSum t_lastHeld t_lastLeft t_lastCode t_writtenLong t_codeMany t_acts t_done0 t_stoppedAt : Int32) (t_all : Nat → Int32) (t_lows : Nat → Int32) (t_newOff : Nat → Int32) (t_newRule : Nat → Int32) (t_newSize : Nat → Int32) (t_tape : Nat → Int32) (t_tops : Nat → Int32) (R : Int32 × (Nat → Int32) × Int32 × Int32 × Int32 × Int32 × (Nat → Int32) × (Nat → Int32) × (Nat → Int32) × Int32 × Int32 × Int32) (hf : pf_X8_text t_all t_base t_tape t_taped t_number t_lows t_tops t_newSize t_newOff t_newRule t_wasConverted = some R) : hm_Mi l E yX8_text cX8_text 3 .int [] (hm_rr 6 129 0 0) [.ref h0] sz [oc8 h0 r_t t_base t_taped t_at t_faultPlace t_number t_newBits t_newTold t_newDoings t_newThings t_opened t_sum t_heldAll t_onPaper t_turned t_wasConverted t_lastBits t_lastSum t_lastHeld t_lastLeft t_lastCode t_writtenLong t_codeMany t_acts t_done0 t_stoppedAt, ic E (r_t 0) 800 t_all, ic E (r_t 7) 5 t_lows, ic E (r_t 10) 12 t_newOff, ic E (r_t 11) 5 t_newRule, ic E (r_t 9) 12 t_newSize, bc E (r_t 2) 400 t_tape, ic E (r_t 8) 5 t_tops] R.1 (fun _ => [oc8 h0 r_t t_base (R.2.2.1) (R.2.2.2.1) (R.2.2.2.2.1) (R.2.2.2.2.2.1) (R.2.2.2.2.2.2.2.2.2.1) (R.2.2.2.2.2.2.2.2.2.2.1) t_newDoings t_newThings t_opened t_sum t_heldAll t_onPaper t_turned (R.2.2.2.2.2.2.2.2.2.2.2) t_lastBits t_lastSum t_lastHeld t_lastLeft t_lastCode t_writtenLong t_codeMany t_acts t_done0 t_stoppedAt, ic E (r_t 0) 800 (R.2.1), ic E (r_t 7) 5 t_lows, ic E (r_t 10) 12 (R.2.2.2.2.2.2.2.1), ic E (r_t 11) 5 (R.2.2.2.2.2.2.2.2.1), ic E (r_t 9) 12 (R.2.2.2.2.2.2.1), bc E (r_t 2) 400 t_tape, ic E (r_t 8) 5 t_tops]) := by
  refine hm_ct_i R (fun u _ => [oc8 h0 r_t t_base (u.2.1) (u.2.2.1) (u.2.2.2.1) (u.2.2.2.2.1) (u.2.2.2.2.2.2.2.2.1) (u.2.2.2.2.2.2.2.2.2.1) t_newDoings t_newThings t_opened t_sum t_heldAll t_onPaper t_turned (u.2.2.2.2.2.2.2.2.2.2) t_lastBits t_lastSum t_lastHeld t_lastLeft t_lastCode t_writtenLong t_codeMany t_acts t_done0 t_stoppedAt, ic E (r_t 0) 800 (u.1), ic E (r_t 7) 5 t_lows, ic E (r_t 10) 12 (u.2.2.2.2.2.2.1), ic E (r_t 11) 5 (u.2.2.2.2.2.2.2.1), ic E (r_t 9) 12 (u.2.2.2.2.2.1), bc E (r_t 2) 400 t_tape, ic E (r_t 8) 5 t_tops]) (by decide) (Nat.le_of_ble_eq_true rfl) (Or.inl rfl) ?_
  intro p e s m args below meth c A Q ls H locs hx hb hml hown X hA Y hex w hl hQ
  have hl : lv_has ls 3 [(0, .ref h0)] := hl
  unfold pf_X8_text at hf
  refine lv_aload_n hx hb dX8_text_0 rfl (lv_at hl 0 rfl) ?_
  obtain ⟨r1, x2, x3, x4, f5, f6, f7, x8, x9, hc1, hf⟩ := pf_bi_8 hf
  refine hm_aft_i (ws' := fun _ => [oc8 h0 r_t t_base t_taped x2 x3 x4 x8 x9 t_newDoings t_newThings t_opened t_sum t_heldAll t_onPaper t_turned t_wasConverted t_lastBits t_lastSum t_lastHeld t_lastLeft t_lastCode t_writtenLong t_codeMany t_acts t_done0 t_stoppedAt, ic E (r_t 0) 800 t_all, ic E (r_t 7) 5 t_lows, ic E (r_t 10) 12 f6, ic E (r_t 11) 5 f7, ic E (r_t 9) 12 f5, bc E (r_t 2) 400 t_tape, ic E (r_t 8) 5 t_tops]) (hm_runV (rest := []) hx hb hml hown X hA Y w 0 (ci := 7) (T := TX8) (N := 55) rfl rfl mw_X8_readText ml_X8_174 dX8_text_1 hm_ac0 [] rfl [0, 2, 3, 4, 5, 6, 7] rfl rfl (ct_X8_readText l E H.size h0 r_t t_base t_taped t_at t_faultPlace t_number t_newBits t_newTold t_newDoings t_newThings t_opened t_sum t_heldAll t_onPaper t_turned t_wasConverted t_lastBits t_lastSum t_lastHeld t_lastLeft t_lastCode t_writtenLong t_codeMany t_acts t_done0 t_stoppedAt t_lows t_newOff t_newRule t_newSize t_tape t_tops (r1, x2, x3, x4, f5, f6, f7, x8, x9) hc1) rfl hl.1 ⟨⟨rfl, rfl⟩, ⟨Nat.le_of_ble_eq_true rfl, Nat.le_of_ble_eq_true rfl⟩, ⟨Nat.le_of_ble_eq_true rfl, Nat.le_of_ble_eq_true rfl⟩, Nat.le_of_ble_eq_true rfl⟩) hA w [0, 2, 3, 4, 5, 6, 7] [1] [1, 0, 2, 3, 4, 5, 6, 7] rfl rfl (by decide) (fun _ => rfl) (fun _ H locs w => ?_)
  refine lv_istore_n (lv' := [(1, .int r1), (0, .ref h0)]) hx hb dX8_text_4 rfl hl (by decide) rfl (fun ls hl => ?_)
  refine lv_aload_n hx hb dX8_text_5 rfl (lv_at hl 1 rfl) ?_
  refine lv_iconst (v := 0) hx hb dX8_text_6 (by decide) ?_
  refine hm_put (ws' := [oc8 h0 r_t t_base 0 x2 x3 x4 x8 x9 t_newDoings t_newThings t_opened t_sum t_heldAll t_onPaper t_turned t_wasConverted t_lastBits t_lastSum t_lastHeld t_lastLeft t_lastCode t_writtenLong t_codeMany t_acts t_done0 t_stoppedAt, ic E (r_t 0) 800 t_all, ic E (r_t 7) 5 t_lows, ic E (r_t 10) 12 f6, ic E (r_t 11) 5 f7, ic E (r_t 9) 12 f5, bc E (r_t 2) 400 t_tape, ic E (r_t 8) 5 t_tops]) cb_X8 hx hb hown X w 0 3 fl_X8_122 dX8_text_7 rfl (by decide) (Nat.le_of_ble_eq_true rfl) rfl rfl rfl rfl (fun H locs w => ?_)
  refine lv_iload_n hx hb dX8_text_10 rfl (lv_at hl 0 rfl) ?_
  refine lv_if_ne (tgt := 16) hx hb dX8_text_11 (by decide) (fun c11 => ?_) (fun c11 => ?_)
  · have hf := pf_e c11 hf
    refine lv_aload_n hx hb dX8_text_16 rfl (lv_at hl 1 rfl) ?_
    refine lv_iconst (v := 0) hx hb dX8_text_17 (by decide) ?_
    refine lv_aload_n hx hb dX8_text_18 rfl (lv_at hl 1 rfl) ?_
    refine hm_get cb_X8 hx hb hown X w 0 12 fl_X8_154 dX8_text_19 rfl (by decide) rfl ?_
    obtain ⟨f10, hc22, hf⟩ := pf_bv_1 hf
    refine hm_aft_v (ws' := fun _ => [oc8 h0 r_t t_base 0 x2 x3 x4 x8 x9 t_newDoings t_newThings t_opened t_sum t_heldAll t_onPaper t_turned t_wasConverted t_lastBits t_lastSum t_lastHeld t_lastLeft t_lastCode t_writtenLong t_codeMany t_acts t_done0 t_stoppedAt, ic E (r_t 0) 800 f10, ic E (r_t 7) 5 t_lows, ic E (r_t 10) 12 f6, ic E (r_t 11) 5 f7, ic E (r_t 9) 12 f5, bc E (r_t 2) 400 t_tape, ic E (r_t 8) 5 t_tops]) (hm_runV (rest := []) hx hb hml hown X hA Y w 0 (ci := 7) (T := TX8) (N := 55) rfl rfl mw_X8_put ml_X8_119 dX8_text_22 hm_ac0 [.int 0, .int x8] rfl [0, 1] rfl rfl (ct_X8_put l E H.size h0 r_t t_base 0 x2 x3 x4 x8 x9 t_newDoings t_newThings t_opened t_sum t_heldAll t_onPaper t_turned t_wasConverted t_lastBits t_lastSum t_lastHeld t_lastLeft t_lastCode t_writtenLong t_codeMany t_acts t_done0 t_stoppedAt t_all 0 x8 f10 hc22) rfl hl.1 ⟨⟨rfl, rfl⟩, ⟨Nat.le_of_ble_eq_true rfl, Nat.le_of_ble_eq_true rfl⟩, ⟨Nat.le_of_ble_eq_true rfl, Nat.le_of_ble_eq_true rfl⟩, Nat.le_of_ble_eq_true rfl⟩) hA w [0, 1] [2, 3, 4, 5, 6, 7] [6, 7, 0, 1, 2, 3, 4, 5] rfl rfl (by decide) (fun _ => rfl) (fun _ H locs w => ?_)
    refine lv_iconst (v := 0) hx hb dX8_text_25 (by decide) ?_
    refine lv_istore_n (lv' := [(2, .int 0), (1, .int r1), (0, .ref h0)]) hx hb dX8_text_26 rfl hl (by decide) rfl (fun ls hl => ?_)
    have klp_X8_text_27 : ∀ (n : Nat) (x11 : Int32) (f12 : Nat → Int32) (H : Heap) (locs : List Loc) (ls : Array Slot), lp_X8_text_27 t_base x2 x3 x4 f5 f6 f7 x8 x9 n x11 f12 = some R → hm_W E A s.heap [oc8 h0 r_t t_base 0 x2 x3 x4 x8 x9 t_newDoings t_newThings t_opened t_sum t_heldAll t_onPaper t_turned t_wasConverted t_lastBits t_lastSum t_lastHeld t_lastLeft t_lastCode t_writtenLong t_codeMany t_acts t_done0 t_stoppedAt, ic E (r_t 0) 800 f12, ic E (r_t 7) 5 t_lows, ic E (r_t 10) 12 f6, ic E (r_t 11) 5 f7, ic E (r_t 9) 12 f5, bc E (r_t 2) 400 t_tape, ic E (r_t 8) 5 t_tops] H locs → lv_has ls 3 [(0, .ref h0), (2, .int x11)] → W p l e (hm_rr 6 129 0 0) s m args below meth c H locs 0 0 Q (F0 m 27 ls []) := by
      intro n
      induction n with
      | zero =>
        intro x11 f12 H locs ls hf w hl
        exact pf_no hf
      | succ n ih27 =>
        intro x11 f12 H locs ls hf w hl
        rw [lp_X8_text_27] at hf
        refine lv_iload_n hx hb dX8_text_27 rfl (lv_at hl 1 rfl) ?_
        refine lv_iconst (v := 5) hx hb dX8_text_28 (by decide) ?_
        refine lv_icmp_ge (tgt := 51) hx hb dX8_text_29 (by decide) (fun c29 => ?_) (fun c29 => ?_)
        · have hf := pf_t c29 hf
          refine lv_iconst (v := 0) hx hb dX8_text_51 (by decide) ?_
          refine lv_istore_n (lv' := [(2, .int 0), (0, .ref h0)]) hx hb dX8_text_52 rfl hl (by decide) rfl (fun ls hl => ?_)
          obtain ⟨J84, hJ84, hf⟩ := pf_jn hf
          have kJ84 : ∀ (f13 : Nat → Int32) (H : Heap) (locs : List Loc) (ls : Array Slot), J84 f13 = some R → hm_W E A s.heap [oc8 h0 r_t t_base 0 x2 x3 x4 x8 x9 t_newDoings t_newThings t_opened t_sum t_heldAll t_onPaper t_turned 0 t_lastBits t_lastSum t_lastHeld t_lastLeft t_lastCode t_writtenLong t_codeMany t_acts t_done0 t_stoppedAt, ic E (r_t 0) 800 f14, ic E (r_t 7) 5 t_lows, ic E (r_t 10) 12 f6, ic E (r_t 11) 5 f7, ic E (r_t 9) 12 f5, bc E (r_t 2) 400 t_tape, ic E (r_t 8) 5 t_tops] H locs → lv_has ls 3 [(0, .ref h0)] → W p l e (hm_rr 6 129 0 0) s m args below meth c H locs 0 0 Q (F0 m 84 ls []) := by
            intro f13 H locs ls hf w hl
            have hf := pf_j1 hJ84 hf
            refine lv_aload_n hx hb dX8_text_84 rfl (lv_at hl 0 rfl) ?_
            refine lv_bipush (v := 57) hx hb dX8_text_85 (by decide) ?_
            refine lv_iconst (v := 0) hx hb dX8_text_87 (by decide) ?_
            obtain ⟨f14, hc88, hf⟩ := pf_bv_1 hf
            refine hm_aft_v (ws' := fun _ => [oc8 h0 r_t t_base 0 x2 x3 x4 x8 x9 t_newDoings t_newThings t_opened t_sum t_heldAll t_onPaper t_turned t_wasConverted t_lastBits t_lastSum t_lastHeld t_lastLeft t_lastCode t_writtenLong t_codeMany t_acts t_done0 t_stoppedAt, ic E (r_t 0) 800 f14, ic E (r_t 7) 5 t_lows, ic E (r_t 10) 12 f6, ic E (r_t 11) 5 f7, ic E (r_t 9) 12 f5, bc E (r_t 2) 400 t_tape, ic E (r_t 8) 5 t_tops]) (hm_runV (rest := []) hx hb hml hown X hA Y w 0 (ci := 7) (T := TX8) (N := 55) rfl rfl mw_X8_put ml_X8_119 dX8_text_88 hm_ac0 [.int 57, .int 0] rfl [0, 1] rfl rfl (ct_X8_put l E H.size h0 r_t t_base 0 x2 x3 x4 x8 x9 t_newDoings t_newThings t_opened t_sum t_heldAll t_onPaper t_turned t_wasConverted t_lastBits t_lastSum t_lastHeld t_lastLeft t_lastCode t_writtenLong t_codeMany t_acts t_done0 t_stoppedAt f13 57 0 f14 hc88) rfl hl.1 ⟨⟨rfl, rfl⟩, ⟨Nat.le_of_ble_eq_true rfl, Nat.le_of_ble_eq_true rfl⟩, ⟨Nat.le_of_ble_eq_true rfl, Nat.le_of_ble_eq_true rfl⟩, Nat.le_of_ble_eq_true rfl⟩) hA w [0, 1] [2, 3, 4, 5, 6, 7] [6, 7, 0, 1, 2, 3, 4, 5] rfl rfl (by decide) (fun _ => rfl) (fun _ H locs w => ?_)
            refine lv_aload_n hx hb dX8_text_91 rfl (lv_at hl 0 rfl) ?_
            refine lv_iconst (v := 0) hx hb dX8_text_92 (by decide) ?_
            refine hm_put (ws' := [oc8 h0 r_t t_base 0 x2 x3 x4 x8 x9 t_newDoings t_newThings t_opened t_sum t_heldAll t_onPaper t_turned 0 t_lastBits t_lastSum t_lastHeld t_lastLeft t_lastCode t_writtenLong t_codeMany t_acts t_done0 t_stoppedAt, ic E (r_t 0) 800 f14, ic E (r_t 7) 5 t_lows, ic E (r_t 10) 12 f6, ic E (r_t 11) 5 f7, ic E (r_t 9) 12 f5, bc E (r_t 2) 400 t_tape, ic E (r_t 8) 5 t_tops]) cb_X8 hx hb hown X w 0 33 fl_X8_181 dX8_text_93 rfl (by decide) (Nat.le_of_ble_eq_true rfl) rfl rfl rfl rfl (fun H locs w => ?_)
            refine lv_aload_n hx hb dX8_text_96 rfl (lv_at hl 0 rfl) ?_
            refine hm_get cb_X8 hx hb hown X w 0 12 fl_X8_154 dX8_text_97 rfl (by decide) rfl ?_
            exact hQ _ _ _ _ _ (f14, 0, x2, x3, x4, f5, f6, f7, x8, x9, 0) (fun _ => 0) hf rfl w dX8_text_100
          have klp_X8_text_53 : ∀ (n : Nat) (x15 : Int32) (f16 : Nat → Int32) (H : Heap) (locs : List Loc) (ls : Array Slot), lp_X8_text_53 t_base f5 f6 x8 J84 n x15 f16 = some R → hm_W E A s.heap [oc8 h0 r_t t_base 0 x2 x3 x4 x8 x9 t_newDoings t_newThings t_opened t_sum t_heldAll t_onPaper t_turned t_wasConverted t_lastBits t_lastSum t_lastHeld t_lastLeft t_lastCode t_writtenLong t_codeMany t_acts t_done0 t_stoppedAt, ic E (r_t 0) 800 f16, ic E (r_t 7) 5 t_lows, ic E (r_t 10) 12 f6, ic E (r_t 11) 5 f7, ic E (r_t 9) 12 f5, bc E (r_t 2) 400 t_tape, ic E (r_t 8) 5 t_tops] H locs → lv_has ls 3 [(0, .ref h0), (2, .int x15)] → W p l e (hm_rr 6 129 0 0) s m args below meth c H locs 0 0 Q (F0 m 53 ls []) := by
            intro n
            induction n with
            | zero =>
              intro x15 f16 H locs ls hf w hl
              exact pf_no hf
            | succ n ih53 =>
              intro x15 f16 H locs ls hf w hl
              rw [lp_X8_text_53] at hf
              refine lv_iload_n hx hb dX8_text_53 rfl (lv_at hl 1 rfl) ?_
              refine lv_aload_n hx hb dX8_text_54 rfl (lv_at hl 0 rfl) ?_
              refine hm_get cb_X8 hx hb hown X w 0 12 fl_X8_154 dX8_text_55 rfl (by decide) rfl ?_
              refine lv_icmp_ge (tgt := 84) hx hb dX8_text_58 (by decide) (fun c58 => ?_) (fun c58 => ?_)
              · have hf := pf_t c58 hf
                exact kJ84 _ _ _ _ hf w (lv_sub hl [0] rfl)
              · have hf := pf_e c58 hf
                refine lv_aload_n hx hb dX8_text_61 rfl (lv_at hl 0 rfl) ?_
                refine lv_iload_n hx hb dX8_text_62 rfl (lv_at hl 1 rfl) ?_
                refine lv_aload_n hx hb dX8_text_63 rfl (lv_at hl 0 rfl) ?_
                refine hm_get cb_X8 hx hb hown X w 0 9 fl_X8_34 dX8_text_64 rfl (by decide) rfl ?_
                refine lv_iload_n hx hb dX8_text_67 rfl (lv_at hl 1 rfl) ?_
                obtain ⟨g68, hf⟩ := pf_ckI hf
                refine hm_iald hx hb X w 5 dX8_text_68 rfl g68 ?_
                refine lv_aload_n hx hb dX8_text_69 rfl (lv_at hl 0 rfl) ?_
                refine hm_get cb_X8 hx hb hown X w 0 10 fl_X8_37 dX8_text_70 rfl (by decide) rfl ?_
                refine lv_iload_n hx hb dX8_text_73 rfl (lv_at hl 1 rfl) ?_
                obtain ⟨g74, hf⟩ := pf_ckI hf
                refine hm_iald hx hb X w 3 dX8_text_74 rfl g74 ?_
                obtain ⟨f17, hc75, hf⟩ := pf_bv_1 hf
                refine hm_aft_v (ws' := fun _ => [oc8 h0 r_t t_base 0 x2 x3 x4 x8 x9 t_newDoings t_newThings t_opened t_sum t_heldAll t_onPaper t_turned t_wasConverted t_lastBits t_lastSum t_lastHeld t_lastLeft t_lastCode t_writtenLong t_codeMany t_acts t_done0 t_stoppedAt, ic E (r_t 0) 800 f17, ic E (r_t 7) 5 t_lows, ic E (r_t 10) 12 f6, ic E (r_t 11) 5 f7, ic E (r_t 9) 12 f5, bc E (r_t 2) 400 t_tape, ic E (r_t 8) 5 t_tops]) (hm_runV (rest := []) hx hb hml hown X hA Y w 0 (ci := 7) (T := TX8) (N := 55) rfl rfl mw_X8_layBit ml_X8_177 dX8_text_75 hm_ac0 [.int x15, .int (f5 x15.toNatClampNeg), .int (f6 x15.toNatClampNeg)] rfl [0, 1] rfl rfl (ct_X8_layBit l E H.size h0 r_t t_base 0 x2 x3 x4 x8 x9 t_newDoings t_newThings t_opened t_sum t_heldAll t_onPaper t_turned t_wasConverted t_lastBits t_lastSum t_lastHeld t_lastLeft t_lastCode t_writtenLong t_codeMany t_acts t_done0 t_stoppedAt f16 x15 (f5 x15.toNatClampNeg) (f6 x15.toNatClampNeg) f17 hc75) rfl hl.1 ⟨⟨rfl, rfl⟩, ⟨Nat.le_of_ble_eq_true rfl, Nat.le_of_ble_eq_true rfl⟩, ⟨Nat.le_of_ble_eq_true rfl, Nat.le_of_ble_eq_true rfl⟩, Nat.le_of_ble_eq_true rfl⟩) hA w [0, 1] [2, 3, 4, 5, 6, 7] [6, 7, 0, 1, 2, 3, 4, 5] rfl rfl (by decide) (fun _ => rfl) (fun _ H locs w => ?_)
                obtain ⟨x18, ex18⟩ : ∃ y : Int32, y = (x15 + 1) := ⟨_, rfl⟩
                have hf := pf_nm ex18 hf
                refine lv_iinc (v := x18) (lv' := [(2, .int x18), (0, .ref h0)]) hx hb dX8_text_78 hl (k := 1) rfl (by rw [ex18]; rfl) (by decide) rfl (fun ls hl => ?_)
                refine lv_goto (tgt := 53) hx hb dX8_text_81 (by decide) ?_
                exact ih53 _ _ _ _ _ hf w (lv_sub hl [1, 0] rfl)
          exact klp_X8_text_53 FU _ _ _ _ _ hf w (lv_sub hl [1, 0] rfl)
        · have hf := pf_e c29 hf
          refine lv_aload_n hx hb dX8_text_32 rfl (lv_at hl 0 rfl) ?_
          refine lv_iconst (v := 1) hx hb dX8_text_33 (by decide) ?_
          refine lv_iload_n hx hb dX8_text_34 rfl (lv_at hl 1 rfl) ?_
          refine lv_iadd hx hb dX8_text_35 ?_
          refine lv_aload_n hx hb dX8_text_36 rfl (lv_at hl 0 rfl) ?_
          refine hm_get cb_X8 hx hb hown X w 0 11 fl_X8_40 dX8_text_37 rfl (by decide) rfl ?_
          refine lv_iload_n hx hb dX8_text_40 rfl (lv_at hl 1 rfl) ?_
          obtain ⟨g41, hf⟩ := pf_ckI hf
          refine hm_iald hx hb X w 4 dX8_text_41 rfl g41 ?_
          obtain ⟨f19, hc42, hf⟩ := pf_bv_1 hf
          refine hm_aft_v (ws' := fun _ => [oc8 h0 r_t t_base 0 x2 x3 x4 x8 x9 t_newDoings t_newThings t_opened t_sum t_heldAll t_onPaper t_turned t_wasConverted t_lastBits t_lastSum t_lastHeld t_lastLeft t_lastCode t_writtenLong t_codeMany t_acts t_done0 t_stoppedAt, ic E (r_t 0) 800 f19, ic E (r_t 7) 5 t_lows, ic E (r_t 10) 12 f6, ic E (r_t 11) 5 f7, ic E (r_t 9) 12 f5, bc E (r_t 2) 400 t_tape, ic E (r_t 8) 5 t_tops]) (hm_runV (rest := []) hx hb hml hown X hA Y w 0 (ci := 7) (T := TX8) (N := 55) rfl rfl mw_X8_put ml_X8_119 dX8_text_42 hm_ac0 [.int (1 + x11), .int (f7 x11.toNatClampNeg)] rfl [0, 1] rfl rfl (ct_X8_put l E H.size h0 r_t t_base 0 x2 x3 x4 x8 x9 t_newDoings t_newThings t_opened t_sum t_heldAll t_onPaper t_turned t_wasConverted t_lastBits t_lastSum t_lastHeld t_lastLeft t_lastCode t_writtenLong t_codeMany t_acts t_done0 t_stoppedAt f12 (1 + x11) (f7 x11.toNatClampNeg) f19 hc42) rfl hl.1 ⟨⟨rfl, rfl⟩, ⟨Nat.le_of_ble_eq_true rfl, Nat.le_of_ble_eq_true rfl⟩, ⟨Nat.le_of_ble_eq_true rfl, Nat.le_of_ble_eq_true rfl⟩, Nat.le_of_ble_eq_true rfl⟩) hA w [0, 1] [2, 3, 4, 5, 6, 7] [6, 7, 0, 1, 2, 3, 4, 5] rfl rfl (by decide) (fun _ => rfl) (fun _ H locs w => ?_)
          obtain ⟨x20, ex20⟩ : ∃ y : Int32, y = (x11 + 1) := ⟨_, rfl⟩
          have hf := pf_nm ex20 hf
          refine lv_iinc (v := x20) (lv' := [(2, .int x20), (0, .ref h0)]) hx hb dX8_text_45 hl (k := 1) rfl (by rw [ex20]; rfl) (by decide) rfl (fun ls hl => ?_)
          refine lv_goto (tgt := 27) hx hb dX8_text_48 (by decide) ?_
          exact ih27 _ _ _ _ _ hf w (lv_sub hl [1, 0] rfl)
    exact klp_X8_text_27 FU _ _ _ _ _ hf w (lv_sub hl [2, 0] rfl)
  · have hf := pf_t c11 hf
    refine lv_iconst (v := (-1)) hx hb dX8_text_14 (by decide) ?_
    exact hQ _ _ _ _ _ (t_all, 0, x2, x3, x4, f5, f6, f7, x8, x9, t_wasConverted) (fun _ => 0) hf rfl w dX8_text_15
set_option maxHeartbeats 8000000 in
set_option maxRecDepth 100000 in
theorem ct_X8_fault (l : Launch) (E : hm_E) (sz : Nat) (h0 : Nat) (r_t : Nat → Nat) (t_base t_taped t_at t_faultPlace t_number t_newBits t_newTold t_newDoings t_newThings t_opened t_sum t_heldAll t_onPaper t_turned t_wasConverted t_lastBits t_lastSum t_lastHeld t_lastLeft t_lastCode t_writtenLong t_codeMany t_acts t_done0 t_stoppedAt : Int32) (R : Int32 × Unit) (hf : pf_X8_fault t_faultPlace = some R) : hm_Mi l E yX8_fault cX8_fault 1 .int [] (hm_rr 0 0 0 0) [.ref h0] sz [oc8 h0 r_t t_base t_taped t_at t_faultPlace t_number t_newBits t_newTold t_newDoings t_newThings t_opened t_sum t_heldAll t_onPaper t_turned t_wasConverted t_lastBits t_lastSum t_lastHeld t_lastLeft t_lastCode t_writtenLong t_codeMany t_acts t_done0 t_stoppedAt] R.1 (fun _ => [oc8 h0 r_t t_base t_taped t_at t_faultPlace t_number t_newBits t_newTold t_newDoings t_newThings t_opened t_sum t_heldAll t_onPaper t_turned t_wasConverted t_lastBits t_lastSum t_lastHeld t_lastLeft t_lastCode t_writtenLong t_codeMany t_acts t_done0 t_stoppedAt]) := by
  refine hm_ct_i R (fun u _ => [oc8 h0 r_t t_base t_taped t_at t_faultPlace t_number t_newBits t_newTold t_newDoings t_newThings t_opened t_sum t_heldAll t_onPaper t_turned t_wasConverted t_lastBits t_lastSum t_lastHeld t_lastLeft t_lastCode t_writtenLong t_codeMany t_acts t_done0 t_stoppedAt]) (by decide) (Nat.le_of_ble_eq_true rfl) (Or.inl rfl) ?_
  intro p e s m args below meth c A Q ls H locs hx hb hml hown X hA Y hex w hl hQ
  have hl : lv_has ls 1 [(0, .ref h0)] := hl
  unfold pf_X8_fault at hf
  refine lv_aload_n hx hb dX8_fault_0 rfl (lv_at hl 0 rfl) ?_
  refine hm_get cb_X8 hx hb hown X w 0 5 fl_X8_25 dX8_fault_1 rfl (by decide) rfl ?_
  exact hQ _ _ _ _ _ () (fun _ => 0) hf rfl w dX8_fault_4
set_option maxHeartbeats 8000000 in
set_option maxRecDepth 100000 in
theorem ct_X8_does (l : Launch) (E : hm_E) (sz : Nat) (h0 : Nat) (r_t : Nat → Nat) (t_base t_taped t_at t_faultPlace t_number t_newBits t_newTold t_newDoings t_newThings t_opened t_sum t_heldAll t_onPaper t_turned t_wasConverted t_lastBits t_lastSum t_lastHeld t_lastLeft t_lastCode t_writtenLong t_codeMany t_acts t_done0 t_stoppedAt : Int32) (t_newDoing : Nat → Int32) (a1 : Int32) (R : (Nat → Int32) × Int32) (hf : pf_X8_does a1 t_newDoing t_newDoings = some R) : hm_Mv l E yX8_does cX8_does 2 [] (hm_rr 0 0 0 0) [.ref h0, .int a1] sz [oc8 h0 r_t t_base t_taped t_at t_faultPlace t_number t_newBits t_newTold t_newDoings t_newThings t_opened t_sum t_heldAll t_onPaper t_turned t_wasConverted t_lastBits t_lastSum t_lastHeld t_lastLeft t_lastCode t_writtenLong t_codeMany t_acts t_done0 t_stoppedAt, ic E (r_t 14) 84 t_newDoing] (fun _ => [oc8 h0 r_t t_base t_taped t_at t_faultPlace t_number t_newBits t_newTold (R.2) t_newThings t_opened t_sum t_heldAll t_onPaper t_turned t_wasConverted t_lastBits t_lastSum t_lastHeld t_lastLeft t_lastCode t_writtenLong t_codeMany t_acts t_done0 t_stoppedAt, ic E (r_t 14) 84 (R.1)]) := by
  refine hm_ct_v R (fun u _ => [oc8 h0 r_t t_base t_taped t_at t_faultPlace t_number t_newBits t_newTold (u.2) t_newThings t_opened t_sum t_heldAll t_onPaper t_turned t_wasConverted t_lastBits t_lastSum t_lastHeld t_lastLeft t_lastCode t_writtenLong t_codeMany t_acts t_done0 t_stoppedAt, ic E (r_t 14) 84 (u.1)]) (by decide) (Nat.le_of_ble_eq_true rfl) ?_
  intro p e s m args below meth c A Q ls H locs hx hb hml hown X hA Y hex hin w hl hQ
  have hl : lv_has ls 2 [(0, .ref h0), (1, .int a1)] := hl
  unfold pf_X8_does at hf
  refine lv_aload_n hx hb dX8_does_0 rfl (lv_at hl 0 rfl) ?_
  refine hm_get cb_X8 hx hb hown X w 0 14 fl_X8_43 dX8_does_1 rfl (by decide) rfl ?_
  refine lv_aload_n hx hb dX8_does_4 rfl (lv_at hl 0 rfl) ?_
  refine hm_get cb_X8 hx hb hown X w 0 15 fl_X8_185 dX8_does_5 rfl (by decide) rfl ?_
  refine lv_iload_n hx hb dX8_does_8 rfl (lv_at hl 1 rfl) ?_
  obtain ⟨g9, hf⟩ := pf_ckI hf
  refine hm_iast (ws' := [oc8 h0 r_t t_base t_taped t_at t_faultPlace t_number t_newBits t_newTold t_newDoings t_newThings t_opened t_sum t_heldAll t_onPaper t_turned t_wasConverted t_lastBits t_lastSum t_lastHeld t_lastLeft t_lastCode t_writtenLong t_codeMany t_acts t_done0 t_stoppedAt, ic E (r_t 14) 84 (upd t_newDoing t_newDoings.toNatClampNeg a1)]) hx hb X w 1 dX8_does_9 rfl g9 rfl (fun H locs w => ?_)
  refine lv_aload_n hx hb dX8_does_10 rfl (lv_at hl 0 rfl) ?_
  refine lv_dup hx hb dX8_does_11 rfl ?_
  refine hm_get cb_X8 hx hb hown X w 0 15 fl_X8_185 dX8_does_12 rfl (by decide) rfl ?_
  refine lv_iconst (v := 1) hx hb dX8_does_15 (by decide) ?_
  refine lv_iadd hx hb dX8_does_16 ?_
  refine lv_topi (fun x1 ex1 => ?_)
  have hf := pf_nm ex1 hf
  refine hm_put (ws' := [oc8 h0 r_t t_base t_taped t_at t_faultPlace t_number t_newBits t_newTold x1 t_newThings t_opened t_sum t_heldAll t_onPaper t_turned t_wasConverted t_lastBits t_lastSum t_lastHeld t_lastLeft t_lastCode t_writtenLong t_codeMany t_acts t_done0 t_stoppedAt, ic E (r_t 14) 84 (upd t_newDoing t_newDoings.toNatClampNeg a1)]) cb_X8 hx hb hown X w 0 15 fl_X8_185 dX8_does_17 rfl (by decide) (Nat.le_of_ble_eq_true rfl) rfl rfl rfl rfl (fun H locs w => ?_)
  exact hQ _ _ _ _ ((upd t_newDoing t_newDoings.toNatClampNeg a1), x1) (fun _ => 0) hf w dX8_does_20
set_option maxHeartbeats 8000000 in
set_option maxRecDepth 100000 in
theorem ct_X8_openOne (l : Launch) (E : hm_E) (sz : Nat) (h0 : Nat) (r_t : Nat → Nat) (t_base t_taped t_at t_faultPlace t_number t_newBits t_newTold t_newDoings t_newThings t_opened t_sum t_heldAll t_onPaper t_turned t_wasConverted t_lastBits t_lastSum t_lastHeld t_lastLeft t_lastCode t_writtenLong t_codeMany t_acts t_done0 t_stoppedAt : Int32) (t_open : Nat → Int32) (t_productSign : Nat → Int32) (t_stage : Nat → Int32) (t_sumSign : Nat → Int32) (a1 : Int32) (R : (Nat → Int32) × (Nat → Int32) × (Nat → Int32) × (Nat → Int32) × Int32) (hf : pf_X8_openOne a1 t_open t_stage t_sumSign t_productSign t_opened = some R) : hm_Mv l E yX8_openOne cX8_openOne 2 [] (hm_rr 0 0 0 0) [.ref h0, .int a1] sz [oc8 h0 r_t t_base t_taped t_at t_faultPlace t_number t_newBits t_newTold t_newDoings t_newThings t_opened t_sum t_heldAll t_onPaper t_turned t_wasConverted t_lastBits t_lastSum t_lastHeld t_lastLeft t_lastCode t_writtenLong t_codeMany t_acts t_done0 t_stoppedAt, ic E (r_t 17) 10 t_open, ic E (r_t 21) 10 t_productSign, ic E (r_t 18) 10 t_stage, ic E (r_t 20) 10 t_sumSign] (fun _ => [oc8 h0 r_t t_base t_taped t_at t_faultPlace t_number t_newBits t_newTold t_newDoings t_newThings (R.2.2.2.2) t_sum t_heldAll t_onPaper t_turned t_wasConverted t_lastBits t_lastSum t_lastHeld t_lastLeft t_lastCode t_writtenLong t_codeMany t_acts t_done0 t_stoppedAt, ic E (r_t 17) 10 (R.1), ic E (r_t 21) 10 (R.2.2.2.1), ic E (r_t 18) 10 (R.2.1), ic E (r_t 20) 10 (R.2.2.1)]) := by
  refine hm_ct_v R (fun u _ => [oc8 h0 r_t t_base t_taped t_at t_faultPlace t_number t_newBits t_newTold t_newDoings t_newThings (u.2.2.2.2) t_sum t_heldAll t_onPaper t_turned t_wasConverted t_lastBits t_lastSum t_lastHeld t_lastLeft t_lastCode t_writtenLong t_codeMany t_acts t_done0 t_stoppedAt, ic E (r_t 17) 10 (u.1), ic E (r_t 21) 10 (u.2.2.2.1), ic E (r_t 18) 10 (u.2.1), ic E (r_t 20) 10 (u.2.2.1)]) (by decide) (Nat.le_of_ble_eq_true rfl) ?_
  intro p e s m args below meth c A Q ls H locs hx hb hml hown X hA Y hex hin w hl hQ
  have hl : lv_has ls 2 [(0, .ref h0), (1, .int a1)] := hl
  unfold pf_X8_openOne at hf
  refine lv_aload_n hx hb dX8_openOne_0 rfl (lv_at hl 0 rfl) ?_
  refine lv_dup hx hb dX8_openOne_1 rfl ?_
  refine hm_get cb_X8 hx hb hown X w 0 22 fl_X8_188 dX8_openOne_2 rfl (by decide) rfl ?_
  refine lv_iconst (v := 1) hx hb dX8_openOne_5 (by decide) ?_
  refine lv_iadd hx hb dX8_openOne_6 ?_
  refine lv_topi (fun x1 ex1 => ?_)
  have hf := pf_nm ex1 hf
  refine hm_put (ws' := [oc8 h0 r_t t_base t_taped t_at t_faultPlace t_number t_newBits t_newTold t_newDoings t_newThings x1 t_sum t_heldAll t_onPaper t_turned t_wasConverted t_lastBits t_lastSum t_lastHeld t_lastLeft t_lastCode t_writtenLong t_codeMany t_acts t_done0 t_stoppedAt, ic E (r_t 17) 10 t_open, ic E (r_t 21) 10 t_productSign, ic E (r_t 18) 10 t_stage, ic E (r_t 20) 10 t_sumSign]) cb_X8 hx hb hown X w 0 22 fl_X8_188 dX8_openOne_7 rfl (by decide) (Nat.le_of_ble_eq_true rfl) rfl rfl rfl rfl (fun H locs w => ?_)
  refine lv_aload_n hx hb dX8_openOne_10 rfl (lv_at hl 0 rfl) ?_
  refine hm_get cb_X8 hx hb hown X w 0 17 fl_X8_46 dX8_openOne_11 rfl (by decide) rfl ?_
  refine lv_aload_n hx hb dX8_openOne_14 rfl (lv_at hl 0 rfl) ?_
  refine hm_get cb_X8 hx hb hown X w 0 22 fl_X8_188 dX8_openOne_15 rfl (by decide) rfl ?_
  refine lv_iload_n hx hb dX8_openOne_18 rfl (lv_at hl 1 rfl) ?_
  obtain ⟨g19, hf⟩ := pf_ckI hf
  refine hm_iast (ws' := [oc8 h0 r_t t_base t_taped t_at t_faultPlace t_number t_newBits t_newTold t_newDoings t_newThings x1 t_sum t_heldAll t_onPaper t_turned t_wasConverted t_lastBits t_lastSum t_lastHeld t_lastLeft t_lastCode t_writtenLong t_codeMany t_acts t_done0 t_stoppedAt, ic E (r_t 17) 10 (upd t_open x1.toNatClampNeg a1), ic E (r_t 21) 10 t_productSign, ic E (r_t 18) 10 t_stage, ic E (r_t 20) 10 t_sumSign]) hx hb X w 1 dX8_openOne_19 rfl g19 rfl (fun H locs w => ?_)
  refine lv_aload_n hx hb dX8_openOne_20 rfl (lv_at hl 0 rfl) ?_
  refine hm_get cb_X8 hx hb hown X w 0 18 fl_X8_49 dX8_openOne_21 rfl (by decide) rfl ?_
  refine lv_aload_n hx hb dX8_openOne_24 rfl (lv_at hl 0 rfl) ?_
  refine hm_get cb_X8 hx hb hown X w 0 22 fl_X8_188 dX8_openOne_25 rfl (by decide) rfl ?_
  refine lv_iconst (v := 0) hx hb dX8_openOne_28 (by decide) ?_
  obtain ⟨g29, hf⟩ := pf_ckI hf
  refine hm_iast (ws' := [oc8 h0 r_t t_base t_taped t_at t_faultPlace t_number t_newBits t_newTold t_newDoings t_newThings x1 t_sum t_heldAll t_onPaper t_turned t_wasConverted t_lastBits t_lastSum t_lastHeld t_lastLeft t_lastCode t_writtenLong t_codeMany t_acts t_done0 t_stoppedAt, ic E (r_t 17) 10 (upd t_open x1.toNatClampNeg a1), ic E (r_t 21) 10 t_productSign, ic E (r_t 18) 10 (upd t_stage x1.toNatClampNeg 0), ic E (r_t 20) 10 t_sumSign]) hx hb X w 3 dX8_openOne_29 rfl g29 rfl (fun H locs w => ?_)
  refine lv_aload_n hx hb dX8_openOne_30 rfl (lv_at hl 0 rfl) ?_
  refine hm_get cb_X8 hx hb hown X w 0 20 fl_X8_55 dX8_openOne_31 rfl (by decide) rfl ?_
  refine lv_aload_n hx hb dX8_openOne_34 rfl (lv_at hl 0 rfl) ?_
  refine hm_get cb_X8 hx hb hown X w 0 22 fl_X8_188 dX8_openOne_35 rfl (by decide) rfl ?_
  refine lv_iconst (v := 0) hx hb dX8_openOne_38 (by decide) ?_
  obtain ⟨g39, hf⟩ := pf_ckI hf
  refine hm_iast (ws' := [oc8 h0 r_t t_base t_taped t_at t_faultPlace t_number t_newBits t_newTold t_newDoings t_newThings x1 t_sum t_heldAll t_onPaper t_turned t_wasConverted t_lastBits t_lastSum t_lastHeld t_lastLeft t_lastCode t_writtenLong t_codeMany t_acts t_done0 t_stoppedAt, ic E (r_t 17) 10 (upd t_open x1.toNatClampNeg a1), ic E (r_t 21) 10 t_productSign, ic E (r_t 18) 10 (upd t_stage x1.toNatClampNeg 0), ic E (r_t 20) 10 (upd t_sumSign x1.toNatClampNeg 0)]) hx hb X w 4 dX8_openOne_39 rfl g39 rfl (fun H locs w => ?_)
  refine lv_aload_n hx hb dX8_openOne_40 rfl (lv_at hl 0 rfl) ?_
  refine hm_get cb_X8 hx hb hown X w 0 21 fl_X8_58 dX8_openOne_41 rfl (by decide) rfl ?_
  refine lv_aload_n hx hb dX8_openOne_44 rfl (lv_at hl 0 rfl) ?_
  refine hm_get cb_X8 hx hb hown X w 0 22 fl_X8_188 dX8_openOne_45 rfl (by decide) rfl ?_
  refine lv_iconst (v := 0) hx hb dX8_openOne_48 (by decide) ?_
  obtain ⟨g49, hf⟩ := pf_ckI hf
  refine hm_iast (ws' := [oc8 h0 r_t t_base t_taped t_at t_faultPlace t_number t_newBits t_newTold t_newDoings t_newThings x1 t_sum t_heldAll t_onPaper t_turned t_wasConverted t_lastBits t_lastSum t_lastHeld t_lastLeft t_lastCode t_writtenLong t_codeMany t_acts t_done0 t_stoppedAt, ic E (r_t 17) 10 (upd t_open x1.toNatClampNeg a1), ic E (r_t 21) 10 (upd t_productSign x1.toNatClampNeg 0), ic E (r_t 18) 10 (upd t_stage x1.toNatClampNeg 0), ic E (r_t 20) 10 (upd t_sumSign x1.toNatClampNeg 0)]) hx hb X w 2 dX8_openOne_49 rfl g49 rfl (fun H locs w => ?_)
  exact hQ _ _ _ _ ((upd t_open x1.toNatClampNeg a1), (upd t_stage x1.toNatClampNeg 0), (upd t_sumSign x1.toNatClampNeg 0), (upd t_productSign x1.toNatClampNeg 0), x1) (fun _ => 0) hf w dX8_openOne_50
set_option maxHeartbeats 8000000 in
set_option maxRecDepth 100000 in
theorem ct_X8_letterOf (l : Launch) (E : hm_E) (sz : Nat) (a0 : Int32) (R : Int32 × Unit) (hf : pf_X8_letterOf a0 = some R) : hm_Mi l E yX8_letterOf cX8_letterOf 1 .int [] (hm_rr 0 0 0 0) [.int a0] sz [] R.1 (fun _ => []) := by
  refine hm_ct_i R (fun u _ => []) (by decide) (Nat.le_of_ble_eq_true rfl) (Or.inl rfl) ?_
  intro p e s m args below meth c A Q ls H locs hx hb hml hown X hA Y hex w hl hQ
  have hl : lv_has ls 1 [(0, .int a0)] := hl
  unfold pf_X8_letterOf at hf
  refine lv_iload_n hx hb dX8_letterOf_0 rfl (lv_at hl 0 rfl) ?_
  refine lv_bipush (v := 105) hx hb dX8_letterOf_1 (by decide) ?_
  refine lv_icmp_ne (tgt := 10) hx hb dX8_letterOf_3 (by decide) (fun c3 => ?_) (fun c3 => ?_)
  · have hf := pf_e c3 hf
    refine lv_iload_n hx hb dX8_letterOf_10 rfl (lv_at hl 0 rfl) ?_
    refine lv_bipush (v := 115) hx hb dX8_letterOf_11 (by decide) ?_
    refine lv_icmp_ne (tgt := 20) hx hb dX8_letterOf_13 (by decide) (fun c13 => ?_) (fun c13 => ?_)
    · have hf := pf_e c13 hf
      refine lv_iload_n hx hb dX8_letterOf_20 rfl (lv_at hl 0 rfl) ?_
      refine lv_bipush (v := 119) hx hb dX8_letterOf_21 (by decide) ?_
      refine lv_icmp_ne (tgt := 30) hx hb dX8_letterOf_23 (by decide) (fun c23 => ?_) (fun c23 => ?_)
      · have hf := pf_e c23 hf
        refine lv_iload_n hx hb dX8_letterOf_30 rfl (lv_at hl 0 rfl) ?_
        refine lv_bipush (v := 104) hx hb dX8_letterOf_31 (by decide) ?_
        refine lv_icmp_ne (tgt := 40) hx hb dX8_letterOf_33 (by decide) (fun c33 => ?_) (fun c33 => ?_)
        · have hf := pf_e c33 hf
          refine lv_iload_n hx hb dX8_letterOf_40 rfl (lv_at hl 0 rfl) ?_
          refine lv_bipush (v := 116) hx hb dX8_letterOf_41 (by decide) ?_
          refine lv_icmp_ne (tgt := 50) hx hb dX8_letterOf_43 (by decide) (fun c43 => ?_) (fun c43 => ?_)
          · have hf := pf_e c43 hf
            refine lv_iconst (v := (-1)) hx hb dX8_letterOf_50 (by decide) ?_
            exact hQ _ _ _ _ _ () (fun _ => 0) hf rfl w dX8_letterOf_51
          · have hf := pf_t c43 hf
            refine lv_iconst (v := 4) hx hb dX8_letterOf_46 (by decide) ?_
            refine lv_goto (tgt := 51) hx hb dX8_letterOf_47 (by decide) ?_
            exact hQ _ _ _ _ _ () (fun _ => 0) hf rfl w dX8_letterOf_51
        · have hf := pf_t c33 hf
          refine lv_iconst (v := 3) hx hb dX8_letterOf_36 (by decide) ?_
          refine lv_goto (tgt := 51) hx hb dX8_letterOf_37 (by decide) ?_
          exact hQ _ _ _ _ _ () (fun _ => 0) hf rfl w dX8_letterOf_51
      · have hf := pf_t c23 hf
        refine lv_iconst (v := 2) hx hb dX8_letterOf_26 (by decide) ?_
        refine lv_goto (tgt := 51) hx hb dX8_letterOf_27 (by decide) ?_
        exact hQ _ _ _ _ _ () (fun _ => 0) hf rfl w dX8_letterOf_51
    · have hf := pf_t c13 hf
      refine lv_iconst (v := 1) hx hb dX8_letterOf_16 (by decide) ?_
      refine lv_goto (tgt := 51) hx hb dX8_letterOf_17 (by decide) ?_
      exact hQ _ _ _ _ _ () (fun _ => 0) hf rfl w dX8_letterOf_51
  · have hf := pf_t c3 hf
    refine lv_iconst (v := 0) hx hb dX8_letterOf_6 (by decide) ?_
    refine lv_goto (tgt := 51) hx hb dX8_letterOf_7 (by decide) ?_
    exact hQ _ _ _ _ _ () (fun _ => 0) hf rfl w dX8_letterOf_51
set_option maxHeartbeats 8000000 in
set_option maxRecDepth 100000 in
theorem ct_X8_readThing (l : Launch) (E : hm_E) (sz : Nat) (h0 : Nat) (r_t : Nat → Nat) (t_base t_taped t_at t_faultPlace t_number t_newBits t_newTold t_newDoings t_newThings t_opened t_sum t_heldAll t_onPaper t_turned t_wasConverted t_lastBits t_lastSum t_lastHeld t_lastLeft t_lastCode t_writtenLong t_codeMany t_acts t_done0 t_stoppedAt : Int32) (t_newDoing : Nat → Int32) (t_open : Nat → Int32) (t_productSign : Nat → Int32) (t_stage : Nat → Int32) (t_sumSign : Nat → Int32) (t_tape : Nat → Int32) (R : Int32 × Int32 × Int32 × Int32 × (Nat → Int32) × Int32 × Int32 × (Nat → Int32) × (Nat → Int32) × (Nat → Int32) × (Nat → Int32) × Int32) (hf : pf_X8_readThing t_tape t_taped t_at t_faultPlace t_number t_newDoing t_newDoings t_newThings t_open t_stage t_sumSign t_productSign t_opened = some R) : hm_Mi l E yX8_readThing cX8_readThing 3 .int [] (hm_rr 2 42 0 0) [.ref h0] sz [oc8 h0 r_t t_base t_taped t_at t_faultPlace t_number t_newBits t_newTold t_newDoings t_newThings t_opened t_sum t_heldAll t_onPaper t_turned t_wasConverted t_lastBits t_lastSum t_lastHeld t_lastLeft t_lastCode t_writtenLong t_codeMany t_acts t_done0 t_stoppedAt, ic E (r_t 14) 84 t_newDoing, ic E (r_t 17) 10 t_open, ic E (r_t 21) 10 t_productSign, ic E (r_t 18) 10 t_stage, ic E (r_t 20) 10 t_sumSign, bc E (r_t 2) 400 t_tape] R.1 (fun _ => [oc8 h0 r_t t_base t_taped (R.2.1) (R.2.2.1) (R.2.2.2.1) t_newBits t_newTold (R.2.2.2.2.2.1) (R.2.2.2.2.2.2.1) (R.2.2.2.2.2.2.2.2.2.2.2) t_sum t_heldAll t_onPaper t_turned t_wasConverted t_lastBits t_lastSum t_lastHeld t_lastLeft t_lastCode t_writtenLong t_codeMany t_acts t_done0 t_stoppedAt, ic E (r_t 14) 84 (R.2.2.2.2.1), ic E (r_t 17) 10 (R.2.2.2.2.2.2.2.1), ic E (r_t 21) 10 (R.2.2.2.2.2.2.2.2.2.2.1), ic E (r_t 18) 10 (R.2.2.2.2.2.2.2.2.1), ic E (r_t 20) 10 (R.2.2.2.2.2.2.2.2.2.1), bc E (r_t 2) 400 t_tape]) := by
  refine hm_ct_i R (fun u _ => [oc8 h0 r_t t_base t_taped (u.1) (u.2.1) (u.2.2.1) t_newBits t_newTold (u.2.2.2.2.1) (u.2.2.2.2.2.1) (u.2.2.2.2.2.2.2.2.2.2) t_sum t_heldAll t_onPaper t_turned t_wasConverted t_lastBits t_lastSum t_lastHeld t_lastLeft t_lastCode t_writtenLong t_codeMany t_acts t_done0 t_stoppedAt, ic E (r_t 14) 84 (u.2.2.2.1), ic E (r_t 17) 10 (u.2.2.2.2.2.2.1), ic E (r_t 21) 10 (u.2.2.2.2.2.2.2.2.2.1), ic E (r_t 18) 10 (u.2.2.2.2.2.2.2.1), ic E (r_t 20) 10 (u.2.2.2.2.2.2.2.2.1), bc E (r_t 2) 400 t_tape]) (by decide) (Nat.le_of_ble_eq_true rfl) (Or.inl rfl) ?_
  intro p e s m args below meth c A Q ls H locs hx hb hml hown X hA Y hex w hl hQ
  have hl : lv_has ls 3 [(0, .ref h0)] := hl
  unfold pf_X8_readThing at hf
  refine lv_aload_n hx hb dX8_readThing_0 rfl (lv_at hl 0 rfl) ?_
  obtain ⟨r1, hc1, hf⟩ := pf_bi_0 hf
  refine hm_aft_i (ws' := fun _ => [oc8 h0 r_t t_base t_taped t_at t_faultPlace t_number t_newBits t_newTold t_newDoings t_newThings t_opened t_sum t_heldAll t_onPaper t_turned t_wasConverted t_lastBits t_lastSum t_lastHeld t_lastLeft t_lastCode t_writtenLong t_codeMany t_acts t_done0 t_stoppedAt, ic E (r_t 14) 84 t_newDoing, ic E (r_t 17) 10 t_open, ic E (r_t 21) 10 t_productSign, ic E (r_t 18) 10 t_stage, ic E (r_t 20) 10 t_sumSign, bc E (r_t 2) 400 t_tape]) (hm_runV (rest := []) hx hb hml hown X hA Y w 0 (ci := 7) (T := TX8) (N := 55) rfl rfl mw_X8_here ml_X8_136 dX8_readThing_1 hm_ac0 [] rfl [0, 6] rfl rfl (ct_X8_here l E H.size h0 r_t t_base t_taped t_at t_faultPlace t_number t_newBits t_newTold t_newDoings t_newThings t_opened t_sum t_heldAll t_onPaper t_turned t_wasConverted t_lastBits t_lastSum t_lastHeld t_lastLeft t_lastCode t_writtenLong t_codeMany t_acts t_done0 t_stoppedAt t_tape (r1, ()) hc1) rfl hl.1 ⟨⟨rfl, rfl⟩, ⟨Nat.le_of_ble_eq_true rfl, Nat.le_of_ble_eq_true rfl⟩, ⟨Nat.le_of_ble_eq_true rfl, Nat.le_of_ble_eq_true rfl⟩, Nat.le_of_ble_eq_true rfl⟩) hA w [0, 6] [1, 2, 3, 4, 5] [5, 0, 1, 2, 3, 4, 6] rfl rfl (by decide) (fun _ => rfl) (fun _ H locs w => ?_)
  refine lv_istore_n (lv' := [(1, .int r1), (0, .ref h0)]) hx hb dX8_readThing_4 rfl hl (by decide) rfl (fun ls hl => ?_)
  refine lv_iload_n hx hb dX8_readThing_5 rfl (lv_at hl 0 rfl) ?_
  obtain ⟨r2, hc6, hf⟩ := pf_bi_0 hf
  refine hm_aft_i (ws' := fun _ => [oc8 h0 r_t t_base t_taped t_at t_faultPlace t_number t_newBits t_newTold t_newDoings t_newThings t_opened t_sum t_heldAll t_onPaper t_turned t_wasConverted t_lastBits t_lastSum t_lastHeld t_lastLeft t_lastCode t_writtenLong t_codeMany t_acts t_done0 t_stoppedAt, ic E (r_t 14) 84 t_newDoing, ic E (r_t 17) 10 t_open, ic E (r_t 21) 10 t_productSign, ic E (r_t 18) 10 t_stage, ic E (r_t 20) 10 t_sumSign, bc E (r_t 2) 400 t_tape]) (hm_runS (rest := []) hx hb hml hown X hA Y w mw_X8_isFigure ml_X8_140 dX8_readThing_6 hm_ac0 [.int r1] rfl [] rfl rfl (ct_X8_isFigure l E H.size r1 (r2, ()) hc6) rfl hl.1 ⟨⟨rfl, rfl⟩, ⟨Nat.le_of_ble_eq_true rfl, Nat.le_of_ble_eq_true rfl⟩, ⟨Nat.le_of_ble_eq_true rfl, Nat.le_of_ble_eq_true rfl⟩, Nat.le_of_ble_eq_true rfl⟩) hA w [] [0, 1, 2, 3, 4, 5, 6] [0, 1, 2, 3, 4, 5, 6] rfl rfl (by decide) (fun _ => rfl) (fun _ H locs w => ?_)
  obtain ⟨J43, hJ43, hf⟩ := pf_jn hf
  have kJ43 : ∀ (x3 : Int32) (H : Heap) (locs : List Loc) (ls : Array Slot), J43 x3 = some R → hm_W E A s.heap [oc8 h0 r_t t_base t_taped t_at t_faultPlace t_number t_newBits t_newTold t_newDoings t_newThings t_opened t_sum t_heldAll t_onPaper t_turned t_wasConverted t_lastBits t_lastSum t_lastHeld t_lastLeft t_lastCode t_writtenLong t_codeMany t_acts t_done0 t_stoppedAt, ic E (r_t 14) 84 t_newDoing, ic E (r_t 17) 10 t_open, ic E (r_t 21) 10 t_productSign, ic E (r_t 18) 10 t_stage, ic E (r_t 20) 10 t_sumSign, bc E (r_t 2) 400 t_tape] H locs → lv_has ls 3 [(2, .int x3), (0, .ref h0), (1, .int r1)] → W p l e (hm_rr 2 42 0 0) s m args below meth c H locs 0 0 Q (F0 m 43 ls []) := by
    intro x3 H locs ls hf w hl
    have hf := pf_j1 hJ43 hf
    refine lv_istore_n (lv' := [(2, .int x3), (0, .ref h0), (1, .int r1)]) hx hb dX8_readThing_43 rfl hl (by decide) rfl (fun ls hl => ?_)
    refine lv_iload_n hx hb dX8_readThing_44 rfl (lv_at hl 0 rfl) ?_
    obtain ⟨J66, hJ66, hf⟩ := pf_jn hf
    have kJ66 : ∀ (H : Heap) (locs : List Loc) (ls : Array Slot), J66 = some R → hm_W E A s.heap [oc8 h0 r_t t_base t_taped t_at t_at t_number t_newBits t_newTold t_newDoings t_newThings t_opened t_sum t_heldAll t_onPaper t_turned t_wasConverted t_lastBits t_lastSum t_lastHeld t_lastLeft t_lastCode t_writtenLong t_codeMany t_acts t_done0 t_stoppedAt, ic E (r_t 14) 84 t_newDoing, ic E (r_t 17) 10 t_open, ic E (r_t 21) 10 t_productSign, ic E (r_t 18) 10 t_stage, ic E (r_t 20) 10 t_sumSign, bc E (r_t 2) 400 t_tape] H locs → lv_has ls 3 [(0, .ref h0)] → W p l e (hm_rr 2 42 0 0) s m args below meth c H locs 0 0 Q (F0 m 66 ls []) := by
      intro H locs ls hf w hl
      have hf := pf_j0 hJ66 hf
      refine lv_aload_n hx hb dX8_readThing_66 rfl (lv_at hl 0 rfl) ?_
      refine lv_aload_n hx hb dX8_readThing_67 rfl (lv_at hl 0 rfl) ?_
      refine hm_get cb_X8 hx hb hown X w 0 4 fl_X8_133 dX8_readThing_68 rfl (by decide) rfl ?_
      refine hm_put (ws' := [oc8 h0 r_t t_base t_taped t_at t_at t_number t_newBits t_newTold t_newDoings t_newThings t_opened t_sum t_heldAll t_onPaper t_turned t_wasConverted t_lastBits t_lastSum t_lastHeld t_lastLeft t_lastCode t_writtenLong t_codeMany t_acts t_done0 t_stoppedAt, ic E (r_t 14) 84 t_newDoing, ic E (r_t 17) 10 t_open, ic E (r_t 21) 10 t_productSign, ic E (r_t 18) 10 t_stage, ic E (r_t 20) 10 t_sumSign, bc E (r_t 2) 400 t_tape]) cb_X8 hx hb hown X w 0 5 fl_X8_25 dX8_readThing_71 rfl (by decide) (Nat.le_of_ble_eq_true rfl) rfl rfl rfl rfl (fun H locs w => ?_)
      refine lv_iconst (v := (-1)) hx hb dX8_readThing_74 (by decide) ?_
      exact hQ _ _ _ _ _ (t_at, t_at, t_number, t_newDoing, t_newDoings, t_newThings, t_open, t_stage, t_sumSign, t_productSign, t_opened) (fun _ => 0) hf rfl w dX8_readThing_75
    refine lv_if_eq (tgt := 66) hx hb dX8_readThing_45 (by decide) (fun c45 => ?_) (fun c45 => ?_)
    · have hf := pf_t c45 hf
      exact kJ66 _ _ _ hf w (lv_sub hl [1] rfl)
    · have hf := pf_e c45 hf
      refine lv_aload_n hx hb dX8_readThing_48 rfl (lv_at hl 1 rfl) ?_
      refine hm_get cb_X8 hx hb hown X w 0 16 fl_X8_194 dX8_readThing_49 rfl (by decide) rfl ?_
      refine lv_bipush (v := 40) hx hb dX8_readThing_52 (by decide) ?_
      refine lv_icmp_eq (tgt := 66) hx hb dX8_readThing_54 (by decide) (fun c54 => ?_) (fun c54 => ?_)
      · have hf := pf_t c54 hf
        exact kJ66 _ _ _ hf w (lv_sub hl [1] rfl)
      · have hf := pf_e c54 hf
        refine lv_aload_n hx hb dX8_readThing_57 rfl (lv_at hl 1 rfl) ?_
        refine hm_get cb_X8 hx hb hown X w 0 22 fl_X8_188 dX8_readThing_58 rfl (by decide) rfl ?_
        refine lv_bipush (v := 8) hx hb dX8_readThing_61 (by decide) ?_
        refine lv_icmp_ne (tgt := 76) hx hb dX8_readThing_63 (by decide) (fun c63 => ?_) (fun c63 => ?_)
        · have hf := pf_e c63 hf
          refine lv_aload_n hx hb dX8_readThing_76 rfl (lv_at hl 1 rfl) ?_
          refine lv_dup hx hb dX8_readThing_77 rfl ?_
          refine hm_get cb_X8 hx hb hown X w 0 16 fl_X8_194 dX8_readThing_78 rfl (by decide) rfl ?_
          refine lv_iconst (v := 1) hx hb dX8_readThing_81 (by decide) ?_
          refine lv_iadd hx hb dX8_readThing_82 ?_
          refine lv_topi (fun x4 ex4 => ?_)
          have hf := pf_nm ex4 hf
          refine hm_put (ws' := [oc8 h0 r_t t_base t_taped t_at t_faultPlace t_number t_newBits t_newTold t_newDoings x4 t_opened t_sum t_heldAll t_onPaper t_turned t_wasConverted t_lastBits t_lastSum t_lastHeld t_lastLeft t_lastCode t_writtenLong t_codeMany t_acts t_done0 t_stoppedAt, ic E (r_t 14) 84 t_newDoing, ic E (r_t 17) 10 t_open, ic E (r_t 21) 10 t_productSign, ic E (r_t 18) 10 t_stage, ic E (r_t 20) 10 t_sumSign, bc E (r_t 2) 400 t_tape]) cb_X8 hx hb hown X w 0 16 fl_X8_194 dX8_readThing_83 rfl (by decide) (Nat.le_of_ble_eq_true rfl) rfl rfl rfl rfl (fun H locs w => ?_)
          refine lv_iload_n hx hb dX8_readThing_86 rfl (lv_at hl 2 rfl) ?_
          obtain ⟨r5, hc87, hf⟩ := pf_bi_0 hf
          refine hm_aft_i (ws' := fun _ => [oc8 h0 r_t t_base t_taped t_at t_faultPlace t_number t_newBits t_newTold t_newDoings x4 t_opened t_sum t_heldAll t_onPaper t_turned t_wasConverted t_lastBits t_lastSum t_lastHeld t_lastLeft t_lastCode t_writtenLong t_codeMany t_acts t_done0 t_stoppedAt, ic E (r_t 14) 84 t_newDoing, ic E (r_t 17) 10 t_open, ic E (r_t 21) 10 t_productSign, ic E (r_t 18) 10 t_stage, ic E (r_t 20) 10 t_sumSign, bc E (r_t 2) 400 t_tape]) (hm_runS (rest := []) hx hb hml hown X hA Y w mw_X8_isFigure ml_X8_140 dX8_readThing_87 hm_ac0 [.int r1] rfl [] rfl rfl (ct_X8_isFigure l E H.size r1 (r5, ()) hc87) rfl hl.1 ⟨⟨rfl, rfl⟩, ⟨Nat.le_of_ble_eq_true rfl, Nat.le_of_ble_eq_true rfl⟩, ⟨Nat.le_of_ble_eq_true rfl, Nat.le_of_ble_eq_true rfl⟩, Nat.le_of_ble_eq_true rfl⟩) hA w [] [0, 1, 2, 3, 4, 5, 6] [0, 1, 2, 3, 4, 5, 6] rfl rfl (by decide) (fun _ => rfl) (fun _ H locs w => ?_)
          refine lv_if_eq (tgt := 112) hx hb dX8_readThing_90 (by decide) (fun c90 => ?_) (fun c90 => ?_)
          · have hf := pf_t c90 hf
            refine lv_aload_n hx hb dX8_readThing_112 rfl (lv_at hl 1 rfl) ?_
            refine lv_dup hx hb dX8_readThing_113 rfl ?_
            refine hm_get cb_X8 hx hb hown X w 0 4 fl_X8_133 dX8_readThing_114 rfl (by decide) rfl ?_
            refine lv_iconst (v := 1) hx hb dX8_readThing_117 (by decide) ?_
            refine lv_iadd hx hb dX8_readThing_118 ?_
            refine lv_topi (fun x6 ex6 => ?_)
            have hf := pf_nm ex6 hf
            refine hm_put (ws' := [oc8 h0 r_t t_base t_taped x6 t_faultPlace t_number t_newBits t_newTold t_newDoings x4 t_opened t_sum t_heldAll t_onPaper t_turned t_wasConverted t_lastBits t_lastSum t_lastHeld t_lastLeft t_lastCode t_writtenLong t_codeMany t_acts t_done0 t_stoppedAt, ic E (r_t 14) 84 t_newDoing, ic E (r_t 17) 10 t_open, ic E (r_t 21) 10 t_productSign, ic E (r_t 18) 10 t_stage, ic E (r_t 20) 10 t_sumSign, bc E (r_t 2) 400 t_tape]) cb_X8 hx hb hown X w 0 4 fl_X8_133 dX8_readThing_119 rfl (by decide) (Nat.le_of_ble_eq_true rfl) rfl rfl rfl rfl (fun H locs w => ?_)
            refine lv_iload_n hx hb dX8_readThing_122 rfl (lv_at hl 2 rfl) ?_
            obtain ⟨r7, hc123, hf⟩ := pf_bi_0 hf
            refine hm_aft_i (ws' := fun _ => [oc8 h0 r_t t_base t_taped x6 t_faultPlace t_number t_newBits t_newTold t_newDoings x4 t_opened t_sum t_heldAll t_onPaper t_turned t_wasConverted t_lastBits t_lastSum t_lastHeld t_lastLeft t_lastCode t_writtenLong t_codeMany t_acts t_done0 t_stoppedAt, ic E (r_t 14) 84 t_newDoing, ic E (r_t 17) 10 t_open, ic E (r_t 21) 10 t_productSign, ic E (r_t 18) 10 t_stage, ic E (r_t 20) 10 t_sumSign, bc E (r_t 2) 400 t_tape]) (hm_runS (rest := []) hx hb hml hown X hA Y w mw_X8_letterOf ml_X8_191 dX8_readThing_123 hm_ac0 [.int r1] rfl [] rfl rfl (ct_X8_letterOf l E H.size r1 (r7, ()) hc123) rfl hl.1 ⟨⟨rfl, rfl⟩, ⟨Nat.le_of_ble_eq_true rfl, Nat.le_of_ble_eq_true rfl⟩, ⟨Nat.le_of_ble_eq_true rfl, Nat.le_of_ble_eq_true rfl⟩, Nat.le_of_ble_eq_true rfl⟩) hA w [] [0, 1, 2, 3, 4, 5, 6] [0, 1, 2, 3, 4, 5, 6] rfl rfl (by decide) (fun _ => rfl) (fun _ H locs w => ?_)
            refine lv_iconst (v := (-1)) hx hb dX8_readThing_126 (by decide) ?_
            refine lv_icmp_eq (tgt := 144) hx hb dX8_readThing_127 (by decide) (fun c127 => ?_) (fun c127 => ?_)
            · have hf := pf_t c127 hf
              refine lv_aload_n hx hb dX8_readThing_144 rfl (lv_at hl 1 rfl) ?_
              refine lv_iload_n hx hb dX8_readThing_145 rfl (lv_at hl 2 rfl) ?_
              refine lv_bipush (v := 40) hx hb dX8_readThing_146 (by decide) ?_
              refine lv_icmp_ne (tgt := 155) hx hb dX8_readThing_148 (by decide) (fun c148 => ?_) (fun c148 => ?_)
              · have hf := pf_e c148 hf
                refine lv_iload_n hx hb dX8_readThing_155 rfl (lv_at hl 2 rfl) ?_
                refine lv_bipush (v := 91) hx hb dX8_readThing_156 (by decide) ?_
                refine lv_icmp_ne (tgt := 165) hx hb dX8_readThing_158 (by decide) (fun c158 => ?_) (fun c158 => ?_)
                · have hf := pf_e c158 hf
                  refine lv_iconst (v := 3) hx hb dX8_readThing_165 (by decide) ?_
                  obtain ⟨f8, f9, f10, f11, x12, hc166, hf⟩ := pf_bv_5 hf
                  refine hm_aft_v (ws' := fun _ => [oc8 h0 r_t t_base t_taped x6 t_faultPlace t_number t_newBits t_newTold t_newDoings x4 x12 t_sum t_heldAll t_onPaper t_turned t_wasConverted t_lastBits t_lastSum t_lastHeld t_lastLeft t_lastCode t_writtenLong t_codeMany t_acts t_done0 t_stoppedAt, ic E (r_t 14) 84 t_newDoing, ic E (r_t 17) 10 f8, ic E (r_t 21) 10 f11, ic E (r_t 18) 10 f9, ic E (r_t 20) 10 f10, bc E (r_t 2) 400 t_tape]) (hm_runV (rest := []) hx hb hml hown X hA Y w 0 (ci := 7) (T := TX8) (N := 55) rfl rfl mw_X8_openOne ml_X8_200 dX8_readThing_166 hm_ac0 [.int 3] rfl [0, 2, 3, 4, 5] rfl rfl (ct_X8_openOne l E H.size h0 r_t t_base t_taped x6 t_faultPlace t_number t_newBits t_newTold t_newDoings x4 t_opened t_sum t_heldAll t_onPaper t_turned t_wasConverted t_lastBits t_lastSum t_lastHeld t_lastLeft t_lastCode t_writtenLong t_codeMany t_acts t_done0 t_stoppedAt t_open t_productSign t_stage t_sumSign 3 (f8, f9, f10, f11, x12) hc166) rfl hl.1 ⟨⟨rfl, rfl⟩, ⟨Nat.le_of_ble_eq_true rfl, Nat.le_of_ble_eq_true rfl⟩, ⟨Nat.le_of_ble_eq_true rfl, Nat.le_of_ble_eq_true rfl⟩, Nat.le_of_ble_eq_true rfl⟩) hA w [0, 2, 3, 4, 5] [1, 6] [2, 0, 3, 4, 5, 6, 1] rfl rfl (by decide) (fun _ => rfl) (fun _ H locs w => ?_)
                  refine lv_iconst (v := 0) hx hb dX8_readThing_169 (by decide) ?_
                  exact hQ _ _ _ _ _ (x6, t_faultPlace, t_number, t_newDoing, t_newDoings, x4, f8, f9, f10, f11, x12) (fun _ => 0) hf rfl w dX8_readThing_170
                · have hf := pf_t c158 hf
                  refine lv_iconst (v := 2) hx hb dX8_readThing_161 (by decide) ?_
                  refine lv_goto (tgt := 166) hx hb dX8_readThing_162 (by decide) ?_
                  obtain ⟨f13, f14, f15, f16, x17, hc166, hf⟩ := pf_bv_5 hf
                  refine hm_aft_v (ws' := fun _ => [oc8 h0 r_t t_base t_taped x6 t_faultPlace t_number t_newBits t_newTold t_newDoings x4 x17 t_sum t_heldAll t_onPaper t_turned t_wasConverted t_lastBits t_lastSum t_lastHeld t_lastLeft t_lastCode t_writtenLong t_codeMany t_acts t_done0 t_stoppedAt, ic E (r_t 14) 84 t_newDoing, ic E (r_t 17) 10 f13, ic E (r_t 21) 10 f16, ic E (r_t 18) 10 f14, ic E (r_t 20) 10 f15, bc E (r_t 2) 400 t_tape]) (hm_runV (rest := []) hx hb hml hown X hA Y w 0 (ci := 7) (T := TX8) (N := 55) rfl rfl mw_X8_openOne ml_X8_200 dX8_readThing_166 hm_ac0 [.int 2] rfl [0, 2, 3, 4, 5] rfl rfl (ct_X8_openOne l E H.size h0 r_t t_base t_taped x6 t_faultPlace t_number t_newBits t_newTold t_newDoings x4 t_opened t_sum t_heldAll t_onPaper t_turned t_wasConverted t_lastBits t_lastSum t_lastHeld t_lastLeft t_lastCode t_writtenLong t_codeMany t_acts t_done0 t_stoppedAt t_open t_productSign t_stage t_sumSign 2 (f13, f14, f15, f16, x17) hc166) rfl hl.1 ⟨⟨rfl, rfl⟩, ⟨Nat.le_of_ble_eq_true rfl, Nat.le_of_ble_eq_true rfl⟩, ⟨Nat.le_of_ble_eq_true rfl, Nat.le_of_ble_eq_true rfl⟩, Nat.le_of_ble_eq_true rfl⟩) hA w [0, 2, 3, 4, 5] [1, 6] [2, 0, 3, 4, 5, 6, 1] rfl rfl (by decide) (fun _ => rfl) (fun _ H locs w => ?_)
                  refine lv_iconst (v := 0) hx hb dX8_readThing_169 (by decide) ?_
                  exact hQ _ _ _ _ _ (x6, t_faultPlace, t_number, t_newDoing, t_newDoings, x4, f13, f14, f15, f16, x17) (fun _ => 0) hf rfl w dX8_readThing_170
              · have hf := pf_t c148 hf
                refine lv_iconst (v := 1) hx hb dX8_readThing_151 (by decide) ?_
                refine lv_goto (tgt := 166) hx hb dX8_readThing_152 (by decide) ?_
                obtain ⟨f18, f19, f20, f21, x22, hc166, hf⟩ := pf_bv_5 hf
                refine hm_aft_v (ws' := fun _ => [oc8 h0 r_t t_base t_taped x6 t_faultPlace t_number t_newBits t_newTold t_newDoings x4 x22 t_sum t_heldAll t_onPaper t_turned t_wasConverted t_lastBits t_lastSum t_lastHeld t_lastLeft t_lastCode t_writtenLong t_codeMany t_acts t_done0 t_stoppedAt, ic E (r_t 14) 84 t_newDoing, ic E (r_t 17) 10 f18, ic E (r_t 21) 10 f21, ic E (r_t 18) 10 f19, ic E (r_t 20) 10 f20, bc E (r_t 2) 400 t_tape]) (hm_runV (rest := []) hx hb hml hown X hA Y w 0 (ci := 7) (T := TX8) (N := 55) rfl rfl mw_X8_openOne ml_X8_200 dX8_readThing_166 hm_ac0 [.int 1] rfl [0, 2, 3, 4, 5] rfl rfl (ct_X8_openOne l E H.size h0 r_t t_base t_taped x6 t_faultPlace t_number t_newBits t_newTold t_newDoings x4 t_opened t_sum t_heldAll t_onPaper t_turned t_wasConverted t_lastBits t_lastSum t_lastHeld t_lastLeft t_lastCode t_writtenLong t_codeMany t_acts t_done0 t_stoppedAt t_open t_productSign t_stage t_sumSign 1 (f18, f19, f20, f21, x22) hc166) rfl hl.1 ⟨⟨rfl, rfl⟩, ⟨Nat.le_of_ble_eq_true rfl, Nat.le_of_ble_eq_true rfl⟩, ⟨Nat.le_of_ble_eq_true rfl, Nat.le_of_ble_eq_true rfl⟩, Nat.le_of_ble_eq_true rfl⟩) hA w [0, 2, 3, 4, 5] [1, 6] [2, 0, 3, 4, 5, 6, 1] rfl rfl (by decide) (fun _ => rfl) (fun _ H locs w => ?_)
                refine lv_iconst (v := 0) hx hb dX8_readThing_169 (by decide) ?_
                exact hQ _ _ _ _ _ (x6, t_faultPlace, t_number, t_newDoing, t_newDoings, x4, f18, f19, f20, f21, x22) (fun _ => 0) hf rfl w dX8_readThing_170
            · have hf := pf_e c127 hf
              refine lv_aload_n hx hb dX8_readThing_130 rfl (lv_at hl 1 rfl) ?_
              refine lv_sipush (v := 10000) hx hb dX8_readThing_131 (by decide) ?_
              refine lv_iload_n hx hb dX8_readThing_134 rfl (lv_at hl 2 rfl) ?_
              obtain ⟨r23, hc135, hf⟩ := pf_bi_0 hf
              refine hm_aft_i (ws' := fun _ => [oc8 h0 r_t t_base t_taped x6 t_faultPlace t_number t_newBits t_newTold t_newDoings x4 t_opened t_sum t_heldAll t_onPaper t_turned t_wasConverted t_lastBits t_lastSum t_lastHeld t_lastLeft t_lastCode t_writtenLong t_codeMany t_acts t_done0 t_stoppedAt, ic E (r_t 14) 84 t_newDoing, ic E (r_t 17) 10 t_open, ic E (r_t 21) 10 t_productSign, ic E (r_t 18) 10 t_stage, ic E (r_t 20) 10 t_sumSign, bc E (r_t 2) 400 t_tape]) (hm_runS (rest := [.int 10000, .ref h0]) hx hb hml hown X hA Y w mw_X8_letterOf ml_X8_191 dX8_readThing_135 hm_ac0 [.int r1] rfl [] rfl rfl (ct_X8_letterOf l E H.size r1 (r23, ()) hc135) rfl hl.1 ⟨⟨rfl, rfl⟩, ⟨Nat.le_of_ble_eq_true rfl, Nat.le_of_ble_eq_true rfl⟩, ⟨Nat.le_of_ble_eq_true rfl, Nat.le_of_ble_eq_true rfl⟩, Nat.le_of_ble_eq_true rfl⟩) hA w [] [0, 1, 2, 3, 4, 5, 6] [0, 1, 2, 3, 4, 5, 6] rfl rfl (by decide) (fun _ => rfl) (fun _ H locs w => ?_)
              refine lv_iadd hx hb dX8_readThing_138 ?_
              obtain ⟨f24, x25, hc139, hf⟩ := pf_bv_2 hf
              refine hm_aft_v (ws' := fun _ => [oc8 h0 r_t t_base t_taped x6 t_faultPlace t_number t_newBits t_newTold x25 x4 t_opened t_sum t_heldAll t_onPaper t_turned t_wasConverted t_lastBits t_lastSum t_lastHeld t_lastLeft t_lastCode t_writtenLong t_codeMany t_acts t_done0 t_stoppedAt, ic E (r_t 14) 84 f24, ic E (r_t 17) 10 t_open, ic E (r_t 21) 10 t_productSign, ic E (r_t 18) 10 t_stage, ic E (r_t 20) 10 t_sumSign, bc E (r_t 2) 400 t_tape]) (hm_runV (rest := []) hx hb hml hown X hA Y w 0 (ci := 7) (T := TX8) (N := 55) rfl rfl mw_X8_does ml_X8_197 dX8_readThing_139 hm_ac0 [.int (10000 + r23)] rfl [0, 1] rfl rfl (ct_X8_does l E H.size h0 r_t t_base t_taped x6 t_faultPlace t_number t_newBits t_newTold t_newDoings x4 t_opened t_sum t_heldAll t_onPaper t_turned t_wasConverted t_lastBits t_lastSum t_lastHeld t_lastLeft t_lastCode t_writtenLong t_codeMany t_acts t_done0 t_stoppedAt t_newDoing (10000 + r23) (f24, x25) hc139) rfl hl.1 ⟨⟨rfl, rfl⟩, ⟨Nat.le_of_ble_eq_true rfl, Nat.le_of_ble_eq_true rfl⟩, ⟨Nat.le_of_ble_eq_true rfl, Nat.le_of_ble_eq_true rfl⟩, Nat.le_of_ble_eq_true rfl⟩) hA w [0, 1] [2, 3, 4, 5, 6] [5, 6, 0, 1, 2, 3, 4] rfl rfl (by decide) (fun _ => rfl) (fun _ H locs w => ?_)
              refine lv_iconst (v := 1) hx hb dX8_readThing_142 (by decide) ?_
              exact hQ _ _ _ _ _ (x6, t_faultPlace, t_number, f24, x25, x4, t_open, t_stage, t_sumSign, t_productSign, t_opened) (fun _ => 0) hf rfl w dX8_readThing_143
          · have hf := pf_e c90 hf
            refine lv_aload_n hx hb dX8_readThing_93 rfl (lv_at hl 1 rfl) ?_
            obtain ⟨r26, x27, x28, x29, hc94, hf⟩ := pf_bi_3 hf
            refine hm_aft_i (ws' := fun _ => [oc8 h0 r_t t_base t_taped x27 x28 x29 t_newBits t_newTold t_newDoings x4 t_opened t_sum t_heldAll t_onPaper t_turned t_wasConverted t_lastBits t_lastSum t_lastHeld t_lastLeft t_lastCode t_writtenLong t_codeMany t_acts t_done0 t_stoppedAt, ic E (r_t 14) 84 t_newDoing, ic E (r_t 17) 10 t_open, ic E (r_t 21) 10 t_productSign, ic E (r_t 18) 10 t_stage, ic E (r_t 20) 10 t_sumSign, bc E (r_t 2) 400 t_tape]) (hm_runV (rest := []) hx hb hml hown X hA Y w 0 (ci := 7) (T := TX8) (N := 55) rfl rfl mw_X8_readDigits ml_X8_150 dX8_readThing_94 hm_ac0 [] rfl [0, 6] rfl rfl (ct_X8_readDigits l E H.size h0 r_t t_base t_taped t_at t_faultPlace t_number t_newBits t_newTold t_newDoings x4 t_opened t_sum t_heldAll t_onPaper t_turned t_wasConverted t_lastBits t_lastSum t_lastHeld t_lastLeft t_lastCode t_writtenLong t_codeMany t_acts t_done0 t_stoppedAt t_tape (r26, x27, x28, x29) hc94) rfl hl.1 ⟨⟨rfl, rfl⟩, ⟨Nat.le_of_ble_eq_true rfl, Nat.le_of_ble_eq_true rfl⟩, ⟨Nat.le_of_ble_eq_true rfl, Nat.le_of_ble_eq_true rfl⟩, Nat.le_of_ble_eq_true rfl⟩) hA w [0, 6] [1, 2, 3, 4, 5] [5, 0, 1, 2, 3, 4, 6] rfl rfl (by decide) (fun _ => rfl) (fun _ H locs w => ?_)
            refine lv_if_ne (tgt := 102) hx hb dX8_readThing_97 (by decide) (fun c97 => ?_) (fun c97 => ?_)
            · have hf := pf_e c97 hf
              refine lv_aload_n hx hb dX8_readThing_102 rfl (lv_at hl 1 rfl) ?_
              refine lv_aload_n hx hb dX8_readThing_103 rfl (lv_at hl 1 rfl) ?_
              refine hm_get cb_X8 hx hb hown X w 0 6 fl_X8_147 dX8_readThing_104 rfl (by decide) rfl ?_
              obtain ⟨f30, x31, hc107, hf⟩ := pf_bv_2 hf
              refine hm_aft_v (ws' := fun _ => [oc8 h0 r_t t_base t_taped x27 x28 x29 t_newBits t_newTold x31 x4 t_opened t_sum t_heldAll t_onPaper t_turned t_wasConverted t_lastBits t_lastSum t_lastHeld t_lastLeft t_lastCode t_writtenLong t_codeMany t_acts t_done0 t_stoppedAt, ic E (r_t 14) 84 f30, ic E (r_t 17) 10 t_open, ic E (r_t 21) 10 t_productSign, ic E (r_t 18) 10 t_stage, ic E (r_t 20) 10 t_sumSign, bc E (r_t 2) 400 t_tape]) (hm_runV (rest := []) hx hb hml hown X hA Y w 0 (ci := 7) (T := TX8) (N := 55) rfl rfl mw_X8_does ml_X8_197 dX8_readThing_107 hm_ac0 [.int x29] rfl [0, 1] rfl rfl (ct_X8_does l E H.size h0 r_t t_base t_taped x27 x28 x29 t_newBits t_newTold t_newDoings x4 t_opened t_sum t_heldAll t_onPaper t_turned t_wasConverted t_lastBits t_lastSum t_lastHeld t_lastLeft t_lastCode t_writtenLong t_codeMany t_acts t_done0 t_stoppedAt t_newDoing x29 (f30, x31) hc107) rfl hl.1 ⟨⟨rfl, rfl⟩, ⟨Nat.le_of_ble_eq_true rfl, Nat.le_of_ble_eq_true rfl⟩, ⟨Nat.le_of_ble_eq_true rfl, Nat.le_of_ble_eq_true rfl⟩, Nat.le_of_ble_eq_true rfl⟩) hA w [0, 1] [2, 3, 4, 5, 6] [5, 6, 0, 1, 2, 3, 4] rfl rfl (by decide) (fun _ => rfl) (fun _ H locs w => ?_)
              refine lv_iconst (v := 1) hx hb dX8_readThing_110 (by decide) ?_
              exact hQ _ _ _ _ _ (x27, x28, x29, f30, x31, x4, t_open, t_stage, t_sumSign, t_productSign, t_opened) (fun _ => 0) hf rfl w dX8_readThing_111
            · have hf := pf_t c97 hf
              refine lv_iconst (v := (-1)) hx hb dX8_readThing_100 (by decide) ?_
              exact hQ _ _ _ _ _ (x27, x28, x29, t_newDoing, t_newDoings, x4, t_open, t_stage, t_sumSign, t_productSign, t_opened) (fun _ => 0) hf rfl w dX8_readThing_101
        · have hf := pf_t c63 hf
          exact kJ66 _ _ _ hf w (lv_sub hl [1] rfl)
  obtain ⟨J38, hJ38, hf⟩ := pf_jn hf
  have kJ38 : ∀ (H : Heap) (locs : List Loc) (ls : Array Slot), J38 = some R → hm_W E A s.heap [oc8 h0 r_t t_base t_taped t_at t_faultPlace t_number t_newBits t_newTold t_newDoings t_newThings t_opened t_sum t_heldAll t_onPaper t_turned t_wasConverted t_lastBits t_lastSum t_lastHeld t_lastLeft t_lastCode t_writtenLong t_codeMany t_acts t_done0 t_stoppedAt, ic E (r_t 14) 84 t_newDoing, ic E (r_t 17) 10 t_open, ic E (r_t 21) 10 t_productSign, ic E (r_t 18) 10 t_stage, ic E (r_t 20) 10 t_sumSign, bc E (r_t 2) 400 t_tape] H locs → lv_has ls 3 [(0, .ref h0), (1, .int r1)] → W p l e (hm_rr 2 42 0 0) s m args below meth c H locs 0 0 Q (F0 m 38 ls [.int 1]) := by
    intro H locs ls hf w hl
    have hf := pf_j0 hJ38 hf
    refine lv_iconst (v := 1) hx hb dX8_readThing_38 (by decide) ?_
    refine lv_goto (tgt := 43) hx hb dX8_readThing_39 (by decide) ?_
    exact kJ43 _ _ _ _ hf w (lv_sub hl [0, 1] rfl)
  refine lv_if_ne (tgt := 38) hx hb dX8_readThing_9 (by decide) (fun c9 => ?_) (fun c9 => ?_)
  · have hf := pf_e c9 hf
    exact kJ38 _ _ _ hf w (lv_sub hl [1, 0] rfl)
  · have hf := pf_t c9 hf
    refine lv_iload_n hx hb dX8_readThing_12 rfl (lv_at hl 0 rfl) ?_
    obtain ⟨r32, hc13, hf⟩ := pf_bi_0 hf
    refine hm_aft_i (ws' := fun _ => [oc8 h0 r_t t_base t_taped t_at t_faultPlace t_number t_newBits t_newTold t_newDoings t_newThings t_opened t_sum t_heldAll t_onPaper t_turned t_wasConverted t_lastBits t_lastSum t_lastHeld t_lastLeft t_lastCode t_writtenLong t_codeMany t_acts t_done0 t_stoppedAt, ic E (r_t 14) 84 t_newDoing, ic E (r_t 17) 10 t_open, ic E (r_t 21) 10 t_productSign, ic E (r_t 18) 10 t_stage, ic E (r_t 20) 10 t_sumSign, bc E (r_t 2) 400 t_tape]) (hm_runS (rest := []) hx hb hml hown X hA Y w mw_X8_letterOf ml_X8_191 dX8_readThing_13 hm_ac0 [.int r1] rfl [] rfl rfl (ct_X8_letterOf l E H.size r1 (r32, ()) hc13) rfl hl.1 ⟨⟨rfl, rfl⟩, ⟨Nat.le_of_ble_eq_true rfl, Nat.le_of_ble_eq_true rfl⟩, ⟨Nat.le_of_ble_eq_true rfl, Nat.le_of_ble_eq_true rfl⟩, Nat.le_of_ble_eq_true rfl⟩) hA w [] [0, 1, 2, 3, 4, 5, 6] [0, 1, 2, 3, 4, 5, 6] rfl rfl (by decide) (fun _ => rfl) (fun _ H locs w => ?_)
    refine lv_iconst (v := (-1)) hx hb dX8_readThing_16 (by decide) ?_
    refine lv_icmp_ne (tgt := 38) hx hb dX8_readThing_17 (by decide) (fun c17 => ?_) (fun c17 => ?_)
    · have hf := pf_e c17 hf
      exact kJ38 _ _ _ hf w (lv_sub hl [1, 0] rfl)
    · have hf := pf_t c17 hf
      refine lv_iload_n hx hb dX8_readThing_20 rfl (lv_at hl 0 rfl) ?_
      refine lv_bipush (v := 40) hx hb dX8_readThing_21 (by decide) ?_
      refine lv_icmp_eq (tgt := 38) hx hb dX8_readThing_23 (by decide) (fun c23 => ?_) (fun c23 => ?_)
      · have hf := pf_t c23 hf
        exact kJ38 _ _ _ hf w (lv_sub hl [1, 0] rfl)
      · have hf := pf_e c23 hf
        refine lv_iload_n hx hb dX8_readThing_26 rfl (lv_at hl 0 rfl) ?_
        refine lv_bipush (v := 91) hx hb dX8_readThing_27 (by decide) ?_
        refine lv_icmp_eq (tgt := 38) hx hb dX8_readThing_29 (by decide) (fun c29 => ?_) (fun c29 => ?_)
        · have hf := pf_t c29 hf
          exact kJ38 _ _ _ hf w (lv_sub hl [1, 0] rfl)
        · have hf := pf_e c29 hf
          refine lv_iload_n hx hb dX8_readThing_32 rfl (lv_at hl 0 rfl) ?_
          refine lv_bipush (v := 45) hx hb dX8_readThing_33 (by decide) ?_
          refine lv_icmp_ne (tgt := 42) hx hb dX8_readThing_35 (by decide) (fun c35 => ?_) (fun c35 => ?_)
          · have hf := pf_e c35 hf
            refine lv_iconst (v := 0) hx hb dX8_readThing_42 (by decide) ?_
            exact kJ43 _ _ _ _ hf w (lv_sub hl [1, 0] rfl)
          · have hf := pf_t c35 hf
            exact kJ38 _ _ _ hf w (lv_sub hl [1, 0] rfl)
set_option maxHeartbeats 8000000 in
set_option maxRecDepth 100000 in
theorem ct_X8_doingOf (l : Launch) (E : hm_E) (sz : Nat) (a0 : Int32) (R : Int32 × Unit) (hf : pf_X8_doingOf a0 = some R) : hm_Mi l E yX8_doingOf cX8_doingOf 1 .int [] (hm_rr 0 0 0 0) [.int a0] sz [] R.1 (fun _ => []) := by
  refine hm_ct_i R (fun u _ => []) (by decide) (Nat.le_of_ble_eq_true rfl) (Or.inl rfl) ?_
  intro p e s m args below meth c A Q ls H locs hx hb hml hown X hA Y hex w hl hQ
  have hl : lv_has ls 1 [(0, .int a0)] := hl
  unfold pf_X8_doingOf at hf
  refine lv_iload_n hx hb dX8_doingOf_0 rfl (lv_at hl 0 rfl) ?_
  refine lv_bipush (v := 43) hx hb dX8_doingOf_1 (by decide) ?_
  refine lv_icmp_ne (tgt := 12) hx hb dX8_doingOf_3 (by decide) (fun c3 => ?_) (fun c3 => ?_)
  · have hf := pf_e c3 hf
    refine lv_iload_n hx hb dX8_doingOf_12 rfl (lv_at hl 0 rfl) ?_
    refine lv_bipush (v := 45) hx hb dX8_doingOf_13 (by decide) ?_
    refine lv_icmp_ne (tgt := 24) hx hb dX8_doingOf_15 (by decide) (fun c15 => ?_) (fun c15 => ?_)
    · have hf := pf_e c15 hf
      refine lv_iload_n hx hb dX8_doingOf_24 rfl (lv_at hl 0 rfl) ?_
      refine lv_bipush (v := 42) hx hb dX8_doingOf_25 (by decide) ?_
      refine lv_icmp_ne (tgt := 36) hx hb dX8_doingOf_27 (by decide) (fun c27 => ?_) (fun c27 => ?_)
      · have hf := pf_e c27 hf
        refine lv_iload_n hx hb dX8_doingOf_36 rfl (lv_at hl 0 rfl) ?_
        refine lv_bipush (v := 47) hx hb dX8_doingOf_37 (by decide) ?_
        refine lv_icmp_ne (tgt := 48) hx hb dX8_doingOf_39 (by decide) (fun c39 => ?_) (fun c39 => ?_)
        · have hf := pf_e c39 hf
          refine lv_sipush (v := 10014) hx hb dX8_doingOf_48 (by decide) ?_
          exact hQ _ _ _ _ _ () (fun _ => 0) hf rfl w dX8_doingOf_51
        · have hf := pf_t c39 hf
          refine lv_sipush (v := 10013) hx hb dX8_doingOf_42 (by decide) ?_
          refine lv_goto (tgt := 51) hx hb dX8_doingOf_45 (by decide) ?_
          exact hQ _ _ _ _ _ () (fun _ => 0) hf rfl w dX8_doingOf_51
      · have hf := pf_t c27 hf
        refine lv_sipush (v := 10012) hx hb dX8_doingOf_30 (by decide) ?_
        refine lv_goto (tgt := 51) hx hb dX8_doingOf_33 (by decide) ?_
        exact hQ _ _ _ _ _ () (fun _ => 0) hf rfl w dX8_doingOf_51
    · have hf := pf_t c15 hf
      refine lv_sipush (v := 10011) hx hb dX8_doingOf_18 (by decide) ?_
      refine lv_goto (tgt := 51) hx hb dX8_doingOf_21 (by decide) ?_
      exact hQ _ _ _ _ _ () (fun _ => 0) hf rfl w dX8_doingOf_51
  · have hf := pf_t c3 hf
    refine lv_sipush (v := 10010) hx hb dX8_doingOf_6 (by decide) ?_
    refine lv_goto (tgt := 51) hx hb dX8_doingOf_9 (by decide) ?_
    exact hQ _ _ _ _ _ () (fun _ => 0) hf rfl w dX8_doingOf_51
set_option maxHeartbeats 8000000 in
set_option maxRecDepth 100000 in
theorem ct_X8_isOne (l : Launch) (E : hm_E) (sz : Nat) (h0 : Nat) (r_t : Nat → Nat) (t_base t_taped t_at t_faultPlace t_number t_newBits t_newTold t_newDoings t_newThings t_opened t_sum t_heldAll t_onPaper t_turned t_wasConverted t_lastBits t_lastSum t_lastHeld t_lastLeft t_lastCode t_writtenLong t_codeMany t_acts t_done0 t_stoppedAt : Int32) (t_tape : Nat → Int32) (a1 : Int32) (a2 : Int32) (a3 : Int32) (R : Int32 × Unit) (hf : pf_X8_isOne a1 a2 a3 t_tape t_taped t_at = some R) : hm_Mi l E yX8_isOne cX8_isOne 4 .boolean [] (hm_rr 1 20 0 0) [.ref h0, .int a1, .int a2, .int a3] sz [oc8 h0 r_t t_base t_taped t_at t_faultPlace t_number t_newBits t_newTold t_newDoings t_newThings t_opened t_sum t_heldAll t_onPaper t_turned t_wasConverted t_lastBits t_lastSum t_lastHeld t_lastLeft t_lastCode t_writtenLong t_codeMany t_acts t_done0 t_stoppedAt, bc E (r_t 2) 400 t_tape] R.1 (fun _ => [oc8 h0 r_t t_base t_taped t_at t_faultPlace t_number t_newBits t_newTold t_newDoings t_newThings t_opened t_sum t_heldAll t_onPaper t_turned t_wasConverted t_lastBits t_lastSum t_lastHeld t_lastLeft t_lastCode t_writtenLong t_codeMany t_acts t_done0 t_stoppedAt, bc E (r_t 2) 400 t_tape]) := by
  refine hm_ct_i R (fun u _ => [oc8 h0 r_t t_base t_taped t_at t_faultPlace t_number t_newBits t_newTold t_newDoings t_newThings t_opened t_sum t_heldAll t_onPaper t_turned t_wasConverted t_lastBits t_lastSum t_lastHeld t_lastLeft t_lastCode t_writtenLong t_codeMany t_acts t_done0 t_stoppedAt, bc E (r_t 2) 400 t_tape]) (by decide) (Nat.le_of_ble_eq_true rfl) (Or.inr rfl) ?_
  intro p e s m args below meth c A Q ls H locs hx hb hml hown X hA Y hex w hl hQ
  have hl : lv_has ls 4 [(0, .ref h0), (1, .int a1), (2, .int a2), (3, .int a3)] := hl
  unfold pf_X8_isOne at hf
  refine lv_aload_n hx hb dX8_isOne_0 rfl (lv_at hl 0 rfl) ?_
  obtain ⟨r1, hc1, hf⟩ := pf_bi_0 hf
  refine hm_aft_i (ws' := fun _ => [oc8 h0 r_t t_base t_taped t_at t_faultPlace t_number t_newBits t_newTold t_newDoings t_newThings t_opened t_sum t_heldAll t_onPaper t_turned t_wasConverted t_lastBits t_lastSum t_lastHeld t_lastLeft t_lastCode t_writtenLong t_codeMany t_acts t_done0 t_stoppedAt, bc E (r_t 2) 400 t_tape]) (hm_runV (rest := []) hx hb hml hown X hA Y w 0 (ci := 7) (T := TX8) (N := 55) rfl rfl mw_X8_here ml_X8_136 dX8_isOne_1 hm_ac0 [] rfl [0, 1] rfl rfl (ct_X8_here l E H.size h0 r_t t_base t_taped t_at t_faultPlace t_number t_newBits t_newTold t_newDoings t_newThings t_opened t_sum t_heldAll t_onPaper t_turned t_wasConverted t_lastBits t_lastSum t_lastHeld t_lastLeft t_lastCode t_writtenLong t_codeMany t_acts t_done0 t_stoppedAt t_tape (r1, ()) hc1) rfl hl.1 ⟨⟨rfl, rfl⟩, ⟨Nat.le_of_ble_eq_true rfl, Nat.le_of_ble_eq_true rfl⟩, ⟨Nat.le_of_ble_eq_true rfl, Nat.le_of_ble_eq_true rfl⟩, Nat.le_of_ble_eq_true rfl⟩) hA w [0, 1] [] [0, 1] rfl rfl (by decide) (fun _ => rfl) (fun _ H locs w => ?_)
  refine lv_iload_n hx hb dX8_isOne_4 rfl (lv_at hl 1 rfl) ?_
  refine lv_icmp_eq (tgt := 24) hx hb dX8_isOne_5 (by decide) (fun c5 => ?_) (fun c5 => ?_)
  · have hf := pf_t c5 hf
    refine lv_iconst (v := 1) hx hb dX8_isOne_24 (by decide) ?_
    refine lv_goto (tgt := 29) hx hb dX8_isOne_25 (by decide) ?_
    exact hQ _ _ _ _ _ () (fun _ => 0) hf rfl w dX8_isOne_29
  · have hf := pf_e c5 hf
    refine lv_aload_n hx hb dX8_isOne_8 rfl (lv_at hl 0 rfl) ?_
    obtain ⟨r2, hc9, hf⟩ := pf_bi_0 hf
    refine hm_aft_i (ws' := fun _ => [oc8 h0 r_t t_base t_taped t_at t_faultPlace t_number t_newBits t_newTold t_newDoings t_newThings t_opened t_sum t_heldAll t_onPaper t_turned t_wasConverted t_lastBits t_lastSum t_lastHeld t_lastLeft t_lastCode t_writtenLong t_codeMany t_acts t_done0 t_stoppedAt, bc E (r_t 2) 400 t_tape]) (hm_runV (rest := []) hx hb hml hown X hA Y w 0 (ci := 7) (T := TX8) (N := 55) rfl rfl mw_X8_here ml_X8_136 dX8_isOne_9 hm_ac0 [] rfl [0, 1] rfl rfl (ct_X8_here l E H.size h0 r_t t_base t_taped t_at t_faultPlace t_number t_newBits t_newTold t_newDoings t_newThings t_opened t_sum t_heldAll t_onPaper t_turned t_wasConverted t_lastBits t_lastSum t_lastHeld t_lastLeft t_lastCode t_writtenLong t_codeMany t_acts t_done0 t_stoppedAt t_tape (r2, ()) hc9) rfl hl.1 ⟨⟨rfl, rfl⟩, ⟨Nat.le_of_ble_eq_true rfl, Nat.le_of_ble_eq_true rfl⟩, ⟨Nat.le_of_ble_eq_true rfl, Nat.le_of_ble_eq_true rfl⟩, Nat.le_of_ble_eq_true rfl⟩) hA w [0, 1] [] [0, 1] rfl rfl (by decide) (fun _ => rfl) (fun _ H locs w => ?_)
    refine lv_iload_n hx hb dX8_isOne_12 rfl (lv_at hl 2 rfl) ?_
    refine lv_icmp_eq (tgt := 24) hx hb dX8_isOne_13 (by decide) (fun c13 => ?_) (fun c13 => ?_)
    · have hf := pf_t c13 hf
      refine lv_iconst (v := 1) hx hb dX8_isOne_24 (by decide) ?_
      refine lv_goto (tgt := 29) hx hb dX8_isOne_25 (by decide) ?_
      exact hQ _ _ _ _ _ () (fun _ => 0) hf rfl w dX8_isOne_29
    · have hf := pf_e c13 hf
      refine lv_aload_n hx hb dX8_isOne_16 rfl (lv_at hl 0 rfl) ?_
      obtain ⟨r3, hc17, hf⟩ := pf_bi_0 hf
      refine hm_aft_i (ws' := fun _ => [oc8 h0 r_t t_base t_taped t_at t_faultPlace t_number t_newBits t_newTold t_newDoings t_newThings t_opened t_sum t_heldAll t_onPaper t_turned t_wasConverted t_lastBits t_lastSum t_lastHeld t_lastLeft t_lastCode t_writtenLong t_codeMany t_acts t_done0 t_stoppedAt, bc E (r_t 2) 400 t_tape]) (hm_runV (rest := []) hx hb hml hown X hA Y w 0 (ci := 7) (T := TX8) (N := 55) rfl rfl mw_X8_here ml_X8_136 dX8_isOne_17 hm_ac0 [] rfl [0, 1] rfl rfl (ct_X8_here l E H.size h0 r_t t_base t_taped t_at t_faultPlace t_number t_newBits t_newTold t_newDoings t_newThings t_opened t_sum t_heldAll t_onPaper t_turned t_wasConverted t_lastBits t_lastSum t_lastHeld t_lastLeft t_lastCode t_writtenLong t_codeMany t_acts t_done0 t_stoppedAt t_tape (r3, ()) hc17) rfl hl.1 ⟨⟨rfl, rfl⟩, ⟨Nat.le_of_ble_eq_true rfl, Nat.le_of_ble_eq_true rfl⟩, ⟨Nat.le_of_ble_eq_true rfl, Nat.le_of_ble_eq_true rfl⟩, Nat.le_of_ble_eq_true rfl⟩) hA w [0, 1] [] [0, 1] rfl rfl (by decide) (fun _ => rfl) (fun _ H locs w => ?_)
      refine lv_iload_n hx hb dX8_isOne_20 rfl (lv_at hl 3 rfl) ?_
      refine lv_icmp_ne (tgt := 28) hx hb dX8_isOne_21 (by decide) (fun c21 => ?_) (fun c21 => ?_)
      · have hf := pf_e c21 hf
        refine lv_iconst (v := 0) hx hb dX8_isOne_28 (by decide) ?_
        exact hQ _ _ _ _ _ () (fun _ => 0) hf rfl w dX8_isOne_29
      · have hf := pf_t c21 hf
        refine lv_iconst (v := 1) hx hb dX8_isOne_24 (by decide) ?_
        refine lv_goto (tgt := 29) hx hb dX8_isOne_25 (by decide) ?_
        exact hQ _ _ _ _ _ () (fun _ => 0) hf rfl w dX8_isOne_29
set_option maxHeartbeats 8000000 in
set_option maxRecDepth 100000 in
theorem ct_X8_partsOn (l : Launch) (E : hm_E) (sz : Nat) (h0 : Nat) (r_t : Nat → Nat) (t_base t_taped t_at t_faultPlace t_number t_newBits t_newTold t_newDoings t_newThings t_opened t_sum t_heldAll t_onPaper t_turned t_wasConverted t_lastBits t_lastSum t_lastHeld t_lastLeft t_lastCode t_writtenLong t_codeMany t_acts t_done0 t_stoppedAt : Int32) (t_sign : Nat → Int32) (t_stage : Nat → Int32) (t_tape : Nat → Int32) (a1 : Int32) (R : Int32 × Int32 × Int32 × (Nat → Int32) × (Nat → Int32)) (hf : pf_X8_partsOn a1 t_tape t_taped t_at t_faultPlace t_stage t_sign = some R) : hm_Mi l E yX8_partsOn cX8_partsOn 3 .boolean [] (hm_rr 2 43 0 0) [.ref h0, .int a1] sz [oc8 h0 r_t t_base t_taped t_at t_faultPlace t_number t_newBits t_newTold t_newDoings t_newThings t_opened t_sum t_heldAll t_onPaper t_turned t_wasConverted t_lastBits t_lastSum t_lastHeld t_lastLeft t_lastCode t_writtenLong t_codeMany t_acts t_done0 t_stoppedAt, ic E (r_t 19) 10 t_sign, ic E (r_t 18) 10 t_stage, bc E (r_t 2) 400 t_tape] R.1 (fun _ => [oc8 h0 r_t t_base t_taped (R.2.1) (R.2.2.1) t_number t_newBits t_newTold t_newDoings t_newThings t_opened t_sum t_heldAll t_onPaper t_turned t_wasConverted t_lastBits t_lastSum t_lastHeld t_lastLeft t_lastCode t_writtenLong t_codeMany t_acts t_done0 t_stoppedAt, ic E (r_t 19) 10 (R.2.2.2.2), ic E (r_t 18) 10 (R.2.2.2.1), bc E (r_t 2) 400 t_tape]) := by
  refine hm_ct_i R (fun u _ => [oc8 h0 r_t t_base t_taped (u.1) (u.2.1) t_number t_newBits t_newTold t_newDoings t_newThings t_opened t_sum t_heldAll t_onPaper t_turned t_wasConverted t_lastBits t_lastSum t_lastHeld t_lastLeft t_lastCode t_writtenLong t_codeMany t_acts t_done0 t_stoppedAt, ic E (r_t 19) 10 (u.2.2.2), ic E (r_t 18) 10 (u.2.2.1), bc E (r_t 2) 400 t_tape]) (by decide) (Nat.le_of_ble_eq_true rfl) (Or.inr rfl) ?_
  intro p e s m args below meth c A Q ls H locs hx hb hml hown X hA Y hex w hl hQ
  have hl : lv_has ls 3 [(0, .ref h0), (1, .int a1)] := hl
  unfold pf_X8_partsOn at hf
  refine lv_aload_n hx hb dX8_partsOn_0 rfl (lv_at hl 0 rfl) ?_
  refine hm_get cb_X8 hx hb hown X w 0 18 fl_X8_49 dX8_partsOn_1 rfl (by decide) rfl ?_
  refine lv_iload_n hx hb dX8_partsOn_4 rfl (lv_at hl 1 rfl) ?_
  obtain ⟨g5, hf⟩ := pf_ckI hf
  refine hm_iald hx hb X w 2 dX8_partsOn_5 rfl g5 ?_
  obtain ⟨J51, hJ51, hf⟩ := pf_jn hf
  have kJ51 : ∀ (x1 : Int32) (H : Heap) (locs : List Loc) (ls : Array Slot), J51 x1 = some R → hm_W E A s.heap [oc8 h0 r_t t_base t_taped t_at t_faultPlace t_number t_newBits t_newTold t_newDoings t_newThings t_opened t_sum t_heldAll t_onPaper t_turned t_wasConverted t_lastBits t_lastSum t_lastHeld t_lastLeft t_lastCode t_writtenLong t_codeMany t_acts t_done0 t_stoppedAt, ic E (r_t 19) 10 t_sign, ic E (r_t 18) 10 t_stage, bc E (r_t 2) 400 t_tape] H locs → lv_has ls 3 [(2, .int x1), (0, .ref h0), (1, .int a1)] → W p l e (hm_rr 2 43 0 0) s m args below meth c H locs 0 0 Q (F0 m 51 ls []) := by
    intro x1 H locs ls hf w hl
    have hf := pf_j1 hJ51 hf
    refine lv_istore_n (lv' := [(2, .int x1), (0, .ref h0), (1, .int a1)]) hx hb dX8_partsOn_51 rfl hl (by decide) rfl (fun ls hl => ?_)
    refine lv_iload_n hx hb dX8_partsOn_52 rfl (lv_at hl 0 rfl) ?_
    refine lv_if_ne (tgt := 65) hx hb dX8_partsOn_53 (by decide) (fun c53 => ?_) (fun c53 => ?_)
    · have hf := pf_e c53 hf
      refine lv_aload_n hx hb dX8_partsOn_65 rfl (lv_at hl 1 rfl) ?_
      refine hm_get cb_X8 hx hb hown X w 0 18 fl_X8_49 dX8_partsOn_66 rfl (by decide) rfl ?_
      refine lv_iload_n hx hb dX8_partsOn_69 rfl (lv_at hl 2 rfl) ?_
      obtain ⟨g70, hf⟩ := pf_ckI hf
      refine hm_iald hx hb X w 2 dX8_partsOn_70 rfl g70 ?_
      obtain ⟨J98, hJ98, hf⟩ := pf_jn hf
      have kJ98 : ∀ (f2 : Nat → Int32) (H : Heap) (locs : List Loc) (ls : Array Slot), J98 f2 = some R → hm_W E A s.heap [oc8 h0 r_t t_base t_taped x3 t_faultPlace t_number t_newBits t_newTold t_newDoings t_newThings t_opened t_sum t_heldAll t_onPaper t_turned t_wasConverted t_lastBits t_lastSum t_lastHeld t_lastLeft t_lastCode t_writtenLong t_codeMany t_acts t_done0 t_stoppedAt, ic E (r_t 19) 10 f2, ic E (r_t 18) 10 (upd t_stage a1.toNatClampNeg x4), bc E (r_t 2) 400 t_tape] H locs → lv_has ls 3 [(0, .ref h0), (1, .int a1)] → W p l e (hm_rr 2 43 0 0) s m args below meth c H locs 0 0 Q (F0 m 98 ls []) := by
        intro f2 H locs ls hf w hl
        have hf := pf_j1 hJ98 hf
        refine lv_aload_n hx hb dX8_partsOn_98 rfl (lv_at hl 0 rfl) ?_
        refine lv_dup hx hb dX8_partsOn_99 rfl ?_
        refine hm_get cb_X8 hx hb hown X w 0 4 fl_X8_133 dX8_partsOn_100 rfl (by decide) rfl ?_
        refine lv_iconst (v := 1) hx hb dX8_partsOn_103 (by decide) ?_
        refine lv_iadd hx hb dX8_partsOn_104 ?_
        refine lv_topi (fun x3 ex3 => ?_)
        have hf := pf_nm ex3 hf
        refine hm_put (ws' := [oc8 h0 r_t t_base t_taped x3 t_faultPlace t_number t_newBits t_newTold t_newDoings t_newThings t_opened t_sum t_heldAll t_onPaper t_turned t_wasConverted t_lastBits t_lastSum t_lastHeld t_lastLeft t_lastCode t_writtenLong t_codeMany t_acts t_done0 t_stoppedAt, ic E (r_t 19) 10 f2, ic E (r_t 18) 10 t_stage, bc E (r_t 2) 400 t_tape]) cb_X8 hx hb hown X w 0 4 fl_X8_133 dX8_partsOn_105 rfl (by decide) (Nat.le_of_ble_eq_true rfl) rfl rfl rfl rfl (fun H locs w => ?_)
        refine lv_aload_n hx hb dX8_partsOn_108 rfl (lv_at hl 0 rfl) ?_
        refine hm_get cb_X8 hx hb hown X w 0 18 fl_X8_49 dX8_partsOn_109 rfl (by decide) rfl ?_
        refine lv_iload_n hx hb dX8_partsOn_112 rfl (lv_at hl 1 rfl) ?_
        refine lv_dup2_11 hx hb dX8_partsOn_113 rfl rfl ?_
        obtain ⟨g114, hf⟩ := pf_ckI hf
        refine hm_iald hx hb X w 2 dX8_partsOn_114 rfl g114 ?_
        refine lv_iconst (v := 1) hx hb dX8_partsOn_115 (by decide) ?_
        refine lv_iadd hx hb dX8_partsOn_116 ?_
        refine lv_topi (fun x4 ex4 => ?_)
        have hf := pf_nm ex4 hf
        obtain ⟨g117, hf⟩ := pf_ckI hf
        refine hm_iast (ws' := [oc8 h0 r_t t_base t_taped x3 t_faultPlace t_number t_newBits t_newTold t_newDoings t_newThings t_opened t_sum t_heldAll t_onPaper t_turned t_wasConverted t_lastBits t_lastSum t_lastHeld t_lastLeft t_lastCode t_writtenLong t_codeMany t_acts t_done0 t_stoppedAt, ic E (r_t 19) 10 f2, ic E (r_t 18) 10 (upd t_stage a1.toNatClampNeg x4), bc E (r_t 2) 400 t_tape]) hx hb X w 2 dX8_partsOn_117 rfl g117 rfl (fun H locs w => ?_)
        refine lv_iconst (v := 1) hx hb dX8_partsOn_118 (by decide) ?_
        exact hQ _ _ _ _ _ (x3, t_faultPlace, (upd t_stage a1.toNatClampNeg x4), f2) (fun _ => 0) hf rfl w dX8_partsOn_119
      refine lv_if_ne (tgt := 98) hx hb dX8_partsOn_71 (by decide) (fun c71 => ?_) (fun c71 => ?_)
      · have hf := pf_e c71 hf
        exact kJ98 _ _ _ _ hf w (lv_sub hl [1, 2] rfl)
      · have hf := pf_t c71 hf
        refine lv_aload_n hx hb dX8_partsOn_74 rfl (lv_at hl 1 rfl) ?_
        refine hm_get cb_X8 hx hb hown X w 0 19 fl_X8_52 dX8_partsOn_75 rfl (by decide) rfl ?_
        refine lv_iload_n hx hb dX8_partsOn_78 rfl (lv_at hl 2 rfl) ?_
        refine lv_aload_n hx hb dX8_partsOn_79 rfl (lv_at hl 1 rfl) ?_
        obtain ⟨r5, hc80, hf⟩ := pf_bi_0 hf
        refine hm_aft_i (ws' := fun _ => [oc8 h0 r_t t_base t_taped t_at t_faultPlace t_number t_newBits t_newTold t_newDoings t_newThings t_opened t_sum t_heldAll t_onPaper t_turned t_wasConverted t_lastBits t_lastSum t_lastHeld t_lastLeft t_lastCode t_writtenLong t_codeMany t_acts t_done0 t_stoppedAt, ic E (r_t 19) 10 t_sign, ic E (r_t 18) 10 t_stage, bc E (r_t 2) 400 t_tape]) (hm_runV (rest := [.int a1, .ref (r_t 19)]) hx hb hml hown X hA Y w 0 (ci := 7) (T := TX8) (N := 55) rfl rfl mw_X8_here ml_X8_136 dX8_partsOn_80 hm_ac0 [] rfl [0, 3] rfl rfl (ct_X8_here l E H.size h0 r_t t_base t_taped t_at t_faultPlace t_number t_newBits t_newTold t_newDoings t_newThings t_opened t_sum t_heldAll t_onPaper t_turned t_wasConverted t_lastBits t_lastSum t_lastHeld t_lastLeft t_lastCode t_writtenLong t_codeMany t_acts t_done0 t_stoppedAt t_tape (r5, ()) hc80) rfl hl.1 ⟨⟨rfl, rfl⟩, ⟨Nat.le_of_ble_eq_true rfl, Nat.le_of_ble_eq_true rfl⟩, ⟨Nat.le_of_ble_eq_true rfl, Nat.le_of_ble_eq_true rfl⟩, Nat.le_of_ble_eq_true rfl⟩) hA w [0, 3] [1, 2] [2, 0, 1, 3] rfl rfl (by decide) (fun _ => rfl) (fun _ H locs w => ?_)
        refine lv_bipush (v := 60) hx hb dX8_partsOn_83 (by decide) ?_
        obtain ⟨J97, hJ97, hf⟩ := pf_jn hf
        have kJ97 : ∀ (x6 : Int32) (H : Heap) (locs : List Loc) (ls : Array Slot), J97 x6 = some R → hm_W E A s.heap [oc8 h0 r_t t_base t_taped t_at t_faultPlace t_number t_newBits t_newTold t_newDoings t_newThings t_opened t_sum t_heldAll t_onPaper t_turned t_wasConverted t_lastBits t_lastSum t_lastHeld t_lastLeft t_lastCode t_writtenLong t_codeMany t_acts t_done0 t_stoppedAt, ic E (r_t 19) 10 (upd t_sign a1.toNatClampNeg x6), ic E (r_t 18) 10 t_stage, bc E (r_t 2) 400 t_tape] H locs → lv_has ls 3 [(0, .ref h0), (1, .int a1)] → W p l e (hm_rr 2 43 0 0) s m args below meth c H locs 0 0 Q (F0 m 97 ls []) := by
          intro x6 H locs ls hf w hl
          have hf := pf_j1 hJ97 hf
          obtain ⟨g97, hf⟩ := pf_ckI hf
          refine hm_iast (ws' := [oc8 h0 r_t t_base t_taped t_at t_faultPlace t_number t_newBits t_newTold t_newDoings t_newThings t_opened t_sum t_heldAll t_onPaper t_turned t_wasConverted t_lastBits t_lastSum t_lastHeld t_lastLeft t_lastCode t_writtenLong t_codeMany t_acts t_done0 t_stoppedAt, ic E (r_t 19) 10 (upd t_sign a1.toNatClampNeg x6), ic E (r_t 18) 10 t_stage, bc E (r_t 2) 400 t_tape]) hx hb X w 1 dX8_partsOn_97 rfl g97 rfl (fun H locs w => ?_)
          exact kJ98 _ _ _ _ hf w (lv_sub hl [0, 1] rfl)
        refine lv_icmp_ne (tgt := 94) hx hb dX8_partsOn_85 (by decide) (fun c85 => ?_) (fun c85 => ?_)
        · have hf := pf_e c85 hf
          refine lv_sipush (v := 10017) hx hb dX8_partsOn_94 (by decide) ?_
          exact kJ97 _ _ _ _ hf w (lv_sub hl [1, 2] rfl)
        · have hf := pf_t c85 hf
          refine lv_sipush (v := 10016) hx hb dX8_partsOn_88 (by decide) ?_
          refine lv_goto (tgt := 97) hx hb dX8_partsOn_91 (by decide) ?_
          exact kJ97 _ _ _ _ hf w (lv_sub hl [1, 2] rfl)
    · have hf := pf_t c53 hf
      refine lv_aload_n hx hb dX8_partsOn_56 rfl (lv_at hl 1 rfl) ?_
      refine lv_aload_n hx hb dX8_partsOn_57 rfl (lv_at hl 1 rfl) ?_
      refine hm_get cb_X8 hx hb hown X w 0 4 fl_X8_133 dX8_partsOn_58 rfl (by decide) rfl ?_
      obtain ⟨r7, x8, hc61, hf⟩ := pf_bi_1 hf
      refine hm_aft_i (ws' := fun _ => [oc8 h0 r_t t_base t_taped t_at x8 t_number t_newBits t_newTold t_newDoings t_newThings t_opened t_sum t_heldAll t_onPaper t_turned t_wasConverted t_lastBits t_lastSum t_lastHeld t_lastLeft t_lastCode t_writtenLong t_codeMany t_acts t_done0 t_stoppedAt, ic E (r_t 19) 10 t_sign, ic E (r_t 18) 10 t_stage, bc E (r_t 2) 400 t_tape]) (hm_runV (rest := []) hx hb hml hown X hA Y w 0 (ci := 7) (T := TX8) (N := 55) rfl rfl mw_X8_fails ml_X8_144 dX8_partsOn_61 hm_ac0 [.int t_at] rfl [0] rfl rfl (ct_X8_fails l E H.size h0 r_t t_base t_taped t_at t_faultPlace t_number t_newBits t_newTold t_newDoings t_newThings t_opened t_sum t_heldAll t_onPaper t_turned t_wasConverted t_lastBits t_lastSum t_lastHeld t_lastLeft t_lastCode t_writtenLong t_codeMany t_acts t_done0 t_stoppedAt t_at (r7, x8) hc61) rfl hl.1 ⟨⟨rfl, rfl⟩, ⟨Nat.le_of_ble_eq_true rfl, Nat.le_of_ble_eq_true rfl⟩, ⟨Nat.le_of_ble_eq_true rfl, Nat.le_of_ble_eq_true rfl⟩, Nat.le_of_ble_eq_true rfl⟩) hA w [0] [1, 2, 3] [3, 0, 1, 2] rfl rfl (by decide) (fun _ => rfl) (fun _ H locs w => ?_)
      obtain ⟨g64, hf⟩ := pf_ckZ hf
      exact hQ _ _ _ _ _ (t_at, x8, t_stage, t_sign) (fun _ => 0) hf (hm_z g64) w dX8_partsOn_64
  refine lv_if_ne (tgt := 22) hx hb dX8_partsOn_6 (by decide) (fun c6 => ?_) (fun c6 => ?_)
  · have hf := pf_e c6 hf
    refine lv_aload_n hx hb dX8_partsOn_22 rfl (lv_at hl 0 rfl) ?_
    obtain ⟨r9, hc23, hf⟩ := pf_bi_0 hf
    refine hm_aft_i (ws' := fun _ => [oc8 h0 r_t t_base t_taped t_at t_faultPlace t_number t_newBits t_newTold t_newDoings t_newThings t_opened t_sum t_heldAll t_onPaper t_turned t_wasConverted t_lastBits t_lastSum t_lastHeld t_lastLeft t_lastCode t_writtenLong t_codeMany t_acts t_done0 t_stoppedAt, ic E (r_t 19) 10 t_sign, ic E (r_t 18) 10 t_stage, bc E (r_t 2) 400 t_tape]) (hm_runV (rest := []) hx hb hml hown X hA Y w 0 (ci := 7) (T := TX8) (N := 55) rfl rfl mw_X8_here ml_X8_136 dX8_partsOn_23 hm_ac0 [] rfl [0, 3] rfl rfl (ct_X8_here l E H.size h0 r_t t_base t_taped t_at t_faultPlace t_number t_newBits t_newTold t_newDoings t_newThings t_opened t_sum t_heldAll t_onPaper t_turned t_wasConverted t_lastBits t_lastSum t_lastHeld t_lastLeft t_lastCode t_writtenLong t_codeMany t_acts t_done0 t_stoppedAt t_tape (r9, ()) hc23) rfl hl.1 ⟨⟨rfl, rfl⟩, ⟨Nat.le_of_ble_eq_true rfl, Nat.le_of_ble_eq_true rfl⟩, ⟨Nat.le_of_ble_eq_true rfl, Nat.le_of_ble_eq_true rfl⟩, Nat.le_of_ble_eq_true rfl⟩) hA w [0, 3] [1, 2] [2, 0, 1, 3] rfl rfl (by decide) (fun _ => rfl) (fun _ H locs w => ?_)
    refine lv_aload_n hx hb dX8_partsOn_26 rfl (lv_at hl 0 rfl) ?_
    refine hm_get cb_X8 hx hb hown X w 0 18 fl_X8_49 dX8_partsOn_27 rfl (by decide) rfl ?_
    refine lv_iload_n hx hb dX8_partsOn_30 rfl (lv_at hl 1 rfl) ?_
    obtain ⟨g31, hf⟩ := pf_ckI hf
    refine hm_iald hx hb X w 2 dX8_partsOn_31 rfl g31 ?_
    refine lv_iconst (v := 1) hx hb dX8_partsOn_32 (by decide) ?_
    obtain ⟨J43, hJ43, hf⟩ := pf_jn hf
    have kJ43 : ∀ (x10 : Int32) (H : Heap) (locs : List Loc) (ls : Array Slot), J43 x10 = some R → hm_W E A s.heap [oc8 h0 r_t t_base t_taped t_at t_faultPlace t_number t_newBits t_newTold t_newDoings t_newThings t_opened t_sum t_heldAll t_onPaper t_turned t_wasConverted t_lastBits t_lastSum t_lastHeld t_lastLeft t_lastCode t_writtenLong t_codeMany t_acts t_done0 t_stoppedAt, ic E (r_t 19) 10 t_sign, ic E (r_t 18) 10 t_stage, bc E (r_t 2) 400 t_tape] H locs → lv_has ls 3 [(0, .ref h0), (1, .int a1)] → W p l e (hm_rr 2 43 0 0) s m args below meth c H locs 0 0 Q (F0 m 43 ls []) := by
      intro x10 H locs ls hf w hl
      have hf := pf_j1 hJ43 hf
      refine lv_icmp_ne (tgt := 50) hx hb dX8_partsOn_43 (by decide) (fun c43 => ?_) (fun c43 => ?_)
      · have hf := pf_e c43 hf
        refine lv_iconst (v := 0) hx hb dX8_partsOn_50 (by decide) ?_
        exact kJ51 _ _ _ _ hf w (lv_sub hl [0, 1] rfl)
      · have hf := pf_t c43 hf
        refine lv_iconst (v := 1) hx hb dX8_partsOn_46 (by decide) ?_
        refine lv_goto (tgt := 51) hx hb dX8_partsOn_47 (by decide) ?_
        exact kJ51 _ _ _ _ hf w (lv_sub hl [0, 1] rfl)
    refine lv_icmp_ne (tgt := 41) hx hb dX8_partsOn_33 (by decide) (fun c33 => ?_) (fun c33 => ?_)
    · have hf := pf_e c33 hf
      refine lv_bipush (v := 58) hx hb dX8_partsOn_41 (by decide) ?_
      exact kJ43 _ _ _ _ hf w (lv_sub hl [0, 1] rfl)
    · have hf := pf_t c33 hf
      refine lv_bipush (v := 63) hx hb dX8_partsOn_36 (by decide) ?_
      refine lv_goto (tgt := 43) hx hb dX8_partsOn_38 (by decide) ?_
      exact kJ43 _ _ _ _ hf w (lv_sub hl [0, 1] rfl)
  · have hf := pf_t c6 hf
    refine lv_aload_n hx hb dX8_partsOn_9 rfl (lv_at hl 0 rfl) ?_
    refine lv_bipush (v := 60) hx hb dX8_partsOn_10 (by decide) ?_
    refine lv_bipush (v := 61) hx hb dX8_partsOn_12 (by decide) ?_
    refine lv_bipush (v := 60) hx hb dX8_partsOn_14 (by decide) ?_
    obtain ⟨r11, hc16, hf⟩ := pf_bi_0 hf
    refine hm_aft_i (ws' := fun _ => [oc8 h0 r_t t_base t_taped t_at t_faultPlace t_number t_newBits t_newTold t_newDoings t_newThings t_opened t_sum t_heldAll t_onPaper t_turned t_wasConverted t_lastBits t_lastSum t_lastHeld t_lastLeft t_lastCode t_writtenLong t_codeMany t_acts t_done0 t_stoppedAt, ic E (r_t 19) 10 t_sign, ic E (r_t 18) 10 t_stage, bc E (r_t 2) 400 t_tape]) (hm_runV (rest := []) hx hb hml hown X hA Y w 0 (ci := 7) (T := TX8) (N := 55) rfl rfl mw_X8_isOne ml_X8_206 dX8_partsOn_16 hm_ac0 [.int 60, .int 61, .int 60] rfl [0, 3] rfl rfl (ct_X8_isOne l E H.size h0 r_t t_base t_taped t_at t_faultPlace t_number t_newBits t_newTold t_newDoings t_newThings t_opened t_sum t_heldAll t_onPaper t_turned t_wasConverted t_lastBits t_lastSum t_lastHeld t_lastLeft t_lastCode t_writtenLong t_codeMany t_acts t_done0 t_stoppedAt t_tape 60 61 60 (r11, ()) hc16) rfl hl.1 ⟨⟨rfl, rfl⟩, ⟨Nat.le_of_ble_eq_true rfl, Nat.le_of_ble_eq_true rfl⟩, ⟨Nat.le_of_ble_eq_true rfl, Nat.le_of_ble_eq_true rfl⟩, Nat.le_of_ble_eq_true rfl⟩) hA w [0, 3] [1, 2] [2, 0, 1, 3] rfl rfl (by decide) (fun _ => rfl) (fun _ H locs w => ?_)
    refine lv_goto (tgt := 51) hx hb dX8_partsOn_19 (by decide) ?_
    exact kJ51 _ _ _ _ hf w (lv_sub hl [0, 1] rfl)
set_option maxHeartbeats 8000000 in
set_option maxRecDepth 100000 in
theorem ct_X8_goesOn (l : Launch) (E : hm_E) (sz : Nat) (h0 : Nat) (r_t : Nat → Nat) (t_base t_taped t_at t_faultPlace t_number t_newBits t_newTold t_newDoings t_newThings t_opened t_sum t_heldAll t_onPaper t_turned t_wasConverted t_lastBits t_lastSum t_lastHeld t_lastLeft t_lastCode t_writtenLong t_codeMany t_acts t_done0 t_stoppedAt : Int32) (t_newDoing : Nat → Int32) (t_open : Nat → Int32) (t_productSign : Nat → Int32) (t_sign : Nat → Int32) (t_stage : Nat → Int32) (t_sumSign : Nat → Int32) (t_tape : Nat → Int32) (R : Int32 × Int32 × Int32 × (Nat → Int32) × Int32 × (Nat → Int32) × (Nat → Int32) × (Nat → Int32) × (Nat → Int32) × Int32) (hf : pf_X8_goesOn t_tape t_taped t_at t_faultPlace t_newDoing t_newDoings t_open t_stage t_sign t_sumSign t_productSign t_opened = some R) : hm_Mi l E yX8_goesOn cX8_goesOn 2 .boolean [] (hm_rr 3 65 0 0) [.ref h0] sz [oc8 h0 r_t t_base t_taped t_at t_faultPlace t_number t_newBits t_newTold t_newDoings t_newThings t_opened t_sum t_heldAll t_onPaper t_turned t_wasConverted t_lastBits t_lastSum t_lastHeld t_lastLeft t_lastCode t_writtenLong t_codeMany t_acts t_done0 t_stoppedAt, ic E (r_t 14) 84 t_newDoing, ic E (r_t 17) 10 t_open, ic E (r_t 21) 10 t_productSign, ic E (r_t 19) 10 t_sign, ic E (r_t 18) 10 t_stage, ic E (r_t 20) 10 t_sumSign, bc E (r_t 2) 400 t_tape] R.1 (fun _ => [oc8 h0 r_t t_base t_taped (R.2.1) (R.2.2.1) t_number t_newBits t_newTold (R.2.2.2.2.1) t_newThings (R.2.2.2.2.2.2.2.2.2) t_sum t_heldAll t_onPaper t_turned t_wasConverted t_lastBits t_lastSum t_lastHeld t_lastLeft t_lastCode t_writtenLong t_codeMany t_acts t_done0 t_stoppedAt, ic E (r_t 14) 84 (R.2.2.2.1), ic E (r_t 17) 10 t_open, ic E (r_t 21) 10 (R.2.2.2.2.2.2.2.2.1), ic E (r_t 19) 10 (R.2.2.2.2.2.2.1), ic E (r_t 18) 10 (R.2.2.2.2.2.1), ic E (r_t 20) 10 (R.2.2.2.2.2.2.2.1), bc E (r_t 2) 400 t_tape]) := by
  refine hm_ct_i R (fun u _ => [oc8 h0 r_t t_base t_taped (u.1) (u.2.1) t_number t_newBits t_newTold (u.2.2.2.1) t_newThings (u.2.2.2.2.2.2.2.2) t_sum t_heldAll t_onPaper t_turned t_wasConverted t_lastBits t_lastSum t_lastHeld t_lastLeft t_lastCode t_writtenLong t_codeMany t_acts t_done0 t_stoppedAt, ic E (r_t 14) 84 (u.2.2.1), ic E (r_t 17) 10 t_open, ic E (r_t 21) 10 (u.2.2.2.2.2.2.2.1), ic E (r_t 19) 10 (u.2.2.2.2.2.1), ic E (r_t 18) 10 (u.2.2.2.2.1), ic E (r_t 20) 10 (u.2.2.2.2.2.2.1), bc E (r_t 2) 400 t_tape]) (by decide) (Nat.le_of_ble_eq_true rfl) (Or.inr rfl) ?_
  intro p e s m args below meth c A Q ls H locs hx hb hml hown X hA Y hex w hl hQ
  have hl : lv_has ls 2 [(0, .ref h0)] := hl
  unfold pf_X8_goesOn at hf
  refine lv_aload_n hx hb dX8_goesOn_0 rfl (lv_at hl 0 rfl) ?_
  refine hm_get cb_X8 hx hb hown X w 0 17 fl_X8_46 dX8_goesOn_1 rfl (by decide) rfl ?_
  refine lv_aload_n hx hb dX8_goesOn_4 rfl (lv_at hl 0 rfl) ?_
  refine hm_get cb_X8 hx hb hown X w 0 22 fl_X8_188 dX8_goesOn_5 rfl (by decide) rfl ?_
  obtain ⟨g8, hf⟩ := pf_ckI hf
  refine hm_iald hx hb X w 2 dX8_goesOn_8 rfl g8 ?_
  refine lv_iconst (v := 3) hx hb dX8_goesOn_9 (by decide) ?_
  refine lv_icmp_ne (tgt := 33) hx hb dX8_goesOn_10 (by decide) (fun c10 => ?_) (fun c10 => ?_)
  · have hf := pf_e c10 hf
    refine lv_aload_n hx hb dX8_goesOn_33 rfl (lv_at hl 0 rfl) ?_
    refine hm_get cb_X8 hx hb hown X w 0 22 fl_X8_188 dX8_goesOn_34 rfl (by decide) rfl ?_
    refine lv_istore_n (lv' := [(1, .int t_opened), (0, .ref h0)]) hx hb dX8_goesOn_37 rfl hl (by decide) rfl (fun ls hl => ?_)
    refine lv_aload_n hx hb dX8_goesOn_38 rfl (lv_at hl 1 rfl) ?_
    refine hm_get cb_X8 hx hb hown X w 0 21 fl_X8_58 dX8_goesOn_39 rfl (by decide) rfl ?_
    refine lv_iload_n hx hb dX8_goesOn_42 rfl (lv_at hl 0 rfl) ?_
    obtain ⟨g43, hf⟩ := pf_ckI hf
    refine hm_iald hx hb X w 3 dX8_goesOn_43 rfl g43 ?_
    obtain ⟨J60, hJ60, hf⟩ := pf_jn hf
    have kJ60 : ∀ (f1 : Nat → Int32) (x2 : Int32) (H : Heap) (locs : List Loc) (ls : Array Slot), J60 f1 x2 = some R → hm_W E A s.heap [oc8 h0 r_t t_base t_taped t_at t_faultPlace t_number t_newBits t_newTold x2 t_newThings t_opened t_sum t_heldAll t_onPaper t_turned t_wasConverted t_lastBits t_lastSum t_lastHeld t_lastLeft t_lastCode t_writtenLong t_codeMany t_acts t_done0 t_stoppedAt, ic E (r_t 14) 84 f1, ic E (r_t 17) 10 t_open, ic E (r_t 21) 10 (upd t_productSign t_opened.toNatClampNeg 0), ic E (r_t 19) 10 t_sign, ic E (r_t 18) 10 t_stage, ic E (r_t 20) 10 t_sumSign, bc E (r_t 2) 400 t_tape] H locs → lv_has ls 2 [(0, .ref h0), (1, .int t_opened)] → W p l e (hm_rr 3 65 0 0) s m args below meth c H locs 0 0 Q (F0 m 60 ls []) := by
      intro f1 x2 H locs ls hf w hl
      have hf := pf_j2 hJ60 hf
      refine lv_aload_n hx hb dX8_goesOn_60 rfl (lv_at hl 0 rfl) ?_
      refine hm_get cb_X8 hx hb hown X w 0 21 fl_X8_58 dX8_goesOn_61 rfl (by decide) rfl ?_
      refine lv_iload_n hx hb dX8_goesOn_64 rfl (lv_at hl 1 rfl) ?_
      refine lv_iconst (v := 0) hx hb dX8_goesOn_65 (by decide) ?_
      obtain ⟨g66, hf⟩ := pf_ckI hf
      refine hm_iast (ws' := [oc8 h0 r_t t_base t_taped t_at t_faultPlace t_number t_newBits t_newTold x2 t_newThings t_opened t_sum t_heldAll t_onPaper t_turned t_wasConverted t_lastBits t_lastSum t_lastHeld t_lastLeft t_lastCode t_writtenLong t_codeMany t_acts t_done0 t_stoppedAt, ic E (r_t 14) 84 f1, ic E (r_t 17) 10 t_open, ic E (r_t 21) 10 (upd t_productSign t_opened.toNatClampNeg 0), ic E (r_t 19) 10 t_sign, ic E (r_t 18) 10 t_stage, ic E (r_t 20) 10 t_sumSign, bc E (r_t 2) 400 t_tape]) hx hb X w 3 dX8_goesOn_66 rfl g66 rfl (fun H locs w => ?_)
      refine lv_aload_n hx hb dX8_goesOn_67 rfl (lv_at hl 0 rfl) ?_
      refine lv_bipush (v := 42) hx hb dX8_goesOn_68 (by decide) ?_
      refine lv_bipush (v := 47) hx hb dX8_goesOn_70 (by decide) ?_
      refine lv_bipush (v := 37) hx hb dX8_goesOn_72 (by decide) ?_
      obtain ⟨r3, hc74, hf⟩ := pf_bi_0 hf
      refine hm_aft_i (ws' := fun _ => [oc8 h0 r_t t_base t_taped t_at t_faultPlace t_number t_newBits t_newTold x2 t_newThings t_opened t_sum t_heldAll t_onPaper t_turned t_wasConverted t_lastBits t_lastSum t_lastHeld t_lastLeft t_lastCode t_writtenLong t_codeMany t_acts t_done0 t_stoppedAt, ic E (r_t 14) 84 f1, ic E (r_t 17) 10 t_open, ic E (r_t 21) 10 (upd t_productSign t_opened.toNatClampNeg 0), ic E (r_t 19) 10 t_sign, ic E (r_t 18) 10 t_stage, ic E (r_t 20) 10 t_sumSign, bc E (r_t 2) 400 t_tape]) (hm_runV (rest := []) hx hb hml hown X hA Y w 0 (ci := 7) (T := TX8) (N := 55) rfl rfl mw_X8_isOne ml_X8_206 dX8_goesOn_74 hm_ac0 [.int 42, .int 47, .int 37] rfl [0, 7] rfl rfl (ct_X8_isOne l E H.size h0 r_t t_base t_taped t_at t_faultPlace t_number t_newBits t_newTold x2 t_newThings t_opened t_sum t_heldAll t_onPaper t_turned t_wasConverted t_lastBits t_lastSum t_lastHeld t_lastLeft t_lastCode t_writtenLong t_codeMany t_acts t_done0 t_stoppedAt t_tape 42 47 37 (r3, ()) hc74) rfl hl.1 ⟨⟨rfl, rfl⟩, ⟨Nat.le_of_ble_eq_true rfl, Nat.le_of_ble_eq_true rfl⟩, ⟨Nat.le_of_ble_eq_true rfl, Nat.le_of_ble_eq_true rfl⟩, Nat.le_of_ble_eq_true rfl⟩) hA w [0, 7] [1, 2, 3, 4, 5, 6] [6, 0, 1, 2, 3, 4, 5, 7] rfl rfl (by decide) (fun _ => rfl) (fun _ H locs w => ?_)
      refine lv_if_eq (tgt := 102) hx hb dX8_goesOn_77 (by decide) (fun c77 => ?_) (fun c77 => ?_)
      · have hf := pf_t c77 hf
        refine lv_aload_n hx hb dX8_goesOn_102 rfl (lv_at hl 0 rfl) ?_
        refine hm_get cb_X8 hx hb hown X w 0 20 fl_X8_55 dX8_goesOn_103 rfl (by decide) rfl ?_
        refine lv_iload_n hx hb dX8_goesOn_106 rfl (lv_at hl 1 rfl) ?_
        obtain ⟨g107, hf⟩ := pf_ckI hf
        refine hm_iald hx hb X w 6 dX8_goesOn_107 rfl g107 ?_
        obtain ⟨J124, hJ124, hf⟩ := pf_jn hf
        have kJ124 : ∀ (f4 : Nat → Int32) (x5 : Int32) (H : Heap) (locs : List Loc) (ls : Array Slot), J124 f4 x5 = some R → hm_W E A s.heap [oc8 h0 r_t t_base t_taped t_at t_faultPlace t_number t_newBits t_newTold x5 t_newThings t_opened t_sum t_heldAll t_onPaper t_turned t_wasConverted t_lastBits t_lastSum t_lastHeld t_lastLeft t_lastCode t_writtenLong t_codeMany t_acts t_done0 t_stoppedAt, ic E (r_t 14) 84 f4, ic E (r_t 17) 10 t_open, ic E (r_t 21) 10 (upd t_productSign t_opened.toNatClampNeg 0), ic E (r_t 19) 10 t_sign, ic E (r_t 18) 10 t_stage, ic E (r_t 20) 10 (upd t_sumSign t_opened.toNatClampNeg 0), bc E (r_t 2) 400 t_tape] H locs → lv_has ls 2 [(0, .ref h0), (1, .int t_opened)] → W p l e (hm_rr 3 65 0 0) s m args below meth c H locs 0 0 Q (F0 m 124 ls []) := by
          intro f4 x5 H locs ls hf w hl
          have hf := pf_j2 hJ124 hf
          refine lv_aload_n hx hb dX8_goesOn_124 rfl (lv_at hl 0 rfl) ?_
          refine hm_get cb_X8 hx hb hown X w 0 20 fl_X8_55 dX8_goesOn_125 rfl (by decide) rfl ?_
          refine lv_iload_n hx hb dX8_goesOn_128 rfl (lv_at hl 1 rfl) ?_
          refine lv_iconst (v := 0) hx hb dX8_goesOn_129 (by decide) ?_
          obtain ⟨g130, hf⟩ := pf_ckI hf
          refine hm_iast (ws' := [oc8 h0 r_t t_base t_taped t_at t_faultPlace t_number t_newBits t_newTold x5 t_newThings t_opened t_sum t_heldAll t_onPaper t_turned t_wasConverted t_lastBits t_lastSum t_lastHeld t_lastLeft t_lastCode t_writtenLong t_codeMany t_acts t_done0 t_stoppedAt, ic E (r_t 14) 84 f4, ic E (r_t 17) 10 t_open, ic E (r_t 21) 10 (upd t_productSign t_opened.toNatClampNeg 0), ic E (r_t 19) 10 t_sign, ic E (r_t 18) 10 t_stage, ic E (r_t 20) 10 (upd t_sumSign t_opened.toNatClampNeg 0), bc E (r_t 2) 400 t_tape]) hx hb X w 6 dX8_goesOn_130 rfl g130 rfl (fun H locs w => ?_)
          refine lv_aload_n hx hb dX8_goesOn_131 rfl (lv_at hl 0 rfl) ?_
          refine lv_bipush (v := 43) hx hb dX8_goesOn_132 (by decide) ?_
          refine lv_bipush (v := 45) hx hb dX8_goesOn_134 (by decide) ?_
          refine lv_bipush (v := 43) hx hb dX8_goesOn_136 (by decide) ?_
          obtain ⟨r6, hc138, hf⟩ := pf_bi_0 hf
          refine hm_aft_i (ws' := fun _ => [oc8 h0 r_t t_base t_taped t_at t_faultPlace t_number t_newBits t_newTold x5 t_newThings t_opened t_sum t_heldAll t_onPaper t_turned t_wasConverted t_lastBits t_lastSum t_lastHeld t_lastLeft t_lastCode t_writtenLong t_codeMany t_acts t_done0 t_stoppedAt, ic E (r_t 14) 84 f4, ic E (r_t 17) 10 t_open, ic E (r_t 21) 10 (upd t_productSign t_opened.toNatClampNeg 0), ic E (r_t 19) 10 t_sign, ic E (r_t 18) 10 t_stage, ic E (r_t 20) 10 (upd t_sumSign t_opened.toNatClampNeg 0), bc E (r_t 2) 400 t_tape]) (hm_runV (rest := []) hx hb hml hown X hA Y w 0 (ci := 7) (T := TX8) (N := 55) rfl rfl mw_X8_isOne ml_X8_206 dX8_goesOn_138 hm_ac0 [.int 43, .int 45, .int 43] rfl [0, 7] rfl rfl (ct_X8_isOne l E H.size h0 r_t t_base t_taped t_at t_faultPlace t_number t_newBits t_newTold x5 t_newThings t_opened t_sum t_heldAll t_onPaper t_turned t_wasConverted t_lastBits t_lastSum t_lastHeld t_lastLeft t_lastCode t_writtenLong t_codeMany t_acts t_done0 t_stoppedAt t_tape 43 45 43 (r6, ()) hc138) rfl hl.1 ⟨⟨rfl, rfl⟩, ⟨Nat.le_of_ble_eq_true rfl, Nat.le_of_ble_eq_true rfl⟩, ⟨Nat.le_of_ble_eq_true rfl, Nat.le_of_ble_eq_true rfl⟩, Nat.le_of_ble_eq_true rfl⟩) hA w [0, 7] [1, 2, 3, 4, 5, 6] [6, 0, 1, 2, 3, 4, 5, 7] rfl rfl (by decide) (fun _ => rfl) (fun _ H locs w => ?_)
          refine lv_if_eq (tgt := 166) hx hb dX8_goesOn_141 (by decide) (fun c141 => ?_) (fun c141 => ?_)
          · have hf := pf_t c141 hf
            refine lv_aload_n hx hb dX8_goesOn_166 rfl (lv_at hl 0 rfl) ?_
            refine hm_get cb_X8 hx hb hown X w 0 17 fl_X8_46 dX8_goesOn_167 rfl (by decide) rfl ?_
            refine lv_iload_n hx hb dX8_goesOn_170 rfl (lv_at hl 1 rfl) ?_
            obtain ⟨g171, hf⟩ := pf_ckI hf
            refine hm_iald hx hb X w 2 dX8_goesOn_171 rfl g171 ?_
            refine lv_if_ne (tgt := 203) hx hb dX8_goesOn_172 (by decide) (fun c172 => ?_) (fun c172 => ?_)
            · have hf := pf_e c172 hf
              refine lv_aload_n hx hb dX8_goesOn_203 rfl (lv_at hl 0 rfl) ?_
              refine hm_get cb_X8 hx hb hown X w 0 17 fl_X8_46 dX8_goesOn_204 rfl (by decide) rfl ?_
              refine lv_iload_n hx hb dX8_goesOn_207 rfl (lv_at hl 1 rfl) ?_
              obtain ⟨g208, hf⟩ := pf_ckI hf
              refine hm_iald hx hb X w 2 dX8_goesOn_208 rfl g208 ?_
              refine lv_iconst (v := 2) hx hb dX8_goesOn_209 (by decide) ?_
              obtain ⟨J229, hJ229, hf⟩ := pf_jn hf
              have kJ229 : ∀ (H : Heap) (locs : List Loc) (ls : Array Slot), J229 = some R → hm_W E A s.heap [oc8 h0 r_t t_base t_taped t_at t_faultPlace t_number t_newBits t_newTold x5 t_newThings t_opened t_sum t_heldAll t_onPaper t_turned t_wasConverted t_lastBits t_lastSum t_lastHeld t_lastLeft t_lastCode t_writtenLong t_codeMany t_acts t_done0 t_stoppedAt, ic E (r_t 14) 84 f4, ic E (r_t 17) 10 t_open, ic E (r_t 21) 10 (upd t_productSign t_opened.toNatClampNeg 0), ic E (r_t 19) 10 t_sign, ic E (r_t 18) 10 t_stage, ic E (r_t 20) 10 (upd t_sumSign t_opened.toNatClampNeg 0), bc E (r_t 2) 400 t_tape] H locs → lv_has ls 2 [(0, .ref h0), (1, .int t_opened)] → W p l e (hm_rr 3 65 0 0) s m args below meth c H locs 0 0 Q (F0 m 229 ls [.int r7]) := by
                intro H locs ls hf w hl
                have hf := pf_j0 hJ229 hf
                refine lv_aload_n hx hb dX8_goesOn_229 rfl (lv_at hl 0 rfl) ?_
                obtain ⟨r7, hc230, hf⟩ := pf_bi_0 hf
                refine hm_aft_i (ws' := fun _ => [oc8 h0 r_t t_base t_taped t_at t_faultPlace t_number t_newBits t_newTold x5 t_newThings t_opened t_sum t_heldAll t_onPaper t_turned t_wasConverted t_lastBits t_lastSum t_lastHeld t_lastLeft t_lastCode t_writtenLong t_codeMany t_acts t_done0 t_stoppedAt, ic E (r_t 14) 84 f4, ic E (r_t 17) 10 t_open, ic E (r_t 21) 10 (upd t_productSign t_opened.toNatClampNeg 0), ic E (r_t 19) 10 t_sign, ic E (r_t 18) 10 t_stage, ic E (r_t 20) 10 (upd t_sumSign t_opened.toNatClampNeg 0), bc E (r_t 2) 400 t_tape]) (hm_runV (rest := []) hx hb hml hown X hA Y w 0 (ci := 7) (T := TX8) (N := 55) rfl rfl mw_X8_here ml_X8_136 dX8_goesOn_230 hm_ac0 [] rfl [0, 7] rfl rfl (ct_X8_here l E H.size h0 r_t t_base t_taped t_at t_faultPlace t_number t_newBits t_newTold x5 t_newThings t_opened t_sum t_heldAll t_onPaper t_turned t_wasConverted t_lastBits t_lastSum t_lastHeld t_lastLeft t_lastCode t_writtenLong t_codeMany t_acts t_done0 t_stoppedAt t_tape (r7, ()) hc230) rfl hl.1 ⟨⟨rfl, rfl⟩, ⟨Nat.le_of_ble_eq_true rfl, Nat.le_of_ble_eq_true rfl⟩, ⟨Nat.le_of_ble_eq_true rfl, Nat.le_of_ble_eq_true rfl⟩, Nat.le_of_ble_eq_true rfl⟩) hA w [0, 7] [1, 2, 3, 4, 5, 6] [6, 0, 1, 2, 3, 4, 5, 7] rfl rfl (by decide) (fun _ => rfl) (fun _ H locs w => ?_)
                refine lv_aload_n hx hb dX8_goesOn_233 rfl (lv_at hl 0 rfl) ?_
                refine hm_get cb_X8 hx hb hown X w 0 17 fl_X8_46 dX8_goesOn_234 rfl (by decide) rfl ?_
                refine lv_iload_n hx hb dX8_goesOn_237 rfl (lv_at hl 1 rfl) ?_
                obtain ⟨g238, hf⟩ := pf_ckI hf
                refine hm_iald hx hb X w 2 dX8_goesOn_238 rfl g238 ?_
                refine lv_iconst (v := 1) hx hb dX8_goesOn_239 (by decide) ?_
                obtain ⟨J250, hJ250, hf⟩ := pf_jn hf
                have kJ250 : ∀ (x8 : Int32) (H : Heap) (locs : List Loc) (ls : Array Slot), J250 x8 = some R → hm_W E A s.heap [oc8 h0 r_t t_base t_taped t_at t_faultPlace t_number t_newBits t_newTold x5 t_newThings t_opened t_sum t_heldAll t_onPaper t_turned t_wasConverted t_lastBits t_lastSum t_lastHeld t_lastLeft t_lastCode t_writtenLong t_codeMany t_acts t_done0 t_stoppedAt, ic E (r_t 14) 84 f4, ic E (r_t 17) 10 t_open, ic E (r_t 21) 10 (upd t_productSign t_opened.toNatClampNeg 0), ic E (r_t 19) 10 t_sign, ic E (r_t 18) 10 t_stage, ic E (r_t 20) 10 (upd t_sumSign t_opened.toNatClampNeg 0), bc E (r_t 2) 400 t_tape] H locs → lv_has ls 2 [(0, .ref h0), (1, .int t_opened)] → W p l e (hm_rr 3 65 0 0) s m args below meth c H locs 0 0 Q (F0 m 250 ls []) := by
                  intro x8 H locs ls hf w hl
                  have hf := pf_j1 hJ250 hf
                  refine lv_icmp_eq (tgt := 262) hx hb dX8_goesOn_250 (by decide) (fun c250 => ?_) (fun c250 => ?_)
                  · have hf := pf_t c250 hf
                    refine lv_aload_n hx hb dX8_goesOn_262 rfl (lv_at hl 0 rfl) ?_
                    refine lv_dup hx hb dX8_goesOn_263 rfl ?_
                    refine hm_get cb_X8 hx hb hown X w 0 4 fl_X8_133 dX8_goesOn_264 rfl (by decide) rfl ?_
                    refine lv_iconst (v := 1) hx hb dX8_goesOn_267 (by decide) ?_
                    refine lv_iadd hx hb dX8_goesOn_268 ?_
                    refine lv_topi (fun x9 ex9 => ?_)
                    have hf := pf_nm ex9 hf
                    refine hm_put (ws' := [oc8 h0 r_t t_base t_taped x9 t_faultPlace t_number t_newBits t_newTold x5 t_newThings t_opened t_sum t_heldAll t_onPaper t_turned t_wasConverted t_lastBits t_lastSum t_lastHeld t_lastLeft t_lastCode t_writtenLong t_codeMany t_acts t_done0 t_stoppedAt, ic E (r_t 14) 84 f4, ic E (r_t 17) 10 t_open, ic E (r_t 21) 10 (upd t_productSign t_opened.toNatClampNeg 0), ic E (r_t 19) 10 t_sign, ic E (r_t 18) 10 t_stage, ic E (r_t 20) 10 (upd t_sumSign t_opened.toNatClampNeg 0), bc E (r_t 2) 400 t_tape]) cb_X8 hx hb hown X w 0 4 fl_X8_133 dX8_goesOn_269 rfl (by decide) (Nat.le_of_ble_eq_true rfl) rfl rfl rfl rfl (fun H locs w => ?_)
                    refine lv_aload_n hx hb dX8_goesOn_272 rfl (lv_at hl 0 rfl) ?_
                    refine hm_get cb_X8 hx hb hown X w 0 17 fl_X8_46 dX8_goesOn_273 rfl (by decide) rfl ?_
                    refine lv_iload_n hx hb dX8_goesOn_276 rfl (lv_at hl 1 rfl) ?_
                    obtain ⟨g277, hf⟩ := pf_ckI hf
                    refine hm_iald hx hb X w 2 dX8_goesOn_277 rfl g277 ?_
                    refine lv_iconst (v := 2) hx hb dX8_goesOn_278 (by decide) ?_
                    obtain ⟨J292, hJ292, hf⟩ := pf_jn hf
                    have kJ292 : ∀ (f10 : Nat → Int32) (x11 : Int32) (H : Heap) (locs : List Loc) (ls : Array Slot), J292 f10 x11 = some R → hm_W E A s.heap [oc8 h0 r_t t_base t_taped x9 t_faultPlace t_number t_newBits t_newTold x11 t_newThings x12 t_sum t_heldAll t_onPaper t_turned t_wasConverted t_lastBits t_lastSum t_lastHeld t_lastLeft t_lastCode t_writtenLong t_codeMany t_acts t_done0 t_stoppedAt, ic E (r_t 14) 84 f10, ic E (r_t 17) 10 t_open, ic E (r_t 21) 10 (upd t_productSign t_opened.toNatClampNeg 0), ic E (r_t 19) 10 t_sign, ic E (r_t 18) 10 t_stage, ic E (r_t 20) 10 (upd t_sumSign t_opened.toNatClampNeg 0), bc E (r_t 2) 400 t_tape] H locs → lv_has ls 2 [(0, .ref h0)] → W p l e (hm_rr 3 65 0 0) s m args below meth c H locs 0 0 Q (F0 m 292 ls []) := by
                      intro f10 x11 H locs ls hf w hl
                      have hf := pf_j2 hJ292 hf
                      refine lv_aload_n hx hb dX8_goesOn_292 rfl (lv_at hl 0 rfl) ?_
                      refine lv_dup hx hb dX8_goesOn_293 rfl ?_
                      refine hm_get cb_X8 hx hb hown X w 0 22 fl_X8_188 dX8_goesOn_294 rfl (by decide) rfl ?_
                      refine lv_iconst (v := 1) hx hb dX8_goesOn_297 (by decide) ?_
                      refine lv_isub hx hb dX8_goesOn_298 ?_
                      refine lv_topi (fun x12 ex12 => ?_)
                      have hf := pf_nm ex12 hf
                      refine hm_put (ws' := [oc8 h0 r_t t_base t_taped x9 t_faultPlace t_number t_newBits t_newTold x11 t_newThings x12 t_sum t_heldAll t_onPaper t_turned t_wasConverted t_lastBits t_lastSum t_lastHeld t_lastLeft t_lastCode t_writtenLong t_codeMany t_acts t_done0 t_stoppedAt, ic E (r_t 14) 84 f10, ic E (r_t 17) 10 t_open, ic E (r_t 21) 10 (upd t_productSign t_opened.toNatClampNeg 0), ic E (r_t 19) 10 t_sign, ic E (r_t 18) 10 t_stage, ic E (r_t 20) 10 (upd t_sumSign t_opened.toNatClampNeg 0), bc E (r_t 2) 400 t_tape]) cb_X8 hx hb hown X w 0 22 fl_X8_188 dX8_goesOn_299 rfl (by decide) (Nat.le_of_ble_eq_true rfl) rfl rfl rfl rfl (fun H locs w => ?_)
                      refine lv_goto (tgt := 0) hx hb dX8_goesOn_302 (by decide) ?_
                      obtain ⟨J175, hJ175, hf⟩ := pf_jn hf
                      have kJ175 : ∀ (x13 : Int32) (f14 : Nat → Int32) (x15 : Int32) (f16 : Nat → Int32) (f17 : Nat → Int32) (x18 : Int32) (H : Heap) (locs : List Loc) (ls : Array Slot), J175 x13 f14 x15 f16 f17 x18 = some R → hm_W E A s.heap [oc8 h0 r_t t_base t_taped x13 t_faultPlace t_number t_newBits t_newTold x15 t_newThings x18 t_sum t_heldAll t_onPaper t_turned t_wasConverted t_lastBits t_lastSum t_lastHeld t_lastLeft t_lastCode t_writtenLong t_codeMany t_acts t_done0 t_stoppedAt, ic E (r_t 14) 84 f14, ic E (r_t 17) 10 t_open, ic E (r_t 21) 10 f17, ic E (r_t 19) 10 t_sign, ic E (r_t 18) 10 t_stage, ic E (r_t 20) 10 f16, bc E (r_t 2) 400 t_tape] H locs → lv_has ls 2 [(0, .ref h0)] → W p l e (hm_rr 3 65 0 0) s m args below meth c H locs 0 0 Q (F0 m 175 ls []) := by
                        intro x13 f14 x15 f16 f17 x18 H locs ls hf w hl
                        have hf := pf_j6 hJ175 hf
                        refine lv_aload_n hx hb dX8_goesOn_175 rfl (lv_at hl 0 rfl) ?_
                        refine hm_get cb_X8 hx hb hown X w 0 4 fl_X8_133 dX8_goesOn_176 rfl (by decide) rfl ?_
                        refine lv_aload_n hx hb dX8_goesOn_179 rfl (lv_at hl 0 rfl) ?_
                        refine hm_get cb_X8 hx hb hown X w 0 3 fl_X8_122 dX8_goesOn_180 rfl (by decide) rfl ?_
                        refine lv_icmp_ge (tgt := 201) hx hb dX8_goesOn_183 (by decide) (fun c183 => ?_) (fun c183 => ?_)
                        · have hf := pf_t c183 hf
                          refine lv_iconst (v := 0) hx hb dX8_goesOn_201 (by decide) ?_
                          exact hQ _ _ _ _ _ (x13, t_faultPlace, f14, x15, t_stage, t_sign, f16, f17, x18) (fun _ => 0) hf rfl w dX8_goesOn_202
                        · have hf := pf_e c183 hf
                          refine lv_aload_n hx hb dX8_goesOn_186 rfl (lv_at hl 0 rfl) ?_
                          refine lv_aload_n hx hb dX8_goesOn_187 rfl (lv_at hl 0 rfl) ?_
                          refine hm_get cb_X8 hx hb hown X w 0 4 fl_X8_133 dX8_goesOn_188 rfl (by decide) rfl ?_
                          obtain ⟨r19, x20, hc191, hf⟩ := pf_bi_1 hf
                          refine hm_aft_i (ws' := fun _ => [oc8 h0 r_t t_base t_taped x13 x20 t_number t_newBits t_newTold x15 t_newThings x18 t_sum t_heldAll t_onPaper t_turned t_wasConverted t_lastBits t_lastSum t_lastHeld t_lastLeft t_lastCode t_writtenLong t_codeMany t_acts t_done0 t_stoppedAt, ic E (r_t 14) 84 f14, ic E (r_t 17) 10 t_open, ic E (r_t 21) 10 f17, ic E (r_t 19) 10 t_sign, ic E (r_t 18) 10 t_stage, ic E (r_t 20) 10 f16, bc E (r_t 2) 400 t_tape]) (hm_runV (rest := []) hx hb hml hown X hA Y w 0 (ci := 7) (T := TX8) (N := 55) rfl rfl mw_X8_fails ml_X8_144 dX8_goesOn_191 hm_ac0 [.int x13] rfl [0] rfl rfl (ct_X8_fails l E H.size h0 r_t t_base t_taped x13 t_faultPlace t_number t_newBits t_newTold x15 t_newThings x18 t_sum t_heldAll t_onPaper t_turned t_wasConverted t_lastBits t_lastSum t_lastHeld t_lastLeft t_lastCode t_writtenLong t_codeMany t_acts t_done0 t_stoppedAt x13 (r19, x20) hc191) rfl hl.1 ⟨⟨rfl, rfl⟩, ⟨Nat.le_of_ble_eq_true rfl, Nat.le_of_ble_eq_true rfl⟩, ⟨Nat.le_of_ble_eq_true rfl, Nat.le_of_ble_eq_true rfl⟩, Nat.le_of_ble_eq_true rfl⟩) hA w [0] [1, 2, 3, 4, 5, 6, 7] [7, 0, 1, 2, 3, 4, 5, 6] rfl rfl (by decide) (fun _ => rfl) (fun _ H locs w => ?_)
                          refine lv_if_eq (tgt := 201) hx hb dX8_goesOn_194 (by decide) (fun c194 => ?_) (fun c194 => ?_)
                          · have hf := pf_t c194 hf
                            refine lv_iconst (v := 0) hx hb dX8_goesOn_201 (by decide) ?_
                            exact hQ _ _ _ _ _ (x13, x20, f14, x15, t_stage, t_sign, f16, f17, x18) (fun _ => 0) hf rfl w dX8_goesOn_202
                          · have hf := pf_e c194 hf
                            refine lv_iconst (v := 1) hx hb dX8_goesOn_197 (by decide) ?_
                            refine lv_goto (tgt := 202) hx hb dX8_goesOn_198 (by decide) ?_
                            exact hQ _ _ _ _ _ (x13, x20, f14, x15, t_stage, t_sign, f16, f17, x18) (fun _ => 0) hf rfl w dX8_goesOn_202
                      obtain ⟨J144, hJ144, hf⟩ := pf_jn hf
                      have kJ144 : ∀ (x21 : Int32) (x22 : Int32) (f23 : Nat → Int32) (x24 : Int32) (f25 : Nat → Int32) (f26 : Nat → Int32) (x27 : Int32) (H : Heap) (locs : List Loc) (ls : Array Slot), J144 x21 x22 f23 x24 f25 f26 x27 = some R → hm_W E A s.heap [oc8 h0 r_t t_base t_taped x29 t_faultPlace t_number t_newBits t_newTold x24 t_newThings x27 t_sum t_heldAll t_onPaper t_turned t_wasConverted t_lastBits t_lastSum t_lastHeld t_lastLeft t_lastCode t_writtenLong t_codeMany t_acts t_done0 t_stoppedAt, ic E (r_t 14) 84 f23, ic E (r_t 17) 10 t_open, ic E (r_t 21) 10 f26, ic E (r_t 19) 10 t_sign, ic E (r_t 18) 10 t_stage, ic E (r_t 20) 10 (upd f25 x21.toNatClampNeg r28), bc E (r_t 2) 400 t_tape] H locs → lv_has ls 2 [(0, .ref h0), (1, .int x21)] → W p l e (hm_rr 3 65 0 0) s m args below meth c H locs 0 0 Q (F0 m 144 ls []) := by
                        intro x21 x22 f23 x24 f25 f26 x27 H locs ls hf w hl
                        have hf := pf_j7 hJ144 hf
                        refine lv_aload_n hx hb dX8_goesOn_144 rfl (lv_at hl 0 rfl) ?_
                        refine hm_get cb_X8 hx hb hown X w 0 20 fl_X8_55 dX8_goesOn_145 rfl (by decide) rfl ?_
                        refine lv_iload_n hx hb dX8_goesOn_148 rfl (lv_at hl 1 rfl) ?_
                        refine lv_aload_n hx hb dX8_goesOn_149 rfl (lv_at hl 0 rfl) ?_
                        obtain ⟨r28, hc150, hf⟩ := pf_bi_0 hf
                        refine hm_aft_i (ws' := fun _ => [oc8 h0 r_t t_base t_taped x22 t_faultPlace t_number t_newBits t_newTold x24 t_newThings x27 t_sum t_heldAll t_onPaper t_turned t_wasConverted t_lastBits t_lastSum t_lastHeld t_lastLeft t_lastCode t_writtenLong t_codeMany t_acts t_done0 t_stoppedAt, ic E (r_t 14) 84 f23, ic E (r_t 17) 10 t_open, ic E (r_t 21) 10 f26, ic E (r_t 19) 10 t_sign, ic E (r_t 18) 10 t_stage, ic E (r_t 20) 10 f25, bc E (r_t 2) 400 t_tape]) (hm_runV (rest := [.int x21, .ref (r_t 20)]) hx hb hml hown X hA Y w 0 (ci := 7) (T := TX8) (N := 55) rfl rfl mw_X8_here ml_X8_136 dX8_goesOn_150 hm_ac0 [] rfl [0, 7] rfl rfl (ct_X8_here l E H.size h0 r_t t_base t_taped x22 t_faultPlace t_number t_newBits t_newTold x24 t_newThings x27 t_sum t_heldAll t_onPaper t_turned t_wasConverted t_lastBits t_lastSum t_lastHeld t_lastLeft t_lastCode t_writtenLong t_codeMany t_acts t_done0 t_stoppedAt t_tape (r28, ()) hc150) rfl hl.1 ⟨⟨rfl, rfl⟩, ⟨Nat.le_of_ble_eq_true rfl, Nat.le_of_ble_eq_true rfl⟩, ⟨Nat.le_of_ble_eq_true rfl, Nat.le_of_ble_eq_true rfl⟩, Nat.le_of_ble_eq_true rfl⟩) hA w [0, 7] [1, 2, 3, 4, 5, 6] [6, 0, 1, 2, 3, 4, 5, 7] rfl rfl (by decide) (fun _ => rfl) (fun _ H locs w => ?_)
                        obtain ⟨g153, hf⟩ := pf_ckI hf
                        refine hm_iast (ws' := [oc8 h0 r_t t_base t_taped x22 t_faultPlace t_number t_newBits t_newTold x24 t_newThings x27 t_sum t_heldAll t_onPaper t_turned t_wasConverted t_lastBits t_lastSum t_lastHeld t_lastLeft t_lastCode t_writtenLong t_codeMany t_acts t_done0 t_stoppedAt, ic E (r_t 14) 84 f23, ic E (r_t 17) 10 t_open, ic E (r_t 21) 10 f26, ic E (r_t 19) 10 t_sign, ic E (r_t 18) 10 t_stage, ic E (r_t 20) 10 (upd f25 x21.toNatClampNeg r28), bc E (r_t 2) 400 t_tape]) hx hb X w 6 dX8_goesOn_153 rfl g153 rfl (fun H locs w => ?_)
                        refine lv_aload_n hx hb dX8_goesOn_154 rfl (lv_at hl 0 rfl) ?_
                        refine lv_dup hx hb dX8_goesOn_155 rfl ?_
                        refine hm_get cb_X8 hx hb hown X w 0 4 fl_X8_133 dX8_goesOn_156 rfl (by decide) rfl ?_
                        refine lv_iconst (v := 1) hx hb dX8_goesOn_159 (by decide) ?_
                        refine lv_iadd hx hb dX8_goesOn_160 ?_
                        refine lv_topi (fun x29 ex29 => ?_)
                        have hf := pf_nm ex29 hf
                        refine hm_put (ws' := [oc8 h0 r_t t_base t_taped x29 t_faultPlace t_number t_newBits t_newTold x24 t_newThings x27 t_sum t_heldAll t_onPaper t_turned t_wasConverted t_lastBits t_lastSum t_lastHeld t_lastLeft t_lastCode t_writtenLong t_codeMany t_acts t_done0 t_stoppedAt, ic E (r_t 14) 84 f23, ic E (r_t 17) 10 t_open, ic E (r_t 21) 10 f26, ic E (r_t 19) 10 t_sign, ic E (r_t 18) 10 t_stage, ic E (r_t 20) 10 (upd f25 x21.toNatClampNeg r28), bc E (r_t 2) 400 t_tape]) cb_X8 hx hb hown X w 0 4 fl_X8_133 dX8_goesOn_161 rfl (by decide) (Nat.le_of_ble_eq_true rfl) rfl rfl rfl rfl (fun H locs w => ?_)
                        refine lv_iconst (v := 1) hx hb dX8_goesOn_164 (by decide) ?_
                        exact hQ _ _ _ _ _ (x29, t_faultPlace, f23, x24, t_stage, t_sign, (upd f25 x21.toNatClampNeg r28), f26, x27) (fun _ => 0) hf rfl w dX8_goesOn_165
                      obtain ⟨J80, hJ80, hf⟩ := pf_jn hf
                      have kJ80 : ∀ (x30 : Int32) (x31 : Int32) (f32 : Nat → Int32) (x33 : Int32) (f34 : Nat → Int32) (f35 : Nat → Int32) (x36 : Int32) (H : Heap) (locs : List Loc) (ls : Array Slot), J80 x30 x31 f32 x33 f34 f35 x36 = some R → hm_W E A s.heap [oc8 h0 r_t t_base t_taped x38 t_faultPlace t_number t_newBits t_newTold x33 t_newThings x36 t_sum t_heldAll t_onPaper t_turned t_wasConverted t_lastBits t_lastSum t_lastHeld t_lastLeft t_lastCode t_writtenLong t_codeMany t_acts t_done0 t_stoppedAt, ic E (r_t 14) 84 f32, ic E (r_t 17) 10 t_open, ic E (r_t 21) 10 (upd f35 x30.toNatClampNeg r37), ic E (r_t 19) 10 t_sign, ic E (r_t 18) 10 t_stage, ic E (r_t 20) 10 f34, bc E (r_t 2) 400 t_tape] H locs → lv_has ls 2 [(0, .ref h0), (1, .int x30)] → W p l e (hm_rr 3 65 0 0) s m args below meth c H locs 0 0 Q (F0 m 80 ls []) := by
                        intro x30 x31 f32 x33 f34 f35 x36 H locs ls hf w hl
                        have hf := pf_j7 hJ80 hf
                        refine lv_aload_n hx hb dX8_goesOn_80 rfl (lv_at hl 0 rfl) ?_
                        refine hm_get cb_X8 hx hb hown X w 0 21 fl_X8_58 dX8_goesOn_81 rfl (by decide) rfl ?_
                        refine lv_iload_n hx hb dX8_goesOn_84 rfl (lv_at hl 1 rfl) ?_
                        refine lv_aload_n hx hb dX8_goesOn_85 rfl (lv_at hl 0 rfl) ?_
                        obtain ⟨r37, hc86, hf⟩ := pf_bi_0 hf
                        refine hm_aft_i (ws' := fun _ => [oc8 h0 r_t t_base t_taped x31 t_faultPlace t_number t_newBits t_newTold x33 t_newThings x36 t_sum t_heldAll t_onPaper t_turned t_wasConverted t_lastBits t_lastSum t_lastHeld t_lastLeft t_lastCode t_writtenLong t_codeMany t_acts t_done0 t_stoppedAt, ic E (r_t 14) 84 f32, ic E (r_t 17) 10 t_open, ic E (r_t 21) 10 f35, ic E (r_t 19) 10 t_sign, ic E (r_t 18) 10 t_stage, ic E (r_t 20) 10 f34, bc E (r_t 2) 400 t_tape]) (hm_runV (rest := [.int x30, .ref (r_t 21)]) hx hb hml hown X hA Y w 0 (ci := 7) (T := TX8) (N := 55) rfl rfl mw_X8_here ml_X8_136 dX8_goesOn_86 hm_ac0 [] rfl [0, 7] rfl rfl (ct_X8_here l E H.size h0 r_t t_base t_taped x31 t_faultPlace t_number t_newBits t_newTold x33 t_newThings x36 t_sum t_heldAll t_onPaper t_turned t_wasConverted t_lastBits t_lastSum t_lastHeld t_lastLeft t_lastCode t_writtenLong t_codeMany t_acts t_done0 t_stoppedAt t_tape (r37, ()) hc86) rfl hl.1 ⟨⟨rfl, rfl⟩, ⟨Nat.le_of_ble_eq_true rfl, Nat.le_of_ble_eq_true rfl⟩, ⟨Nat.le_of_ble_eq_true rfl, Nat.le_of_ble_eq_true rfl⟩, Nat.le_of_ble_eq_true rfl⟩) hA w [0, 7] [1, 2, 3, 4, 5, 6] [6, 0, 1, 2, 3, 4, 5, 7] rfl rfl (by decide) (fun _ => rfl) (fun _ H locs w => ?_)
                        obtain ⟨g89, hf⟩ := pf_ckI hf
                        refine hm_iast (ws' := [oc8 h0 r_t t_base t_taped x31 t_faultPlace t_number t_newBits t_newTold x33 t_newThings x36 t_sum t_heldAll t_onPaper t_turned t_wasConverted t_lastBits t_lastSum t_lastHeld t_lastLeft t_lastCode t_writtenLong t_codeMany t_acts t_done0 t_stoppedAt, ic E (r_t 14) 84 f32, ic E (r_t 17) 10 t_open, ic E (r_t 21) 10 (upd f35 x30.toNatClampNeg r37), ic E (r_t 19) 10 t_sign, ic E (r_t 18) 10 t_stage, ic E (r_t 20) 10 f34, bc E (r_t 2) 400 t_tape]) hx hb X w 3 dX8_goesOn_89 rfl g89 rfl (fun H locs w => ?_)
                        refine lv_aload_n hx hb dX8_goesOn_90 rfl (lv_at hl 0 rfl) ?_
                        refine lv_dup hx hb dX8_goesOn_91 rfl ?_
                        refine hm_get cb_X8 hx hb hown X w 0 4 fl_X8_133 dX8_goesOn_92 rfl (by decide) rfl ?_
                        refine lv_iconst (v := 1) hx hb dX8_goesOn_95 (by decide) ?_
                        refine lv_iadd hx hb dX8_goesOn_96 ?_
                        refine lv_topi (fun x38 ex38 => ?_)
                        have hf := pf_nm ex38 hf
                        refine hm_put (ws' := [oc8 h0 r_t t_base t_taped x38 t_faultPlace t_number t_newBits t_newTold x33 t_newThings x36 t_sum t_heldAll t_onPaper t_turned t_wasConverted t_lastBits t_lastSum t_lastHeld t_lastLeft t_lastCode t_writtenLong t_codeMany t_acts t_done0 t_stoppedAt, ic E (r_t 14) 84 f32, ic E (r_t 17) 10 t_open, ic E (r_t 21) 10 (upd f35 x30.toNatClampNeg r37), ic E (r_t 19) 10 t_sign, ic E (r_t 18) 10 t_stage, ic E (r_t 20) 10 f34, bc E (r_t 2) 400 t_tape]) cb_X8 hx hb hown X w 0 4 fl_X8_133 dX8_goesOn_97 rfl (by decide) (Nat.le_of_ble_eq_true rfl) rfl rfl rfl rfl (fun H locs w => ?_)
                        refine lv_iconst (v := 1) hx hb dX8_goesOn_100 (by decide) ?_
                        exact hQ _ _ _ _ _ (x38, t_faultPlace, f32, x33, t_stage, t_sign, f34, (upd f35 x30.toNatClampNeg r37), x36) (fun _ => 0) hf rfl w dX8_goesOn_101
                      have klp_X8_goesOn_0 : ∀ (n : Nat) (x39 : Int32) (f40 : Nat → Int32) (x41 : Int32) (f42 : Nat → Int32) (f43 : Nat → Int32) (x44 : Int32) (H : Heap) (locs : List Loc) (ls : Array Slot), lp_X8_goesOn_0 t_taped t_faultPlace t_open t_sign t_stage t_tape J175 J144 J80 n x39 f40 x41 f42 f43 x44 = some R → hm_W E A s.heap [oc8 h0 r_t t_base t_taped x39 t_faultPlace t_number t_newBits t_newTold x41 t_newThings x44 t_sum t_heldAll t_onPaper t_turned t_wasConverted t_lastBits t_lastSum t_lastHeld t_lastLeft t_lastCode t_writtenLong t_codeMany t_acts t_done0 t_stoppedAt, ic E (r_t 14) 84 f40, ic E (r_t 17) 10 t_open, ic E (r_t 21) 10 f43, ic E (r_t 19) 10 t_sign, ic E (r_t 18) 10 t_stage, ic E (r_t 20) 10 f42, bc E (r_t 2) 400 t_tape] H locs → lv_has ls 2 [(0, .ref h0)] → W p l e (hm_rr 3 65 0 0) s m args below meth c H locs 0 0 Q (F0 m 0 ls []) := by
                        intro n
                        induction n with
                        | zero =>
                          intro x39 f40 x41 f42 f43 x44 H locs ls hf w hl
                          exact pf_no hf
                        | succ n ih0 =>
                          intro x39 f40 x41 f42 f43 x44 H locs ls hf w hl
                          rw [lp_X8_goesOn_0] at hf
                          refine lv_aload_n hx hb dX8_goesOn_0 rfl (lv_at hl 0 rfl) ?_
                          refine hm_get cb_X8 hx hb hown X w 0 17 fl_X8_46 dX8_goesOn_1 rfl (by decide) rfl ?_
                          refine lv_aload_n hx hb dX8_goesOn_4 rfl (lv_at hl 0 rfl) ?_
                          refine hm_get cb_X8 hx hb hown X w 0 22 fl_X8_188 dX8_goesOn_5 rfl (by decide) rfl ?_
                          obtain ⟨g8, hf⟩ := pf_ckI hf
                          refine hm_iald hx hb X w 2 dX8_goesOn_8 rfl g8 ?_
                          refine lv_iconst (v := 3) hx hb dX8_goesOn_9 (by decide) ?_
                          refine lv_icmp_ne (tgt := 33) hx hb dX8_goesOn_10 (by decide) (fun c10 => ?_) (fun c10 => ?_)
                          · have hf := pf_e c10 hf
                            refine lv_aload_n hx hb dX8_goesOn_33 rfl (lv_at hl 0 rfl) ?_
                            refine hm_get cb_X8 hx hb hown X w 0 22 fl_X8_188 dX8_goesOn_34 rfl (by decide) rfl ?_
                            refine lv_istore_n (lv' := [(1, .int x44), (0, .ref h0)]) hx hb dX8_goesOn_37 rfl hl (by decide) rfl (fun ls hl => ?_)
                            refine lv_aload_n hx hb dX8_goesOn_38 rfl (lv_at hl 1 rfl) ?_
                            refine hm_get cb_X8 hx hb hown X w 0 21 fl_X8_58 dX8_goesOn_39 rfl (by decide) rfl ?_
                            refine lv_iload_n hx hb dX8_goesOn_42 rfl (lv_at hl 0 rfl) ?_
                            obtain ⟨g43, hf⟩ := pf_ckI hf
                            refine hm_iald hx hb X w 3 dX8_goesOn_43 rfl g43 ?_
                            obtain ⟨J60, hJ60, hf⟩ := pf_jn hf
                            have kJ60 : ∀ (f45 : Nat → Int32) (x46 : Int32) (H : Heap) (locs : List Loc) (ls : Array Slot), J60 f45 x46 = some R → hm_W E A s.heap [oc8 h0 r_t t_base t_taped x39 t_faultPlace t_number t_newBits t_newTold x46 t_newThings x44 t_sum t_heldAll t_onPaper t_turned t_wasConverted t_lastBits t_lastSum t_lastHeld t_lastLeft t_lastCode t_writtenLong t_codeMany t_acts t_done0 t_stoppedAt, ic E (r_t 14) 84 f45, ic E (r_t 17) 10 t_open, ic E (r_t 21) 10 (upd f43 x44.toNatClampNeg 0), ic E (r_t 19) 10 t_sign, ic E (r_t 18) 10 t_stage, ic E (r_t 20) 10 f42, bc E (r_t 2) 400 t_tape] H locs → lv_has ls 2 [(0, .ref h0), (1, .int x44)] → W p l e (hm_rr 3 65 0 0) s m args below meth c H locs 0 0 Q (F0 m 60 ls []) := by
                              intro f45 x46 H locs ls hf w hl
                              have hf := pf_j2 hJ60 hf
                              refine lv_aload_n hx hb dX8_goesOn_60 rfl (lv_at hl 0 rfl) ?_
                              refine hm_get cb_X8 hx hb hown X w 0 21 fl_X8_58 dX8_goesOn_61 rfl (by decide) rfl ?_
                              refine lv_iload_n hx hb dX8_goesOn_64 rfl (lv_at hl 1 rfl) ?_
                              refine lv_iconst (v := 0) hx hb dX8_goesOn_65 (by decide) ?_
                              obtain ⟨g66, hf⟩ := pf_ckI hf
                              refine hm_iast (ws' := [oc8 h0 r_t t_base t_taped x39 t_faultPlace t_number t_newBits t_newTold x46 t_newThings x44 t_sum t_heldAll t_onPaper t_turned t_wasConverted t_lastBits t_lastSum t_lastHeld t_lastLeft t_lastCode t_writtenLong t_codeMany t_acts t_done0 t_stoppedAt, ic E (r_t 14) 84 f45, ic E (r_t 17) 10 t_open, ic E (r_t 21) 10 (upd f43 x44.toNatClampNeg 0), ic E (r_t 19) 10 t_sign, ic E (r_t 18) 10 t_stage, ic E (r_t 20) 10 f42, bc E (r_t 2) 400 t_tape]) hx hb X w 3 dX8_goesOn_66 rfl g66 rfl (fun H locs w => ?_)
                              refine lv_aload_n hx hb dX8_goesOn_67 rfl (lv_at hl 0 rfl) ?_
                              refine lv_bipush (v := 42) hx hb dX8_goesOn_68 (by decide) ?_
                              refine lv_bipush (v := 47) hx hb dX8_goesOn_70 (by decide) ?_
                              refine lv_bipush (v := 37) hx hb dX8_goesOn_72 (by decide) ?_
                              obtain ⟨r47, hc74, hf⟩ := pf_bi_0 hf
                              refine hm_aft_i (ws' := fun _ => [oc8 h0 r_t t_base t_taped x39 t_faultPlace t_number t_newBits t_newTold x46 t_newThings x44 t_sum t_heldAll t_onPaper t_turned t_wasConverted t_lastBits t_lastSum t_lastHeld t_lastLeft t_lastCode t_writtenLong t_codeMany t_acts t_done0 t_stoppedAt, ic E (r_t 14) 84 f45, ic E (r_t 17) 10 t_open, ic E (r_t 21) 10 (upd f43 x44.toNatClampNeg 0), ic E (r_t 19) 10 t_sign, ic E (r_t 18) 10 t_stage, ic E (r_t 20) 10 f42, bc E (r_t 2) 400 t_tape]) (hm_runV (rest := []) hx hb hml hown X hA Y w 0 (ci := 7) (T := TX8) (N := 55) rfl rfl mw_X8_isOne ml_X8_206 dX8_goesOn_74 hm_ac0 [.int 42, .int 47, .int 37] rfl [0, 7] rfl rfl (ct_X8_isOne l E H.size h0 r_t t_base t_taped x39 t_faultPlace t_number t_newBits t_newTold x46 t_newThings x44 t_sum t_heldAll t_onPaper t_turned t_wasConverted t_lastBits t_lastSum t_lastHeld t_lastLeft t_lastCode t_writtenLong t_codeMany t_acts t_done0 t_stoppedAt t_tape 42 47 37 (r47, ()) hc74) rfl hl.1 ⟨⟨rfl, rfl⟩, ⟨Nat.le_of_ble_eq_true rfl, Nat.le_of_ble_eq_true rfl⟩, ⟨Nat.le_of_ble_eq_true rfl, Nat.le_of_ble_eq_true rfl⟩, Nat.le_of_ble_eq_true rfl⟩) hA w [0, 7] [1, 2, 3, 4, 5, 6] [6, 0, 1, 2, 3, 4, 5, 7] rfl rfl (by decide) (fun _ => rfl) (fun _ H locs w => ?_)
                              refine lv_if_eq (tgt := 102) hx hb dX8_goesOn_77 (by decide) (fun c77 => ?_) (fun c77 => ?_)
                              · have hf := pf_t c77 hf
                                refine lv_aload_n hx hb dX8_goesOn_102 rfl (lv_at hl 0 rfl) ?_
                                refine hm_get cb_X8 hx hb hown X w 0 20 fl_X8_55 dX8_goesOn_103 rfl (by decide) rfl ?_
                                refine lv_iload_n hx hb dX8_goesOn_106 rfl (lv_at hl 1 rfl) ?_
                                obtain ⟨g107, hf⟩ := pf_ckI hf
                                refine hm_iald hx hb X w 6 dX8_goesOn_107 rfl g107 ?_
                                obtain ⟨J124, hJ124, hf⟩ := pf_jn hf
                                have kJ124 : ∀ (f48 : Nat → Int32) (x49 : Int32) (H : Heap) (locs : List Loc) (ls : Array Slot), J124 f48 x49 = some R → hm_W E A s.heap [oc8 h0 r_t t_base t_taped x39 t_faultPlace t_number t_newBits t_newTold x49 t_newThings x44 t_sum t_heldAll t_onPaper t_turned t_wasConverted t_lastBits t_lastSum t_lastHeld t_lastLeft t_lastCode t_writtenLong t_codeMany t_acts t_done0 t_stoppedAt, ic E (r_t 14) 84 f48, ic E (r_t 17) 10 t_open, ic E (r_t 21) 10 (upd f43 x44.toNatClampNeg 0), ic E (r_t 19) 10 t_sign, ic E (r_t 18) 10 t_stage, ic E (r_t 20) 10 (upd f42 x44.toNatClampNeg 0), bc E (r_t 2) 400 t_tape] H locs → lv_has ls 2 [(0, .ref h0), (1, .int x44)] → W p l e (hm_rr 3 65 0 0) s m args below meth c H locs 0 0 Q (F0 m 124 ls []) := by
                                  intro f48 x49 H locs ls hf w hl
                                  have hf := pf_j2 hJ124 hf
                                  refine lv_aload_n hx hb dX8_goesOn_124 rfl (lv_at hl 0 rfl) ?_
                                  refine hm_get cb_X8 hx hb hown X w 0 20 fl_X8_55 dX8_goesOn_125 rfl (by decide) rfl ?_
                                  refine lv_iload_n hx hb dX8_goesOn_128 rfl (lv_at hl 1 rfl) ?_
                                  refine lv_iconst (v := 0) hx hb dX8_goesOn_129 (by decide) ?_
                                  obtain ⟨g130, hf⟩ := pf_ckI hf
                                  refine hm_iast (ws' := [oc8 h0 r_t t_base t_taped x39 t_faultPlace t_number t_newBits t_newTold x49 t_newThings x44 t_sum t_heldAll t_onPaper t_turned t_wasConverted t_lastBits t_lastSum t_lastHeld t_lastLeft t_lastCode t_writtenLong t_codeMany t_acts t_done0 t_stoppedAt, ic E (r_t 14) 84 f48, ic E (r_t 17) 10 t_open, ic E (r_t 21) 10 (upd f43 x44.toNatClampNeg 0), ic E (r_t 19) 10 t_sign, ic E (r_t 18) 10 t_stage, ic E (r_t 20) 10 (upd f42 x44.toNatClampNeg 0), bc E (r_t 2) 400 t_tape]) hx hb X w 6 dX8_goesOn_130 rfl g130 rfl (fun H locs w => ?_)
                                  refine lv_aload_n hx hb dX8_goesOn_131 rfl (lv_at hl 0 rfl) ?_
                                  refine lv_bipush (v := 43) hx hb dX8_goesOn_132 (by decide) ?_
                                  refine lv_bipush (v := 45) hx hb dX8_goesOn_134 (by decide) ?_
                                  refine lv_bipush (v := 43) hx hb dX8_goesOn_136 (by decide) ?_
                                  obtain ⟨r50, hc138, hf⟩ := pf_bi_0 hf
                                  refine hm_aft_i (ws' := fun _ => [oc8 h0 r_t t_base t_taped x39 t_faultPlace t_number t_newBits t_newTold x49 t_newThings x44 t_sum t_heldAll t_onPaper t_turned t_wasConverted t_lastBits t_lastSum t_lastHeld t_lastLeft t_lastCode t_writtenLong t_codeMany t_acts t_done0 t_stoppedAt, ic E (r_t 14) 84 f48, ic E (r_t 17) 10 t_open, ic E (r_t 21) 10 (upd f43 x44.toNatClampNeg 0), ic E (r_t 19) 10 t_sign, ic E (r_t 18) 10 t_stage, ic E (r_t 20) 10 (upd f42 x44.toNatClampNeg 0), bc E (r_t 2) 400 t_tape]) (hm_runV (rest := []) hx hb hml hown X hA Y w 0 (ci := 7) (T := TX8) (N := 55) rfl rfl mw_X8_isOne ml_X8_206 dX8_goesOn_138 hm_ac0 [.int 43, .int 45, .int 43] rfl [0, 7] rfl rfl (ct_X8_isOne l E H.size h0 r_t t_base t_taped x39 t_faultPlace t_number t_newBits t_newTold x49 t_newThings x44 t_sum t_heldAll t_onPaper t_turned t_wasConverted t_lastBits t_lastSum t_lastHeld t_lastLeft t_lastCode t_writtenLong t_codeMany t_acts t_done0 t_stoppedAt t_tape 43 45 43 (r50, ()) hc138) rfl hl.1 ⟨⟨rfl, rfl⟩, ⟨Nat.le_of_ble_eq_true rfl, Nat.le_of_ble_eq_true rfl⟩, ⟨Nat.le_of_ble_eq_true rfl, Nat.le_of_ble_eq_true rfl⟩, Nat.le_of_ble_eq_true rfl⟩) hA w [0, 7] [1, 2, 3, 4, 5, 6] [6, 0, 1, 2, 3, 4, 5, 7] rfl rfl (by decide) (fun _ => rfl) (fun _ H locs w => ?_)
                                  refine lv_if_eq (tgt := 166) hx hb dX8_goesOn_141 (by decide) (fun c141 => ?_) (fun c141 => ?_)
                                  · have hf := pf_t c141 hf
                                    refine lv_aload_n hx hb dX8_goesOn_166 rfl (lv_at hl 0 rfl) ?_
                                    refine hm_get cb_X8 hx hb hown X w 0 17 fl_X8_46 dX8_goesOn_167 rfl (by decide) rfl ?_
                                    refine lv_iload_n hx hb dX8_goesOn_170 rfl (lv_at hl 1 rfl) ?_
                                    obtain ⟨g171, hf⟩ := pf_ckI hf
                                    refine hm_iald hx hb X w 2 dX8_goesOn_171 rfl g171 ?_
                                    refine lv_if_ne (tgt := 203) hx hb dX8_goesOn_172 (by decide) (fun c172 => ?_) (fun c172 => ?_)
                                    · have hf := pf_e c172 hf
                                      refine lv_aload_n hx hb dX8_goesOn_203 rfl (lv_at hl 0 rfl) ?_
                                      refine hm_get cb_X8 hx hb hown X w 0 17 fl_X8_46 dX8_goesOn_204 rfl (by decide) rfl ?_
                                      refine lv_iload_n hx hb dX8_goesOn_207 rfl (lv_at hl 1 rfl) ?_
                                      obtain ⟨g208, hf⟩ := pf_ckI hf
                                      refine hm_iald hx hb X w 2 dX8_goesOn_208 rfl g208 ?_
                                      refine lv_iconst (v := 2) hx hb dX8_goesOn_209 (by decide) ?_
                                      obtain ⟨J229, hJ229, hf⟩ := pf_jn hf
                                      have kJ229 : ∀ (H : Heap) (locs : List Loc) (ls : Array Slot), J229 = some R → hm_W E A s.heap [oc8 h0 r_t t_base t_taped x39 t_faultPlace t_number t_newBits t_newTold x49 t_newThings x44 t_sum t_heldAll t_onPaper t_turned t_wasConverted t_lastBits t_lastSum t_lastHeld t_lastLeft t_lastCode t_writtenLong t_codeMany t_acts t_done0 t_stoppedAt, ic E (r_t 14) 84 f48, ic E (r_t 17) 10 t_open, ic E (r_t 21) 10 (upd f43 x44.toNatClampNeg 0), ic E (r_t 19) 10 t_sign, ic E (r_t 18) 10 t_stage, ic E (r_t 20) 10 (upd f42 x44.toNatClampNeg 0), bc E (r_t 2) 400 t_tape] H locs → lv_has ls 2 [(0, .ref h0), (1, .int x44)] → W p l e (hm_rr 3 65 0 0) s m args below meth c H locs 0 0 Q (F0 m 229 ls [.int r51]) := by
                                        intro H locs ls hf w hl
                                        have hf := pf_j0 hJ229 hf
                                        refine lv_aload_n hx hb dX8_goesOn_229 rfl (lv_at hl 0 rfl) ?_
                                        obtain ⟨r51, hc230, hf⟩ := pf_bi_0 hf
                                        refine hm_aft_i (ws' := fun _ => [oc8 h0 r_t t_base t_taped x39 t_faultPlace t_number t_newBits t_newTold x49 t_newThings x44 t_sum t_heldAll t_onPaper t_turned t_wasConverted t_lastBits t_lastSum t_lastHeld t_lastLeft t_lastCode t_writtenLong t_codeMany t_acts t_done0 t_stoppedAt, ic E (r_t 14) 84 f48, ic E (r_t 17) 10 t_open, ic E (r_t 21) 10 (upd f43 x44.toNatClampNeg 0), ic E (r_t 19) 10 t_sign, ic E (r_t 18) 10 t_stage, ic E (r_t 20) 10 (upd f42 x44.toNatClampNeg 0), bc E (r_t 2) 400 t_tape]) (hm_runV (rest := []) hx hb hml hown X hA Y w 0 (ci := 7) (T := TX8) (N := 55) rfl rfl mw_X8_here ml_X8_136 dX8_goesOn_230 hm_ac0 [] rfl [0, 7] rfl rfl (ct_X8_here l E H.size h0 r_t t_base t_taped x39 t_faultPlace t_number t_newBits t_newTold x49 t_newThings x44 t_sum t_heldAll t_onPaper t_turned t_wasConverted t_lastBits t_lastSum t_lastHeld t_lastLeft t_lastCode t_writtenLong t_codeMany t_acts t_done0 t_stoppedAt t_tape (r51, ()) hc230) rfl hl.1 ⟨⟨rfl, rfl⟩, ⟨Nat.le_of_ble_eq_true rfl, Nat.le_of_ble_eq_true rfl⟩, ⟨Nat.le_of_ble_eq_true rfl, Nat.le_of_ble_eq_true rfl⟩, Nat.le_of_ble_eq_true rfl⟩) hA w [0, 7] [1, 2, 3, 4, 5, 6] [6, 0, 1, 2, 3, 4, 5, 7] rfl rfl (by decide) (fun _ => rfl) (fun _ H locs w => ?_)
                                        refine lv_aload_n hx hb dX8_goesOn_233 rfl (lv_at hl 0 rfl) ?_
                                        refine hm_get cb_X8 hx hb hown X w 0 17 fl_X8_46 dX8_goesOn_234 rfl (by decide) rfl ?_
                                        refine lv_iload_n hx hb dX8_goesOn_237 rfl (lv_at hl 1 rfl) ?_
                                        obtain ⟨g238, hf⟩ := pf_ckI hf
                                        refine hm_iald hx hb X w 2 dX8_goesOn_238 rfl g238 ?_
                                        refine lv_iconst (v := 1) hx hb dX8_goesOn_239 (by decide) ?_
                                        obtain ⟨J250, hJ250, hf⟩ := pf_jn hf
                                        have kJ250 : ∀ (x52 : Int32) (H : Heap) (locs : List Loc) (ls : Array Slot), J250 x52 = some R → hm_W E A s.heap [oc8 h0 r_t t_base t_taped x39 t_faultPlace t_number t_newBits t_newTold x49 t_newThings x44 t_sum t_heldAll t_onPaper t_turned t_wasConverted t_lastBits t_lastSum t_lastHeld t_lastLeft t_lastCode t_writtenLong t_codeMany t_acts t_done0 t_stoppedAt, ic E (r_t 14) 84 f48, ic E (r_t 17) 10 t_open, ic E (r_t 21) 10 (upd f43 x44.toNatClampNeg 0), ic E (r_t 19) 10 t_sign, ic E (r_t 18) 10 t_stage, ic E (r_t 20) 10 (upd f42 x44.toNatClampNeg 0), bc E (r_t 2) 400 t_tape] H locs → lv_has ls 2 [(0, .ref h0), (1, .int x44)] → W p l e (hm_rr 3 65 0 0) s m args below meth c H locs 0 0 Q (F0 m 250 ls []) := by
                                          intro x52 H locs ls hf w hl
                                          have hf := pf_j1 hJ250 hf
                                          refine lv_icmp_eq (tgt := 262) hx hb dX8_goesOn_250 (by decide) (fun c250 => ?_) (fun c250 => ?_)
                                          · have hf := pf_t c250 hf
                                            refine lv_aload_n hx hb dX8_goesOn_262 rfl (lv_at hl 0 rfl) ?_
                                            refine lv_dup hx hb dX8_goesOn_263 rfl ?_
                                            refine hm_get cb_X8 hx hb hown X w 0 4 fl_X8_133 dX8_goesOn_264 rfl (by decide) rfl ?_
                                            refine lv_iconst (v := 1) hx hb dX8_goesOn_267 (by decide) ?_
                                            refine lv_iadd hx hb dX8_goesOn_268 ?_
                                            refine lv_topi (fun x53 ex53 => ?_)
                                            have hf := pf_nm ex53 hf
                                            refine hm_put (ws' := [oc8 h0 r_t t_base t_taped x53 t_faultPlace t_number t_newBits t_newTold x49 t_newThings x44 t_sum t_heldAll t_onPaper t_turned t_wasConverted t_lastBits t_lastSum t_lastHeld t_lastLeft t_lastCode t_writtenLong t_codeMany t_acts t_done0 t_stoppedAt, ic E (r_t 14) 84 f48, ic E (r_t 17) 10 t_open, ic E (r_t 21) 10 (upd f43 x44.toNatClampNeg 0), ic E (r_t 19) 10 t_sign, ic E (r_t 18) 10 t_stage, ic E (r_t 20) 10 (upd f42 x44.toNatClampNeg 0), bc E (r_t 2) 400 t_tape]) cb_X8 hx hb hown X w 0 4 fl_X8_133 dX8_goesOn_269 rfl (by decide) (Nat.le_of_ble_eq_true rfl) rfl rfl rfl rfl (fun H locs w => ?_)
                                            refine lv_aload_n hx hb dX8_goesOn_272 rfl (lv_at hl 0 rfl) ?_
                                            refine hm_get cb_X8 hx hb hown X w 0 17 fl_X8_46 dX8_goesOn_273 rfl (by decide) rfl ?_
                                            refine lv_iload_n hx hb dX8_goesOn_276 rfl (lv_at hl 1 rfl) ?_
                                            obtain ⟨g277, hf⟩ := pf_ckI hf
                                            refine hm_iald hx hb X w 2 dX8_goesOn_277 rfl g277 ?_
                                            refine lv_iconst (v := 2) hx hb dX8_goesOn_278 (by decide) ?_
                                            obtain ⟨J292, hJ292, hf⟩ := pf_jn hf
                                            have kJ292 : ∀ (f54 : Nat → Int32) (x55 : Int32) (H : Heap) (locs : List Loc) (ls : Array Slot), J292 f54 x55 = some R → hm_W E A s.heap [oc8 h0 r_t t_base t_taped x53 t_faultPlace t_number t_newBits t_newTold x55 t_newThings x56 t_sum t_heldAll t_onPaper t_turned t_wasConverted t_lastBits t_lastSum t_lastHeld t_lastLeft t_lastCode t_writtenLong t_codeMany t_acts t_done0 t_stoppedAt, ic E (r_t 14) 84 f54, ic E (r_t 17) 10 t_open, ic E (r_t 21) 10 (upd f43 x44.toNatClampNeg 0), ic E (r_t 19) 10 t_sign, ic E (r_t 18) 10 t_stage, ic E (r_t 20) 10 (upd f42 x44.toNatClampNeg 0), bc E (r_t 2) 400 t_tape] H locs → lv_has ls 2 [(0, .ref h0)] → W p l e (hm_rr 3 65 0 0) s m args below meth c H locs 0 0 Q (F0 m 292 ls []) := by
                                              intro f54 x55 H locs ls hf w hl
                                              have hf := pf_j2 hJ292 hf
                                              refine lv_aload_n hx hb dX8_goesOn_292 rfl (lv_at hl 0 rfl) ?_
                                              refine lv_dup hx hb dX8_goesOn_293 rfl ?_
                                              refine hm_get cb_X8 hx hb hown X w 0 22 fl_X8_188 dX8_goesOn_294 rfl (by decide) rfl ?_
                                              refine lv_iconst (v := 1) hx hb dX8_goesOn_297 (by decide) ?_
                                              refine lv_isub hx hb dX8_goesOn_298 ?_
                                              refine lv_topi (fun x56 ex56 => ?_)
                                              have hf := pf_nm ex56 hf
                                              refine hm_put (ws' := [oc8 h0 r_t t_base t_taped x53 t_faultPlace t_number t_newBits t_newTold x55 t_newThings x56 t_sum t_heldAll t_onPaper t_turned t_wasConverted t_lastBits t_lastSum t_lastHeld t_lastLeft t_lastCode t_writtenLong t_codeMany t_acts t_done0 t_stoppedAt, ic E (r_t 14) 84 f54, ic E (r_t 17) 10 t_open, ic E (r_t 21) 10 (upd f43 x44.toNatClampNeg 0), ic E (r_t 19) 10 t_sign, ic E (r_t 18) 10 t_stage, ic E (r_t 20) 10 (upd f42 x44.toNatClampNeg 0), bc E (r_t 2) 400 t_tape]) cb_X8 hx hb hown X w 0 22 fl_X8_188 dX8_goesOn_299 rfl (by decide) (Nat.le_of_ble_eq_true rfl) rfl rfl rfl rfl (fun H locs w => ?_)
                                              refine lv_goto (tgt := 0) hx hb dX8_goesOn_302 (by decide) ?_
                                              exact ih0 _ _ _ _ _ _ _ _ _ hf w (lv_sub hl [0] rfl)
                                            refine lv_icmp_ne (tgt := 292) hx hb dX8_goesOn_279 (by decide) (fun c279 => ?_) (fun c279 => ?_)
                                            · have hf := pf_e c279 hf
                                              exact kJ292 _ _ _ _ _ hf w (lv_sub hl [0] rfl)
                                            · have hf := pf_t c279 hf
                                              refine lv_aload_n hx hb dX8_goesOn_282 rfl (lv_at hl 0 rfl) ?_
                                              refine lv_aload_n hx hb dX8_goesOn_283 rfl (lv_at hl 0 rfl) ?_
                                              refine hm_get cb_X8 hx hb hown X w 0 19 fl_X8_52 dX8_goesOn_284 rfl (by decide) rfl ?_
                                              refine lv_iload_n hx hb dX8_goesOn_287 rfl (lv_at hl 1 rfl) ?_
                                              obtain ⟨g288, hf⟩ := pf_ckI hf
                                              refine hm_iald hx hb X w 4 dX8_goesOn_288 rfl g288 ?_
                                              obtain ⟨f57, x58, hc289, hf⟩ := pf_bv_2 hf
                                              refine hm_aft_v (ws' := fun _ => [oc8 h0 r_t t_base t_taped x53 t_faultPlace t_number t_newBits t_newTold x58 t_newThings x44 t_sum t_heldAll t_onPaper t_turned t_wasConverted t_lastBits t_lastSum t_lastHeld t_lastLeft t_lastCode t_writtenLong t_codeMany t_acts t_done0 t_stoppedAt, ic E (r_t 14) 84 f57, ic E (r_t 17) 10 t_open, ic E (r_t 21) 10 (upd f43 x44.toNatClampNeg 0), ic E (r_t 19) 10 t_sign, ic E (r_t 18) 10 t_stage, ic E (r_t 20) 10 (upd f42 x44.toNatClampNeg 0), bc E (r_t 2) 400 t_tape]) (hm_runV (rest := []) hx hb hml hown X hA Y w 0 (ci := 7) (T := TX8) (N := 55) rfl rfl mw_X8_does ml_X8_197 dX8_goesOn_289 hm_ac0 [.int (t_sign x44.toNatClampNeg)] rfl [0, 1] rfl rfl (ct_X8_does l E H.size h0 r_t t_base t_taped x53 t_faultPlace t_number t_newBits t_newTold x49 t_newThings x44 t_sum t_heldAll t_onPaper t_turned t_wasConverted t_lastBits t_lastSum t_lastHeld t_lastLeft t_lastCode t_writtenLong t_codeMany t_acts t_done0 t_stoppedAt f48 (t_sign x44.toNatClampNeg) (f57, x58) hc289) rfl hl.1 ⟨⟨rfl, rfl⟩, ⟨Nat.le_of_ble_eq_true rfl, Nat.le_of_ble_eq_true rfl⟩, ⟨Nat.le_of_ble_eq_true rfl, Nat.le_of_ble_eq_true rfl⟩, Nat.le_of_ble_eq_true rfl⟩) hA w [0, 1] [2, 3, 4, 5, 6, 7] [6, 7, 0, 1, 2, 3, 4, 5] rfl rfl (by decide) (fun _ => rfl) (fun _ H locs w => ?_)
                                              exact kJ292 _ _ _ _ _ hf w (lv_sub hl [0] rfl)
                                          · have hf := pf_e c250 hf
                                            refine lv_aload_n hx hb dX8_goesOn_253 rfl (lv_at hl 0 rfl) ?_
                                            refine lv_aload_n hx hb dX8_goesOn_254 rfl (lv_at hl 0 rfl) ?_
                                            refine hm_get cb_X8 hx hb hown X w 0 4 fl_X8_133 dX8_goesOn_255 rfl (by decide) rfl ?_
                                            obtain ⟨r59, x60, hc258, hf⟩ := pf_bi_1 hf
                                            refine hm_aft_i (ws' := fun _ => [oc8 h0 r_t t_base t_taped x39 x60 t_number t_newBits t_newTold x49 t_newThings x44 t_sum t_heldAll t_onPaper t_turned t_wasConverted t_lastBits t_lastSum t_lastHeld t_lastLeft t_lastCode t_writtenLong t_codeMany t_acts t_done0 t_stoppedAt, ic E (r_t 14) 84 f48, ic E (r_t 17) 10 t_open, ic E (r_t 21) 10 (upd f43 x44.toNatClampNeg 0), ic E (r_t 19) 10 t_sign, ic E (r_t 18) 10 t_stage, ic E (r_t 20) 10 (upd f42 x44.toNatClampNeg 0), bc E (r_t 2) 400 t_tape]) (hm_runV (rest := []) hx hb hml hown X hA Y w 0 (ci := 7) (T := TX8) (N := 55) rfl rfl mw_X8_fails ml_X8_144 dX8_goesOn_258 hm_ac0 [.int x39] rfl [0] rfl rfl (ct_X8_fails l E H.size h0 r_t t_base t_taped x39 t_faultPlace t_number t_newBits t_newTold x49 t_newThings x44 t_sum t_heldAll t_onPaper t_turned t_wasConverted t_lastBits t_lastSum t_lastHeld t_lastLeft t_lastCode t_writtenLong t_codeMany t_acts t_done0 t_stoppedAt x39 (r59, x60) hc258) rfl hl.1 ⟨⟨rfl, rfl⟩, ⟨Nat.le_of_ble_eq_true rfl, Nat.le_of_ble_eq_true rfl⟩, ⟨Nat.le_of_ble_eq_true rfl, Nat.le_of_ble_eq_true rfl⟩, Nat.le_of_ble_eq_true rfl⟩) hA w [0] [1, 2, 3, 4, 5, 6, 7] [7, 0, 1, 2, 3, 4, 5, 6] rfl rfl (by decide) (fun _ => rfl) (fun _ H locs w => ?_)
                                            obtain ⟨g261, hf⟩ := pf_ckZ hf
                                            exact hQ _ _ _ _ _ (x39, x60, f48, x49, t_stage, t_sign, (upd f42 x44.toNatClampNeg 0), (upd f43 x44.toNatClampNeg 0), x44) (fun _ => 0) hf (hm_z g261) w dX8_goesOn_261
                                        refine lv_icmp_ne (tgt := 248) hx hb dX8_goesOn_240 (by decide) (fun c240 => ?_) (fun c240 => ?_)
                                        · have hf := pf_e c240 hf
                                          refine lv_bipush (v := 93) hx hb dX8_goesOn_248 (by decide) ?_
                                          exact kJ250 _ _ _ _ hf w (lv_sub hl [0, 1] rfl)
                                        · have hf := pf_t c240 hf
                                          refine lv_bipush (v := 41) hx hb dX8_goesOn_243 (by decide) ?_
                                          refine lv_goto (tgt := 250) hx hb dX8_goesOn_245 (by decide) ?_
                                          exact kJ250 _ _ _ _ hf w (lv_sub hl [0, 1] rfl)
                                      refine lv_icmp_ne (tgt := 229) hx hb dX8_goesOn_210 (by decide) (fun c210 => ?_) (fun c210 => ?_)
                                      · have hf := pf_e c210 hf
                                        exact kJ229 _ _ _ hf w (lv_sub hl [0, 1] rfl)
                                      · have hf := pf_t c210 hf
                                        refine lv_aload_n hx hb dX8_goesOn_213 rfl (lv_at hl 0 rfl) ?_
                                        refine hm_get cb_X8 hx hb hown X w 0 18 fl_X8_49 dX8_goesOn_214 rfl (by decide) rfl ?_
                                        refine lv_iload_n hx hb dX8_goesOn_217 rfl (lv_at hl 1 rfl) ?_
                                        obtain ⟨g218, hf⟩ := pf_ckI hf
                                        refine hm_iald hx hb X w 5 dX8_goesOn_218 rfl g218 ?_
                                        refine lv_iconst (v := 3) hx hb dX8_goesOn_219 (by decide) ?_
                                        refine lv_icmp_ge (tgt := 229) hx hb dX8_goesOn_220 (by decide) (fun c220 => ?_) (fun c220 => ?_)
                                        · have hf := pf_t c220 hf
                                          exact kJ229 _ _ _ hf w (lv_sub hl [0, 1] rfl)
                                        · have hf := pf_e c220 hf
                                          refine lv_aload_n hx hb dX8_goesOn_223 rfl (lv_at hl 0 rfl) ?_
                                          refine lv_iload_n hx hb dX8_goesOn_224 rfl (lv_at hl 1 rfl) ?_
                                          obtain ⟨r61, x62, x63, f64, f65, hc225, hf⟩ := pf_bi_4 hf
                                          refine hm_aft_i (ws' := fun _ => [oc8 h0 r_t t_base t_taped x62 x63 t_number t_newBits t_newTold x49 t_newThings x44 t_sum t_heldAll t_onPaper t_turned t_wasConverted t_lastBits t_lastSum t_lastHeld t_lastLeft t_lastCode t_writtenLong t_codeMany t_acts t_done0 t_stoppedAt, ic E (r_t 14) 84 f48, ic E (r_t 17) 10 t_open, ic E (r_t 21) 10 (upd f43 x44.toNatClampNeg 0), ic E (r_t 19) 10 f65, ic E (r_t 18) 10 f64, ic E (r_t 20) 10 (upd f42 x44.toNatClampNeg 0), bc E (r_t 2) 400 t_tape]) (hm_runV (rest := []) hx hb hml hown X hA Y w 0 (ci := 7) (T := TX8) (N := 55) rfl rfl mw_X8_partsOn ml_X8_209 dX8_goesOn_225 hm_ac0 [.int x44] rfl [0, 4, 5, 7] rfl rfl (ct_X8_partsOn l E H.size h0 r_t t_base t_taped x39 t_faultPlace t_number t_newBits t_newTold x49 t_newThings x44 t_sum t_heldAll t_onPaper t_turned t_wasConverted t_lastBits t_lastSum t_lastHeld t_lastLeft t_lastCode t_writtenLong t_codeMany t_acts t_done0 t_stoppedAt t_sign t_stage t_tape x44 (r61, x62, x63, f64, f65) hc225) rfl hl.1 ⟨⟨rfl, rfl⟩, ⟨Nat.le_of_ble_eq_true rfl, Nat.le_of_ble_eq_true rfl⟩, ⟨Nat.le_of_ble_eq_true rfl, Nat.le_of_ble_eq_true rfl⟩, Nat.le_of_ble_eq_true rfl⟩) hA w [0, 4, 5, 7] [1, 2, 3, 6] [4, 0, 1, 2, 5, 6, 3, 7] rfl rfl (by decide) (fun _ => rfl) (fun _ H locs w => ?_)
                                          obtain ⟨g228, hf⟩ := pf_ckZ hf
                                          exact hQ _ _ _ _ _ (x62, x63, f48, x49, f64, f65, (upd f42 x44.toNatClampNeg 0), (upd f43 x44.toNatClampNeg 0), x44) (fun _ => 0) hf (hm_z g228) w dX8_goesOn_228
                                    · have hf := pf_t c172 hf
                                      exact kJ175 _ _ _ _ _ _ _ _ _ hf w (lv_sub hl [0] rfl)
                                  · have hf := pf_e c141 hf
                                    exact kJ144 _ _ _ _ _ _ _ _ _ _ hf w (lv_sub hl [0, 1] rfl)
                                refine lv_if_eq (tgt := 124) hx hb dX8_goesOn_108 (by decide) (fun c108 => ?_) (fun c108 => ?_)
                                · have hf := pf_t c108 hf
                                  exact kJ124 _ _ _ _ _ hf w (lv_sub hl [0, 1] rfl)
                                · have hf := pf_e c108 hf
                                  refine lv_aload_n hx hb dX8_goesOn_111 rfl (lv_at hl 0 rfl) ?_
                                  refine lv_aload_n hx hb dX8_goesOn_112 rfl (lv_at hl 0 rfl) ?_
                                  refine hm_get cb_X8 hx hb hown X w 0 20 fl_X8_55 dX8_goesOn_113 rfl (by decide) rfl ?_
                                  refine lv_iload_n hx hb dX8_goesOn_116 rfl (lv_at hl 1 rfl) ?_
                                  obtain ⟨g117, hf⟩ := pf_ckI hf
                                  refine hm_iald hx hb X w 6 dX8_goesOn_117 rfl g117 ?_
                                  obtain ⟨r66, hc118, hf⟩ := pf_bi_0 hf
                                  refine hm_aft_i (ws' := fun _ => [oc8 h0 r_t t_base t_taped x39 t_faultPlace t_number t_newBits t_newTold x46 t_newThings x44 t_sum t_heldAll t_onPaper t_turned t_wasConverted t_lastBits t_lastSum t_lastHeld t_lastLeft t_lastCode t_writtenLong t_codeMany t_acts t_done0 t_stoppedAt, ic E (r_t 14) 84 f45, ic E (r_t 17) 10 t_open, ic E (r_t 21) 10 (upd f43 x44.toNatClampNeg 0), ic E (r_t 19) 10 t_sign, ic E (r_t 18) 10 t_stage, ic E (r_t 20) 10 f42, bc E (r_t 2) 400 t_tape]) (hm_runS (rest := [.ref h0]) hx hb hml hown X hA Y w mw_X8_doingOf ml_X8_203 dX8_goesOn_118 hm_ac0 [.int (f42 x44.toNatClampNeg)] rfl [] rfl rfl (ct_X8_doingOf l E H.size (f42 x44.toNatClampNeg) (r66, ()) hc118) rfl hl.1 ⟨⟨rfl, rfl⟩, ⟨Nat.le_of_ble_eq_true rfl, Nat.le_of_ble_eq_true rfl⟩, ⟨Nat.le_of_ble_eq_true rfl, Nat.le_of_ble_eq_true rfl⟩, Nat.le_of_ble_eq_true rfl⟩) hA w [] [0, 1, 2, 3, 4, 5, 6, 7] [0, 1, 2, 3, 4, 5, 6, 7] rfl rfl (by decide) (fun _ => rfl) (fun _ H locs w => ?_)
                                  obtain ⟨f67, x68, hc121, hf⟩ := pf_bv_2 hf
                                  refine hm_aft_v (ws' := fun _ => [oc8 h0 r_t t_base t_taped x39 t_faultPlace t_number t_newBits t_newTold x68 t_newThings x44 t_sum t_heldAll t_onPaper t_turned t_wasConverted t_lastBits t_lastSum t_lastHeld t_lastLeft t_lastCode t_writtenLong t_codeMany t_acts t_done0 t_stoppedAt, ic E (r_t 14) 84 f67, ic E (r_t 17) 10 t_open, ic E (r_t 21) 10 (upd f43 x44.toNatClampNeg 0), ic E (r_t 19) 10 t_sign, ic E (r_t 18) 10 t_stage, ic E (r_t 20) 10 f42, bc E (r_t 2) 400 t_tape]) (hm_runV (rest := []) hx hb hml hown X hA Y w 0 (ci := 7) (T := TX8) (N := 55) rfl rfl mw_X8_does ml_X8_197 dX8_goesOn_121 hm_ac0 [.int r66] rfl [0, 1] rfl rfl (ct_X8_does l E H.size h0 r_t t_base t_taped x39 t_faultPlace t_number t_newBits t_newTold x46 t_newThings x44 t_sum t_heldAll t_onPaper t_turned t_wasConverted t_lastBits t_lastSum t_lastHeld t_lastLeft t_lastCode t_writtenLong t_codeMany t_acts t_done0 t_stoppedAt f45 r66 (f67, x68) hc121) rfl hl.1 ⟨⟨rfl, rfl⟩, ⟨Nat.le_of_ble_eq_true rfl, Nat.le_of_ble_eq_true rfl⟩, ⟨Nat.le_of_ble_eq_true rfl, Nat.le_of_ble_eq_true rfl⟩, Nat.le_of_ble_eq_true rfl⟩) hA w [0, 1] [2, 3, 4, 5, 6, 7] [6, 7, 0, 1, 2, 3, 4, 5] rfl rfl (by decide) (fun _ => rfl) (fun _ H locs w => ?_)
                                  exact kJ124 _ _ _ _ _ hf w (lv_sub hl [0, 1] rfl)
                              · have hf := pf_e c77 hf
                                exact kJ80 _ _ _ _ _ _ _ _ _ _ hf w (lv_sub hl [0, 1] rfl)
                            refine lv_if_eq (tgt := 60) hx hb dX8_goesOn_44 (by decide) (fun c44 => ?_) (fun c44 => ?_)
                            · have hf := pf_t c44 hf
                              exact kJ60 _ _ _ _ _ hf w (lv_sub hl [1, 0] rfl)
                            · have hf := pf_e c44 hf
                              refine lv_aload_n hx hb dX8_goesOn_47 rfl (lv_at hl 1 rfl) ?_
                              refine lv_aload_n hx hb dX8_goesOn_48 rfl (lv_at hl 1 rfl) ?_
                              refine hm_get cb_X8 hx hb hown X w 0 21 fl_X8_58 dX8_goesOn_49 rfl (by decide) rfl ?_
                              refine lv_iload_n hx hb dX8_goesOn_52 rfl (lv_at hl 0 rfl) ?_
                              obtain ⟨g53, hf⟩ := pf_ckI hf
                              refine hm_iald hx hb X w 3 dX8_goesOn_53 rfl g53 ?_
                              obtain ⟨r69, hc54, hf⟩ := pf_bi_0 hf
                              refine hm_aft_i (ws' := fun _ => [oc8 h0 r_t t_base t_taped x39 t_faultPlace t_number t_newBits t_newTold x41 t_newThings x44 t_sum t_heldAll t_onPaper t_turned t_wasConverted t_lastBits t_lastSum t_lastHeld t_lastLeft t_lastCode t_writtenLong t_codeMany t_acts t_done0 t_stoppedAt, ic E (r_t 14) 84 f40, ic E (r_t 17) 10 t_open, ic E (r_t 21) 10 f43, ic E (r_t 19) 10 t_sign, ic E (r_t 18) 10 t_stage, ic E (r_t 20) 10 f42, bc E (r_t 2) 400 t_tape]) (hm_runS (rest := [.ref h0]) hx hb hml hown X hA Y w mw_X8_doingOf ml_X8_203 dX8_goesOn_54 hm_ac0 [.int (f43 x44.toNatClampNeg)] rfl [] rfl rfl (ct_X8_doingOf l E H.size (f43 x44.toNatClampNeg) (r69, ()) hc54) rfl hl.1 ⟨⟨rfl, rfl⟩, ⟨Nat.le_of_ble_eq_true rfl, Nat.le_of_ble_eq_true rfl⟩, ⟨Nat.le_of_ble_eq_true rfl, Nat.le_of_ble_eq_true rfl⟩, Nat.le_of_ble_eq_true rfl⟩) hA w [] [0, 1, 2, 3, 4, 5, 6, 7] [0, 1, 2, 3, 4, 5, 6, 7] rfl rfl (by decide) (fun _ => rfl) (fun _ H locs w => ?_)
                              obtain ⟨f70, x71, hc57, hf⟩ := pf_bv_2 hf
                              refine hm_aft_v (ws' := fun _ => [oc8 h0 r_t t_base t_taped x39 t_faultPlace t_number t_newBits t_newTold x71 t_newThings x44 t_sum t_heldAll t_onPaper t_turned t_wasConverted t_lastBits t_lastSum t_lastHeld t_lastLeft t_lastCode t_writtenLong t_codeMany t_acts t_done0 t_stoppedAt, ic E (r_t 14) 84 f70, ic E (r_t 17) 10 t_open, ic E (r_t 21) 10 f43, ic E (r_t 19) 10 t_sign, ic E (r_t 18) 10 t_stage, ic E (r_t 20) 10 f42, bc E (r_t 2) 400 t_tape]) (hm_runV (rest := []) hx hb hml hown X hA Y w 0 (ci := 7) (T := TX8) (N := 55) rfl rfl mw_X8_does ml_X8_197 dX8_goesOn_57 hm_ac0 [.int r69] rfl [0, 1] rfl rfl (ct_X8_does l E H.size h0 r_t t_base t_taped x39 t_faultPlace t_number t_newBits t_newTold x41 t_newThings x44 t_sum t_heldAll t_onPaper t_turned t_wasConverted t_lastBits t_lastSum t_lastHeld t_lastLeft t_lastCode t_writtenLong t_codeMany t_acts t_done0 t_stoppedAt f40 r69 (f70, x71) hc57) rfl hl.1 ⟨⟨rfl, rfl⟩, ⟨Nat.le_of_ble_eq_true rfl, Nat.le_of_ble_eq_true rfl⟩, ⟨Nat.le_of_ble_eq_true rfl, Nat.le_of_ble_eq_true rfl⟩, Nat.le_of_ble_eq_true rfl⟩) hA w [0, 1] [2, 3, 4, 5, 6, 7] [6, 7, 0, 1, 2, 3, 4, 5] rfl rfl (by decide) (fun _ => rfl) (fun _ H locs w => ?_)
                              exact kJ60 _ _ _ _ _ hf w (lv_sub hl [1, 0] rfl)
                          · have hf := pf_t c10 hf
                            refine lv_aload_n hx hb dX8_goesOn_13 rfl (lv_at hl 0 rfl) ?_
                            refine lv_sipush (v := 10015) hx hb dX8_goesOn_14 (by decide) ?_
                            obtain ⟨f72, x73, hc17, hf⟩ := pf_bv_2 hf
                            refine hm_aft_v (ws' := fun _ => [oc8 h0 r_t t_base t_taped x39 t_faultPlace t_number t_newBits t_newTold x73 t_newThings x44 t_sum t_heldAll t_onPaper t_turned t_wasConverted t_lastBits t_lastSum t_lastHeld t_lastLeft t_lastCode t_writtenLong t_codeMany t_acts t_done0 t_stoppedAt, ic E (r_t 14) 84 f72, ic E (r_t 17) 10 t_open, ic E (r_t 21) 10 f43, ic E (r_t 19) 10 t_sign, ic E (r_t 18) 10 t_stage, ic E (r_t 20) 10 f42, bc E (r_t 2) 400 t_tape]) (hm_runV (rest := []) hx hb hml hown X hA Y w 0 (ci := 7) (T := TX8) (N := 55) rfl rfl mw_X8_does ml_X8_197 dX8_goesOn_17 hm_ac0 [.int 10015] rfl [0, 1] rfl rfl (ct_X8_does l E H.size h0 r_t t_base t_taped x39 t_faultPlace t_number t_newBits t_newTold x41 t_newThings x44 t_sum t_heldAll t_onPaper t_turned t_wasConverted t_lastBits t_lastSum t_lastHeld t_lastLeft t_lastCode t_writtenLong t_codeMany t_acts t_done0 t_stoppedAt f40 10015 (f72, x73) hc17) rfl hl.1 ⟨⟨rfl, rfl⟩, ⟨Nat.le_of_ble_eq_true rfl, Nat.le_of_ble_eq_true rfl⟩, ⟨Nat.le_of_ble_eq_true rfl, Nat.le_of_ble_eq_true rfl⟩, Nat.le_of_ble_eq_true rfl⟩) hA w [0, 1] [2, 3, 4, 5, 6, 7] [6, 7, 0, 1, 2, 3, 4, 5] rfl rfl (by decide) (fun _ => rfl) (fun _ H locs w => ?_)
                            refine lv_aload_n hx hb dX8_goesOn_20 rfl (lv_at hl 0 rfl) ?_
                            refine lv_dup hx hb dX8_goesOn_21 rfl ?_
                            refine hm_get cb_X8 hx hb hown X w 0 22 fl_X8_188 dX8_goesOn_22 rfl (by decide) rfl ?_
                            refine lv_iconst (v := 1) hx hb dX8_goesOn_25 (by decide) ?_
                            refine lv_isub hx hb dX8_goesOn_26 ?_
                            refine lv_topi (fun x74 ex74 => ?_)
                            have hf := pf_nm ex74 hf
                            refine hm_put (ws' := [oc8 h0 r_t t_base t_taped x39 t_faultPlace t_number t_newBits t_newTold x73 t_newThings x74 t_sum t_heldAll t_onPaper t_turned t_wasConverted t_lastBits t_lastSum t_lastHeld t_lastLeft t_lastCode t_writtenLong t_codeMany t_acts t_done0 t_stoppedAt, ic E (r_t 14) 84 f72, ic E (r_t 17) 10 t_open, ic E (r_t 21) 10 f43, ic E (r_t 19) 10 t_sign, ic E (r_t 18) 10 t_stage, ic E (r_t 20) 10 f42, bc E (r_t 2) 400 t_tape]) cb_X8 hx hb hown X w 0 22 fl_X8_188 dX8_goesOn_27 rfl (by decide) (Nat.le_of_ble_eq_true rfl) rfl rfl rfl rfl (fun H locs w => ?_)
                            refine lv_goto (tgt := 0) hx hb dX8_goesOn_30 (by decide) ?_
                            exact ih0 _ _ _ _ _ _ _ _ _ hf w (lv_sub hl [0] rfl)
                      exact klp_X8_goesOn_0 FU _ _ _ _ _ _ _ _ _ hf w (lv_sub hl [0] rfl)
                    refine lv_icmp_ne (tgt := 292) hx hb dX8_goesOn_279 (by decide) (fun c279 => ?_) (fun c279 => ?_)
                    · have hf := pf_e c279 hf
                      exact kJ292 _ _ _ _ _ hf w (lv_sub hl [0] rfl)
                    · have hf := pf_t c279 hf
                      refine lv_aload_n hx hb dX8_goesOn_282 rfl (lv_at hl 0 rfl) ?_
                      refine lv_aload_n hx hb dX8_goesOn_283 rfl (lv_at hl 0 rfl) ?_
                      refine hm_get cb_X8 hx hb hown X w 0 19 fl_X8_52 dX8_goesOn_284 rfl (by decide) rfl ?_
                      refine lv_iload_n hx hb dX8_goesOn_287 rfl (lv_at hl 1 rfl) ?_
                      obtain ⟨g288, hf⟩ := pf_ckI hf
                      refine hm_iald hx hb X w 4 dX8_goesOn_288 rfl g288 ?_
                      obtain ⟨f75, x76, hc289, hf⟩ := pf_bv_2 hf
                      refine hm_aft_v (ws' := fun _ => [oc8 h0 r_t t_base t_taped x9 t_faultPlace t_number t_newBits t_newTold x76 t_newThings t_opened t_sum t_heldAll t_onPaper t_turned t_wasConverted t_lastBits t_lastSum t_lastHeld t_lastLeft t_lastCode t_writtenLong t_codeMany t_acts t_done0 t_stoppedAt, ic E (r_t 14) 84 f75, ic E (r_t 17) 10 t_open, ic E (r_t 21) 10 (upd t_productSign t_opened.toNatClampNeg 0), ic E (r_t 19) 10 t_sign, ic E (r_t 18) 10 t_stage, ic E (r_t 20) 10 (upd t_sumSign t_opened.toNatClampNeg 0), bc E (r_t 2) 400 t_tape]) (hm_runV (rest := []) hx hb hml hown X hA Y w 0 (ci := 7) (T := TX8) (N := 55) rfl rfl mw_X8_does ml_X8_197 dX8_goesOn_289 hm_ac0 [.int (t_sign t_opened.toNatClampNeg)] rfl [0, 1] rfl rfl (ct_X8_does l E H.size h0 r_t t_base t_taped x9 t_faultPlace t_number t_newBits t_newTold x5 t_newThings t_opened t_sum t_heldAll t_onPaper t_turned t_wasConverted t_lastBits t_lastSum t_lastHeld t_lastLeft t_lastCode t_writtenLong t_codeMany t_acts t_done0 t_stoppedAt f4 (t_sign t_opened.toNatClampNeg) (f75, x76) hc289) rfl hl.1 ⟨⟨rfl, rfl⟩, ⟨Nat.le_of_ble_eq_true rfl, Nat.le_of_ble_eq_true rfl⟩, ⟨Nat.le_of_ble_eq_true rfl, Nat.le_of_ble_eq_true rfl⟩, Nat.le_of_ble_eq_true rfl⟩) hA w [0, 1] [2, 3, 4, 5, 6, 7] [6, 7, 0, 1, 2, 3, 4, 5] rfl rfl (by decide) (fun _ => rfl) (fun _ H locs w => ?_)
                      exact kJ292 _ _ _ _ _ hf w (lv_sub hl [0] rfl)
                  · have hf := pf_e c250 hf
                    refine lv_aload_n hx hb dX8_goesOn_253 rfl (lv_at hl 0 rfl) ?_
                    refine lv_aload_n hx hb dX8_goesOn_254 rfl (lv_at hl 0 rfl) ?_
                    refine hm_get cb_X8 hx hb hown X w 0 4 fl_X8_133 dX8_goesOn_255 rfl (by decide) rfl ?_
                    obtain ⟨r77, x78, hc258, hf⟩ := pf_bi_1 hf
                    refine hm_aft_i (ws' := fun _ => [oc8 h0 r_t t_base t_taped t_at x78 t_number t_newBits t_newTold x5 t_newThings t_opened t_sum t_heldAll t_onPaper t_turned t_wasConverted t_lastBits t_lastSum t_lastHeld t_lastLeft t_lastCode t_writtenLong t_codeMany t_acts t_done0 t_stoppedAt, ic E (r_t 14) 84 f4, ic E (r_t 17) 10 t_open, ic E (r_t 21) 10 (upd t_productSign t_opened.toNatClampNeg 0), ic E (r_t 19) 10 t_sign, ic E (r_t 18) 10 t_stage, ic E (r_t 20) 10 (upd t_sumSign t_opened.toNatClampNeg 0), bc E (r_t 2) 400 t_tape]) (hm_runV (rest := []) hx hb hml hown X hA Y w 0 (ci := 7) (T := TX8) (N := 55) rfl rfl mw_X8_fails ml_X8_144 dX8_goesOn_258 hm_ac0 [.int t_at] rfl [0] rfl rfl (ct_X8_fails l E H.size h0 r_t t_base t_taped t_at t_faultPlace t_number t_newBits t_newTold x5 t_newThings t_opened t_sum t_heldAll t_onPaper t_turned t_wasConverted t_lastBits t_lastSum t_lastHeld t_lastLeft t_lastCode t_writtenLong t_codeMany t_acts t_done0 t_stoppedAt t_at (r77, x78) hc258) rfl hl.1 ⟨⟨rfl, rfl⟩, ⟨Nat.le_of_ble_eq_true rfl, Nat.le_of_ble_eq_true rfl⟩, ⟨Nat.le_of_ble_eq_true rfl, Nat.le_of_ble_eq_true rfl⟩, Nat.le_of_ble_eq_true rfl⟩) hA w [0] [1, 2, 3, 4, 5, 6, 7] [7, 0, 1, 2, 3, 4, 5, 6] rfl rfl (by decide) (fun _ => rfl) (fun _ H locs w => ?_)
                    obtain ⟨g261, hf⟩ := pf_ckZ hf
                    exact hQ _ _ _ _ _ (t_at, x78, f4, x5, t_stage, t_sign, (upd t_sumSign t_opened.toNatClampNeg 0), (upd t_productSign t_opened.toNatClampNeg 0), t_opened) (fun _ => 0) hf (hm_z g261) w dX8_goesOn_261
                refine lv_icmp_ne (tgt := 248) hx hb dX8_goesOn_240 (by decide) (fun c240 => ?_) (fun c240 => ?_)
                · have hf := pf_e c240 hf
                  refine lv_bipush (v := 93) hx hb dX8_goesOn_248 (by decide) ?_
                  exact kJ250 _ _ _ _ hf w (lv_sub hl [0, 1] rfl)
                · have hf := pf_t c240 hf
                  refine lv_bipush (v := 41) hx hb dX8_goesOn_243 (by decide) ?_
                  refine lv_goto (tgt := 250) hx hb dX8_goesOn_245 (by decide) ?_
                  exact kJ250 _ _ _ _ hf w (lv_sub hl [0, 1] rfl)
              refine lv_icmp_ne (tgt := 229) hx hb dX8_goesOn_210 (by decide) (fun c210 => ?_) (fun c210 => ?_)
              · have hf := pf_e c210 hf
                exact kJ229 _ _ _ hf w (lv_sub hl [0, 1] rfl)
              · have hf := pf_t c210 hf
                refine lv_aload_n hx hb dX8_goesOn_213 rfl (lv_at hl 0 rfl) ?_
                refine hm_get cb_X8 hx hb hown X w 0 18 fl_X8_49 dX8_goesOn_214 rfl (by decide) rfl ?_
                refine lv_iload_n hx hb dX8_goesOn_217 rfl (lv_at hl 1 rfl) ?_
                obtain ⟨g218, hf⟩ := pf_ckI hf
                refine hm_iald hx hb X w 5 dX8_goesOn_218 rfl g218 ?_
                refine lv_iconst (v := 3) hx hb dX8_goesOn_219 (by decide) ?_
                refine lv_icmp_ge (tgt := 229) hx hb dX8_goesOn_220 (by decide) (fun c220 => ?_) (fun c220 => ?_)
                · have hf := pf_t c220 hf
                  exact kJ229 _ _ _ hf w (lv_sub hl [0, 1] rfl)
                · have hf := pf_e c220 hf
                  refine lv_aload_n hx hb dX8_goesOn_223 rfl (lv_at hl 0 rfl) ?_
                  refine lv_iload_n hx hb dX8_goesOn_224 rfl (lv_at hl 1 rfl) ?_
                  obtain ⟨r79, x80, x81, f82, f83, hc225, hf⟩ := pf_bi_4 hf
                  refine hm_aft_i (ws' := fun _ => [oc8 h0 r_t t_base t_taped x80 x81 t_number t_newBits t_newTold x5 t_newThings t_opened t_sum t_heldAll t_onPaper t_turned t_wasConverted t_lastBits t_lastSum t_lastHeld t_lastLeft t_lastCode t_writtenLong t_codeMany t_acts t_done0 t_stoppedAt, ic E (r_t 14) 84 f4, ic E (r_t 17) 10 t_open, ic E (r_t 21) 10 (upd t_productSign t_opened.toNatClampNeg 0), ic E (r_t 19) 10 f83, ic E (r_t 18) 10 f82, ic E (r_t 20) 10 (upd t_sumSign t_opened.toNatClampNeg 0), bc E (r_t 2) 400 t_tape]) (hm_runV (rest := []) hx hb hml hown X hA Y w 0 (ci := 7) (T := TX8) (N := 55) rfl rfl mw_X8_partsOn ml_X8_209 dX8_goesOn_225 hm_ac0 [.int t_opened] rfl [0, 4, 5, 7] rfl rfl (ct_X8_partsOn l E H.size h0 r_t t_base t_taped t_at t_faultPlace t_number t_newBits t_newTold x5 t_newThings t_opened t_sum t_heldAll t_onPaper t_turned t_wasConverted t_lastBits t_lastSum t_lastHeld t_lastLeft t_lastCode t_writtenLong t_codeMany t_acts t_done0 t_stoppedAt t_sign t_stage t_tape t_opened (r79, x80, x81, f82, f83) hc225) rfl hl.1 ⟨⟨rfl, rfl⟩, ⟨Nat.le_of_ble_eq_true rfl, Nat.le_of_ble_eq_true rfl⟩, ⟨Nat.le_of_ble_eq_true rfl, Nat.le_of_ble_eq_true rfl⟩, Nat.le_of_ble_eq_true rfl⟩) hA w [0, 4, 5, 7] [1, 2, 3, 6] [4, 0, 1, 2, 5, 6, 3, 7] rfl rfl (by decide) (fun _ => rfl) (fun _ H locs w => ?_)
                  obtain ⟨g228, hf⟩ := pf_ckZ hf
                  exact hQ _ _ _ _ _ (x80, x81, f4, x5, f82, f83, (upd t_sumSign t_opened.toNatClampNeg 0), (upd t_productSign t_opened.toNatClampNeg 0), t_opened) (fun _ => 0) hf (hm_z g228) w dX8_goesOn_228
            · have hf := pf_t c172 hf
              refine lv_aload_n hx hb dX8_goesOn_175 rfl (lv_at hl 0 rfl) ?_
              refine hm_get cb_X8 hx hb hown X w 0 4 fl_X8_133 dX8_goesOn_176 rfl (by decide) rfl ?_
              refine lv_aload_n hx hb dX8_goesOn_179 rfl (lv_at hl 0 rfl) ?_
              refine hm_get cb_X8 hx hb hown X w 0 3 fl_X8_122 dX8_goesOn_180 rfl (by decide) rfl ?_
              refine lv_icmp_ge (tgt := 201) hx hb dX8_goesOn_183 (by decide) (fun c183 => ?_) (fun c183 => ?_)
              · have hf := pf_t c183 hf
                refine lv_iconst (v := 0) hx hb dX8_goesOn_201 (by decide) ?_
                exact hQ _ _ _ _ _ (t_at, t_faultPlace, f4, x5, t_stage, t_sign, (upd t_sumSign t_opened.toNatClampNeg 0), (upd t_productSign t_opened.toNatClampNeg 0), t_opened) (fun _ => 0) hf rfl w dX8_goesOn_202
              · have hf := pf_e c183 hf
                refine lv_aload_n hx hb dX8_goesOn_186 rfl (lv_at hl 0 rfl) ?_
                refine lv_aload_n hx hb dX8_goesOn_187 rfl (lv_at hl 0 rfl) ?_
                refine hm_get cb_X8 hx hb hown X w 0 4 fl_X8_133 dX8_goesOn_188 rfl (by decide) rfl ?_
                obtain ⟨r84, x85, hc191, hf⟩ := pf_bi_1 hf
                refine hm_aft_i (ws' := fun _ => [oc8 h0 r_t t_base t_taped t_at x85 t_number t_newBits t_newTold x5 t_newThings t_opened t_sum t_heldAll t_onPaper t_turned t_wasConverted t_lastBits t_lastSum t_lastHeld t_lastLeft t_lastCode t_writtenLong t_codeMany t_acts t_done0 t_stoppedAt, ic E (r_t 14) 84 f4, ic E (r_t 17) 10 t_open, ic E (r_t 21) 10 (upd t_productSign t_opened.toNatClampNeg 0), ic E (r_t 19) 10 t_sign, ic E (r_t 18) 10 t_stage, ic E (r_t 20) 10 (upd t_sumSign t_opened.toNatClampNeg 0), bc E (r_t 2) 400 t_tape]) (hm_runV (rest := []) hx hb hml hown X hA Y w 0 (ci := 7) (T := TX8) (N := 55) rfl rfl mw_X8_fails ml_X8_144 dX8_goesOn_191 hm_ac0 [.int t_at] rfl [0] rfl rfl (ct_X8_fails l E H.size h0 r_t t_base t_taped t_at t_faultPlace t_number t_newBits t_newTold x5 t_newThings t_opened t_sum t_heldAll t_onPaper t_turned t_wasConverted t_lastBits t_lastSum t_lastHeld t_lastLeft t_lastCode t_writtenLong t_codeMany t_acts t_done0 t_stoppedAt t_at (r84, x85) hc191) rfl hl.1 ⟨⟨rfl, rfl⟩, ⟨Nat.le_of_ble_eq_true rfl, Nat.le_of_ble_eq_true rfl⟩, ⟨Nat.le_of_ble_eq_true rfl, Nat.le_of_ble_eq_true rfl⟩, Nat.le_of_ble_eq_true rfl⟩) hA w [0] [1, 2, 3, 4, 5, 6, 7] [7, 0, 1, 2, 3, 4, 5, 6] rfl rfl (by decide) (fun _ => rfl) (fun _ H locs w => ?_)
                refine lv_if_eq (tgt := 201) hx hb dX8_goesOn_194 (by decide) (fun c194 => ?_) (fun c194 => ?_)
                · have hf := pf_t c194 hf
                  refine lv_iconst (v := 0) hx hb dX8_goesOn_201 (by decide) ?_
                  exact hQ _ _ _ _ _ (t_at, x85, f4, x5, t_stage, t_sign, (upd t_sumSign t_opened.toNatClampNeg 0), (upd t_productSign t_opened.toNatClampNeg 0), t_opened) (fun _ => 0) hf rfl w dX8_goesOn_202
                · have hf := pf_e c194 hf
                  refine lv_iconst (v := 1) hx hb dX8_goesOn_197 (by decide) ?_
                  refine lv_goto (tgt := 202) hx hb dX8_goesOn_198 (by decide) ?_
                  exact hQ _ _ _ _ _ (t_at, x85, f4, x5, t_stage, t_sign, (upd t_sumSign t_opened.toNatClampNeg 0), (upd t_productSign t_opened.toNatClampNeg 0), t_opened) (fun _ => 0) hf rfl w dX8_goesOn_202
          · have hf := pf_e c141 hf
            refine lv_aload_n hx hb dX8_goesOn_144 rfl (lv_at hl 0 rfl) ?_
            refine hm_get cb_X8 hx hb hown X w 0 20 fl_X8_55 dX8_goesOn_145 rfl (by decide) rfl ?_
            refine lv_iload_n hx hb dX8_goesOn_148 rfl (lv_at hl 1 rfl) ?_
            refine lv_aload_n hx hb dX8_goesOn_149 rfl (lv_at hl 0 rfl) ?_
            obtain ⟨r86, hc150, hf⟩ := pf_bi_0 hf
            refine hm_aft_i (ws' := fun _ => [oc8 h0 r_t t_base t_taped t_at t_faultPlace t_number t_newBits t_newTold x5 t_newThings t_opened t_sum t_heldAll t_onPaper t_turned t_wasConverted t_lastBits t_lastSum t_lastHeld t_lastLeft t_lastCode t_writtenLong t_codeMany t_acts t_done0 t_stoppedAt, ic E (r_t 14) 84 f4, ic E (r_t 17) 10 t_open, ic E (r_t 21) 10 (upd t_productSign t_opened.toNatClampNeg 0), ic E (r_t 19) 10 t_sign, ic E (r_t 18) 10 t_stage, ic E (r_t 20) 10 (upd t_sumSign t_opened.toNatClampNeg 0), bc E (r_t 2) 400 t_tape]) (hm_runV (rest := [.int t_opened, .ref (r_t 20)]) hx hb hml hown X hA Y w 0 (ci := 7) (T := TX8) (N := 55) rfl rfl mw_X8_here ml_X8_136 dX8_goesOn_150 hm_ac0 [] rfl [0, 7] rfl rfl (ct_X8_here l E H.size h0 r_t t_base t_taped t_at t_faultPlace t_number t_newBits t_newTold x5 t_newThings t_opened t_sum t_heldAll t_onPaper t_turned t_wasConverted t_lastBits t_lastSum t_lastHeld t_lastLeft t_lastCode t_writtenLong t_codeMany t_acts t_done0 t_stoppedAt t_tape (r86, ()) hc150) rfl hl.1 ⟨⟨rfl, rfl⟩, ⟨Nat.le_of_ble_eq_true rfl, Nat.le_of_ble_eq_true rfl⟩, ⟨Nat.le_of_ble_eq_true rfl, Nat.le_of_ble_eq_true rfl⟩, Nat.le_of_ble_eq_true rfl⟩) hA w [0, 7] [1, 2, 3, 4, 5, 6] [6, 0, 1, 2, 3, 4, 5, 7] rfl rfl (by decide) (fun _ => rfl) (fun _ H locs w => ?_)
            obtain ⟨g153, hf⟩ := pf_ckI hf
            refine hm_iast (ws' := [oc8 h0 r_t t_base t_taped t_at t_faultPlace t_number t_newBits t_newTold x5 t_newThings t_opened t_sum t_heldAll t_onPaper t_turned t_wasConverted t_lastBits t_lastSum t_lastHeld t_lastLeft t_lastCode t_writtenLong t_codeMany t_acts t_done0 t_stoppedAt, ic E (r_t 14) 84 f4, ic E (r_t 17) 10 t_open, ic E (r_t 21) 10 (upd t_productSign t_opened.toNatClampNeg 0), ic E (r_t 19) 10 t_sign, ic E (r_t 18) 10 t_stage, ic E (r_t 20) 10 (upd (upd t_sumSign t_opened.toNatClampNeg 0) t_opened.toNatClampNeg r86), bc E (r_t 2) 400 t_tape]) hx hb X w 6 dX8_goesOn_153 rfl g153 rfl (fun H locs w => ?_)
            refine lv_aload_n hx hb dX8_goesOn_154 rfl (lv_at hl 0 rfl) ?_
            refine lv_dup hx hb dX8_goesOn_155 rfl ?_
            refine hm_get cb_X8 hx hb hown X w 0 4 fl_X8_133 dX8_goesOn_156 rfl (by decide) rfl ?_
            refine lv_iconst (v := 1) hx hb dX8_goesOn_159 (by decide) ?_
            refine lv_iadd hx hb dX8_goesOn_160 ?_
            refine lv_topi (fun x87 ex87 => ?_)
            have hf := pf_nm ex87 hf
            refine hm_put (ws' := [oc8 h0 r_t t_base t_taped x87 t_faultPlace t_number t_newBits t_newTold x5 t_newThings t_opened t_sum t_heldAll t_onPaper t_turned t_wasConverted t_lastBits t_lastSum t_lastHeld t_lastLeft t_lastCode t_writtenLong t_codeMany t_acts t_done0 t_stoppedAt, ic E (r_t 14) 84 f4, ic E (r_t 17) 10 t_open, ic E (r_t 21) 10 (upd t_productSign t_opened.toNatClampNeg 0), ic E (r_t 19) 10 t_sign, ic E (r_t 18) 10 t_stage, ic E (r_t 20) 10 (upd (upd t_sumSign t_opened.toNatClampNeg 0) t_opened.toNatClampNeg r86), bc E (r_t 2) 400 t_tape]) cb_X8 hx hb hown X w 0 4 fl_X8_133 dX8_goesOn_161 rfl (by decide) (Nat.le_of_ble_eq_true rfl) rfl rfl rfl rfl (fun H locs w => ?_)
            refine lv_iconst (v := 1) hx hb dX8_goesOn_164 (by decide) ?_
            exact hQ _ _ _ _ _ (x87, t_faultPlace, f4, x5, t_stage, t_sign, (upd (upd t_sumSign t_opened.toNatClampNeg 0) t_opened.toNatClampNeg r86), (upd t_productSign t_opened.toNatClampNeg 0), t_opened) (fun _ => 0) hf rfl w dX8_goesOn_165
        refine lv_if_eq (tgt := 124) hx hb dX8_goesOn_108 (by decide) (fun c108 => ?_) (fun c108 => ?_)
        · have hf := pf_t c108 hf
          exact kJ124 _ _ _ _ _ hf w (lv_sub hl [0, 1] rfl)
        · have hf := pf_e c108 hf
          refine lv_aload_n hx hb dX8_goesOn_111 rfl (lv_at hl 0 rfl) ?_
          refine lv_aload_n hx hb dX8_goesOn_112 rfl (lv_at hl 0 rfl) ?_
          refine hm_get cb_X8 hx hb hown X w 0 20 fl_X8_55 dX8_goesOn_113 rfl (by decide) rfl ?_
          refine lv_iload_n hx hb dX8_goesOn_116 rfl (lv_at hl 1 rfl) ?_
          obtain ⟨g117, hf⟩ := pf_ckI hf
          refine hm_iald hx hb X w 6 dX8_goesOn_117 rfl g117 ?_
          obtain ⟨r88, hc118, hf⟩ := pf_bi_0 hf
          refine hm_aft_i (ws' := fun _ => [oc8 h0 r_t t_base t_taped t_at t_faultPlace t_number t_newBits t_newTold x2 t_newThings t_opened t_sum t_heldAll t_onPaper t_turned t_wasConverted t_lastBits t_lastSum t_lastHeld t_lastLeft t_lastCode t_writtenLong t_codeMany t_acts t_done0 t_stoppedAt, ic E (r_t 14) 84 f1, ic E (r_t 17) 10 t_open, ic E (r_t 21) 10 (upd t_productSign t_opened.toNatClampNeg 0), ic E (r_t 19) 10 t_sign, ic E (r_t 18) 10 t_stage, ic E (r_t 20) 10 t_sumSign, bc E (r_t 2) 400 t_tape]) (hm_runS (rest := [.ref h0]) hx hb hml hown X hA Y w mw_X8_doingOf ml_X8_203 dX8_goesOn_118 hm_ac0 [.int (t_sumSign t_opened.toNatClampNeg)] rfl [] rfl rfl (ct_X8_doingOf l E H.size (t_sumSign t_opened.toNatClampNeg) (r88, ()) hc118) rfl hl.1 ⟨⟨rfl, rfl⟩, ⟨Nat.le_of_ble_eq_true rfl, Nat.le_of_ble_eq_true rfl⟩, ⟨Nat.le_of_ble_eq_true rfl, Nat.le_of_ble_eq_true rfl⟩, Nat.le_of_ble_eq_true rfl⟩) hA w [] [0, 1, 2, 3, 4, 5, 6, 7] [0, 1, 2, 3, 4, 5, 6, 7] rfl rfl (by decide) (fun _ => rfl) (fun _ H locs w => ?_)
          obtain ⟨f89, x90, hc121, hf⟩ := pf_bv_2 hf
          refine hm_aft_v (ws' := fun _ => [oc8 h0 r_t t_base t_taped t_at t_faultPlace t_number t_newBits t_newTold x90 t_newThings t_opened t_sum t_heldAll t_onPaper t_turned t_wasConverted t_lastBits t_lastSum t_lastHeld t_lastLeft t_lastCode t_writtenLong t_codeMany t_acts t_done0 t_stoppedAt, ic E (r_t 14) 84 f89, ic E (r_t 17) 10 t_open, ic E (r_t 21) 10 (upd t_productSign t_opened.toNatClampNeg 0), ic E (r_t 19) 10 t_sign, ic E (r_t 18) 10 t_stage, ic E (r_t 20) 10 t_sumSign, bc E (r_t 2) 400 t_tape]) (hm_runV (rest := []) hx hb hml hown X hA Y w 0 (ci := 7) (T := TX8) (N := 55) rfl rfl mw_X8_does ml_X8_197 dX8_goesOn_121 hm_ac0 [.int r88] rfl [0, 1] rfl rfl (ct_X8_does l E H.size h0 r_t t_base t_taped t_at t_faultPlace t_number t_newBits t_newTold x2 t_newThings t_opened t_sum t_heldAll t_onPaper t_turned t_wasConverted t_lastBits t_lastSum t_lastHeld t_lastLeft t_lastCode t_writtenLong t_codeMany t_acts t_done0 t_stoppedAt f1 r88 (f89, x90) hc121) rfl hl.1 ⟨⟨rfl, rfl⟩, ⟨Nat.le_of_ble_eq_true rfl, Nat.le_of_ble_eq_true rfl⟩, ⟨Nat.le_of_ble_eq_true rfl, Nat.le_of_ble_eq_true rfl⟩, Nat.le_of_ble_eq_true rfl⟩) hA w [0, 1] [2, 3, 4, 5, 6, 7] [6, 7, 0, 1, 2, 3, 4, 5] rfl rfl (by decide) (fun _ => rfl) (fun _ H locs w => ?_)
          exact kJ124 _ _ _ _ _ hf w (lv_sub hl [0, 1] rfl)
      · have hf := pf_e c77 hf
        refine lv_aload_n hx hb dX8_goesOn_80 rfl (lv_at hl 0 rfl) ?_
        refine hm_get cb_X8 hx hb hown X w 0 21 fl_X8_58 dX8_goesOn_81 rfl (by decide) rfl ?_
        refine lv_iload_n hx hb dX8_goesOn_84 rfl (lv_at hl 1 rfl) ?_
        refine lv_aload_n hx hb dX8_goesOn_85 rfl (lv_at hl 0 rfl) ?_
        obtain ⟨r91, hc86, hf⟩ := pf_bi_0 hf
        refine hm_aft_i (ws' := fun _ => [oc8 h0 r_t t_base t_taped t_at t_faultPlace t_number t_newBits t_newTold x2 t_newThings t_opened t_sum t_heldAll t_onPaper t_turned t_wasConverted t_lastBits t_lastSum t_lastHeld t_lastLeft t_lastCode t_writtenLong t_codeMany t_acts t_done0 t_stoppedAt, ic E (r_t 14) 84 f1, ic E (r_t 17) 10 t_open, ic E (r_t 21) 10 (upd t_productSign t_opened.toNatClampNeg 0), ic E (r_t 19) 10 t_sign, ic E (r_t 18) 10 t_stage, ic E (r_t 20) 10 t_sumSign, bc E (r_t 2) 400 t_tape]) (hm_runV (rest := [.int t_opened, .ref (r_t 21)]) hx hb hml hown X hA Y w 0 (ci := 7) (T := TX8) (N := 55) rfl rfl mw_X8_here ml_X8_136 dX8_goesOn_86 hm_ac0 [] rfl [0, 7] rfl rfl (ct_X8_here l E H.size h0 r_t t_base t_taped t_at t_faultPlace t_number t_newBits t_newTold x2 t_newThings t_opened t_sum t_heldAll t_onPaper t_turned t_wasConverted t_lastBits t_lastSum t_lastHeld t_lastLeft t_lastCode t_writtenLong t_codeMany t_acts t_done0 t_stoppedAt t_tape (r91, ()) hc86) rfl hl.1 ⟨⟨rfl, rfl⟩, ⟨Nat.le_of_ble_eq_true rfl, Nat.le_of_ble_eq_true rfl⟩, ⟨Nat.le_of_ble_eq_true rfl, Nat.le_of_ble_eq_true rfl⟩, Nat.le_of_ble_eq_true rfl⟩) hA w [0, 7] [1, 2, 3, 4, 5, 6] [6, 0, 1, 2, 3, 4, 5, 7] rfl rfl (by decide) (fun _ => rfl) (fun _ H locs w => ?_)
        obtain ⟨g89, hf⟩ := pf_ckI hf
        refine hm_iast (ws' := [oc8 h0 r_t t_base t_taped t_at t_faultPlace t_number t_newBits t_newTold x2 t_newThings t_opened t_sum t_heldAll t_onPaper t_turned t_wasConverted t_lastBits t_lastSum t_lastHeld t_lastLeft t_lastCode t_writtenLong t_codeMany t_acts t_done0 t_stoppedAt, ic E (r_t 14) 84 f1, ic E (r_t 17) 10 t_open, ic E (r_t 21) 10 (upd (upd t_productSign t_opened.toNatClampNeg 0) t_opened.toNatClampNeg r91), ic E (r_t 19) 10 t_sign, ic E (r_t 18) 10 t_stage, ic E (r_t 20) 10 t_sumSign, bc E (r_t 2) 400 t_tape]) hx hb X w 3 dX8_goesOn_89 rfl g89 rfl (fun H locs w => ?_)
        refine lv_aload_n hx hb dX8_goesOn_90 rfl (lv_at hl 0 rfl) ?_
        refine lv_dup hx hb dX8_goesOn_91 rfl ?_
        refine hm_get cb_X8 hx hb hown X w 0 4 fl_X8_133 dX8_goesOn_92 rfl (by decide) rfl ?_
        refine lv_iconst (v := 1) hx hb dX8_goesOn_95 (by decide) ?_
        refine lv_iadd hx hb dX8_goesOn_96 ?_
        refine lv_topi (fun x92 ex92 => ?_)
        have hf := pf_nm ex92 hf
        refine hm_put (ws' := [oc8 h0 r_t t_base t_taped x92 t_faultPlace t_number t_newBits t_newTold x2 t_newThings t_opened t_sum t_heldAll t_onPaper t_turned t_wasConverted t_lastBits t_lastSum t_lastHeld t_lastLeft t_lastCode t_writtenLong t_codeMany t_acts t_done0 t_stoppedAt, ic E (r_t 14) 84 f1, ic E (r_t 17) 10 t_open, ic E (r_t 21) 10 (upd (upd t_productSign t_opened.toNatClampNeg 0) t_opened.toNatClampNeg r91), ic E (r_t 19) 10 t_sign, ic E (r_t 18) 10 t_stage, ic E (r_t 20) 10 t_sumSign, bc E (r_t 2) 400 t_tape]) cb_X8 hx hb hown X w 0 4 fl_X8_133 dX8_goesOn_97 rfl (by decide) (Nat.le_of_ble_eq_true rfl) rfl rfl rfl rfl (fun H locs w => ?_)
        refine lv_iconst (v := 1) hx hb dX8_goesOn_100 (by decide) ?_
        exact hQ _ _ _ _ _ (x92, t_faultPlace, f1, x2, t_stage, t_sign, t_sumSign, (upd (upd t_productSign t_opened.toNatClampNeg 0) t_opened.toNatClampNeg r91), t_opened) (fun _ => 0) hf rfl w dX8_goesOn_101
    refine lv_if_eq (tgt := 60) hx hb dX8_goesOn_44 (by decide) (fun c44 => ?_) (fun c44 => ?_)
    · have hf := pf_t c44 hf
      exact kJ60 _ _ _ _ _ hf w (lv_sub hl [1, 0] rfl)
    · have hf := pf_e c44 hf
      refine lv_aload_n hx hb dX8_goesOn_47 rfl (lv_at hl 1 rfl) ?_
      refine lv_aload_n hx hb dX8_goesOn_48 rfl (lv_at hl 1 rfl) ?_
      refine hm_get cb_X8 hx hb hown X w 0 21 fl_X8_58 dX8_goesOn_49 rfl (by decide) rfl ?_
      refine lv_iload_n hx hb dX8_goesOn_52 rfl (lv_at hl 0 rfl) ?_
      obtain ⟨g53, hf⟩ := pf_ckI hf
      refine hm_iald hx hb X w 3 dX8_goesOn_53 rfl g53 ?_
      obtain ⟨r93, hc54, hf⟩ := pf_bi_0 hf
      refine hm_aft_i (ws' := fun _ => [oc8 h0 r_t t_base t_taped t_at t_faultPlace t_number t_newBits t_newTold t_newDoings t_newThings t_opened t_sum t_heldAll t_onPaper t_turned t_wasConverted t_lastBits t_lastSum t_lastHeld t_lastLeft t_lastCode t_writtenLong t_codeMany t_acts t_done0 t_stoppedAt, ic E (r_t 14) 84 t_newDoing, ic E (r_t 17) 10 t_open, ic E (r_t 21) 10 t_productSign, ic E (r_t 19) 10 t_sign, ic E (r_t 18) 10 t_stage, ic E (r_t 20) 10 t_sumSign, bc E (r_t 2) 400 t_tape]) (hm_runS (rest := [.ref h0]) hx hb hml hown X hA Y w mw_X8_doingOf ml_X8_203 dX8_goesOn_54 hm_ac0 [.int (t_productSign t_opened.toNatClampNeg)] rfl [] rfl rfl (ct_X8_doingOf l E H.size (t_productSign t_opened.toNatClampNeg) (r93, ()) hc54) rfl hl.1 ⟨⟨rfl, rfl⟩, ⟨Nat.le_of_ble_eq_true rfl, Nat.le_of_ble_eq_true rfl⟩, ⟨Nat.le_of_ble_eq_true rfl, Nat.le_of_ble_eq_true rfl⟩, Nat.le_of_ble_eq_true rfl⟩) hA w [] [0, 1, 2, 3, 4, 5, 6, 7] [0, 1, 2, 3, 4, 5, 6, 7] rfl rfl (by decide) (fun _ => rfl) (fun _ H locs w => ?_)
      obtain ⟨f94, x95, hc57, hf⟩ := pf_bv_2 hf
      refine hm_aft_v (ws' := fun _ => [oc8 h0 r_t t_base t_taped t_at t_faultPlace t_number t_newBits t_newTold x95 t_newThings t_opened t_sum t_heldAll t_onPaper t_turned t_wasConverted t_lastBits t_lastSum t_lastHeld t_lastLeft t_lastCode t_writtenLong t_codeMany t_acts t_done0 t_stoppedAt, ic E (r_t 14) 84 f94, ic E (r_t 17) 10 t_open, ic E (r_t 21) 10 t_productSign, ic E (r_t 19) 10 t_sign, ic E (r_t 18) 10 t_stage, ic E (r_t 20) 10 t_sumSign, bc E (r_t 2) 400 t_tape]) (hm_runV (rest := []) hx hb hml hown X hA Y w 0 (ci := 7) (T := TX8) (N := 55) rfl rfl mw_X8_does ml_X8_197 dX8_goesOn_57 hm_ac0 [.int r93] rfl [0, 1] rfl rfl (ct_X8_does l E H.size h0 r_t t_base t_taped t_at t_faultPlace t_number t_newBits t_newTold t_newDoings t_newThings t_opened t_sum t_heldAll t_onPaper t_turned t_wasConverted t_lastBits t_lastSum t_lastHeld t_lastLeft t_lastCode t_writtenLong t_codeMany t_acts t_done0 t_stoppedAt t_newDoing r93 (f94, x95) hc57) rfl hl.1 ⟨⟨rfl, rfl⟩, ⟨Nat.le_of_ble_eq_true rfl, Nat.le_of_ble_eq_true rfl⟩, ⟨Nat.le_of_ble_eq_true rfl, Nat.le_of_ble_eq_true rfl⟩, Nat.le_of_ble_eq_true rfl⟩) hA w [0, 1] [2, 3, 4, 5, 6, 7] [6, 7, 0, 1, 2, 3, 4, 5] rfl rfl (by decide) (fun _ => rfl) (fun _ H locs w => ?_)
      exact kJ60 _ _ _ _ _ hf w (lv_sub hl [1, 0] rfl)
  · have hf := pf_t c10 hf
    refine lv_aload_n hx hb dX8_goesOn_13 rfl (lv_at hl 0 rfl) ?_
    refine lv_sipush (v := 10015) hx hb dX8_goesOn_14 (by decide) ?_
    obtain ⟨f96, x97, hc17, hf⟩ := pf_bv_2 hf
    refine hm_aft_v (ws' := fun _ => [oc8 h0 r_t t_base t_taped t_at t_faultPlace t_number t_newBits t_newTold x97 t_newThings t_opened t_sum t_heldAll t_onPaper t_turned t_wasConverted t_lastBits t_lastSum t_lastHeld t_lastLeft t_lastCode t_writtenLong t_codeMany t_acts t_done0 t_stoppedAt, ic E (r_t 14) 84 f96, ic E (r_t 17) 10 t_open, ic E (r_t 21) 10 t_productSign, ic E (r_t 19) 10 t_sign, ic E (r_t 18) 10 t_stage, ic E (r_t 20) 10 t_sumSign, bc E (r_t 2) 400 t_tape]) (hm_runV (rest := []) hx hb hml hown X hA Y w 0 (ci := 7) (T := TX8) (N := 55) rfl rfl mw_X8_does ml_X8_197 dX8_goesOn_17 hm_ac0 [.int 10015] rfl [0, 1] rfl rfl (ct_X8_does l E H.size h0 r_t t_base t_taped t_at t_faultPlace t_number t_newBits t_newTold t_newDoings t_newThings t_opened t_sum t_heldAll t_onPaper t_turned t_wasConverted t_lastBits t_lastSum t_lastHeld t_lastLeft t_lastCode t_writtenLong t_codeMany t_acts t_done0 t_stoppedAt t_newDoing 10015 (f96, x97) hc17) rfl hl.1 ⟨⟨rfl, rfl⟩, ⟨Nat.le_of_ble_eq_true rfl, Nat.le_of_ble_eq_true rfl⟩, ⟨Nat.le_of_ble_eq_true rfl, Nat.le_of_ble_eq_true rfl⟩, Nat.le_of_ble_eq_true rfl⟩) hA w [0, 1] [2, 3, 4, 5, 6, 7] [6, 7, 0, 1, 2, 3, 4, 5] rfl rfl (by decide) (fun _ => rfl) (fun _ H locs w => ?_)
    refine lv_aload_n hx hb dX8_goesOn_20 rfl (lv_at hl 0 rfl) ?_
    refine lv_dup hx hb dX8_goesOn_21 rfl ?_
    refine hm_get cb_X8 hx hb hown X w 0 22 fl_X8_188 dX8_goesOn_22 rfl (by decide) rfl ?_
    refine lv_iconst (v := 1) hx hb dX8_goesOn_25 (by decide) ?_
    refine lv_isub hx hb dX8_goesOn_26 ?_
    refine lv_topi (fun x98 ex98 => ?_)
    have hf := pf_nm ex98 hf
    refine hm_put (ws' := [oc8 h0 r_t t_base t_taped t_at t_faultPlace t_number t_newBits t_newTold x97 t_newThings x98 t_sum t_heldAll t_onPaper t_turned t_wasConverted t_lastBits t_lastSum t_lastHeld t_lastLeft t_lastCode t_writtenLong t_codeMany t_acts t_done0 t_stoppedAt, ic E (r_t 14) 84 f96, ic E (r_t 17) 10 t_open, ic E (r_t 21) 10 t_productSign, ic E (r_t 19) 10 t_sign, ic E (r_t 18) 10 t_stage, ic E (r_t 20) 10 t_sumSign, bc E (r_t 2) 400 t_tape]) cb_X8 hx hb hown X w 0 22 fl_X8_188 dX8_goesOn_27 rfl (by decide) (Nat.le_of_ble_eq_true rfl) rfl rfl rfl rfl (fun H locs w => ?_)
    refine lv_goto (tgt := 0) hx hb dX8_goesOn_30 (by decide) ?_
    obtain ⟨J175, hJ175, hf⟩ := pf_jn hf
    have kJ175 : ∀ (x99 : Int32) (f100 : Nat → Int32) (x101 : Int32) (f102 : Nat → Int32) (f103 : Nat → Int32) (x104 : Int32) (H : Heap) (locs : List Loc) (ls : Array Slot), J175 x99 f100 x101 f102 f103 x104 = some R → hm_W E A s.heap [oc8 h0 r_t t_base t_taped x99 t_faultPlace t_number t_newBits t_newTold x101 t_newThings x104 t_sum t_heldAll t_onPaper t_turned t_wasConverted t_lastBits t_lastSum t_lastHeld t_lastLeft t_lastCode t_writtenLong t_codeMany t_acts t_done0 t_stoppedAt, ic E (r_t 14) 84 f100, ic E (r_t 17) 10 t_open, ic E (r_t 21) 10 f103, ic E (r_t 19) 10 t_sign, ic E (r_t 18) 10 t_stage, ic E (r_t 20) 10 f102, bc E (r_t 2) 400 t_tape] H locs → lv_has ls 2 [(0, .ref h0)] → W p l e (hm_rr 3 65 0 0) s m args below meth c H locs 0 0 Q (F0 m 175 ls []) := by
      intro x99 f100 x101 f102 f103 x104 H locs ls hf w hl
      have hf := pf_j6 hJ175 hf
      refine lv_aload_n hx hb dX8_goesOn_175 rfl (lv_at hl 0 rfl) ?_
      refine hm_get cb_X8 hx hb hown X w 0 4 fl_X8_133 dX8_goesOn_176 rfl (by decide) rfl ?_
      refine lv_aload_n hx hb dX8_goesOn_179 rfl (lv_at hl 0 rfl) ?_
      refine hm_get cb_X8 hx hb hown X w 0 3 fl_X8_122 dX8_goesOn_180 rfl (by decide) rfl ?_
      refine lv_icmp_ge (tgt := 201) hx hb dX8_goesOn_183 (by decide) (fun c183 => ?_) (fun c183 => ?_)
      · have hf := pf_t c183 hf
        refine lv_iconst (v := 0) hx hb dX8_goesOn_201 (by decide) ?_
        exact hQ _ _ _ _ _ (x99, t_faultPlace, f100, x101, t_stage, t_sign, f102, f103, x104) (fun _ => 0) hf rfl w dX8_goesOn_202
      · have hf := pf_e c183 hf
        refine lv_aload_n hx hb dX8_goesOn_186 rfl (lv_at hl 0 rfl) ?_
        refine lv_aload_n hx hb dX8_goesOn_187 rfl (lv_at hl 0 rfl) ?_
        refine hm_get cb_X8 hx hb hown X w 0 4 fl_X8_133 dX8_goesOn_188 rfl (by decide) rfl ?_
        obtain ⟨r105, x106, hc191, hf⟩ := pf_bi_1 hf
        refine hm_aft_i (ws' := fun _ => [oc8 h0 r_t t_base t_taped x99 x106 t_number t_newBits t_newTold x101 t_newThings x104 t_sum t_heldAll t_onPaper t_turned t_wasConverted t_lastBits t_lastSum t_lastHeld t_lastLeft t_lastCode t_writtenLong t_codeMany t_acts t_done0 t_stoppedAt, ic E (r_t 14) 84 f100, ic E (r_t 17) 10 t_open, ic E (r_t 21) 10 f103, ic E (r_t 19) 10 t_sign, ic E (r_t 18) 10 t_stage, ic E (r_t 20) 10 f102, bc E (r_t 2) 400 t_tape]) (hm_runV (rest := []) hx hb hml hown X hA Y w 0 (ci := 7) (T := TX8) (N := 55) rfl rfl mw_X8_fails ml_X8_144 dX8_goesOn_191 hm_ac0 [.int x99] rfl [0] rfl rfl (ct_X8_fails l E H.size h0 r_t t_base t_taped x99 t_faultPlace t_number t_newBits t_newTold x101 t_newThings x104 t_sum t_heldAll t_onPaper t_turned t_wasConverted t_lastBits t_lastSum t_lastHeld t_lastLeft t_lastCode t_writtenLong t_codeMany t_acts t_done0 t_stoppedAt x99 (r105, x106) hc191) rfl hl.1 ⟨⟨rfl, rfl⟩, ⟨Nat.le_of_ble_eq_true rfl, Nat.le_of_ble_eq_true rfl⟩, ⟨Nat.le_of_ble_eq_true rfl, Nat.le_of_ble_eq_true rfl⟩, Nat.le_of_ble_eq_true rfl⟩) hA w [0] [1, 2, 3, 4, 5, 6, 7] [7, 0, 1, 2, 3, 4, 5, 6] rfl rfl (by decide) (fun _ => rfl) (fun _ H locs w => ?_)
        refine lv_if_eq (tgt := 201) hx hb dX8_goesOn_194 (by decide) (fun c194 => ?_) (fun c194 => ?_)
        · have hf := pf_t c194 hf
          refine lv_iconst (v := 0) hx hb dX8_goesOn_201 (by decide) ?_
          exact hQ _ _ _ _ _ (x99, x106, f100, x101, t_stage, t_sign, f102, f103, x104) (fun _ => 0) hf rfl w dX8_goesOn_202
        · have hf := pf_e c194 hf
          refine lv_iconst (v := 1) hx hb dX8_goesOn_197 (by decide) ?_
          refine lv_goto (tgt := 202) hx hb dX8_goesOn_198 (by decide) ?_
          exact hQ _ _ _ _ _ (x99, x106, f100, x101, t_stage, t_sign, f102, f103, x104) (fun _ => 0) hf rfl w dX8_goesOn_202
    obtain ⟨J144, hJ144, hf⟩ := pf_jn hf
    have kJ144 : ∀ (x107 : Int32) (x108 : Int32) (f109 : Nat → Int32) (x110 : Int32) (f111 : Nat → Int32) (f112 : Nat → Int32) (x113 : Int32) (H : Heap) (locs : List Loc) (ls : Array Slot), J144 x107 x108 f109 x110 f111 f112 x113 = some R → hm_W E A s.heap [oc8 h0 r_t t_base t_taped x115 t_faultPlace t_number t_newBits t_newTold x110 t_newThings x113 t_sum t_heldAll t_onPaper t_turned t_wasConverted t_lastBits t_lastSum t_lastHeld t_lastLeft t_lastCode t_writtenLong t_codeMany t_acts t_done0 t_stoppedAt, ic E (r_t 14) 84 f109, ic E (r_t 17) 10 t_open, ic E (r_t 21) 10 f112, ic E (r_t 19) 10 t_sign, ic E (r_t 18) 10 t_stage, ic E (r_t 20) 10 (upd f111 x107.toNatClampNeg r114), bc E (r_t 2) 400 t_tape] H locs → lv_has ls 2 [(0, .ref h0), (1, .int x107)] → W p l e (hm_rr 3 65 0 0) s m args below meth c H locs 0 0 Q (F0 m 144 ls []) := by
      intro x107 x108 f109 x110 f111 f112 x113 H locs ls hf w hl
      have hf := pf_j7 hJ144 hf
      refine lv_aload_n hx hb dX8_goesOn_144 rfl (lv_at hl 0 rfl) ?_
      refine hm_get cb_X8 hx hb hown X w 0 20 fl_X8_55 dX8_goesOn_145 rfl (by decide) rfl ?_
      refine lv_iload_n hx hb dX8_goesOn_148 rfl (lv_at hl 1 rfl) ?_
      refine lv_aload_n hx hb dX8_goesOn_149 rfl (lv_at hl 0 rfl) ?_
      obtain ⟨r114, hc150, hf⟩ := pf_bi_0 hf
      refine hm_aft_i (ws' := fun _ => [oc8 h0 r_t t_base t_taped x108 t_faultPlace t_number t_newBits t_newTold x110 t_newThings x113 t_sum t_heldAll t_onPaper t_turned t_wasConverted t_lastBits t_lastSum t_lastHeld t_lastLeft t_lastCode t_writtenLong t_codeMany t_acts t_done0 t_stoppedAt, ic E (r_t 14) 84 f109, ic E (r_t 17) 10 t_open, ic E (r_t 21) 10 f112, ic E (r_t 19) 10 t_sign, ic E (r_t 18) 10 t_stage, ic E (r_t 20) 10 f111, bc E (r_t 2) 400 t_tape]) (hm_runV (rest := [.int x107, .ref (r_t 20)]) hx hb hml hown X hA Y w 0 (ci := 7) (T := TX8) (N := 55) rfl rfl mw_X8_here ml_X8_136 dX8_goesOn_150 hm_ac0 [] rfl [0, 7] rfl rfl (ct_X8_here l E H.size h0 r_t t_base t_taped x108 t_faultPlace t_number t_newBits t_newTold x110 t_newThings x113 t_sum t_heldAll t_onPaper t_turned t_wasConverted t_lastBits t_lastSum t_lastHeld t_lastLeft t_lastCode t_writtenLong t_codeMany t_acts t_done0 t_stoppedAt t_tape (r114, ()) hc150) rfl hl.1 ⟨⟨rfl, rfl⟩, ⟨Nat.le_of_ble_eq_true rfl, Nat.le_of_ble_eq_true rfl⟩, ⟨Nat.le_of_ble_eq_true rfl, Nat.le_of_ble_eq_true rfl⟩, Nat.le_of_ble_eq_true rfl⟩) hA w [0, 7] [1, 2, 3, 4, 5, 6] [6, 0, 1, 2, 3, 4, 5, 7] rfl rfl (by decide) (fun _ => rfl) (fun _ H locs w => ?_)
      obtain ⟨g153, hf⟩ := pf_ckI hf
      refine hm_iast (ws' := [oc8 h0 r_t t_base t_taped x108 t_faultPlace t_number t_newBits t_newTold x110 t_newThings x113 t_sum t_heldAll t_onPaper t_turned t_wasConverted t_lastBits t_lastSum t_lastHeld t_lastLeft t_lastCode t_writtenLong t_codeMany t_acts t_done0 t_stoppedAt, ic E (r_t 14) 84 f109, ic E (r_t 17) 10 t_open, ic E (r_t 21) 10 f112, ic E (r_t 19) 10 t_sign, ic E (r_t 18) 10 t_stage, ic E (r_t 20) 10 (upd f111 x107.toNatClampNeg r114), bc E (r_t 2) 400 t_tape]) hx hb X w 6 dX8_goesOn_153 rfl g153 rfl (fun H locs w => ?_)
      refine lv_aload_n hx hb dX8_goesOn_154 rfl (lv_at hl 0 rfl) ?_
      refine lv_dup hx hb dX8_goesOn_155 rfl ?_
      refine hm_get cb_X8 hx hb hown X w 0 4 fl_X8_133 dX8_goesOn_156 rfl (by decide) rfl ?_
      refine lv_iconst (v := 1) hx hb dX8_goesOn_159 (by decide) ?_
      refine lv_iadd hx hb dX8_goesOn_160 ?_
      refine lv_topi (fun x115 ex115 => ?_)
      have hf := pf_nm ex115 hf
      refine hm_put (ws' := [oc8 h0 r_t t_base t_taped x115 t_faultPlace t_number t_newBits t_newTold x110 t_newThings x113 t_sum t_heldAll t_onPaper t_turned t_wasConverted t_lastBits t_lastSum t_lastHeld t_lastLeft t_lastCode t_writtenLong t_codeMany t_acts t_done0 t_stoppedAt, ic E (r_t 14) 84 f109, ic E (r_t 17) 10 t_open, ic E (r_t 21) 10 f112, ic E (r_t 19) 10 t_sign, ic E (r_t 18) 10 t_stage, ic E (r_t 20) 10 (upd f111 x107.toNatClampNeg r114), bc E (r_t 2) 400 t_tape]) cb_X8 hx hb hown X w 0 4 fl_X8_133 dX8_goesOn_161 rfl (by decide) (Nat.le_of_ble_eq_true rfl) rfl rfl rfl rfl (fun H locs w => ?_)
      refine lv_iconst (v := 1) hx hb dX8_goesOn_164 (by decide) ?_
      exact hQ _ _ _ _ _ (x115, t_faultPlace, f109, x110, t_stage, t_sign, (upd f111 x107.toNatClampNeg r114), f112, x113) (fun _ => 0) hf rfl w dX8_goesOn_165
    obtain ⟨J80, hJ80, hf⟩ := pf_jn hf
    have kJ80 : ∀ (x116 : Int32) (x117 : Int32) (f118 : Nat → Int32) (x119 : Int32) (f120 : Nat → Int32) (f121 : Nat → Int32) (x122 : Int32) (H : Heap) (locs : List Loc) (ls : Array Slot), J80 x116 x117 f118 x119 f120 f121 x122 = some R → hm_W E A s.heap [oc8 h0 r_t t_base t_taped x124 t_faultPlace t_number t_newBits t_newTold x119 t_newThings x122 t_sum t_heldAll t_onPaper t_turned t_wasConverted t_lastBits t_lastSum t_lastHeld t_lastLeft t_lastCode t_writtenLong t_codeMany t_acts t_done0 t_stoppedAt, ic E (r_t 14) 84 f118, ic E (r_t 17) 10 t_open, ic E (r_t 21) 10 (upd f121 x116.toNatClampNeg r123), ic E (r_t 19) 10 t_sign, ic E (r_t 18) 10 t_stage, ic E (r_t 20) 10 f120, bc E (r_t 2) 400 t_tape] H locs → lv_has ls 2 [(0, .ref h0), (1, .int x116)] → W p l e (hm_rr 3 65 0 0) s m args below meth c H locs 0 0 Q (F0 m 80 ls []) := by
      intro x116 x117 f118 x119 f120 f121 x122 H locs ls hf w hl
      have hf := pf_j7 hJ80 hf
      refine lv_aload_n hx hb dX8_goesOn_80 rfl (lv_at hl 0 rfl) ?_
      refine hm_get cb_X8 hx hb hown X w 0 21 fl_X8_58 dX8_goesOn_81 rfl (by decide) rfl ?_
      refine lv_iload_n hx hb dX8_goesOn_84 rfl (lv_at hl 1 rfl) ?_
      refine lv_aload_n hx hb dX8_goesOn_85 rfl (lv_at hl 0 rfl) ?_
      obtain ⟨r123, hc86, hf⟩ := pf_bi_0 hf
      refine hm_aft_i (ws' := fun _ => [oc8 h0 r_t t_base t_taped x117 t_faultPlace t_number t_newBits t_newTold x119 t_newThings x122 t_sum t_heldAll t_onPaper t_turned t_wasConverted t_lastBits t_lastSum t_lastHeld t_lastLeft t_lastCode t_writtenLong t_codeMany t_acts t_done0 t_stoppedAt, ic E (r_t 14) 84 f118, ic E (r_t 17) 10 t_open, ic E (r_t 21) 10 f121, ic E (r_t 19) 10 t_sign, ic E (r_t 18) 10 t_stage, ic E (r_t 20) 10 f120, bc E (r_t 2) 400 t_tape]) (hm_runV (rest := [.int x116, .ref (r_t 21)]) hx hb hml hown X hA Y w 0 (ci := 7) (T := TX8) (N := 55) rfl rfl mw_X8_here ml_X8_136 dX8_goesOn_86 hm_ac0 [] rfl [0, 7] rfl rfl (ct_X8_here l E H.size h0 r_t t_base t_taped x117 t_faultPlace t_number t_newBits t_newTold x119 t_newThings x122 t_sum t_heldAll t_onPaper t_turned t_wasConverted t_lastBits t_lastSum t_lastHeld t_lastLeft t_lastCode t_writtenLong t_codeMany t_acts t_done0 t_stoppedAt t_tape (r123, ()) hc86) rfl hl.1 ⟨⟨rfl, rfl⟩, ⟨Nat.le_of_ble_eq_true rfl, Nat.le_of_ble_eq_true rfl⟩, ⟨Nat.le_of_ble_eq_true rfl, Nat.le_of_ble_eq_true rfl⟩, Nat.le_of_ble_eq_true rfl⟩) hA w [0, 7] [1, 2, 3, 4, 5, 6] [6, 0, 1, 2, 3, 4, 5, 7] rfl rfl (by decide) (fun _ => rfl) (fun _ H locs w => ?_)
      obtain ⟨g89, hf⟩ := pf_ckI hf
      refine hm_iast (ws' := [oc8 h0 r_t t_base t_taped x117 t_faultPlace t_number t_newBits t_newTold x119 t_newThings x122 t_sum t_heldAll t_onPaper t_turned t_wasConverted t_lastBits t_lastSum t_lastHeld t_lastLeft t_lastCode t_writtenLong t_codeMany t_acts t_done0 t_stoppedAt, ic E (r_t 14) 84 f118, ic E (r_t 17) 10 t_open, ic E (r_t 21) 10 (upd f121 x116.toNatClampNeg r123), ic E (r_t 19) 10 t_sign, ic E (r_t 18) 10 t_stage, ic E (r_t 20) 10 f120, bc E (r_t 2) 400 t_tape]) hx hb X w 3 dX8_goesOn_89 rfl g89 rfl (fun H locs w => ?_)
      refine lv_aload_n hx hb dX8_goesOn_90 rfl (lv_at hl 0 rfl) ?_
      refine lv_dup hx hb dX8_goesOn_91 rfl ?_
      refine hm_get cb_X8 hx hb hown X w 0 4 fl_X8_133 dX8_goesOn_92 rfl (by decide) rfl ?_
      refine lv_iconst (v := 1) hx hb dX8_goesOn_95 (by decide) ?_
      refine lv_iadd hx hb dX8_goesOn_96 ?_
      refine lv_topi (fun x124 ex124 => ?_)
      have hf := pf_nm ex124 hf
      refine hm_put (ws' := [oc8 h0 r_t t_base t_taped x124 t_faultPlace t_number t_newBits t_newTold x119 t_newThings x122 t_sum t_heldAll t_onPaper t_turned t_wasConverted t_lastBits t_lastSum t_lastHeld t_lastLeft t_lastCode t_writtenLong t_codeMany t_acts t_done0 t_stoppedAt, ic E (r_t 14) 84 f118, ic E (r_t 17) 10 t_open, ic E (r_t 21) 10 (upd f121 x116.toNatClampNeg r123), ic E (r_t 19) 10 t_sign, ic E (r_t 18) 10 t_stage, ic E (r_t 20) 10 f120, bc E (r_t 2) 400 t_tape]) cb_X8 hx hb hown X w 0 4 fl_X8_133 dX8_goesOn_97 rfl (by decide) (Nat.le_of_ble_eq_true rfl) rfl rfl rfl rfl (fun H locs w => ?_)
      refine lv_iconst (v := 1) hx hb dX8_goesOn_100 (by decide) ?_
      exact hQ _ _ _ _ _ (x124, t_faultPlace, f118, x119, t_stage, t_sign, f120, (upd f121 x116.toNatClampNeg r123), x122) (fun _ => 0) hf rfl w dX8_goesOn_101
    have klp_X8_goesOn_0 : ∀ (n : Nat) (x125 : Int32) (f126 : Nat → Int32) (x127 : Int32) (f128 : Nat → Int32) (f129 : Nat → Int32) (x130 : Int32) (H : Heap) (locs : List Loc) (ls : Array Slot), lp_X8_goesOn_0 t_taped t_faultPlace t_open t_sign t_stage t_tape J175 J144 J80 n x125 f126 x127 f128 f129 x130 = some R → hm_W E A s.heap [oc8 h0 r_t t_base t_taped x125 t_faultPlace t_number t_newBits t_newTold x127 t_newThings x130 t_sum t_heldAll t_onPaper t_turned t_wasConverted t_lastBits t_lastSum t_lastHeld t_lastLeft t_lastCode t_writtenLong t_codeMany t_acts t_done0 t_stoppedAt, ic E (r_t 14) 84 f126, ic E (r_t 17) 10 t_open, ic E (r_t 21) 10 f129, ic E (r_t 19) 10 t_sign, ic E (r_t 18) 10 t_stage, ic E (r_t 20) 10 f128, bc E (r_t 2) 400 t_tape] H locs → lv_has ls 2 [(0, .ref h0)] → W p l e (hm_rr 3 65 0 0) s m args below meth c H locs 0 0 Q (F0 m 0 ls []) := by
      intro n
      induction n with
      | zero =>
        intro x125 f126 x127 f128 f129 x130 H locs ls hf w hl
        exact pf_no hf
      | succ n ih0 =>
        intro x125 f126 x127 f128 f129 x130 H locs ls hf w hl
        rw [lp_X8_goesOn_0] at hf
        refine lv_aload_n hx hb dX8_goesOn_0 rfl (lv_at hl 0 rfl) ?_
        refine hm_get cb_X8 hx hb hown X w 0 17 fl_X8_46 dX8_goesOn_1 rfl (by decide) rfl ?_
        refine lv_aload_n hx hb dX8_goesOn_4 rfl (lv_at hl 0 rfl) ?_
        refine hm_get cb_X8 hx hb hown X w 0 22 fl_X8_188 dX8_goesOn_5 rfl (by decide) rfl ?_
        obtain ⟨g8, hf⟩ := pf_ckI hf
        refine hm_iald hx hb X w 2 dX8_goesOn_8 rfl g8 ?_
        refine lv_iconst (v := 3) hx hb dX8_goesOn_9 (by decide) ?_
        refine lv_icmp_ne (tgt := 33) hx hb dX8_goesOn_10 (by decide) (fun c10 => ?_) (fun c10 => ?_)
        · have hf := pf_e c10 hf
          refine lv_aload_n hx hb dX8_goesOn_33 rfl (lv_at hl 0 rfl) ?_
          refine hm_get cb_X8 hx hb hown X w 0 22 fl_X8_188 dX8_goesOn_34 rfl (by decide) rfl ?_
          refine lv_istore_n (lv' := [(1, .int x130), (0, .ref h0)]) hx hb dX8_goesOn_37 rfl hl (by decide) rfl (fun ls hl => ?_)
          refine lv_aload_n hx hb dX8_goesOn_38 rfl (lv_at hl 1 rfl) ?_
          refine hm_get cb_X8 hx hb hown X w 0 21 fl_X8_58 dX8_goesOn_39 rfl (by decide) rfl ?_
          refine lv_iload_n hx hb dX8_goesOn_42 rfl (lv_at hl 0 rfl) ?_
          obtain ⟨g43, hf⟩ := pf_ckI hf
          refine hm_iald hx hb X w 3 dX8_goesOn_43 rfl g43 ?_
          obtain ⟨J60, hJ60, hf⟩ := pf_jn hf
          have kJ60 : ∀ (f131 : Nat → Int32) (x132 : Int32) (H : Heap) (locs : List Loc) (ls : Array Slot), J60 f131 x132 = some R → hm_W E A s.heap [oc8 h0 r_t t_base t_taped x125 t_faultPlace t_number t_newBits t_newTold x132 t_newThings x130 t_sum t_heldAll t_onPaper t_turned t_wasConverted t_lastBits t_lastSum t_lastHeld t_lastLeft t_lastCode t_writtenLong t_codeMany t_acts t_done0 t_stoppedAt, ic E (r_t 14) 84 f131, ic E (r_t 17) 10 t_open, ic E (r_t 21) 10 (upd f129 x130.toNatClampNeg 0), ic E (r_t 19) 10 t_sign, ic E (r_t 18) 10 t_stage, ic E (r_t 20) 10 f128, bc E (r_t 2) 400 t_tape] H locs → lv_has ls 2 [(0, .ref h0), (1, .int x130)] → W p l e (hm_rr 3 65 0 0) s m args below meth c H locs 0 0 Q (F0 m 60 ls []) := by
            intro f131 x132 H locs ls hf w hl
            have hf := pf_j2 hJ60 hf
            refine lv_aload_n hx hb dX8_goesOn_60 rfl (lv_at hl 0 rfl) ?_
            refine hm_get cb_X8 hx hb hown X w 0 21 fl_X8_58 dX8_goesOn_61 rfl (by decide) rfl ?_
            refine lv_iload_n hx hb dX8_goesOn_64 rfl (lv_at hl 1 rfl) ?_
            refine lv_iconst (v := 0) hx hb dX8_goesOn_65 (by decide) ?_
            obtain ⟨g66, hf⟩ := pf_ckI hf
            refine hm_iast (ws' := [oc8 h0 r_t t_base t_taped x125 t_faultPlace t_number t_newBits t_newTold x132 t_newThings x130 t_sum t_heldAll t_onPaper t_turned t_wasConverted t_lastBits t_lastSum t_lastHeld t_lastLeft t_lastCode t_writtenLong t_codeMany t_acts t_done0 t_stoppedAt, ic E (r_t 14) 84 f131, ic E (r_t 17) 10 t_open, ic E (r_t 21) 10 (upd f129 x130.toNatClampNeg 0), ic E (r_t 19) 10 t_sign, ic E (r_t 18) 10 t_stage, ic E (r_t 20) 10 f128, bc E (r_t 2) 400 t_tape]) hx hb X w 3 dX8_goesOn_66 rfl g66 rfl (fun H locs w => ?_)
            refine lv_aload_n hx hb dX8_goesOn_67 rfl (lv_at hl 0 rfl) ?_
            refine lv_bipush (v := 42) hx hb dX8_goesOn_68 (by decide) ?_
            refine lv_bipush (v := 47) hx hb dX8_goesOn_70 (by decide) ?_
            refine lv_bipush (v := 37) hx hb dX8_goesOn_72 (by decide) ?_
            obtain ⟨r133, hc74, hf⟩ := pf_bi_0 hf
            refine hm_aft_i (ws' := fun _ => [oc8 h0 r_t t_base t_taped x125 t_faultPlace t_number t_newBits t_newTold x132 t_newThings x130 t_sum t_heldAll t_onPaper t_turned t_wasConverted t_lastBits t_lastSum t_lastHeld t_lastLeft t_lastCode t_writtenLong t_codeMany t_acts t_done0 t_stoppedAt, ic E (r_t 14) 84 f131, ic E (r_t 17) 10 t_open, ic E (r_t 21) 10 (upd f129 x130.toNatClampNeg 0), ic E (r_t 19) 10 t_sign, ic E (r_t 18) 10 t_stage, ic E (r_t 20) 10 f128, bc E (r_t 2) 400 t_tape]) (hm_runV (rest := []) hx hb hml hown X hA Y w 0 (ci := 7) (T := TX8) (N := 55) rfl rfl mw_X8_isOne ml_X8_206 dX8_goesOn_74 hm_ac0 [.int 42, .int 47, .int 37] rfl [0, 7] rfl rfl (ct_X8_isOne l E H.size h0 r_t t_base t_taped x125 t_faultPlace t_number t_newBits t_newTold x132 t_newThings x130 t_sum t_heldAll t_onPaper t_turned t_wasConverted t_lastBits t_lastSum t_lastHeld t_lastLeft t_lastCode t_writtenLong t_codeMany t_acts t_done0 t_stoppedAt t_tape 42 47 37 (r133, ()) hc74) rfl hl.1 ⟨⟨rfl, rfl⟩, ⟨Nat.le_of_ble_eq_true rfl, Nat.le_of_ble_eq_true rfl⟩, ⟨Nat.le_of_ble_eq_true rfl, Nat.le_of_ble_eq_true rfl⟩, Nat.le_of_ble_eq_true rfl⟩) hA w [0, 7] [1, 2, 3, 4, 5, 6] [6, 0, 1, 2, 3, 4, 5, 7] rfl rfl (by decide) (fun _ => rfl) (fun _ H locs w => ?_)
            refine lv_if_eq (tgt := 102) hx hb dX8_goesOn_77 (by decide) (fun c77 => ?_) (fun c77 => ?_)
            · have hf := pf_t c77 hf
              refine lv_aload_n hx hb dX8_goesOn_102 rfl (lv_at hl 0 rfl) ?_
              refine hm_get cb_X8 hx hb hown X w 0 20 fl_X8_55 dX8_goesOn_103 rfl (by decide) rfl ?_
              refine lv_iload_n hx hb dX8_goesOn_106 rfl (lv_at hl 1 rfl) ?_
              obtain ⟨g107, hf⟩ := pf_ckI hf
              refine hm_iald hx hb X w 6 dX8_goesOn_107 rfl g107 ?_
              obtain ⟨J124, hJ124, hf⟩ := pf_jn hf
              have kJ124 : ∀ (f134 : Nat → Int32) (x135 : Int32) (H : Heap) (locs : List Loc) (ls : Array Slot), J124 f134 x135 = some R → hm_W E A s.heap [oc8 h0 r_t t_base t_taped x125 t_faultPlace t_number t_newBits t_newTold x135 t_newThings x130 t_sum t_heldAll t_onPaper t_turned t_wasConverted t_lastBits t_lastSum t_lastHeld t_lastLeft t_lastCode t_writtenLong t_codeMany t_acts t_done0 t_stoppedAt, ic E (r_t 14) 84 f134, ic E (r_t 17) 10 t_open, ic E (r_t 21) 10 (upd f129 x130.toNatClampNeg 0), ic E (r_t 19) 10 t_sign, ic E (r_t 18) 10 t_stage, ic E (r_t 20) 10 (upd f128 x130.toNatClampNeg 0), bc E (r_t 2) 400 t_tape] H locs → lv_has ls 2 [(0, .ref h0), (1, .int x130)] → W p l e (hm_rr 3 65 0 0) s m args below meth c H locs 0 0 Q (F0 m 124 ls []) := by
                intro f134 x135 H locs ls hf w hl
                have hf := pf_j2 hJ124 hf
                refine lv_aload_n hx hb dX8_goesOn_124 rfl (lv_at hl 0 rfl) ?_
                refine hm_get cb_X8 hx hb hown X w 0 20 fl_X8_55 dX8_goesOn_125 rfl (by decide) rfl ?_
                refine lv_iload_n hx hb dX8_goesOn_128 rfl (lv_at hl 1 rfl) ?_
                refine lv_iconst (v := 0) hx hb dX8_goesOn_129 (by decide) ?_
                obtain ⟨g130, hf⟩ := pf_ckI hf
                refine hm_iast (ws' := [oc8 h0 r_t t_base t_taped x125 t_faultPlace t_number t_newBits t_newTold x135 t_newThings x130 t_sum t_heldAll t_onPaper t_turned t_wasConverted t_lastBits t_lastSum t_lastHeld t_lastLeft t_lastCode t_writtenLong t_codeMany t_acts t_done0 t_stoppedAt, ic E (r_t 14) 84 f134, ic E (r_t 17) 10 t_open, ic E (r_t 21) 10 (upd f129 x130.toNatClampNeg 0), ic E (r_t 19) 10 t_sign, ic E (r_t 18) 10 t_stage, ic E (r_t 20) 10 (upd f128 x130.toNatClampNeg 0), bc E (r_t 2) 400 t_tape]) hx hb X w 6 dX8_goesOn_130 rfl g130 rfl (fun H locs w => ?_)
                refine lv_aload_n hx hb dX8_goesOn_131 rfl (lv_at hl 0 rfl) ?_
                refine lv_bipush (v := 43) hx hb dX8_goesOn_132 (by decide) ?_
                refine lv_bipush (v := 45) hx hb dX8_goesOn_134 (by decide) ?_
                refine lv_bipush (v := 43) hx hb dX8_goesOn_136 (by decide) ?_
                obtain ⟨r136, hc138, hf⟩ := pf_bi_0 hf
                refine hm_aft_i (ws' := fun _ => [oc8 h0 r_t t_base t_taped x125 t_faultPlace t_number t_newBits t_newTold x135 t_newThings x130 t_sum t_heldAll t_onPaper t_turned t_wasConverted t_lastBits t_lastSum t_lastHeld t_lastLeft t_lastCode t_writtenLong t_codeMany t_acts t_done0 t_stoppedAt, ic E (r_t 14) 84 f134, ic E (r_t 17) 10 t_open, ic E (r_t 21) 10 (upd f129 x130.toNatClampNeg 0), ic E (r_t 19) 10 t_sign, ic E (r_t 18) 10 t_stage, ic E (r_t 20) 10 (upd f128 x130.toNatClampNeg 0), bc E (r_t 2) 400 t_tape]) (hm_runV (rest := []) hx hb hml hown X hA Y w 0 (ci := 7) (T := TX8) (N := 55) rfl rfl mw_X8_isOne ml_X8_206 dX8_goesOn_138 hm_ac0 [.int 43, .int 45, .int 43] rfl [0, 7] rfl rfl (ct_X8_isOne l E H.size h0 r_t t_base t_taped x125 t_faultPlace t_number t_newBits t_newTold x135 t_newThings x130 t_sum t_heldAll t_onPaper t_turned t_wasConverted t_lastBits t_lastSum t_lastHeld t_lastLeft t_lastCode t_writtenLong t_codeMany t_acts t_done0 t_stoppedAt t_tape 43 45 43 (r136, ()) hc138) rfl hl.1 ⟨⟨rfl, rfl⟩, ⟨Nat.le_of_ble_eq_true rfl, Nat.le_of_ble_eq_true rfl⟩, ⟨Nat.le_of_ble_eq_true rfl, Nat.le_of_ble_eq_true rfl⟩, Nat.le_of_ble_eq_true rfl⟩) hA w [0, 7] [1, 2, 3, 4, 5, 6] [6, 0, 1, 2, 3, 4, 5, 7] rfl rfl (by decide) (fun _ => rfl) (fun _ H locs w => ?_)
                refine lv_if_eq (tgt := 166) hx hb dX8_goesOn_141 (by decide) (fun c141 => ?_) (fun c141 => ?_)
                · have hf := pf_t c141 hf
                  refine lv_aload_n hx hb dX8_goesOn_166 rfl (lv_at hl 0 rfl) ?_
                  refine hm_get cb_X8 hx hb hown X w 0 17 fl_X8_46 dX8_goesOn_167 rfl (by decide) rfl ?_
                  refine lv_iload_n hx hb dX8_goesOn_170 rfl (lv_at hl 1 rfl) ?_
                  obtain ⟨g171, hf⟩ := pf_ckI hf
                  refine hm_iald hx hb X w 2 dX8_goesOn_171 rfl g171 ?_
                  refine lv_if_ne (tgt := 203) hx hb dX8_goesOn_172 (by decide) (fun c172 => ?_) (fun c172 => ?_)
                  · have hf := pf_e c172 hf
                    refine lv_aload_n hx hb dX8_goesOn_203 rfl (lv_at hl 0 rfl) ?_
                    refine hm_get cb_X8 hx hb hown X w 0 17 fl_X8_46 dX8_goesOn_204 rfl (by decide) rfl ?_
                    refine lv_iload_n hx hb dX8_goesOn_207 rfl (lv_at hl 1 rfl) ?_
                    obtain ⟨g208, hf⟩ := pf_ckI hf
                    refine hm_iald hx hb X w 2 dX8_goesOn_208 rfl g208 ?_
                    refine lv_iconst (v := 2) hx hb dX8_goesOn_209 (by decide) ?_
                    obtain ⟨J229, hJ229, hf⟩ := pf_jn hf
                    have kJ229 : ∀ (H : Heap) (locs : List Loc) (ls : Array Slot), J229 = some R → hm_W E A s.heap [oc8 h0 r_t t_base t_taped x125 t_faultPlace t_number t_newBits t_newTold x135 t_newThings x130 t_sum t_heldAll t_onPaper t_turned t_wasConverted t_lastBits t_lastSum t_lastHeld t_lastLeft t_lastCode t_writtenLong t_codeMany t_acts t_done0 t_stoppedAt, ic E (r_t 14) 84 f134, ic E (r_t 17) 10 t_open, ic E (r_t 21) 10 (upd f129 x130.toNatClampNeg 0), ic E (r_t 19) 10 t_sign, ic E (r_t 18) 10 t_stage, ic E (r_t 20) 10 (upd f128 x130.toNatClampNeg 0), bc E (r_t 2) 400 t_tape] H locs → lv_has ls 2 [(0, .ref h0), (1, .int x130)] → W p l e (hm_rr 3 65 0 0) s m args below meth c H locs 0 0 Q (F0 m 229 ls [.int r137]) := by
                      intro H locs ls hf w hl
                      have hf := pf_j0 hJ229 hf
                      refine lv_aload_n hx hb dX8_goesOn_229 rfl (lv_at hl 0 rfl) ?_
                      obtain ⟨r137, hc230, hf⟩ := pf_bi_0 hf
                      refine hm_aft_i (ws' := fun _ => [oc8 h0 r_t t_base t_taped x125 t_faultPlace t_number t_newBits t_newTold x135 t_newThings x130 t_sum t_heldAll t_onPaper t_turned t_wasConverted t_lastBits t_lastSum t_lastHeld t_lastLeft t_lastCode t_writtenLong t_codeMany t_acts t_done0 t_stoppedAt, ic E (r_t 14) 84 f134, ic E (r_t 17) 10 t_open, ic E (r_t 21) 10 (upd f129 x130.toNatClampNeg 0), ic E (r_t 19) 10 t_sign, ic E (r_t 18) 10 t_stage, ic E (r_t 20) 10 (upd f128 x130.toNatClampNeg 0), bc E (r_t 2) 400 t_tape]) (hm_runV (rest := []) hx hb hml hown X hA Y w 0 (ci := 7) (T := TX8) (N := 55) rfl rfl mw_X8_here ml_X8_136 dX8_goesOn_230 hm_ac0 [] rfl [0, 7] rfl rfl (ct_X8_here l E H.size h0 r_t t_base t_taped x125 t_faultPlace t_number t_newBits t_newTold x135 t_newThings x130 t_sum t_heldAll t_onPaper t_turned t_wasConverted t_lastBits t_lastSum t_lastHeld t_lastLeft t_lastCode t_writtenLong t_codeMany t_acts t_done0 t_stoppedAt t_tape (r137, ()) hc230) rfl hl.1 ⟨⟨rfl, rfl⟩, ⟨Nat.le_of_ble_eq_true rfl, Nat.le_of_ble_eq_true rfl⟩, ⟨Nat.le_of_ble_eq_true rfl, Nat.le_of_ble_eq_true rfl⟩, Nat.le_of_ble_eq_true rfl⟩) hA w [0, 7] [1, 2, 3, 4, 5, 6] [6, 0, 1, 2, 3, 4, 5, 7] rfl rfl (by decide) (fun _ => rfl) (fun _ H locs w => ?_)
                      refine lv_aload_n hx hb dX8_goesOn_233 rfl (lv_at hl 0 rfl) ?_
                      refine hm_get cb_X8 hx hb hown X w 0 17 fl_X8_46 dX8_goesOn_234 rfl (by decide) rfl ?_
                      refine lv_iload_n hx hb dX8_goesOn_237 rfl (lv_at hl 1 rfl) ?_
                      obtain ⟨g238, hf⟩ := pf_ckI hf
                      refine hm_iald hx hb X w 2 dX8_goesOn_238 rfl g238 ?_
                      refine lv_iconst (v := 1) hx hb dX8_goesOn_239 (by decide) ?_
                      obtain ⟨J250, hJ250, hf⟩ := pf_jn hf
                      have kJ250 : ∀ (x138 : Int32) (H : Heap) (locs : List Loc) (ls : Array Slot), J250 x138 = some R → hm_W E A s.heap [oc8 h0 r_t t_base t_taped x125 t_faultPlace t_number t_newBits t_newTold x135 t_newThings x130 t_sum t_heldAll t_onPaper t_turned t_wasConverted t_lastBits t_lastSum t_lastHeld t_lastLeft t_lastCode t_writtenLong t_codeMany t_acts t_done0 t_stoppedAt, ic E (r_t 14) 84 f134, ic E (r_t 17) 10 t_open, ic E (r_t 21) 10 (upd f129 x130.toNatClampNeg 0), ic E (r_t 19) 10 t_sign, ic E (r_t 18) 10 t_stage, ic E (r_t 20) 10 (upd f128 x130.toNatClampNeg 0), bc E (r_t 2) 400 t_tape] H locs → lv_has ls 2 [(0, .ref h0), (1, .int x130)] → W p l e (hm_rr 3 65 0 0) s m args below meth c H locs 0 0 Q (F0 m 250 ls []) := by
                        intro x138 H locs ls hf w hl
                        have hf := pf_j1 hJ250 hf
                        refine lv_icmp_eq (tgt := 262) hx hb dX8_goesOn_250 (by decide) (fun c250 => ?_) (fun c250 => ?_)
                        · have hf := pf_t c250 hf
                          refine lv_aload_n hx hb dX8_goesOn_262 rfl (lv_at hl 0 rfl) ?_
                          refine lv_dup hx hb dX8_goesOn_263 rfl ?_
                          refine hm_get cb_X8 hx hb hown X w 0 4 fl_X8_133 dX8_goesOn_264 rfl (by decide) rfl ?_
                          refine lv_iconst (v := 1) hx hb dX8_goesOn_267 (by decide) ?_
                          refine lv_iadd hx hb dX8_goesOn_268 ?_
                          refine lv_topi (fun x139 ex139 => ?_)
                          have hf := pf_nm ex139 hf
                          refine hm_put (ws' := [oc8 h0 r_t t_base t_taped x139 t_faultPlace t_number t_newBits t_newTold x135 t_newThings x130 t_sum t_heldAll t_onPaper t_turned t_wasConverted t_lastBits t_lastSum t_lastHeld t_lastLeft t_lastCode t_writtenLong t_codeMany t_acts t_done0 t_stoppedAt, ic E (r_t 14) 84 f134, ic E (r_t 17) 10 t_open, ic E (r_t 21) 10 (upd f129 x130.toNatClampNeg 0), ic E (r_t 19) 10 t_sign, ic E (r_t 18) 10 t_stage, ic E (r_t 20) 10 (upd f128 x130.toNatClampNeg 0), bc E (r_t 2) 400 t_tape]) cb_X8 hx hb hown X w 0 4 fl_X8_133 dX8_goesOn_269 rfl (by decide) (Nat.le_of_ble_eq_true rfl) rfl rfl rfl rfl (fun H locs w => ?_)
                          refine lv_aload_n hx hb dX8_goesOn_272 rfl (lv_at hl 0 rfl) ?_
                          refine hm_get cb_X8 hx hb hown X w 0 17 fl_X8_46 dX8_goesOn_273 rfl (by decide) rfl ?_
                          refine lv_iload_n hx hb dX8_goesOn_276 rfl (lv_at hl 1 rfl) ?_
                          obtain ⟨g277, hf⟩ := pf_ckI hf
                          refine hm_iald hx hb X w 2 dX8_goesOn_277 rfl g277 ?_
                          refine lv_iconst (v := 2) hx hb dX8_goesOn_278 (by decide) ?_
                          obtain ⟨J292, hJ292, hf⟩ := pf_jn hf
                          have kJ292 : ∀ (f140 : Nat → Int32) (x141 : Int32) (H : Heap) (locs : List Loc) (ls : Array Slot), J292 f140 x141 = some R → hm_W E A s.heap [oc8 h0 r_t t_base t_taped x139 t_faultPlace t_number t_newBits t_newTold x141 t_newThings x142 t_sum t_heldAll t_onPaper t_turned t_wasConverted t_lastBits t_lastSum t_lastHeld t_lastLeft t_lastCode t_writtenLong t_codeMany t_acts t_done0 t_stoppedAt, ic E (r_t 14) 84 f140, ic E (r_t 17) 10 t_open, ic E (r_t 21) 10 (upd f129 x130.toNatClampNeg 0), ic E (r_t 19) 10 t_sign, ic E (r_t 18) 10 t_stage, ic E (r_t 20) 10 (upd f128 x130.toNatClampNeg 0), bc E (r_t 2) 400 t_tape] H locs → lv_has ls 2 [(0, .ref h0)] → W p l e (hm_rr 3 65 0 0) s m args below meth c H locs 0 0 Q (F0 m 292 ls []) := by
                            intro f140 x141 H locs ls hf w hl
                            have hf := pf_j2 hJ292 hf
                            refine lv_aload_n hx hb dX8_goesOn_292 rfl (lv_at hl 0 rfl) ?_
                            refine lv_dup hx hb dX8_goesOn_293 rfl ?_
                            refine hm_get cb_X8 hx hb hown X w 0 22 fl_X8_188 dX8_goesOn_294 rfl (by decide) rfl ?_
                            refine lv_iconst (v := 1) hx hb dX8_goesOn_297 (by decide) ?_
                            refine lv_isub hx hb dX8_goesOn_298 ?_
                            refine lv_topi (fun x142 ex142 => ?_)
                            have hf := pf_nm ex142 hf
                            refine hm_put (ws' := [oc8 h0 r_t t_base t_taped x139 t_faultPlace t_number t_newBits t_newTold x141 t_newThings x142 t_sum t_heldAll t_onPaper t_turned t_wasConverted t_lastBits t_lastSum t_lastHeld t_lastLeft t_lastCode t_writtenLong t_codeMany t_acts t_done0 t_stoppedAt, ic E (r_t 14) 84 f140, ic E (r_t 17) 10 t_open, ic E (r_t 21) 10 (upd f129 x130.toNatClampNeg 0), ic E (r_t 19) 10 t_sign, ic E (r_t 18) 10 t_stage, ic E (r_t 20) 10 (upd f128 x130.toNatClampNeg 0), bc E (r_t 2) 400 t_tape]) cb_X8 hx hb hown X w 0 22 fl_X8_188 dX8_goesOn_299 rfl (by decide) (Nat.le_of_ble_eq_true rfl) rfl rfl rfl rfl (fun H locs w => ?_)
                            refine lv_goto (tgt := 0) hx hb dX8_goesOn_302 (by decide) ?_
                            exact ih0 _ _ _ _ _ _ _ _ _ hf w (lv_sub hl [0] rfl)
                          refine lv_icmp_ne (tgt := 292) hx hb dX8_goesOn_279 (by decide) (fun c279 => ?_) (fun c279 => ?_)
                          · have hf := pf_e c279 hf
                            exact kJ292 _ _ _ _ _ hf w (lv_sub hl [0] rfl)
                          · have hf := pf_t c279 hf
                            refine lv_aload_n hx hb dX8_goesOn_282 rfl (lv_at hl 0 rfl) ?_
                            refine lv_aload_n hx hb dX8_goesOn_283 rfl (lv_at hl 0 rfl) ?_
                            refine hm_get cb_X8 hx hb hown X w 0 19 fl_X8_52 dX8_goesOn_284 rfl (by decide) rfl ?_
                            refine lv_iload_n hx hb dX8_goesOn_287 rfl (lv_at hl 1 rfl) ?_
                            obtain ⟨g288, hf⟩ := pf_ckI hf
                            refine hm_iald hx hb X w 4 dX8_goesOn_288 rfl g288 ?_
                            obtain ⟨f143, x144, hc289, hf⟩ := pf_bv_2 hf
                            refine hm_aft_v (ws' := fun _ => [oc8 h0 r_t t_base t_taped x139 t_faultPlace t_number t_newBits t_newTold x144 t_newThings x130 t_sum t_heldAll t_onPaper t_turned t_wasConverted t_lastBits t_lastSum t_lastHeld t_lastLeft t_lastCode t_writtenLong t_codeMany t_acts t_done0 t_stoppedAt, ic E (r_t 14) 84 f143, ic E (r_t 17) 10 t_open, ic E (r_t 21) 10 (upd f129 x130.toNatClampNeg 0), ic E (r_t 19) 10 t_sign, ic E (r_t 18) 10 t_stage, ic E (r_t 20) 10 (upd f128 x130.toNatClampNeg 0), bc E (r_t 2) 400 t_tape]) (hm_runV (rest := []) hx hb hml hown X hA Y w 0 (ci := 7) (T := TX8) (N := 55) rfl rfl mw_X8_does ml_X8_197 dX8_goesOn_289 hm_ac0 [.int (t_sign x130.toNatClampNeg)] rfl [0, 1] rfl rfl (ct_X8_does l E H.size h0 r_t t_base t_taped x139 t_faultPlace t_number t_newBits t_newTold x135 t_newThings x130 t_sum t_heldAll t_onPaper t_turned t_wasConverted t_lastBits t_lastSum t_lastHeld t_lastLeft t_lastCode t_writtenLong t_codeMany t_acts t_done0 t_stoppedAt f134 (t_sign x130.toNatClampNeg) (f143, x144) hc289) rfl hl.1 ⟨⟨rfl, rfl⟩, ⟨Nat.le_of_ble_eq_true rfl, Nat.le_of_ble_eq_true rfl⟩, ⟨Nat.le_of_ble_eq_true rfl, Nat.le_of_ble_eq_true rfl⟩, Nat.le_of_ble_eq_true rfl⟩) hA w [0, 1] [2, 3, 4, 5, 6, 7] [6, 7, 0, 1, 2, 3, 4, 5] rfl rfl (by decide) (fun _ => rfl) (fun _ H locs w => ?_)
                            exact kJ292 _ _ _ _ _ hf w (lv_sub hl [0] rfl)
                        · have hf := pf_e c250 hf
                          refine lv_aload_n hx hb dX8_goesOn_253 rfl (lv_at hl 0 rfl) ?_
                          refine lv_aload_n hx hb dX8_goesOn_254 rfl (lv_at hl 0 rfl) ?_
                          refine hm_get cb_X8 hx hb hown X w 0 4 fl_X8_133 dX8_goesOn_255 rfl (by decide) rfl ?_
                          obtain ⟨r145, x146, hc258, hf⟩ := pf_bi_1 hf
                          refine hm_aft_i (ws' := fun _ => [oc8 h0 r_t t_base t_taped x125 x146 t_number t_newBits t_newTold x135 t_newThings x130 t_sum t_heldAll t_onPaper t_turned t_wasConverted t_lastBits t_lastSum t_lastHeld t_lastLeft t_lastCode t_writtenLong t_codeMany t_acts t_done0 t_stoppedAt, ic E (r_t 14) 84 f134, ic E (r_t 17) 10 t_open, ic E (r_t 21) 10 (upd f129 x130.toNatClampNeg 0), ic E (r_t 19) 10 t_sign, ic E (r_t 18) 10 t_stage, ic E (r_t 20) 10 (upd f128 x130.toNatClampNeg 0), bc E (r_t 2) 400 t_tape]) (hm_runV (rest := []) hx hb hml hown X hA Y w 0 (ci := 7) (T := TX8) (N := 55) rfl rfl mw_X8_fails ml_X8_144 dX8_goesOn_258 hm_ac0 [.int x125] rfl [0] rfl rfl (ct_X8_fails l E H.size h0 r_t t_base t_taped x125 t_faultPlace t_number t_newBits t_newTold x135 t_newThings x130 t_sum t_heldAll t_onPaper t_turned t_wasConverted t_lastBits t_lastSum t_lastHeld t_lastLeft t_lastCode t_writtenLong t_codeMany t_acts t_done0 t_stoppedAt x125 (r145, x146) hc258) rfl hl.1 ⟨⟨rfl, rfl⟩, ⟨Nat.le_of_ble_eq_true rfl, Nat.le_of_ble_eq_true rfl⟩, ⟨Nat.le_of_ble_eq_true rfl, Nat.le_of_ble_eq_true rfl⟩, Nat.le_of_ble_eq_true rfl⟩) hA w [0] [1, 2, 3, 4, 5, 6, 7] [7, 0, 1, 2, 3, 4, 5, 6] rfl rfl (by decide) (fun _ => rfl) (fun _ H locs w => ?_)
                          obtain ⟨g261, hf⟩ := pf_ckZ hf
                          exact hQ _ _ _ _ _ (x125, x146, f134, x135, t_stage, t_sign, (upd f128 x130.toNatClampNeg 0), (upd f129 x130.toNatClampNeg 0), x130) (fun _ => 0) hf (hm_z g261) w dX8_goesOn_261
                      refine lv_icmp_ne (tgt := 248) hx hb dX8_goesOn_240 (by decide) (fun c240 => ?_) (fun c240 => ?_)
                      · have hf := pf_e c240 hf
                        refine lv_bipush (v := 93) hx hb dX8_goesOn_248 (by decide) ?_
                        exact kJ250 _ _ _ _ hf w (lv_sub hl [0, 1] rfl)
                      · have hf := pf_t c240 hf
                        refine lv_bipush (v := 41) hx hb dX8_goesOn_243 (by decide) ?_
                        refine lv_goto (tgt := 250) hx hb dX8_goesOn_245 (by decide) ?_
                        exact kJ250 _ _ _ _ hf w (lv_sub hl [0, 1] rfl)
                    refine lv_icmp_ne (tgt := 229) hx hb dX8_goesOn_210 (by decide) (fun c210 => ?_) (fun c210 => ?_)
                    · have hf := pf_e c210 hf
                      exact kJ229 _ _ _ hf w (lv_sub hl [0, 1] rfl)
                    · have hf := pf_t c210 hf
                      refine lv_aload_n hx hb dX8_goesOn_213 rfl (lv_at hl 0 rfl) ?_
                      refine hm_get cb_X8 hx hb hown X w 0 18 fl_X8_49 dX8_goesOn_214 rfl (by decide) rfl ?_
                      refine lv_iload_n hx hb dX8_goesOn_217 rfl (lv_at hl 1 rfl) ?_
                      obtain ⟨g218, hf⟩ := pf_ckI hf
                      refine hm_iald hx hb X w 5 dX8_goesOn_218 rfl g218 ?_
                      refine lv_iconst (v := 3) hx hb dX8_goesOn_219 (by decide) ?_
                      refine lv_icmp_ge (tgt := 229) hx hb dX8_goesOn_220 (by decide) (fun c220 => ?_) (fun c220 => ?_)
                      · have hf := pf_t c220 hf
                        exact kJ229 _ _ _ hf w (lv_sub hl [0, 1] rfl)
                      · have hf := pf_e c220 hf
                        refine lv_aload_n hx hb dX8_goesOn_223 rfl (lv_at hl 0 rfl) ?_
                        refine lv_iload_n hx hb dX8_goesOn_224 rfl (lv_at hl 1 rfl) ?_
                        obtain ⟨r147, x148, x149, f150, f151, hc225, hf⟩ := pf_bi_4 hf
                        refine hm_aft_i (ws' := fun _ => [oc8 h0 r_t t_base t_taped x148 x149 t_number t_newBits t_newTold x135 t_newThings x130 t_sum t_heldAll t_onPaper t_turned t_wasConverted t_lastBits t_lastSum t_lastHeld t_lastLeft t_lastCode t_writtenLong t_codeMany t_acts t_done0 t_stoppedAt, ic E (r_t 14) 84 f134, ic E (r_t 17) 10 t_open, ic E (r_t 21) 10 (upd f129 x130.toNatClampNeg 0), ic E (r_t 19) 10 f151, ic E (r_t 18) 10 f150, ic E (r_t 20) 10 (upd f128 x130.toNatClampNeg 0), bc E (r_t 2) 400 t_tape]) (hm_runV (rest := []) hx hb hml hown X hA Y w 0 (ci := 7) (T := TX8) (N := 55) rfl rfl mw_X8_partsOn ml_X8_209 dX8_goesOn_225 hm_ac0 [.int x130] rfl [0, 4, 5, 7] rfl rfl (ct_X8_partsOn l E H.size h0 r_t t_base t_taped x125 t_faultPlace t_number t_newBits t_newTold x135 t_newThings x130 t_sum t_heldAll t_onPaper t_turned t_wasConverted t_lastBits t_lastSum t_lastHeld t_lastLeft t_lastCode t_writtenLong t_codeMany t_acts t_done0 t_stoppedAt t_sign t_stage t_tape x130 (r147, x148, x149, f150, f151) hc225) rfl hl.1 ⟨⟨rfl, rfl⟩, ⟨Nat.le_of_ble_eq_true rfl, Nat.le_of_ble_eq_true rfl⟩, ⟨Nat.le_of_ble_eq_true rfl, Nat.le_of_ble_eq_true rfl⟩, Nat.le_of_ble_eq_true rfl⟩) hA w [0, 4, 5, 7] [1, 2, 3, 6] [4, 0, 1, 2, 5, 6, 3, 7] rfl rfl (by decide) (fun _ => rfl) (fun _ H locs w => ?_)
                        obtain ⟨g228, hf⟩ := pf_ckZ hf
                        exact hQ _ _ _ _ _ (x148, x149, f134, x135, f150, f151, (upd f128 x130.toNatClampNeg 0), (upd f129 x130.toNatClampNeg 0), x130) (fun _ => 0) hf (hm_z g228) w dX8_goesOn_228
                  · have hf := pf_t c172 hf
                    exact kJ175 _ _ _ _ _ _ _ _ _ hf w (lv_sub hl [0] rfl)
                · have hf := pf_e c141 hf
                  exact kJ144 _ _ _ _ _ _ _ _ _ _ hf w (lv_sub hl [0, 1] rfl)
              refine lv_if_eq (tgt := 124) hx hb dX8_goesOn_108 (by decide) (fun c108 => ?_) (fun c108 => ?_)
              · have hf := pf_t c108 hf
                exact kJ124 _ _ _ _ _ hf w (lv_sub hl [0, 1] rfl)
              · have hf := pf_e c108 hf
                refine lv_aload_n hx hb dX8_goesOn_111 rfl (lv_at hl 0 rfl) ?_
                refine lv_aload_n hx hb dX8_goesOn_112 rfl (lv_at hl 0 rfl) ?_
                refine hm_get cb_X8 hx hb hown X w 0 20 fl_X8_55 dX8_goesOn_113 rfl (by decide) rfl ?_
                refine lv_iload_n hx hb dX8_goesOn_116 rfl (lv_at hl 1 rfl) ?_
                obtain ⟨g117, hf⟩ := pf_ckI hf
                refine hm_iald hx hb X w 6 dX8_goesOn_117 rfl g117 ?_
                obtain ⟨r152, hc118, hf⟩ := pf_bi_0 hf
                refine hm_aft_i (ws' := fun _ => [oc8 h0 r_t t_base t_taped x125 t_faultPlace t_number t_newBits t_newTold x132 t_newThings x130 t_sum t_heldAll t_onPaper t_turned t_wasConverted t_lastBits t_lastSum t_lastHeld t_lastLeft t_lastCode t_writtenLong t_codeMany t_acts t_done0 t_stoppedAt, ic E (r_t 14) 84 f131, ic E (r_t 17) 10 t_open, ic E (r_t 21) 10 (upd f129 x130.toNatClampNeg 0), ic E (r_t 19) 10 t_sign, ic E (r_t 18) 10 t_stage, ic E (r_t 20) 10 f128, bc E (r_t 2) 400 t_tape]) (hm_runS (rest := [.ref h0]) hx hb hml hown X hA Y w mw_X8_doingOf ml_X8_203 dX8_goesOn_118 hm_ac0 [.int (f128 x130.toNatClampNeg)] rfl [] rfl rfl (ct_X8_doingOf l E H.size (f128 x130.toNatClampNeg) (r152, ()) hc118) rfl hl.1 ⟨⟨rfl, rfl⟩, ⟨Nat.le_of_ble_eq_true rfl, Nat.le_of_ble_eq_true rfl⟩, ⟨Nat.le_of_ble_eq_true rfl, Nat.le_of_ble_eq_true rfl⟩, Nat.le_of_ble_eq_true rfl⟩) hA w [] [0, 1, 2, 3, 4, 5, 6, 7] [0, 1, 2, 3, 4, 5, 6, 7] rfl rfl (by decide) (fun _ => rfl) (fun _ H locs w => ?_)
                obtain ⟨f153, x154, hc121, hf⟩ := pf_bv_2 hf
                refine hm_aft_v (ws' := fun _ => [oc8 h0 r_t t_base t_taped x125 t_faultPlace t_number t_newBits t_newTold x154 t_newThings x130 t_sum t_heldAll t_onPaper t_turned t_wasConverted t_lastBits t_lastSum t_lastHeld t_lastLeft t_lastCode t_writtenLong t_codeMany t_acts t_done0 t_stoppedAt, ic E (r_t 14) 84 f153, ic E (r_t 17) 10 t_open, ic E (r_t 21) 10 (upd f129 x130.toNatClampNeg 0), ic E (r_t 19) 10 t_sign, ic E (r_t 18) 10 t_stage, ic E (r_t 20) 10 f128, bc E (r_t 2) 400 t_tape]) (hm_runV (rest := []) hx hb hml hown X hA Y w 0 (ci := 7) (T := TX8) (N := 55) rfl rfl mw_X8_does ml_X8_197 dX8_goesOn_121 hm_ac0 [.int r152] rfl [0, 1] rfl rfl (ct_X8_does l E H.size h0 r_t t_base t_taped x125 t_faultPlace t_number t_newBits t_newTold x132 t_newThings x130 t_sum t_heldAll t_onPaper t_turned t_wasConverted t_lastBits t_lastSum t_lastHeld t_lastLeft t_lastCode t_writtenLong t_codeMany t_acts t_done0 t_stoppedAt f131 r152 (f153, x154) hc121) rfl hl.1 ⟨⟨rfl, rfl⟩, ⟨Nat.le_of_ble_eq_true rfl, Nat.le_of_ble_eq_true rfl⟩, ⟨Nat.le_of_ble_eq_true rfl, Nat.le_of_ble_eq_true rfl⟩, Nat.le_of_ble_eq_true rfl⟩) hA w [0, 1] [2, 3, 4, 5, 6, 7] [6, 7, 0, 1, 2, 3, 4, 5] rfl rfl (by decide) (fun _ => rfl) (fun _ H locs w => ?_)
                exact kJ124 _ _ _ _ _ hf w (lv_sub hl [0, 1] rfl)
            · have hf := pf_e c77 hf
              exact kJ80 _ _ _ _ _ _ _ _ _ _ hf w (lv_sub hl [0, 1] rfl)
          refine lv_if_eq (tgt := 60) hx hb dX8_goesOn_44 (by decide) (fun c44 => ?_) (fun c44 => ?_)
          · have hf := pf_t c44 hf
            exact kJ60 _ _ _ _ _ hf w (lv_sub hl [1, 0] rfl)
          · have hf := pf_e c44 hf
            refine lv_aload_n hx hb dX8_goesOn_47 rfl (lv_at hl 1 rfl) ?_
            refine lv_aload_n hx hb dX8_goesOn_48 rfl (lv_at hl 1 rfl) ?_
            refine hm_get cb_X8 hx hb hown X w 0 21 fl_X8_58 dX8_goesOn_49 rfl (by decide) rfl ?_
            refine lv_iload_n hx hb dX8_goesOn_52 rfl (lv_at hl 0 rfl) ?_
            obtain ⟨g53, hf⟩ := pf_ckI hf
            refine hm_iald hx hb X w 3 dX8_goesOn_53 rfl g53 ?_
            obtain ⟨r155, hc54, hf⟩ := pf_bi_0 hf
            refine hm_aft_i (ws' := fun _ => [oc8 h0 r_t t_base t_taped x125 t_faultPlace t_number t_newBits t_newTold x127 t_newThings x130 t_sum t_heldAll t_onPaper t_turned t_wasConverted t_lastBits t_lastSum t_lastHeld t_lastLeft t_lastCode t_writtenLong t_codeMany t_acts t_done0 t_stoppedAt, ic E (r_t 14) 84 f126, ic E (r_t 17) 10 t_open, ic E (r_t 21) 10 f129, ic E (r_t 19) 10 t_sign, ic E (r_t 18) 10 t_stage, ic E (r_t 20) 10 f128, bc E (r_t 2) 400 t_tape]) (hm_runS (rest := [.ref h0]) hx hb hml hown X hA Y w mw_X8_doingOf ml_X8_203 dX8_goesOn_54 hm_ac0 [.int (f129 x130.toNatClampNeg)] rfl [] rfl rfl (ct_X8_doingOf l E H.size (f129 x130.toNatClampNeg) (r155, ()) hc54) rfl hl.1 ⟨⟨rfl, rfl⟩, ⟨Nat.le_of_ble_eq_true rfl, Nat.le_of_ble_eq_true rfl⟩, ⟨Nat.le_of_ble_eq_true rfl, Nat.le_of_ble_eq_true rfl⟩, Nat.le_of_ble_eq_true rfl⟩) hA w [] [0, 1, 2, 3, 4, 5, 6, 7] [0, 1, 2, 3, 4, 5, 6, 7] rfl rfl (by decide) (fun _ => rfl) (fun _ H locs w => ?_)
            obtain ⟨f156, x157, hc57, hf⟩ := pf_bv_2 hf
            refine hm_aft_v (ws' := fun _ => [oc8 h0 r_t t_base t_taped x125 t_faultPlace t_number t_newBits t_newTold x157 t_newThings x130 t_sum t_heldAll t_onPaper t_turned t_wasConverted t_lastBits t_lastSum t_lastHeld t_lastLeft t_lastCode t_writtenLong t_codeMany t_acts t_done0 t_stoppedAt, ic E (r_t 14) 84 f156, ic E (r_t 17) 10 t_open, ic E (r_t 21) 10 f129, ic E (r_t 19) 10 t_sign, ic E (r_t 18) 10 t_stage, ic E (r_t 20) 10 f128, bc E (r_t 2) 400 t_tape]) (hm_runV (rest := []) hx hb hml hown X hA Y w 0 (ci := 7) (T := TX8) (N := 55) rfl rfl mw_X8_does ml_X8_197 dX8_goesOn_57 hm_ac0 [.int r155] rfl [0, 1] rfl rfl (ct_X8_does l E H.size h0 r_t t_base t_taped x125 t_faultPlace t_number t_newBits t_newTold x127 t_newThings x130 t_sum t_heldAll t_onPaper t_turned t_wasConverted t_lastBits t_lastSum t_lastHeld t_lastLeft t_lastCode t_writtenLong t_codeMany t_acts t_done0 t_stoppedAt f126 r155 (f156, x157) hc57) rfl hl.1 ⟨⟨rfl, rfl⟩, ⟨Nat.le_of_ble_eq_true rfl, Nat.le_of_ble_eq_true rfl⟩, ⟨Nat.le_of_ble_eq_true rfl, Nat.le_of_ble_eq_true rfl⟩, Nat.le_of_ble_eq_true rfl⟩) hA w [0, 1] [2, 3, 4, 5, 6, 7] [6, 7, 0, 1, 2, 3, 4, 5] rfl rfl (by decide) (fun _ => rfl) (fun _ H locs w => ?_)
            exact kJ60 _ _ _ _ _ hf w (lv_sub hl [1, 0] rfl)
        · have hf := pf_t c10 hf
          refine lv_aload_n hx hb dX8_goesOn_13 rfl (lv_at hl 0 rfl) ?_
          refine lv_sipush (v := 10015) hx hb dX8_goesOn_14 (by decide) ?_
          obtain ⟨f158, x159, hc17, hf⟩ := pf_bv_2 hf
          refine hm_aft_v (ws' := fun _ => [oc8 h0 r_t t_base t_taped x125 t_faultPlace t_number t_newBits t_newTold x159 t_newThings x130 t_sum t_heldAll t_onPaper t_turned t_wasConverted t_lastBits t_lastSum t_lastHeld t_lastLeft t_lastCode t_writtenLong t_codeMany t_acts t_done0 t_stoppedAt, ic E (r_t 14) 84 f158, ic E (r_t 17) 10 t_open, ic E (r_t 21) 10 f129, ic E (r_t 19) 10 t_sign, ic E (r_t 18) 10 t_stage, ic E (r_t 20) 10 f128, bc E (r_t 2) 400 t_tape]) (hm_runV (rest := []) hx hb hml hown X hA Y w 0 (ci := 7) (T := TX8) (N := 55) rfl rfl mw_X8_does ml_X8_197 dX8_goesOn_17 hm_ac0 [.int 10015] rfl [0, 1] rfl rfl (ct_X8_does l E H.size h0 r_t t_base t_taped x125 t_faultPlace t_number t_newBits t_newTold x127 t_newThings x130 t_sum t_heldAll t_onPaper t_turned t_wasConverted t_lastBits t_lastSum t_lastHeld t_lastLeft t_lastCode t_writtenLong t_codeMany t_acts t_done0 t_stoppedAt f126 10015 (f158, x159) hc17) rfl hl.1 ⟨⟨rfl, rfl⟩, ⟨Nat.le_of_ble_eq_true rfl, Nat.le_of_ble_eq_true rfl⟩, ⟨Nat.le_of_ble_eq_true rfl, Nat.le_of_ble_eq_true rfl⟩, Nat.le_of_ble_eq_true rfl⟩) hA w [0, 1] [2, 3, 4, 5, 6, 7] [6, 7, 0, 1, 2, 3, 4, 5] rfl rfl (by decide) (fun _ => rfl) (fun _ H locs w => ?_)
          refine lv_aload_n hx hb dX8_goesOn_20 rfl (lv_at hl 0 rfl) ?_
          refine lv_dup hx hb dX8_goesOn_21 rfl ?_
          refine hm_get cb_X8 hx hb hown X w 0 22 fl_X8_188 dX8_goesOn_22 rfl (by decide) rfl ?_
          refine lv_iconst (v := 1) hx hb dX8_goesOn_25 (by decide) ?_
          refine lv_isub hx hb dX8_goesOn_26 ?_
          refine lv_topi (fun x160 ex160 => ?_)
          have hf := pf_nm ex160 hf
          refine hm_put (ws' := [oc8 h0 r_t t_base t_taped x125 t_faultPlace t_number t_newBits t_newTold x159 t_newThings x160 t_sum t_heldAll t_onPaper t_turned t_wasConverted t_lastBits t_lastSum t_lastHeld t_lastLeft t_lastCode t_writtenLong t_codeMany t_acts t_done0 t_stoppedAt, ic E (r_t 14) 84 f158, ic E (r_t 17) 10 t_open, ic E (r_t 21) 10 f129, ic E (r_t 19) 10 t_sign, ic E (r_t 18) 10 t_stage, ic E (r_t 20) 10 f128, bc E (r_t 2) 400 t_tape]) cb_X8 hx hb hown X w 0 22 fl_X8_188 dX8_goesOn_27 rfl (by decide) (Nat.le_of_ble_eq_true rfl) rfl rfl rfl rfl (fun H locs w => ?_)
          refine lv_goto (tgt := 0) hx hb dX8_goesOn_30 (by decide) ?_
          exact ih0 _ _ _ _ _ _ _ _ _ hf w (lv_sub hl [0] rfl)
    exact klp_X8_goesOn_0 FU _ _ _ _ _ _ _ _ _ hf w (lv_sub hl [0] rfl)