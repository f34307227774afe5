set_option maxHeartbeats 8000000 in
set_option maxRecDepth 100000 in
theorem ct_X8_doingOf (l : Launch) (E : hm_E) (sz : Nat) (a0 : Int32) (R : Int32 × Unit) (hf : pf_X8_doingOf a0 = some R) : hm_Mi l E yX8_doingOf cX8_doingOf 1 .int [] (hm_rr 0 0 0 0) [.int a0] sz [] R.1 (fun _ => []) := by
  refine hm_ct_i R (fun u qs => []) (by decide) (Nat.le_of_ble_eq_true rfl) (Or.inl rfl) ?_
  intro p e s m args below meth c A Q ls H locs hx hb hml hown X hA Y hex w hl hQ
  have hl : lv_has ls 1 [(0, .int a0)] := hl
  unfold pf_X8_doingOf at hf
  refine lv_iload_n hx hb dX8_doingOf_0 rfl (lv_at hl 0 rfl) ?_
  refine lv_bipush (v := 43) hx hb dX8_doingOf_1 (by decide) ?_
  refine lv_icmp_ne (tgt := 12) hx hb dX8_doingOf_3 (by decide) (fun c3 => ?_) (fun c3 => ?_)
  · have hf := pf_e c3 hf
    refine lv_iload_n hx hb dX8_doingOf_12 rfl (lv_at hl 0 rfl) ?_
    refine lv_bipush (v := 45) hx hb dX8_doingOf_13 (by decide) ?_
    refine lv_icmp_ne (tgt := 24) hx hb dX8_doingOf_15 (by decide) (fun c15 => ?_) (fun c15 => ?_)
    · have hf := pf_e c15 hf
      refine lv_iload_n hx hb dX8_doingOf_24 rfl (lv_at hl 0 rfl) ?_
      refine lv_bipush (v := 42) hx hb dX8_doingOf_25 (by decide) ?_
      refine lv_icmp_ne (tgt := 36) hx hb dX8_doingOf_27 (by decide) (fun c27 => ?_) (fun c27 => ?_)
      · have hf := pf_e c27 hf
        refine lv_iload_n hx hb dX8_doingOf_36 rfl (lv_at hl 0 rfl) ?_
        refine lv_bipush (v := 47) hx hb dX8_doingOf_37 (by decide) ?_
        refine lv_icmp_ne (tgt := 48) hx hb dX8_doingOf_39 (by decide) (fun c39 => ?_) (fun c39 => ?_)
        · have hf := pf_e c39 hf
          refine lv_sipush (v := 10014) hx hb dX8_doingOf_48 (by decide) ?_
          exact hQ _ _ _ _ _ () (fun _ => 0) hf rfl w dX8_doingOf_51
        · have hf := pf_t c39 hf
          refine lv_sipush (v := 10013) hx hb dX8_doingOf_42 (by decide) ?_
          refine lv_goto (tgt := 51) hx hb dX8_doingOf_45 (by decide) ?_
          exact hQ _ _ _ _ _ () (fun _ => 0) hf rfl w dX8_doingOf_51
      · have hf := pf_t c27 hf
        refine lv_sipush (v := 10012) hx hb dX8_doingOf_30 (by decide) ?_
        refine lv_goto (tgt := 51) hx hb dX8_doingOf_33 (by decide) ?_
        exact hQ _ _ _ _ _ () (fun _ => 0) hf rfl w dX8_doingOf_51
    · have hf := pf_t c15 hf
      refine lv_sipush (v := 10011) hx hb dX8_doingOf_18 (by decide) ?_
      refine lv_goto (tgt := 51) hx hb dX8_doingOf_21 (by decide) ?_
      exact hQ _ _ _ _ _ () (fun _ => 0) hf rfl w dX8_doingOf_51
  · have hf := pf_t c3 hf
    refine lv_sipush (v := 10010) hx hb dX8_doingOf_6 (by decide) ?_
    refine lv_goto (tgt := 51) hx hb dX8_doingOf_9 (by decide) ?_
    exact hQ _ _ _ _ _ () (fun _ => 0) hf rfl w dX8_doingOf_51
set_option maxHeartbeats 8000000 in
set_option maxRecDepth 100000 in
theorem ct_X8_isOne (l : Launch) (E : hm_E) (sz : Nat) (h0 : Nat) (r_t : Nat → Nat) (t_base t_taped t_at t_faultPlace t_number t_newBits t_newTold t_newDoings t_newThings t_opened t_sum t_heldAll t_onPaper t_turned t_wasConverted t_lastBits t_lastSum t_lastHeld t_lastLeft t_lastCode t_writtenLong t_codeMany t_acts t_done0 t_stoppedAt : Int32) (t_tape : Nat → Int32) (a1 : Int32) (a2 : Int32) (a3 : Int32) (R : Int32 × Unit) (hf : pf_X8_isOne a1 a2 a3 t_tape t_taped t_at = some R) : hm_Mi l E yX8_isOne cX8_isOne 4 .boolean [] (hm_rr 1 20 0 0) [.ref h0, .int a1, .int a2, .int a3] sz [oc8 h0 r_t t_base t_taped t_at t_faultPlace t_number t_newBits t_newTold t_newDoings t_newThings t_opened t_sum t_heldAll t_onPaper t_turned t_wasConverted t_lastBits t_lastSum t_lastHeld t_lastLeft t_lastCode t_writtenLong t_codeMany t_acts t_done0 t_stoppedAt, bc E (r_t 2) 400 t_tape] R.1 (fun _ => [oc8 h0 r_t t_base t_taped t_at t_faultPlace t_number t_newBits t_newTold t_newDoings t_newThings t_opened t_sum t_heldAll t_onPaper t_turned t_wasConverted t_lastBits t_lastSum t_lastHeld t_lastLeft t_lastCode t_writtenLong t_codeMany t_acts t_done0 t_stoppedAt, bc E (r_t 2) 400 t_tape]) := by
  refine hm_ct_i R (fun u qs => [oc8 h0 r_t t_base t_taped t_at t_faultPlace t_number t_newBits t_newTold t_newDoings t_newThings t_opened t_sum t_heldAll t_onPaper t_turned t_wasConverted t_lastBits t_lastSum t_lastHeld t_lastLeft t_lastCode t_writtenLong t_codeMany t_acts t_done0 t_stoppedAt, bc E (r_t 2) 400 t_tape]) (by decide) (Nat.le_of_ble_eq_true rfl) (Or.inr rfl) ?_
  intro p e s m args below meth c A Q ls H locs hx hb hml hown X hA Y hex w hl hQ
  have hl : lv_has ls 4 [(0, .ref h0), (1, .int a1), (2, .int a2), (3, .int a3)] := hl
  unfold pf_X8_isOne at hf
  refine lv_aload_n hx hb dX8_isOne_0 rfl (lv_at hl 0 rfl) ?_
  obtain ⟨r1, hc1, hf⟩ := pf_bi_0 hf
  refine hm_aft_i (ws' := fun _ => [oc8 h0 r_t t_base t_taped t_at t_faultPlace t_number t_newBits t_newTold t_newDoings t_newThings t_opened t_sum t_heldAll t_onPaper t_turned t_wasConverted t_lastBits t_lastSum t_lastHeld t_lastLeft t_lastCode t_writtenLong t_codeMany t_acts t_done0 t_stoppedAt, bc E (r_t 2) 400 t_tape]) (hm_runV (rest := []) hx hb hml hown X hA Y w 0 (ci := 7) (T := TX8) (N := 55) rfl rfl mw_X8_here ml_X8_136 dX8_isOne_1 hm_ac0 [] rfl [0, 1] rfl rfl (ct_X8_here l E H.size h0 r_t t_base t_taped t_at t_faultPlace t_number t_newBits t_newTold t_newDoings t_newThings t_opened t_sum t_heldAll t_onPaper t_turned t_wasConverted t_lastBits t_lastSum t_lastHeld t_lastLeft t_lastCode t_writtenLong t_codeMany t_acts t_done0 t_stoppedAt t_tape (r1, ()) hc1) rfl hl.1 ⟨⟨rfl, rfl⟩, ⟨Nat.le_of_ble_eq_true rfl, Nat.le_of_ble_eq_true rfl⟩, ⟨Nat.le_of_ble_eq_true rfl, Nat.le_of_ble_eq_true rfl⟩, Nat.le_of_ble_eq_true rfl⟩) hA w [0, 1] [] [0, 1] rfl rfl (by decide) (fun _ => rfl) (fun _ H locs w => ?_)
  refine lv_iload_n hx hb dX8_isOne_4 rfl (lv_at hl 1 rfl) ?_
  refine lv_icmp_eq (tgt := 24) hx hb dX8_isOne_5 (by decide) (fun c5 => ?_) (fun c5 => ?_)
  · have hf := pf_t c5 hf
    refine lv_iconst (v := 1) hx hb dX8_isOne_24 (by decide) ?_
    refine lv_goto (tgt := 29) hx hb dX8_isOne_25 (by decide) ?_
    exact hQ _ _ _ _ _ () (fun _ => 0) hf rfl w dX8_isOne_29
  · have hf := pf_e c5 hf
    refine lv_aload_n hx hb dX8_isOne_8 rfl (lv_at hl 0 rfl) ?_
    obtain ⟨r2, hc9, hf⟩ := pf_bi_0 hf
    refine hm_aft_i (ws' := fun _ => [oc8 h0 r_t t_base t_taped t_at t_faultPlace t_number t_newBits t_newTold t_newDoings t_newThings t_opened t_sum t_heldAll t_onPaper t_turned t_wasConverted t_lastBits t_lastSum t_lastHeld t_lastLeft t_lastCode t_writtenLong t_codeMany t_acts t_done0 t_stoppedAt, bc E (r_t 2) 400 t_tape]) (hm_runV (rest := []) hx hb hml hown X hA Y w 0 (ci := 7) (T := TX8) (N := 55) rfl rfl mw_X8_here ml_X8_136 dX8_isOne_9 hm_ac0 [] rfl [0, 1] rfl rfl (ct_X8_here l E H.size h0 r_t t_base t_taped t_at t_faultPlace t_number t_newBits t_newTold t_newDoings t_newThings t_opened t_sum t_heldAll t_onPaper t_turned t_wasConverted t_lastBits t_lastSum t_lastHeld t_lastLeft t_lastCode t_writtenLong t_codeMany t_acts t_done0 t_stoppedAt t_tape (r2, ()) hc9) rfl hl.1 ⟨⟨rfl, rfl⟩, ⟨Nat.le_of_ble_eq_true rfl, Nat.le_of_ble_eq_true rfl⟩, ⟨Nat.le_of_ble_eq_true rfl, Nat.le_of_ble_eq_true rfl⟩, Nat.le_of_ble_eq_true rfl⟩) hA w [0, 1] [] [0, 1] rfl rfl (by decide) (fun _ => rfl) (fun _ H locs w => ?_)
    refine lv_iload_n hx hb dX8_isOne_12 rfl (lv_at hl 2 rfl) ?_
    refine lv_icmp_eq (tgt := 24) hx hb dX8_isOne_13 (by decide) (fun c13 => ?_) (fun c13 => ?_)
    · have hf := pf_t c13 hf
      refine lv_iconst (v := 1) hx hb dX8_isOne_24 (by decide) ?_
      refine lv_goto (tgt := 29) hx hb dX8_isOne_25 (by decide) ?_
      exact hQ _ _ _ _ _ () (fun _ => 0) hf rfl w dX8_isOne_29
    · have hf := pf_e c13 hf
      refine lv_aload_n hx hb dX8_isOne_16 rfl (lv_at hl 0 rfl) ?_
      obtain ⟨r3, hc17, hf⟩ := pf_bi_0 hf
      refine hm_aft_i (ws' := fun _ => [oc8 h0 r_t t_base t_taped t_at t_faultPlace t_number t_newBits t_newTold t_newDoings t_newThings t_opened t_sum t_heldAll t_onPaper t_turned t_wasConverted t_lastBits t_lastSum t_lastHeld t_lastLeft t_lastCode t_writtenLong t_codeMany t_acts t_done0 t_stoppedAt, bc E (r_t 2) 400 t_tape]) (hm_runV (rest := []) hx hb hml hown X hA Y w 0 (ci := 7) (T := TX8) (N := 55) rfl rfl mw_X8_here ml_X8_136 dX8_isOne_17 hm_ac0 [] rfl [0, 1] rfl rfl (ct_X8_here l E H.size h0 r_t t_base t_taped t_at t_faultPlace t_number t_newBits t_newTold t_newDoings t_newThings t_opened t_sum t_heldAll t_onPaper t_turned t_wasConverted t_lastBits t_lastSum t_lastHeld t_lastLeft t_lastCode t_writtenLong t_codeMany t_acts t_done0 t_stoppedAt t_tape (r3, ()) hc17) rfl hl.1 ⟨⟨rfl, rfl⟩, ⟨Nat.le_of_ble_eq_true rfl, Nat.le_of_ble_eq_true rfl⟩, ⟨Nat.le_of_ble_eq_true rfl, Nat.le_of_ble_eq_true rfl⟩, Nat.le_of_ble_eq_true rfl⟩) hA w [0, 1] [] [0, 1] rfl rfl (by decide) (fun _ => rfl) (fun _ H locs w => ?_)
      refine lv_iload_n hx hb dX8_isOne_20 rfl (lv_at hl 3 rfl) ?_
      refine lv_icmp_ne (tgt := 28) hx hb dX8_isOne_21 (by decide) (fun c21 => ?_) (fun c21 => ?_)
      · have hf := pf_e c21 hf
        refine lv_iconst (v := 0) hx hb dX8_isOne_28 (by decide) ?_
        exact hQ _ _ _ _ _ () (fun _ => 0) hf rfl w dX8_isOne_29
      · have hf := pf_t c21 hf
        refine lv_iconst (v := 1) hx hb dX8_isOne_24 (by decide) ?_
        refine lv_goto (tgt := 29) hx hb dX8_isOne_25 (by decide) ?_
        exact hQ _ _ _ _ _ () (fun _ => 0) hf rfl w dX8_isOne_29
set_option maxHeartbeats 8000000 in
set_option maxRecDepth 100000 in
theorem ct_X8_partsOn (l : Launch) (E : hm_E) (sz : Nat) (h0 : Nat) (r_t : Nat → Nat) (t_base t_taped t_at t_faultPlace t_number t_newBits t_newTold t_newDoings t_newThings t_opened t_sum t_heldAll t_onPaper t_turned t_wasConverted t_lastBits t_lastSum t_lastHeld t_lastLeft t_lastCode t_writtenLong t_codeMany t_acts t_done0 t_stoppedAt : Int32) (t_sign : Nat → Int32) (t_stage : Nat → Int32) (t_tape : Nat → Int32) (a1 : Int32) (R : Int32 × Int32 × Int32 × (Nat → Int32) × (Nat → Int32)) (hf : pf_X8_partsOn a1 t_tape t_taped t_at t_faultPlace t_stage t_sign = some R) : hm_Mi l E yX8_partsOn cX8_partsOn 3 .boolean [] (hm_rr 2 43 0 0) [.ref h0, .int a1] sz [oc8 h0 r_t t_base t_taped t_at t_faultPlace t_number t_newBits t_newTold t_newDoings t_newThings t_opened t_sum t_heldAll t_onPaper t_turned t_wasConverted t_lastBits t_lastSum t_lastHeld t_lastLeft t_lastCode t_writtenLong t_codeMany t_acts t_done0 t_stoppedAt, ic E (r_t 19) 10 t_sign, ic E (r_t 18) 10 t_stage, bc E (r_t 2) 400 t_tape] R.1 (fun _ => [oc8 h0 r_t t_base t_taped (R.2.1) (R.2.2.1) t_number t_newBits t_newTold t_newDoings t_newThings t_opened t_sum t_heldAll t_onPaper t_turned t_wasConverted t_lastBits t_lastSum t_lastHeld t_lastLeft t_lastCode t_writtenLong t_codeMany t_acts t_done0 t_stoppedAt, ic E (r_t 19) 10 (R.2.2.2.2), ic E (r_t 18) 10 (R.2.2.2.1), bc E (r_t 2) 400 t_tape]) := by
  refine hm_ct_i R (fun u qs => [oc8 h0 r_t t_base t_taped (u.1) (u.2.1) t_number t_newBits t_newTold t_newDoings t_newThings t_opened t_sum t_heldAll t_onPaper t_turned t_wasConverted t_lastBits t_lastSum t_lastHeld t_lastLeft t_lastCode t_writtenLong t_codeMany t_acts t_done0 t_stoppedAt, ic E (r_t 19) 10 (u.2.2.2), ic E (r_t 18) 10 (u.2.2.1), bc E (r_t 2) 400 t_tape]) (by decide) (Nat.le_of_ble_eq_true rfl) (Or.inr rfl) ?_
  intro p e s m args below meth c A Q ls H locs hx hb hml hown X hA Y hex w hl hQ
  have hl : lv_has ls 3 [(0, .ref h0), (1, .int a1)] := hl
  unfold pf_X8_partsOn at hf
  refine lv_aload_n hx hb dX8_partsOn_0 rfl (lv_at hl 0 rfl) ?_
  refine hm_get cb_X8 hx hb hown X w 0 18 fl_X8_49 dX8_partsOn_1 rfl (by decide) rfl ?_
  refine lv_iload_n hx hb dX8_partsOn_4 rfl (lv_at hl 1 rfl) ?_
  obtain ⟨g5, hf⟩ := pf_ckI hf
  refine hm_iald hx hb X w 2 dX8_partsOn_5 rfl g5 ?_
  obtain ⟨J51, hJ51, hf⟩ := pf_jn hf
  have kJ51 : ∀ (x1 : Int32) (H : Heap) (locs : List Loc) (ls : Array Slot), J51 x1 = some R → hm_W E A s.heap [oc8 h0 r_t t_base t_taped t_at t_faultPlace t_number t_newBits t_newTold t_newDoings t_newThings t_opened t_sum t_heldAll t_onPaper t_turned t_wasConverted t_lastBits t_lastSum t_lastHeld t_lastLeft t_lastCode t_writtenLong t_codeMany t_acts t_done0 t_stoppedAt, ic E (r_t 19) 10 t_sign, ic E (r_t 18) 10 t_stage, bc E (r_t 2) 400 t_tape] H locs → lv_has ls 3 [(0, .ref h0), (1, .int a1)] → W p l e (hm_rr 2 43 0 0) s m args below meth c H locs 0 0 Q (F0 m 51 ls [.int x1]) := by
    intro x1 H locs ls hf w hl
    have hf := pf_j1 hJ51 hf
    refine lv_istore_n (lv' := [(2, .int x1), (0, .ref h0), (1, .int a1)]) hx hb dX8_partsOn_51 rfl hl (by decide) rfl (fun ls hl => ?_)
    refine lv_iload_n hx hb dX8_partsOn_52 rfl (lv_at hl 0 rfl) ?_
    refine lv_if_ne (tgt := 65) hx hb dX8_partsOn_53 (by decide) (fun c53 => ?_) (fun c53 => ?_)
    · have hf := pf_e c53 hf
      refine lv_aload_n hx hb dX8_partsOn_65 rfl (lv_at hl 1 rfl) ?_
      refine hm_get cb_X8 hx hb hown X w 0 18 fl_X8_49 dX8_partsOn_66 rfl (by decide) rfl ?_
      refine lv_iload_n hx hb dX8_partsOn_69 rfl (lv_at hl 2 rfl) ?_
      obtain ⟨g70, hf⟩ := pf_ckI hf
      refine hm_iald hx hb X w 2 dX8_partsOn_70 rfl g70 ?_
      obtain ⟨J98, hJ98, hf⟩ := pf_jn hf
      have kJ98 : ∀ (f2 : Nat → Int32) (H : Heap) (locs : List Loc) (ls : Array Slot), J98 f2 = some R → hm_W E A s.heap [oc8 h0 r_t t_base t_taped t_at t_faultPlace t_number t_newBits t_newTold t_newDoings t_newThings t_opened t_sum t_heldAll t_onPaper t_turned t_wasConverted t_lastBits t_lastSum t_lastHeld t_lastLeft t_lastCode t_writtenLong t_codeMany t_acts t_done0 t_stoppedAt, ic E (r_t 19) 10 f2, ic E (r_t 18) 10 t_stage, bc E (r_t 2) 400 t_tape] H locs → lv_has ls 3 [(0, .ref h0), (1, .int a1)] → W p l e (hm_rr 2 43 0 0) s m args below meth c H locs 0 0 Q (F0 m 98 ls []) := by
        intro f2 H locs ls hf w hl
        have hf := pf_j1 hJ98 hf
        refine lv_aload_n hx hb dX8_partsOn_98 rfl (lv_at hl 0 rfl) ?_
        refine lv_dup hx hb dX8_partsOn_99 rfl ?_
        refine hm_get cb_X8 hx hb hown X w 0 4 fl_X8_133 dX8_partsOn_100 rfl (by decide) rfl ?_
        refine lv_iconst (v := 1) hx hb dX8_partsOn_103 (by decide) ?_
        refine lv_iadd hx hb dX8_partsOn_104 ?_
        refine lv_topi (fun x3 ex3 => ?_)
        have hf := pf_nm ex3 hf
        refine hm_put (ws' := [oc8 h0 r_t t_base t_taped x3 t_faultPlace t_number t_newBits t_newTold t_newDoings t_newThings t_opened t_sum t_heldAll t_onPaper t_turned t_wasConverted t_lastBits t_lastSum t_lastHeld t_lastLeft t_lastCode t_writtenLong t_codeMany t_acts t_done0 t_stoppedAt, ic E (r_t 19) 10 f2, ic E (r_t 18) 10 t_stage, bc E (r_t 2) 400 t_tape]) cb_X8 hx hb hown X w 0 4 fl_X8_133 dX8_partsOn_105 rfl (by decide) (Nat.le_of_ble_eq_true rfl) rfl rfl rfl rfl (fun H locs w => ?_)
        refine lv_aload_n hx hb dX8_partsOn_108 rfl (lv_at hl 0 rfl) ?_
        refine hm_get cb_X8 hx hb hown X w 0 18 fl_X8_49 dX8_partsOn_109 rfl (by decide) rfl ?_
        refine lv_iload_n hx hb dX8_partsOn_112 rfl (lv_at hl 1 rfl) ?_
        refine lv_dup2_11 hx hb dX8_partsOn_113 rfl rfl ?_
        obtain ⟨g114, hf⟩ := pf_ckI hf
        refine hm_iald hx hb X w 2 dX8_partsOn_114 rfl g114 ?_
        refine lv_iconst (v := 1) hx hb dX8_partsOn_115 (by decide) ?_
        refine lv_iadd hx hb dX8_partsOn_116 ?_
        refine lv_topi (fun x4 ex4 => ?_)
        have hf := pf_nm ex4 hf
        obtain ⟨g117, hf⟩ := pf_ckI hf
        refine hm_iast (ws' := [oc8 h0 r_t t_base t_taped x3 t_faultPlace t_number t_newBits t_newTold t_newDoings t_newThings t_opened t_sum t_heldAll t_onPaper t_turned t_wasConverted t_lastBits t_lastSum t_lastHeld t_lastLeft t_lastCode t_writtenLong t_codeMany t_acts t_done0 t_stoppedAt, ic E (r_t 19) 10 f2, ic E (r_t 18) 10 (upd t_stage a1.toNatClampNeg x4), bc E (r_t 2) 400 t_tape]) hx hb X w 2 dX8_partsOn_117 rfl g117 rfl (fun H locs w => ?_)
        refine lv_iconst (v := 1) hx hb dX8_partsOn_118 (by decide) ?_
        exact hQ _ _ _ _ _ (x3, t_faultPlace, (upd t_stage a1.toNatClampNeg x4), f2) (fun _ => 0) hf rfl w dX8_partsOn_119
      refine lv_if_ne (tgt := 98) hx hb dX8_partsOn_71 (by decide) (fun c71 => ?_) (fun c71 => ?_)
      · have hf := pf_e c71 hf
        exact kJ98 _ _ _ _ hf w (lv_sub hl [1, 2] rfl)
      · have hf := pf_t c71 hf
        refine lv_aload_n hx hb dX8_partsOn_74 rfl (lv_at hl 1 rfl) ?_
        refine hm_get cb_X8 hx hb hown X w 0 19 fl_X8_52 dX8_partsOn_75 rfl (by decide) rfl ?_
        refine lv_iload_n hx hb dX8_partsOn_78 rfl (lv_at hl 2 rfl) ?_
        refine lv_aload_n hx hb dX8_partsOn_79 rfl (lv_at hl 1 rfl) ?_
        obtain ⟨r5, hc80, hf⟩ := pf_bi_0 hf
        refine hm_aft_i (ws' := fun _ => [oc8 h0 r_t t_base t_taped t_at t_faultPlace t_number t_newBits t_newTold t_newDoings t_newThings t_opened t_sum t_heldAll t_onPaper t_turned t_wasConverted t_lastBits t_lastSum t_lastHeld t_lastLeft t_lastCode t_writtenLong t_codeMany t_acts t_done0 t_stoppedAt, ic E (r_t 19) 10 t_sign, ic E (r_t 18) 10 t_stage, bc E (r_t 2) 400 t_tape]) (hm_runV (rest := [.int a1, .ref (r_t 19)]) hx hb hml hown X hA Y w 0 (ci := 7) (T := TX8) (N := 55) rfl rfl mw_X8_here ml_X8_136 dX8_partsOn_80 hm_ac0 [] rfl [0, 3] rfl rfl (ct_X8_here l E H.size h0 r_t t_base t_taped t_at t_faultPlace t_number t_newBits t_newTold t_newDoings t_newThings t_opened t_sum t_heldAll t_onPaper t_turned t_wasConverted t_lastBits t_lastSum t_lastHeld t_lastLeft t_lastCode t_writtenLong t_codeMany t_acts t_done0 t_stoppedAt t_tape (r5, ()) hc80) rfl hl.1 ⟨⟨rfl, rfl⟩, ⟨Nat.le_of_ble_eq_true rfl, Nat.le_of_ble_eq_true rfl⟩, ⟨Nat.le_of_ble_eq_true rfl, Nat.le_of_ble_eq_true rfl⟩, Nat.le_of_ble_eq_true rfl⟩) hA w [0, 3] [1, 2] [2, 0, 1, 3] rfl rfl (by decide) (fun _ => rfl) (fun _ H locs w => ?_)
        refine lv_bipush (v := 60) hx hb dX8_partsOn_83 (by decide) ?_
        obtain ⟨J97, hJ97, hf⟩ := pf_jn hf
        have kJ97 : ∀ (x6 : Int32) (H : Heap) (locs : List Loc) (ls : Array Slot), J97 x6 = some R → hm_W E A s.heap [oc8 h0 r_t t_base t_taped t_at t_faultPlace t_number t_newBits t_newTold t_newDoings t_newThings t_opened t_sum t_heldAll t_onPaper t_turned t_wasConverted t_lastBits t_lastSum t_lastHeld t_lastLeft t_lastCode t_writtenLong t_codeMany t_acts t_done0 t_stoppedAt, ic E (r_t 19) 10 t_sign, ic E (r_t 18) 10 t_stage, bc E (r_t 2) 400 t_tape] H locs → lv_has ls 3 [(0, .ref h0), (1, .int a1)] → W p l e (hm_rr 2 43 0 0) s m args below meth c H locs 0 0 Q (F0 m 97 ls [.int x6, .int a1, .ref (r_t 19)]) := by
          intro x6 H locs ls hf w hl
          have hf := pf_j1 hJ97 hf
          obtain ⟨g97, hf⟩ := pf_ckI hf
          refine hm_iast (ws' := [oc8 h0 r_t t_base t_taped t_at t_faultPlace t_number t_newBits t_newTold t_newDoings t_newThings t_opened t_sum t_heldAll t_onPaper t_turned t_wasConverted t_lastBits t_lastSum t_lastHeld t_lastLeft t_lastCode t_writtenLong t_codeMany t_acts t_done0 t_stoppedAt, ic E (r_t 19) 10 (upd t_sign a1.toNatClampNeg x6), ic E (r_t 18) 10 t_stage, bc E (r_t 2) 400 t_tape]) hx hb X w 1 dX8_partsOn_97 rfl g97 rfl (fun H locs w => ?_)
          exact kJ98 _ _ _ _ hf w (lv_sub hl [0, 1] rfl)
        refine lv_icmp_ne (tgt := 94) hx hb dX8_partsOn_85 (by decide) (fun c85 => ?_) (fun c85 => ?_)
        · have hf := pf_e c85 hf
          refine lv_sipush (v := 10017) hx hb dX8_partsOn_94 (by decide) ?_
          exact kJ97 _ _ _ _ hf w (lv_sub hl [1, 2] rfl)
        · have hf := pf_t c85 hf
          refine lv_sipush (v := 10016) hx hb dX8_partsOn_88 (by decide) ?_
          refine lv_goto (tgt := 97) hx hb dX8_partsOn_91 (by decide) ?_
          exact kJ97 _ _ _ _ hf w (lv_sub hl [1, 2] rfl)
    · have hf := pf_t c53 hf
      refine lv_aload_n hx hb dX8_partsOn_56 rfl (lv_at hl 1 rfl) ?_
      refine lv_aload_n hx hb dX8_partsOn_57 rfl (lv_at hl 1 rfl) ?_
      refine hm_get cb_X8 hx hb hown X w 0 4 fl_X8_133 dX8_partsOn_58 rfl (by decide) rfl ?_
      obtain ⟨r7, x8, hc61, hf⟩ := pf_bi_1 hf
      refine hm_aft_i (ws' := fun _ => [oc8 h0 r_t t_base t_taped t_at x8 t_number t_newBits t_newTold t_newDoings t_newThings t_opened t_sum t_heldAll t_onPaper t_turned t_wasConverted t_lastBits t_lastSum t_lastHeld t_lastLeft t_lastCode t_writtenLong t_codeMany t_acts t_done0 t_stoppedAt, ic E (r_t 19) 10 t_sign, ic E (r_t 18) 10 t_stage, bc E (r_t 2) 400 t_tape]) (hm_runV (rest := []) hx hb hml hown X hA Y w 0 (ci := 7) (T := TX8) (N := 55) rfl rfl mw_X8_fails ml_X8_144 dX8_partsOn_61 hm_ac0 [.int t_at] rfl [0] rfl rfl (ct_X8_fails l E H.size h0 r_t t_base t_taped t_at t_faultPlace t_number t_newBits t_newTold t_newDoings t_newThings t_opened t_sum t_heldAll t_onPaper t_turned t_wasConverted t_lastBits t_lastSum t_lastHeld t_lastLeft t_lastCode t_writtenLong t_codeMany t_acts t_done0 t_stoppedAt t_at (r7, x8) hc61) rfl hl.1 ⟨⟨rfl, rfl⟩, ⟨Nat.le_of_ble_eq_true rfl, Nat.le_of_ble_eq_true rfl⟩, ⟨Nat.le_of_ble_eq_true rfl, Nat.le_of_ble_eq_true rfl⟩, Nat.le_of_ble_eq_true rfl⟩) hA w [0] [1, 2, 3] [3, 0, 1, 2] rfl rfl (by decide) (fun _ => rfl) (fun _ H locs w => ?_)
      obtain ⟨g64, hf⟩ := pf_ckZ hf
      exact hQ _ _ _ _ _ (t_at, x8, t_stage, t_sign) (fun _ => 0) hf (hm_z g64) w dX8_partsOn_64
  refine lv_if_ne (tgt := 22) hx hb dX8_partsOn_6 (by decide) (fun c6 => ?_) (fun c6 => ?_)
  · have hf := pf_e c6 hf
    refine lv_aload_n hx hb dX8_partsOn_22 rfl (lv_at hl 0 rfl) ?_
    obtain ⟨r9, hc23, hf⟩ := pf_bi_0 hf
    refine hm_aft_i (ws' := fun _ => [oc8 h0 r_t t_base t_taped t_at t_faultPlace t_number t_newBits t_newTold t_newDoings t_newThings t_opened t_sum t_heldAll t_onPaper t_turned t_wasConverted t_lastBits t_lastSum t_lastHeld t_lastLeft t_lastCode t_writtenLong t_codeMany t_acts t_done0 t_stoppedAt, ic E (r_t 19) 10 t_sign, ic E (r_t 18) 10 t_stage, bc E (r_t 2) 400 t_tape]) (hm_runV (rest := []) hx hb hml hown X hA Y w 0 (ci := 7) (T := TX8) (N := 55) rfl rfl mw_X8_here ml_X8_136 dX8_partsOn_23 hm_ac0 [] rfl [0, 3] rfl rfl (ct_X8_here l E H.size h0 r_t t_base t_taped t_at t_faultPlace t_number t_newBits t_newTold t_newDoings t_newThings t_opened t_sum t_heldAll t_onPaper t_turned t_wasConverted t_lastBits t_lastSum t_lastHeld t_lastLeft t_lastCode t_writtenLong t_codeMany t_acts t_done0 t_stoppedAt t_tape (r9, ()) hc23) rfl hl.1 ⟨⟨rfl, rfl⟩, ⟨Nat.le_of_ble_eq_true rfl, Nat.le_of_ble_eq_true rfl⟩, ⟨Nat.le_of_ble_eq_true rfl, Nat.le_of_ble_eq_true rfl⟩, Nat.le_of_ble_eq_true rfl⟩) hA w [0, 3] [1, 2] [2, 0, 1, 3] rfl rfl (by decide) (fun _ => rfl) (fun _ H locs w => ?_)
    refine lv_aload_n hx hb dX8_partsOn_26 rfl (lv_at hl 0 rfl) ?_
    refine hm_get cb_X8 hx hb hown X w 0 18 fl_X8_49 dX8_partsOn_27 rfl (by decide) rfl ?_
    refine lv_iload_n hx hb dX8_partsOn_30 rfl (lv_at hl 1 rfl) ?_
    obtain ⟨g31, hf⟩ := pf_ckI hf
    refine hm_iald hx hb X w 2 dX8_partsOn_31 rfl g31 ?_
    refine lv_iconst (v := 1) hx hb dX8_partsOn_32 (by decide) ?_
    obtain ⟨J43, hJ43, hf⟩ := pf_jn hf
    have kJ43 : ∀ (x10 : Int32) (H : Heap) (locs : List Loc) (ls : Array Slot), J43 x10 = some R → hm_W E A s.heap [oc8 h0 r_t t_base t_taped t_at t_faultPlace t_number t_newBits t_newTold t_newDoings t_newThings t_opened t_sum t_heldAll t_onPaper t_turned t_wasConverted t_lastBits t_lastSum t_lastHeld t_lastLeft t_lastCode t_writtenLong t_codeMany t_acts t_done0 t_stoppedAt, ic E (r_t 19) 10 t_sign, ic E (r_t 18) 10 t_stage, bc E (r_t 2) 400 t_tape] H locs → lv_has ls 3 [(0, .ref h0), (1, .int a1)] → W p l e (hm_rr 2 43 0 0) s m args below meth c H locs 0 0 Q (F0 m 43 ls [.int x10, .int r9]) := by
      intro x10 H locs ls hf w hl
      have hf := pf_j1 hJ43 hf
      refine lv_icmp_ne (tgt := 50) hx hb dX8_partsOn_43 (by decide) (fun c43 => ?_) (fun c43 => ?_)
      · have hf := pf_e c43 hf
        refine lv_iconst (v := 0) hx hb dX8_partsOn_50 (by decide) ?_
        exact kJ51 _ _ _ _ hf w (lv_sub hl [0, 1] rfl)
      · have hf := pf_t c43 hf
        refine lv_iconst (v := 1) hx hb dX8_partsOn_46 (by decide) ?_
        refine lv_goto (tgt := 51) hx hb dX8_partsOn_47 (by decide) ?_
        exact kJ51 _ _ _ _ hf w (lv_sub hl [0, 1] rfl)
    refine lv_icmp_ne (tgt := 41) hx hb dX8_partsOn_33 (by decide) (fun c33 => ?_) (fun c33 => ?_)
    · have hf := pf_e c33 hf
      refine lv_bipush (v := 58) hx hb dX8_partsOn_41 (by decide) ?_
      exact kJ43 _ _ _ _ hf w (lv_sub hl [0, 1] rfl)
    · have hf := pf_t c33 hf
      refine lv_bipush (v := 63) hx hb dX8_partsOn_36 (by decide) ?_
      refine lv_goto (tgt := 43) hx hb dX8_partsOn_38 (by decide) ?_
      exact kJ43 _ _ _ _ hf w (lv_sub hl [0, 1] rfl)
  · have hf := pf_t c6 hf
    refine lv_aload_n hx hb dX8_partsOn_9 rfl (lv_at hl 0 rfl) ?_
    refine lv_bipush (v := 60) hx hb dX8_partsOn_10 (by decide) ?_
    refine lv_bipush (v := 61) hx hb dX8_partsOn_12 (by decide) ?_
    refine lv_bipush (v := 60) hx hb dX8_partsOn_14 (by decide) ?_
    obtain ⟨r11, hc16, hf⟩ := pf_bi_0 hf
    refine hm_aft_i (ws' := fun _ => [oc8 h0 r_t t_base t_taped t_at t_faultPlace t_number t_newBits t_newTold t_newDoings t_newThings t_opened t_sum t_heldAll t_onPaper t_turned t_wasConverted t_lastBits t_lastSum t_lastHeld t_lastLeft t_lastCode t_writtenLong t_codeMany t_acts t_done0 t_stoppedAt, ic E (r_t 19) 10 t_sign, ic E (r_t 18) 10 t_stage, bc E (r_t 2) 400 t_tape]) (hm_runV (rest := []) hx hb hml hown X hA Y w 0 (ci := 7) (T := TX8) (N := 55) rfl rfl mw_X8_isOne ml_X8_206 dX8_partsOn_16 hm_ac0 [.int 60, .int 61, .int 60] rfl [0, 3] rfl rfl (ct_X8_isOne l E H.size h0 r_t t_base t_taped t_at t_faultPlace t_number t_newBits t_newTold t_newDoings t_newThings t_opened t_sum t_heldAll t_onPaper t_turned t_wasConverted t_lastBits t_lastSum t_lastHeld t_lastLeft t_lastCode t_writtenLong t_codeMany t_acts t_done0 t_stoppedAt t_tape 60 61 60 (r11, ()) hc16) rfl hl.1 ⟨⟨rfl, rfl⟩, ⟨Nat.le_of_ble_eq_true rfl, Nat.le_of_ble_eq_true rfl⟩, ⟨Nat.le_of_ble_eq_true rfl, Nat.le_of_ble_eq_true rfl⟩, Nat.le_of_ble_eq_true rfl⟩) hA w [0, 3] [1, 2] [2, 0, 1, 3] rfl rfl (by decide) (fun _ => rfl) (fun _ H locs w => ?_)
    refine lv_goto (tgt := 51) hx hb dX8_partsOn_19 (by decide) ?_
    exact kJ51 _ _ _ _ hf w (lv_sub hl [0, 1] rfl)
set_option maxHeartbeats 8000000 in
set_option maxRecDepth 100000 in
theorem ct_X8_goesOn (l : Launch) (E : hm_E) (sz : Nat) (h0 : Nat) (r_t : Nat → Nat) (t_base t_taped t_at t_faultPlace t_number t_newBits t_newTold t_newDoings t_newThings t_opened t_sum t_heldAll t_onPaper t_turned t_wasConverted t_lastBits t_lastSum t_lastHeld t_lastLeft t_lastCode t_writtenLong t_codeMany t_acts t_done0 t_stoppedAt : Int32) (t_newDoing : Nat → Int32) (t_open : Nat → Int32) (t_productSign : Nat → Int32) (t_sign : Nat → Int32) (t_stage : Nat → Int32) (t_sumSign : Nat → Int32) (t_tape : Nat → Int32) (R : Int32 × Int32 × Int32 × (Nat → Int32) × Int32 × (Nat → Int32) × (Nat → Int32) × (Nat → Int32) × (Nat → Int32) × Int32) (hf : pf_X8_goesOn t_tape t_taped t_at t_faultPlace t_newDoing t_newDoings t_open t_stage t_sign t_sumSign t_productSign t_opened = some R) : hm_Mi l E yX8_goesOn cX8_goesOn 2 .boolean [] (hm_rr 3 65 0 0) [.ref h0] sz [oc8 h0 r_t t_base t_taped t_at t_faultPlace t_number t_newBits t_newTold t_newDoings t_newThings t_opened t_sum t_heldAll t_onPaper t_turned t_wasConverted t_lastBits t_lastSum t_lastHeld t_lastLeft t_lastCode t_writtenLong t_codeMany t_acts t_done0 t_stoppedAt, ic E (r_t 14) 84 t_newDoing, ic E (r_t 17) 10 t_open, ic E (r_t 21) 10 t_productSign, ic E (r_t 19) 10 t_sign, ic E (r_t 18) 10 t_stage, ic E (r_t 20) 10 t_sumSign, bc E (r_t 2) 400 t_tape] R.1 (fun _ => [oc8 h0 r_t t_base t_taped (R.2.1) (R.2.2.1) t_number t_newBits t_newTold (R.2.2.2.2.1) t_newThings (R.2.2.2.2.2.2.2.2.2) t_sum t_heldAll t_onPaper t_turned t_wasConverted t_lastBits t_lastSum t_lastHeld t_lastLeft t_lastCode t_writtenLong t_codeMany t_acts t_done0 t_stoppedAt, ic E (r_t 14) 84 (R.2.2.2.1), ic E (r_t 17) 10 t_open, ic E (r_t 21) 10 (R.2.2.2.2.2.2.2.2.1), ic E (r_t 19) 10 (R.2.2.2.2.2.2.1), ic E (r_t 18) 10 (R.2.2.2.2.2.1), ic E (r_t 20) 10 (R.2.2.2.2.2.2.2.1), bc E (r_t 2) 400 t_tape]) := by
  refine hm_ct_i R (fun u qs => [oc8 h0 r_t t_base t_taped (u.1) (u.2.1) t_number t_newBits t_newTold (u.2.2.2.1) t_newThings (u.2.2.2.2.2.2.2.2) t_sum t_heldAll t_onPaper t_turned t_wasConverted t_lastBits t_lastSum t_lastHeld t_lastLeft t_lastCode t_writtenLong t_codeMany t_acts t_done0 t_stoppedAt, ic E (r_t 14) 84 (u.2.2.1), ic E (r_t 17) 10 t_open, ic E (r_t 21) 10 (u.2.2.2.2.2.2.2.1), ic E (r_t 19) 10 (u.2.2.2.2.2.1), ic E (r_t 18) 10 (u.2.2.2.2.1), ic E (r_t 20) 10 (u.2.2.2.2.2.2.1), bc E (r_t 2) 400 t_tape]) (by decide) (Nat.le_of_ble_eq_true rfl) (Or.inr rfl) ?_
  intro p e s m args below meth c A Q ls H locs hx hb hml hown X hA Y hex w hl hQ
  have hl : lv_has ls 2 [(0, .ref h0)] := hl
  unfold pf_X8_goesOn at hf
  obtain ⟨J175, hJ175, hf⟩ := pf_jn hf
  have kJ175 : ∀ (x1 : Int32) (f2 : Nat → Int32) (x3 : Int32) (f4 : Nat → Int32) (f5 : Nat → Int32) (x6 : Int32) (H : Heap) (locs : List Loc) (ls : Array Slot), J175 x1 f2 x3 f4 f5 x6 = some R → hm_W E A s.heap [oc8 h0 r_t t_base t_taped x1 t_faultPlace t_number t_newBits t_newTold x3 t_newThings x6 t_sum t_heldAll t_onPaper t_turned t_wasConverted t_lastBits t_lastSum t_lastHeld t_lastLeft t_lastCode t_writtenLong t_codeMany t_acts t_done0 t_stoppedAt, ic E (r_t 14) 84 f2, ic E (r_t 17) 10 t_open, ic E (r_t 21) 10 f5, ic E (r_t 19) 10 t_sign, ic E (r_t 18) 10 t_stage, ic E (r_t 20) 10 f4, bc E (r_t 2) 400 t_tape] H locs → lv_has ls 2 [(0, .ref h0)] → W p l e (hm_rr 3 65 0 0) s m args below meth c H locs 0 0 Q (F0 m 175 ls []) := by
    intro x1 f2 x3 f4 f5 x6 H locs ls hf w hl
    have hf := pf_j6 hJ175 hf
    refine lv_aload_n hx hb dX8_goesOn_175 rfl (lv_at hl 0 rfl) ?_
    refine hm_get cb_X8 hx hb hown X w 0 4 fl_X8_133 dX8_goesOn_176 rfl (by decide) rfl ?_
    refine lv_aload_n hx hb dX8_goesOn_179 rfl (lv_at hl 0 rfl) ?_
    refine hm_get cb_X8 hx hb hown X w 0 3 fl_X8_122 dX8_goesOn_180 rfl (by decide) rfl ?_
    refine lv_icmp_ge (tgt := 201) hx hb dX8_goesOn_183 (by decide) (fun c183 => ?_) (fun c183 => ?_)
    · have hf := pf_t c183 hf
      refine lv_iconst (v := 0) hx hb dX8_goesOn_201 (by decide) ?_
      exact hQ _ _ _ _ _ (x1, t_faultPlace, f2, x3, t_stage, t_sign, f4, f5, x6) (fun _ => 0) hf rfl w dX8_goesOn_202
    · have hf := pf_e c183 hf
      refine lv_aload_n hx hb dX8_goesOn_186 rfl (lv_at hl 0 rfl) ?_
      refine lv_aload_n hx hb dX8_goesOn_187 rfl (lv_at hl 0 rfl) ?_
      refine hm_get cb_X8 hx hb hown X w 0 4 fl_X8_133 dX8_goesOn_188 rfl (by decide) rfl ?_
      obtain ⟨r7, x8, hc191, hf⟩ := pf_bi_1 hf
      refine hm_aft_i (ws' := fun _ => [oc8 h0 r_t t_base t_taped x1 x8 t_number t_newBits t_newTold x3 t_newThings x6 t_sum t_heldAll t_onPaper t_turned t_wasConverted t_lastBits t_lastSum t_lastHeld t_lastLeft t_lastCode t_writtenLong t_codeMany t_acts t_done0 t_stoppedAt, ic E (r_t 14) 84 f2, ic E (r_t 17) 10 t_open, ic E (r_t 21) 10 f5, ic E (r_t 19) 10 t_sign, ic E (r_t 18) 10 t_stage, ic E (r_t 20) 10 f4, bc E (r_t 2) 400 t_tape]) (hm_runV (rest := []) hx hb hml hown X hA Y w 0 (ci := 7) (T := TX8) (N := 55) rfl rfl mw_X8_fails ml_X8_144 dX8_goesOn_191 hm_ac0 [.int x1] rfl [0] rfl rfl (ct_X8_fails l E H.size h0 r_t t_base t_taped x1 t_faultPlace t_number t_newBits t_newTold x3 t_newThings x6 t_sum t_heldAll t_onPaper t_turned t_wasConverted t_lastBits t_lastSum t_lastHeld t_lastLeft t_lastCode t_writtenLong t_codeMany t_acts t_done0 t_stoppedAt x1 (r7, x8) hc191) rfl hl.1 ⟨⟨rfl, rfl⟩, ⟨Nat.le_of_ble_eq_true rfl, Nat.le_of_ble_eq_true rfl⟩, ⟨Nat.le_of_ble_eq_true rfl, Nat.le_of_ble_eq_true rfl⟩, Nat.le_of_ble_eq_true rfl⟩) hA w [0] [1, 2, 3, 4, 5, 6, 7] [7, 0, 1, 2, 3, 4, 5, 6] rfl rfl (by decide) (fun _ => rfl) (fun _ H locs w => ?_)
      refine lv_if_eq (tgt := 201) hx hb dX8_goesOn_194 (by decide) (fun c194 => ?_) (fun c194 => ?_)
      · have hf := pf_t c194 hf
        refine lv_iconst (v := 0) hx hb dX8_goesOn_201 (by decide) ?_
        exact hQ _ _ _ _ _ (x1, x8, f2, x3, t_stage, t_sign, f4, f5, x6) (fun _ => 0) hf rfl w dX8_goesOn_202
      · have hf := pf_e c194 hf
        refine lv_iconst (v := 1) hx hb dX8_goesOn_197 (by decide) ?_
        refine lv_goto (tgt := 202) hx hb dX8_goesOn_198 (by decide) ?_
        exact hQ _ _ _ _ _ (x1, x8, f2, x3, t_stage, t_sign, f4, f5, x6) (fun _ => 0) hf rfl w dX8_goesOn_202
  obtain ⟨J144, hJ144, hf⟩ := pf_jn hf
  have kJ144 : ∀ (x9 : Int32) (x10 : Int32) (f11 : Nat → Int32) (x12 : Int32) (f13 : Nat → Int32) (f14 : Nat → Int32) (x15 : Int32) (H : Heap) (locs : List Loc) (ls : Array Slot), J144 x9 x10 f11 x12 f13 f14 x15 = some R → hm_W E A s.heap [oc8 h0 r_t t_base t_taped x10 t_faultPlace t_number t_newBits t_newTold x12 t_newThings x15 t_sum t_heldAll t_onPaper t_turned t_wasConverted t_lastBits t_lastSum t_lastHeld t_lastLeft t_lastCode t_writtenLong t_codeMany t_acts t_done0 t_stoppedAt, ic E (r_t 14) 84 f11, ic E (r_t 17) 10 t_open, ic E (r_t 21) 10 f14, ic E (r_t 19) 10 t_sign, ic E (r_t 18) 10 t_stage, ic E (r_t 20) 10 f13, bc E (r_t 2) 400 t_tape] H locs → lv_has ls 2 [(0, .ref h0), (1, .int x9)] → W p l e (hm_rr 3 65 0 0) s m args below meth c H locs 0 0 Q (F0 m 144 ls []) := by
    intro x9 x10 f11 x12 f13 f14 x15 H locs ls hf w hl
    have hf := pf_j7 hJ144 hf
    refine lv_aload_n hx hb dX8_goesOn_144 rfl (lv_at hl 0 rfl) ?_
    refine hm_get cb_X8 hx hb hown X w 0 20 fl_X8_55 dX8_goesOn_145 rfl (by decide) rfl ?_
    refine lv_iload_n hx hb dX8_goesOn_148 rfl (lv_at hl 1 rfl) ?_
    refine lv_aload_n hx hb dX8_goesOn_149 rfl (lv_at hl 0 rfl) ?_
    obtain ⟨r16, hc150, hf⟩ := pf_bi_0 hf
    refine hm_aft_i (ws' := fun _ => [oc8 h0 r_t t_base t_taped x10 t_faultPlace t_number t_newBits t_newTold x12 t_newThings x15 t_sum t_heldAll t_onPaper t_turned t_wasConverted t_lastBits t_lastSum t_lastHeld t_lastLeft t_lastCode t_writtenLong t_codeMany t_acts t_done0 t_stoppedAt, ic E (r_t 14) 84 f11, ic E (r_t 17) 10 t_open, ic E (r_t 21) 10 f14, ic E (r_t 19) 10 t_sign, ic E (r_t 18) 10 t_stage, ic E (r_t 20) 10 f13, bc E (r_t 2) 400 t_tape]) (hm_runV (rest := [.int x9, .ref (r_t 20)]) hx hb hml hown X hA Y w 0 (ci := 7) (T := TX8) (N := 55) rfl rfl mw_X8_here ml_X8_136 dX8_goesOn_150 hm_ac0 [] rfl [0, 7] rfl rfl (ct_X8_here l E H.size h0 r_t t_base t_taped x10 t_faultPlace t_number t_newBits t_newTold x12 t_newThings x15 t_sum t_heldAll t_onPaper t_turned t_wasConverted t_lastBits t_lastSum t_lastHeld t_lastLeft t_lastCode t_writtenLong t_codeMany t_acts t_done0 t_stoppedAt t_tape (r16, ()) hc150) rfl hl.1 ⟨⟨rfl, rfl⟩, ⟨Nat.le_of_ble_eq_true rfl, Nat.le_of_ble_eq_true rfl⟩, ⟨Nat.le_of_ble_eq_true rfl, Nat.le_of_ble_eq_true rfl⟩, Nat.le_of_ble_eq_true rfl⟩) hA w [0, 7] [1, 2, 3, 4, 5, 6] [6, 0, 1, 2, 3, 4, 5, 7] rfl rfl (by decide) (fun _ => rfl) (fun _ H locs w => ?_)
    obtain ⟨g153, hf⟩ := pf_ckI hf
    refine hm_iast (ws' := [oc8 h0 r_t t_base t_taped x10 t_faultPlace t_number t_newBits t_newTold x12 t_newThings x15 t_sum t_heldAll t_onPaper t_turned t_wasConverted t_lastBits t_lastSum t_lastHeld t_lastLeft t_lastCode t_writtenLong t_codeMany t_acts t_done0 t_stoppedAt, ic E (r_t 14) 84 f11, ic E (r_t 17) 10 t_open, ic E (r_t 21) 10 f14, ic E (r_t 19) 10 t_sign, ic E (r_t 18) 10 t_stage, ic E (r_t 20) 10 (upd f13 x9.toNatClampNeg r16), bc E (r_t 2) 400 t_tape]) hx hb X w 6 dX8_goesOn_153 rfl g153 rfl (fun H locs w => ?_)
    refine lv_aload_n hx hb dX8_goesOn_154 rfl (lv_at hl 0 rfl) ?_
    refine lv_dup hx hb dX8_goesOn_155 rfl ?_
    refine hm_get cb_X8 hx hb hown X w 0 4 fl_X8_133 dX8_goesOn_156 rfl (by decide) rfl ?_
    refine lv_iconst (v := 1) hx hb dX8_goesOn_159 (by decide) ?_
    refine lv_iadd hx hb dX8_goesOn_160 ?_
    refine lv_topi (fun x17 ex17 => ?_)
    have hf := pf_nm ex17 hf
    refine hm_put (ws' := [oc8 h0 r_t t_base t_taped x17 t_faultPlace t_number t_newBits t_newTold x12 t_newThings x15 t_sum t_heldAll t_onPaper t_turned t_wasConverted t_lastBits t_lastSum t_lastHeld t_lastLeft t_lastCode t_writtenLong t_codeMany t_acts t_done0 t_stoppedAt, ic E (r_t 14) 84 f11, ic E (r_t 17) 10 t_open, ic E (r_t 21) 10 f14, ic E (r_t 19) 10 t_sign, ic E (r_t 18) 10 t_stage, ic E (r_t 20) 10 (upd f13 x9.toNatClampNeg r16), bc E (r_t 2) 400 t_tape]) cb_X8 hx hb hown X w 0 4 fl_X8_133 dX8_goesOn_161 rfl (by decide) (Nat.le_of_ble_eq_true rfl) rfl rfl rfl rfl (fun H locs w => ?_)
    refine lv_iconst (v := 1) hx hb dX8_goesOn_164 (by decide) ?_
    exact hQ _ _ _ _ _ (x17, t_faultPlace, f11, x12, t_stage, t_sign, (upd f13 x9.toNatClampNeg r16), f14, x15) (fun _ => 0) hf rfl w dX8_goesOn_165
  obtain ⟨J80, hJ80, hf⟩ := pf_jn hf
  have kJ80 : ∀ (x18 : Int32) (x19 : Int32) (f20 : Nat → Int32) (x21 : Int32) (f22 : Nat → Int32) (f23 : Nat → Int32) (x24 : Int32) (H : Heap) (locs : List Loc) (ls : Array Slot), J80 x18 x19 f20 x21 f22 f23 x24 = some R → hm_W E A s.heap [oc8 h0 r_t t_base t_taped x19 t_faultPlace t_number t_newBits t_newTold x21 t_newThings x24 t_sum t_heldAll t_onPaper t_turned t_wasConverted t_lastBits t_lastSum t_lastHeld t_lastLeft t_lastCode t_writtenLong t_codeMany t_acts t_done0 t_stoppedAt, ic E (r_t 14) 84 f20, ic E (r_t 17) 10 t_open, ic E (r_t 21) 10 f23, ic E (r_t 19) 10 t_sign, ic E (r_t 18) 10 t_stage, ic E (r_t 20) 10 f22, bc E (r_t 2) 400 t_tape] H locs → lv_has ls 2 [(0, .ref h0), (1, .int x18)] → W p l e (hm_rr 3 65 0 0) s m args below meth c H locs 0 0 Q (F0 m 80 ls []) := by
    intro x18 x19 f20 x21 f22 f23 x24 H locs ls hf w hl
    have hf := pf_j7 hJ80 hf
    refine lv_aload_n hx hb dX8_goesOn_80 rfl (lv_at hl 0 rfl) ?_
    refine hm_get cb_X8 hx hb hown X w 0 21 fl_X8_58 dX8_goesOn_81 rfl (by decide) rfl ?_
    refine lv_iload_n hx hb dX8_goesOn_84 rfl (lv_at hl 1 rfl) ?_
    refine lv_aload_n hx hb dX8_goesOn_85 rfl (lv_at hl 0 rfl) ?_
    obtain ⟨r25, hc86, hf⟩ := pf_bi_0 hf
    refine hm_aft_i (ws' := fun _ => [oc8 h0 r_t t_base t_taped x19 t_faultPlace t_number t_newBits t_newTold x21 t_newThings x24 t_sum t_heldAll t_onPaper t_turned t_wasConverted t_lastBits t_lastSum t_lastHeld t_lastLeft t_lastCode t_writtenLong t_codeMany t_acts t_done0 t_stoppedAt, ic E (r_t 14) 84 f20, ic E (r_t 17) 10 t_open, ic E (r_t 21) 10 f23, ic E (r_t 19) 10 t_sign, ic E (r_t 18) 10 t_stage, ic E (r_t 20) 10 f22, bc E (r_t 2) 400 t_tape]) (hm_runV (rest := [.int x18, .ref (r_t 21)]) hx hb hml hown X hA Y w 0 (ci := 7) (T := TX8) (N := 55) rfl rfl mw_X8_here ml_X8_136 dX8_goesOn_86 hm_ac0 [] rfl [0, 7] rfl rfl (ct_X8_here l E H.size h0 r_t t_base t_taped x19 t_faultPlace t_number t_newBits t_newTold x21 t_newThings x24 t_sum t_heldAll t_onPaper t_turned t_wasConverted t_lastBits t_lastSum t_lastHeld t_lastLeft t_lastCode t_writtenLong t_codeMany t_acts t_done0 t_stoppedAt t_tape (r25, ()) hc86) rfl hl.1 ⟨⟨rfl, rfl⟩, ⟨Nat.le_of_ble_eq_true rfl, Nat.le_of_ble_eq_true rfl⟩, ⟨Nat.le_of_ble_eq_true rfl, Nat.le_of_ble_eq_true rfl⟩, Nat.le_of_ble_eq_true rfl⟩) hA w [0, 7] [1, 2, 3, 4, 5, 6] [6, 0, 1, 2, 3, 4, 5, 7] rfl rfl (by decide) (fun _ => rfl) (fun _ H locs w => ?_)
    obtain ⟨g89, hf⟩ := pf_ckI hf
    refine hm_iast (ws' := [oc8 h0 r_t t_base t_taped x19 t_faultPlace t_number t_newBits t_newTold x21 t_newThings x24 t_sum t_heldAll t_onPaper t_turned t_wasConverted t_lastBits t_lastSum t_lastHeld t_lastLeft t_lastCode t_writtenLong t_codeMany t_acts t_done0 t_stoppedAt, ic E (r_t 14) 84 f20, ic E (r_t 17) 10 t_open, ic E (r_t 21) 10 (upd f23 x18.toNatClampNeg r25), ic E (r_t 19) 10 t_sign, ic E (r_t 18) 10 t_stage, ic E (r_t 20) 10 f22, bc E (r_t 2) 400 t_tape]) hx hb X w 3 dX8_goesOn_89 rfl g89 rfl (fun H locs w => ?_)
    refine lv_aload_n hx hb dX8_goesOn_90 rfl (lv_at hl 0 rfl) ?_
    refine lv_dup hx hb dX8_goesOn_91 rfl ?_
    refine hm_get cb_X8 hx hb hown X w 0 4 fl_X8_133 dX8_goesOn_92 rfl (by decide) rfl ?_
    refine lv_iconst (v := 1) hx hb dX8_goesOn_95 (by decide) ?_
    refine lv_iadd hx hb dX8_goesOn_96 ?_
    refine lv_topi (fun x26 ex26 => ?_)
    have hf := pf_nm ex26 hf
    refine hm_put (ws' := [oc8 h0 r_t t_base t_taped x26 t_faultPlace t_number t_newBits t_newTold x21 t_newThings x24 t_sum t_heldAll t_onPaper t_turned t_wasConverted t_lastBits t_lastSum t_lastHeld t_lastLeft t_lastCode t_writtenLong t_codeMany t_acts t_done0 t_stoppedAt, ic E (r_t 14) 84 f20, ic E (r_t 17) 10 t_open, ic E (r_t 21) 10 (upd f23 x18.toNatClampNeg r25), ic E (r_t 19) 10 t_sign, ic E (r_t 18) 10 t_stage, ic E (r_t 20) 10 f22, bc E (r_t 2) 400 t_tape]) cb_X8 hx hb hown X w 0 4 fl_X8_133 dX8_goesOn_97 rfl (by decide) (Nat.le_of_ble_eq_true rfl) rfl rfl rfl rfl (fun H locs w => ?_)
    refine lv_iconst (v := 1) hx hb dX8_goesOn_100 (by decide) ?_
    exact hQ _ _ _ _ _ (x26, t_faultPlace, f20, x21, t_stage, t_sign, f22, (upd f23 x18.toNatClampNeg r25), x24) (fun _ => 0) hf rfl w dX8_goesOn_101
  have klp_X8_goesOn_0 : ∀ (n : Nat) (x27 : Int32) (f28 : Nat → Int32) (x29 : Int32) (f30 : Nat → Int32) (f31 : Nat → Int32) (x32 : Int32) (H : Heap) (locs : List Loc) (ls : Array Slot), lp_X8_goesOn_0 t_taped t_faultPlace t_open t_sign t_stage t_tape J175 J144 J80 n x27 f28 x29 f30 f31 x32 = some R → hm_W E A s.heap [oc8 h0 r_t t_base t_taped x27 t_faultPlace t_number t_newBits t_newTold x29 t_newThings x32 t_sum t_heldAll t_onPaper t_turned t_wasConverted t_lastBits t_lastSum t_lastHeld t_lastLeft t_lastCode t_writtenLong t_codeMany t_acts t_done0 t_stoppedAt, ic E (r_t 14) 84 f28, ic E (r_t 17) 10 t_open, ic E (r_t 21) 10 f31, ic E (r_t 19) 10 t_sign, ic E (r_t 18) 10 t_stage, ic E (r_t 20) 10 f30, bc E (r_t 2) 400 t_tape] H locs → lv_has ls 2 [(0, .ref h0)] → W p l e (hm_rr 3 65 0 0) s m args below meth c H locs 0 0 Q (F0 m 0 ls []) := by
    intro n
    induction n with
    | zero =>
      intro x27 f28 x29 f30 f31 x32 H locs ls hf w hl
      exact pf_no hf
    | succ n ih0 =>
      intro x27 f28 x29 f30 f31 x32 H locs ls hf w hl
      rw [lp_X8_goesOn_0] at hf
      refine lv_aload_n hx hb dX8_goesOn_0 rfl (lv_at hl 0 rfl) ?_
      refine hm_get cb_X8 hx hb hown X w 0 17 fl_X8_46 dX8_goesOn_1 rfl (by decide) rfl ?_
      refine lv_aload_n hx hb dX8_goesOn_4 rfl (lv_at hl 0 rfl) ?_
      refine hm_get cb_X8 hx hb hown X w 0 22 fl_X8_188 dX8_goesOn_5 rfl (by decide) rfl ?_
      obtain ⟨g8, hf⟩ := pf_ckI hf
      refine hm_iald hx hb X w 2 dX8_goesOn_8 rfl g8 ?_
      refine lv_iconst (v := 3) hx hb dX8_goesOn_9 (by decide) ?_
      refine lv_icmp_ne (tgt := 33) hx hb dX8_goesOn_10 (by decide) (fun c10 => ?_) (fun c10 => ?_)
      · have hf := pf_e c10 hf
        refine lv_aload_n hx hb dX8_goesOn_33 rfl (lv_at hl 0 rfl) ?_
        refine hm_get cb_X8 hx hb hown X w 0 22 fl_X8_188 dX8_goesOn_34 rfl (by decide) rfl ?_
        refine lv_istore_n (lv' := [(1, .int x32), (0, .ref h0)]) hx hb dX8_goesOn_37 rfl hl (by decide) rfl (fun ls hl => ?_)
        refine lv_aload_n hx hb dX8_goesOn_38 rfl (lv_at hl 1 rfl) ?_
        refine hm_get cb_X8 hx hb hown X w 0 21 fl_X8_58 dX8_goesOn_39 rfl (by decide) rfl ?_
        refine lv_iload_n hx hb dX8_goesOn_42 rfl (lv_at hl 0 rfl) ?_
        obtain ⟨g43, hf⟩ := pf_ckI hf
        refine hm_iald hx hb X w 3 dX8_goesOn_43 rfl g43 ?_
        obtain ⟨J60, hJ60, hf⟩ := pf_jn hf
        have kJ60 : ∀ (f33 : Nat → Int32) (x34 : Int32) (H : Heap) (locs : List Loc) (ls : Array Slot), J60 f33 x34 = some R → hm_W E A s.heap [oc8 h0 r_t t_base t_taped x27 t_faultPlace t_number t_newBits t_newTold x34 t_newThings x32 t_sum t_heldAll t_onPaper t_turned t_wasConverted t_lastBits t_lastSum t_lastHeld t_lastLeft t_lastCode t_writtenLong t_codeMany t_acts t_done0 t_stoppedAt, ic E (r_t 14) 84 f33, ic E (r_t 17) 10 t_open, ic E (r_t 21) 10 f31, ic E (r_t 19) 10 t_sign, ic E (r_t 18) 10 t_stage, ic E (r_t 20) 10 f30, bc E (r_t 2) 400 t_tape] H locs → lv_has ls 2 [(0, .ref h0), (1, .int x32)] → W p l e (hm_rr 3 65 0 0) s m args below meth c H locs 0 0 Q (F0 m 60 ls []) := by
          intro f33 x34 H locs ls hf w hl
          have hf := pf_j2 hJ60 hf
          refine lv_aload_n hx hb dX8_goesOn_60 rfl (lv_at hl 0 rfl) ?_
          refine hm_get cb_X8 hx hb hown X w 0 21 fl_X8_58 dX8_goesOn_61 rfl (by decide) rfl ?_
          refine lv_iload_n hx hb dX8_goesOn_64 rfl (lv_at hl 1 rfl) ?_
          refine lv_iconst (v := 0) hx hb dX8_goesOn_65 (by decide) ?_
          obtain ⟨g66, hf⟩ := pf_ckI hf
          refine hm_iast (ws' := [oc8 h0 r_t t_base t_taped x27 t_faultPlace t_number t_newBits t_newTold x34 t_newThings x32 t_sum t_heldAll t_onPaper t_turned t_wasConverted t_lastBits t_lastSum t_lastHeld t_lastLeft t_lastCode t_writtenLong t_codeMany t_acts t_done0 t_stoppedAt, ic E (r_t 14) 84 f33, ic E (r_t 17) 10 t_open, ic E (r_t 21) 10 (upd f31 x32.toNatClampNeg 0), ic E (r_t 19) 10 t_sign, ic E (r_t 18) 10 t_stage, ic E (r_t 20) 10 f30, bc E (r_t 2) 400 t_tape]) hx hb X w 3 dX8_goesOn_66 rfl g66 rfl (fun H locs w => ?_)
          refine lv_aload_n hx hb dX8_goesOn_67 rfl (lv_at hl 0 rfl) ?_
          refine lv_bipush (v := 42) hx hb dX8_goesOn_68 (by decide) ?_
          refine lv_bipush (v := 47) hx hb dX8_goesOn_70 (by decide) ?_
          refine lv_bipush (v := 37) hx hb dX8_goesOn_72 (by decide) ?_
          obtain ⟨r35, hc74, hf⟩ := pf_bi_0 hf
          refine hm_aft_i (ws' := fun _ => [oc8 h0 r_t t_base t_taped x27 t_faultPlace t_number t_newBits t_newTold x34 t_newThings x32 t_sum t_heldAll t_onPaper t_turned t_wasConverted t_lastBits t_lastSum t_lastHeld t_lastLeft t_lastCode t_writtenLong t_codeMany t_acts t_done0 t_stoppedAt, ic E (r_t 14) 84 f33, ic E (r_t 17) 10 t_open, ic E (r_t 21) 10 (upd f31 x32.toNatClampNeg 0), ic E (r_t 19) 10 t_sign, ic E (r_t 18) 10 t_stage, ic E (r_t 20) 10 f30, bc E (r_t 2) 400 t_tape]) (hm_runV (rest := []) hx hb hml hown X hA Y w 0 (ci := 7) (T := TX8) (N := 55) rfl rfl mw_X8_isOne ml_X8_206 dX8_goesOn_74 hm_ac0 [.int 42, .int 47, .int 37] rfl [0, 7] rfl rfl (ct_X8_isOne l E H.size h0 r_t t_base t_taped x27 t_faultPlace t_number t_newBits t_newTold x34 t_newThings x32 t_sum t_heldAll t_onPaper t_turned t_wasConverted t_lastBits t_lastSum t_lastHeld t_lastLeft t_lastCode t_writtenLong t_codeMany t_acts t_done0 t_stoppedAt t_tape 42 47 37 (r35, ()) hc74) rfl hl.1 ⟨⟨rfl, rfl⟩, ⟨Nat.le_of_ble_eq_true rfl, Nat.le_of_ble_eq_true rfl⟩, ⟨Nat.le_of_ble_eq_true rfl, Nat.le_of_ble_eq_true rfl⟩, Nat.le_of_ble_eq_true rfl⟩) hA w [0, 7] [1, 2, 3, 4, 5, 6] [6, 0, 1, 2, 3, 4, 5, 7] rfl rfl (by decide) (fun _ => rfl) (fun _ H locs w => ?_)
          refine lv_if_eq (tgt := 102) hx hb dX8_goesOn_77 (by decide) (fun c77 => ?_) (fun c77 => ?_)
          · have hf := pf_t c77 hf
            refine lv_aload_n hx hb dX8_goesOn_102 rfl (lv_at hl 0 rfl) ?_
            refine hm_get cb_X8 hx hb hown X w 0 20 fl_X8_55 dX8_goesOn_103 rfl (by decide) rfl ?_
            refine lv_iload_n hx hb dX8_goesOn_106 rfl (lv_at hl 1 rfl) ?_
            obtain ⟨g107, hf⟩ := pf_ckI hf
            refine hm_iald hx hb X w 6 dX8_goesOn_107 rfl g107 ?_
            obtain ⟨J124, hJ124, hf⟩ := pf_jn hf
            have kJ124 : ∀ (f36 : Nat → Int32) (x37 : Int32) (H : Heap) (locs : List Loc) (ls : Array Slot), J124 f36 x37 = some R → hm_W E A s.heap [oc8 h0 r_t t_base t_taped x27 t_faultPlace t_number t_newBits t_newTold x37 t_newThings x32 t_sum t_heldAll t_onPaper t_turned t_wasConverted t_lastBits t_lastSum t_lastHeld t_lastLeft t_lastCode t_writtenLong t_codeMany t_acts t_done0 t_stoppedAt, ic E (r_t 14) 84 f36, ic E (r_t 17) 10 t_open, ic E (r_t 21) 10 (upd f31 x32.toNatClampNeg 0), ic E (r_t 19) 10 t_sign, ic E (r_t 18) 10 t_stage, ic E (r_t 20) 10 f30, bc E (r_t 2) 400 t_tape] H locs → lv_has ls 2 [(0, .ref h0), (1, .int x32)] → W p l e (hm_rr 3 65 0 0) s m args below meth c H locs 0 0 Q (F0 m 124 ls []) := by
              intro f36 x37 H locs ls hf w hl
              have hf := pf_j2 hJ124 hf
              refine lv_aload_n hx hb dX8_goesOn_124 rfl (lv_at hl 0 rfl) ?_
              refine hm_get cb_X8 hx hb hown X w 0 20 fl_X8_55 dX8_goesOn_125 rfl (by decide) rfl ?_
              refine lv_iload_n hx hb dX8_goesOn_128 rfl (lv_at hl 1 rfl) ?_
              refine lv_iconst (v := 0) hx hb dX8_goesOn_129 (by decide) ?_
              obtain ⟨g130, hf⟩ := pf_ckI hf
              refine hm_iast (ws' := [oc8 h0 r_t t_base t_taped x27 t_faultPlace t_number t_newBits t_newTold x37 t_newThings x32 t_sum t_heldAll t_onPaper t_turned t_wasConverted t_lastBits t_lastSum t_lastHeld t_lastLeft t_lastCode t_writtenLong t_codeMany t_acts t_done0 t_stoppedAt, ic E (r_t 14) 84 f36, ic E (r_t 17) 10 t_open, ic E (r_t 21) 10 (upd f31 x32.toNatClampNeg 0), ic E (r_t 19) 10 t_sign, ic E (r_t 18) 10 t_stage, ic E (r_t 20) 10 (upd f30 x32.toNatClampNeg 0), bc E (r_t 2) 400 t_tape]) hx hb X w 6 dX8_goesOn_130 rfl g130 rfl (fun H locs w => ?_)
              refine lv_aload_n hx hb dX8_goesOn_131 rfl (lv_at hl 0 rfl) ?_
              refine lv_bipush (v := 43) hx hb dX8_goesOn_132 (by decide) ?_
              refine lv_bipush (v := 45) hx hb dX8_goesOn_134 (by decide) ?_
              refine lv_bipush (v := 43) hx hb dX8_goesOn_136 (by decide) ?_
              obtain ⟨r38, hc138, hf⟩ := pf_bi_0 hf
              refine hm_aft_i (ws' := fun _ => [oc8 h0 r_t t_base t_taped x27 t_faultPlace t_number t_newBits t_newTold x37 t_newThings x32 t_sum t_heldAll t_onPaper t_turned t_wasConverted t_lastBits t_lastSum t_lastHeld t_lastLeft t_lastCode t_writtenLong t_codeMany t_acts t_done0 t_stoppedAt, ic E (r_t 14) 84 f36, ic E (r_t 17) 10 t_open, ic E (r_t 21) 10 (upd f31 x32.toNatClampNeg 0), ic E (r_t 19) 10 t_sign, ic E (r_t 18) 10 t_stage, ic E (r_t 20) 10 (upd f30 x32.toNatClampNeg 0), bc E (r_t 2) 400 t_tape]) (hm_runV (rest := []) hx hb hml hown X hA Y w 0 (ci := 7) (T := TX8) (N := 55) rfl rfl mw_X8_isOne ml_X8_206 dX8_goesOn_138 hm_ac0 [.int 43, .int 45, .int 43] rfl [0, 7] rfl rfl (ct_X8_isOne l E H.size h0 r_t t_base t_taped x27 t_faultPlace t_number t_newBits t_newTold x37 t_newThings x32 t_sum t_heldAll t_onPaper t_turned t_wasConverted t_lastBits t_lastSum t_lastHeld t_lastLeft t_lastCode t_writtenLong t_codeMany t_acts t_done0 t_stoppedAt t_tape 43 45 43 (r38, ()) hc138) rfl hl.1 ⟨⟨rfl, rfl⟩, ⟨Nat.le_of_ble_eq_true rfl, Nat.le_of_ble_eq_true rfl⟩, ⟨Nat.le_of_ble_eq_true rfl, Nat.le_of_ble_eq_true rfl⟩, Nat.le_of_ble_eq_true rfl⟩) hA w [0, 7] [1, 2, 3, 4, 5, 6] [6, 0, 1, 2, 3, 4, 5, 7] rfl rfl (by decide) (fun _ => rfl) (fun _ H locs w => ?_)
              refine lv_if_eq (tgt := 166) hx hb dX8_goesOn_141 (by decide) (fun c141 => ?_) (fun c141 => ?_)
              · have hf := pf_t c141 hf
                refine lv_aload_n hx hb dX8_goesOn_166 rfl (lv_at hl 0 rfl) ?_
                refine hm_get cb_X8 hx hb hown X w 0 17 fl_X8_46 dX8_goesOn_167 rfl (by decide) rfl ?_
                refine lv_iload_n hx hb dX8_goesOn_170 rfl (lv_at hl 1 rfl) ?_
                obtain ⟨g171, hf⟩ := pf_ckI hf
                refine hm_iald hx hb X w 2 dX8_goesOn_171 rfl g171 ?_
                refine lv_if_ne (tgt := 203) hx hb dX8_goesOn_172 (by decide) (fun c172 => ?_) (fun c172 => ?_)
                · have hf := pf_e c172 hf
                  refine lv_aload_n hx hb dX8_goesOn_203 rfl (lv_at hl 0 rfl) ?_
                  refine hm_get cb_X8 hx hb hown X w 0 17 fl_X8_46 dX8_goesOn_204 rfl (by decide) rfl ?_
                  refine lv_iload_n hx hb dX8_goesOn_207 rfl (lv_at hl 1 rfl) ?_
                  obtain ⟨g208, hf⟩ := pf_ckI hf
                  refine hm_iald hx hb X w 2 dX8_goesOn_208 rfl g208 ?_
                  refine lv_iconst (v := 2) hx hb dX8_goesOn_209 (by decide) ?_
                  obtain ⟨J229, hJ229, hf⟩ := pf_jn hf
                  have kJ229 : ∀ (H : Heap) (locs : List Loc) (ls : Array Slot), J229 = some R → hm_W E A s.heap [oc8 h0 r_t t_base t_taped x27 t_faultPlace t_number t_newBits t_newTold x37 t_newThings x32 t_sum t_heldAll t_onPaper t_turned t_wasConverted t_lastBits t_lastSum t_lastHeld t_lastLeft t_lastCode t_writtenLong t_codeMany t_acts t_done0 t_stoppedAt, ic E (r_t 14) 84 f36, ic E (r_t 17) 10 t_open, ic E (r_t 21) 10 (upd f31 x32.toNatClampNeg 0), ic E (r_t 19) 10 t_sign, ic E (r_t 18) 10 t_stage, ic E (r_t 20) 10 (upd f30 x32.toNatClampNeg 0), bc E (r_t 2) 400 t_tape] H locs → lv_has ls 2 [(0, .ref h0), (1, .int x32)] → W p l e (hm_rr 3 65 0 0) s m args below meth c H locs 0 0 Q (F0 m 229 ls []) := by
                    intro H locs ls hf w hl
                    have hf := pf_j0 hJ229 hf
                    refine lv_aload_n hx hb dX8_goesOn_229 rfl (lv_at hl 0 rfl) ?_
                    obtain ⟨r39, hc230, hf⟩ := pf_bi_0 hf
                    refine hm_aft_i (ws' := fun _ => [oc8 h0 r_t t_base t_taped x27 t_faultPlace t_number t_newBits t_newTold x37 t_newThings x32 t_sum t_heldAll t_onPaper t_turned t_wasConverted t_lastBits t_lastSum t_lastHeld t_lastLeft t_lastCode t_writtenLong t_codeMany t_acts t_done0 t_stoppedAt, ic E (r_t 14) 84 f36, ic E (r_t 17) 10 t_open, ic E (r_t 21) 10 (upd f31 x32.toNatClampNeg 0), ic E (r_t 19) 10 t_sign, ic E (r_t 18) 10 t_stage, ic E (r_t 20) 10 (upd f30 x32.toNatClampNeg 0), bc E (r_t 2) 400 t_tape]) (hm_runV (rest := []) hx hb hml hown X hA Y w 0 (ci := 7) (T := TX8) (N := 55) rfl rfl mw_X8_here ml_X8_136 dX8_goesOn_230 hm_ac0 [] rfl [0, 7] rfl rfl (ct_X8_here l E H.size h0 r_t t_base t_taped x27 t_faultPlace t_number t_newBits t_newTold x37 t_newThings x32 t_sum t_heldAll t_onPaper t_turned t_wasConverted t_lastBits t_lastSum t_lastHeld t_lastLeft t_lastCode t_writtenLong t_codeMany t_acts t_done0 t_stoppedAt t_tape (r39, ()) hc230) rfl hl.1 ⟨⟨rfl, rfl⟩, ⟨Nat.le_of_ble_eq_true rfl, Nat.le_of_ble_eq_true rfl⟩, ⟨Nat.le_of_ble_eq_true rfl, Nat.le_of_ble_eq_true rfl⟩, Nat.le_of_ble_eq_true rfl⟩) hA w [0, 7] [1, 2, 3, 4, 5, 6] [6, 0, 1, 2, 3, 4, 5, 7] rfl rfl (by decide) (fun _ => rfl) (fun _ H locs w => ?_)
                    refine lv_aload_n hx hb dX8_goesOn_233 rfl (lv_at hl 0 rfl) ?_
                    refine hm_get cb_X8 hx hb hown X w 0 17 fl_X8_46 dX8_goesOn_234 rfl (by decide) rfl ?_
                    refine lv_iload_n hx hb dX8_goesOn_237 rfl (lv_at hl 1 rfl) ?_
                    obtain ⟨g238, hf⟩ := pf_ckI hf
                    refine hm_iald hx hb X w 2 dX8_goesOn_238 rfl g238 ?_
                    refine lv_iconst (v := 1) hx hb dX8_goesOn_239 (by decide) ?_
                    obtain ⟨J250, hJ250, hf⟩ := pf_jn hf
                    have kJ250 : ∀ (x40 : Int32) (H : Heap) (locs : List Loc) (ls : Array Slot), J250 x40 = some R → hm_W E A s.heap [oc8 h0 r_t t_base t_taped x27 t_faultPlace t_number t_newBits t_newTold x37 t_newThings x32 t_sum t_heldAll t_onPaper t_turned t_wasConverted t_lastBits t_lastSum t_lastHeld t_lastLeft t_lastCode t_writtenLong t_codeMany t_acts t_done0 t_stoppedAt, ic E (r_t 14) 84 f36, ic E (r_t 17) 10 t_open, ic E (r_t 21) 10 (upd f31 x32.toNatClampNeg 0), ic E (r_t 19) 10 t_sign, ic E (r_t 18) 10 t_stage, ic E (r_t 20) 10 (upd f30 x32.toNatClampNeg 0), bc E (r_t 2) 400 t_tape] H locs → lv_has ls 2 [(0, .ref h0), (1, .int x32)] → W p l e (hm_rr 3 65 0 0) s m args below meth c H locs 0 0 Q (F0 m 250 ls [.int x40, .int r39]) := by
                      intro x40 H locs ls hf w hl
                      have hf := pf_j1 hJ250 hf
                      refine lv_icmp_eq (tgt := 262) hx hb dX8_goesOn_250 (by decide) (fun c250 => ?_) (fun c250 => ?_)
                      · have hf := pf_t c250 hf
                        refine lv_aload_n hx hb dX8_goesOn_262 rfl (lv_at hl 0 rfl) ?_
                        refine lv_dup hx hb dX8_goesOn_263 rfl ?_
                        refine hm_get cb_X8 hx hb hown X w 0 4 fl_X8_133 dX8_goesOn_264 rfl (by decide) rfl ?_
                        refine lv_iconst (v := 1) hx hb dX8_goesOn_267 (by decide) ?_
                        refine lv_iadd hx hb dX8_goesOn_268 ?_
                        refine lv_topi (fun x41 ex41 => ?_)
                        have hf := pf_nm ex41 hf
                        refine hm_put (ws' := [oc8 h0 r_t t_base t_taped x41 t_faultPlace t_number t_newBits t_newTold x37 t_newThings x32 t_sum t_heldAll t_onPaper t_turned t_wasConverted t_lastBits t_lastSum t_lastHeld t_lastLeft t_lastCode t_writtenLong t_codeMany t_acts t_done0 t_stoppedAt, ic E (r_t 14) 84 f36, ic E (r_t 17) 10 t_open, ic E (r_t 21) 10 (upd f31 x32.toNatClampNeg 0), ic E (r_t 19) 10 t_sign, ic E (r_t 18) 10 t_stage, ic E (r_t 20) 10 (upd f30 x32.toNatClampNeg 0), bc E (r_t 2) 400 t_tape]) cb_X8 hx hb hown X w 0 4 fl_X8_133 dX8_goesOn_269 rfl (by decide) (Nat.le_of_ble_eq_true rfl) rfl rfl rfl rfl (fun H locs w => ?_)
                        refine lv_aload_n hx hb dX8_goesOn_272 rfl (lv_at hl 0 rfl) ?_
                        refine hm_get cb_X8 hx hb hown X w 0 17 fl_X8_46 dX8_goesOn_273 rfl (by decide) rfl ?_
                        refine lv_iload_n hx hb dX8_goesOn_276 rfl (lv_at hl 1 rfl) ?_
                        obtain ⟨g277, hf⟩ := pf_ckI hf
                        refine hm_iald hx hb X w 2 dX8_goesOn_277 rfl g277 ?_
                        refine lv_iconst (v := 2) hx hb dX8_goesOn_278 (by decide) ?_
                        obtain ⟨J292, hJ292, hf⟩ := pf_jn hf
                        have kJ292 : ∀ (f42 : Nat → Int32) (x43 : Int32) (H : Heap) (locs : List Loc) (ls : Array Slot), J292 f42 x43 = some R → hm_W E A s.heap [oc8 h0 r_t t_base t_taped x41 t_faultPlace t_number t_newBits t_newTold x43 t_newThings x32 t_sum t_heldAll t_onPaper t_turned t_wasConverted t_lastBits t_lastSum t_lastHeld t_lastLeft t_lastCode t_writtenLong t_codeMany t_acts t_done0 t_stoppedAt, ic E (r_t 14) 84 f42, ic E (r_t 17) 10 t_open, ic E (r_t 21) 10 (upd f31 x32.toNatClampNeg 0), ic E (r_t 19) 10 t_sign, ic E (r_t 18) 10 t_stage, ic E (r_t 20) 10 (upd f30 x32.toNatClampNeg 0), bc E (r_t 2) 400 t_tape] H locs → lv_has ls 2 [(0, .ref h0)] → W p l e (hm_rr 3 65 0 0) s m args below meth c H locs 0 0 Q (F0 m 292 ls []) := by
                          intro f42 x43 H locs ls hf w hl
                          have hf := pf_j2 hJ292 hf
                          refine lv_aload_n hx hb dX8_goesOn_292 rfl (lv_at hl 0 rfl) ?_
                          refine lv_dup hx hb dX8_goesOn_293 rfl ?_
                          refine hm_get cb_X8 hx hb hown X w 0 22 fl_X8_188 dX8_goesOn_294 rfl (by decide) rfl ?_
                          refine lv_iconst (v := 1) hx hb dX8_goesOn_297 (by decide) ?_
                          refine lv_isub hx hb dX8_goesOn_298 ?_
                          refine lv_topi (fun x44 ex44 => ?_)
                          have hf := pf_nm ex44 hf
                          refine hm_put (ws' := [oc8 h0 r_t t_base t_taped x41 t_faultPlace t_number t_newBits t_newTold x43 t_newThings x44 t_sum t_heldAll t_onPaper t_turned t_wasConverted t_lastBits t_lastSum t_lastHeld t_lastLeft t_lastCode t_writtenLong t_codeMany t_acts t_done0 t_stoppedAt, ic E (r_t 14) 84 f42, ic E (r_t 17) 10 t_open, ic E (r_t 21) 10 (upd f31 x32.toNatClampNeg 0), ic E (r_t 19) 10 t_sign, ic E (r_t 18) 10 t_stage, ic E (r_t 20) 10 (upd f30 x32.toNatClampNeg 0), bc E (r_t 2) 400 t_tape]) cb_X8 hx hb hown X w 0 22 fl_X8_188 dX8_goesOn_299 rfl (by decide) (Nat.le_of_ble_eq_true rfl) rfl rfl rfl rfl (fun H locs w => ?_)
                          refine lv_goto (tgt := 0) hx hb dX8_goesOn_302 (by decide) ?_
                          exact ih0 _ _ _ _ _ _ _ _ _ hf w (lv_sub hl [0] rfl)
                        refine lv_icmp_ne (tgt := 292) hx hb dX8_goesOn_279 (by decide) (fun c279 => ?_) (fun c279 => ?_)
                        · have hf := pf_e c279 hf
                          exact kJ292 _ _ _ _ _ hf w (lv_sub hl [0] rfl)
                        · have hf := pf_t c279 hf
                          refine lv_aload_n hx hb dX8_goesOn_282 rfl (lv_at hl 0 rfl) ?_
                          refine lv_aload_n hx hb dX8_goesOn_283 rfl (lv_at hl 0 rfl) ?_
                          refine hm_get cb_X8 hx hb hown X w 0 19 fl_X8_52 dX8_goesOn_284 rfl (by decide) rfl ?_
                          refine lv_iload_n hx hb dX8_goesOn_287 rfl (lv_at hl 1 rfl) ?_
                          obtain ⟨g288, hf⟩ := pf_ckI hf
                          refine hm_iald hx hb X w 4 dX8_goesOn_288 rfl g288 ?_
                          obtain ⟨f45, x46, hc289, hf⟩ := pf_bv_2 hf
                          refine hm_aft_v (ws' := fun _ => [oc8 h0 r_t t_base t_taped x41 t_faultPlace t_number t_newBits t_newTold x46 t_newThings x32 t_sum t_heldAll t_onPaper t_turned t_wasConverted t_lastBits t_lastSum t_lastHeld t_lastLeft t_lastCode t_writtenLong t_codeMany t_acts t_done0 t_stoppedAt, ic E (r_t 14) 84 f45, ic E (r_t 17) 10 t_open, ic E (r_t 21) 10 (upd f31 x32.toNatClampNeg 0), ic E (r_t 19) 10 t_sign, ic E (r_t 18) 10 t_stage, ic E (r_t 20) 10 (upd f30 x32.toNatClampNeg 0), bc E (r_t 2) 400 t_tape]) (hm_runV (rest := []) hx hb hml hown X hA Y w 0 (ci := 7) (T := TX8) (N := 55) rfl rfl mw_X8_does ml_X8_197 dX8_goesOn_289 hm_ac0 [.int (t_sign x32.toNatClampNeg)] rfl [0, 1] rfl rfl (ct_X8_does l E H.size h0 r_t t_base t_taped x41 t_faultPlace t_number t_newBits t_newTold x37 t_newThings x32 t_sum t_heldAll t_onPaper t_turned t_wasConverted t_lastBits t_lastSum t_lastHeld t_lastLeft t_lastCode t_writtenLong t_codeMany t_acts t_done0 t_stoppedAt f36 (t_sign x32.toNatClampNeg) (f45, x46) hc289) rfl hl.1 ⟨⟨rfl, rfl⟩, ⟨Nat.le_of_ble_eq_true rfl, Nat.le_of_ble_eq_true rfl⟩, ⟨Nat.le_of_ble_eq_true rfl, Nat.le_of_ble_eq_true rfl⟩, Nat.le_of_ble_eq_true rfl⟩) hA w [0, 1] [2, 3, 4, 5, 6, 7] [6, 7, 0, 1, 2, 3, 4, 5] rfl rfl (by decide) (fun _ => rfl) (fun _ H locs w => ?_)
                          exact kJ292 _ _ _ _ _ hf w (lv_sub hl [0] rfl)
                      · have hf := pf_e c250 hf
                        refine lv_aload_n hx hb dX8_goesOn_253 rfl (lv_at hl 0 rfl) ?_
                        refine lv_aload_n hx hb dX8_goesOn_254 rfl (lv_at hl 0 rfl) ?_
                        refine hm_get cb_X8 hx hb hown X w 0 4 fl_X8_133 dX8_goesOn_255 rfl (by decide) rfl ?_
                        obtain ⟨r47, x48, hc258, hf⟩ := pf_bi_1 hf
                        refine hm_aft_i (ws' := fun _ => [oc8 h0 r_t t_base t_taped x27 x48 t_number t_newBits t_newTold x37 t_newThings x32 t_sum t_heldAll t_onPaper t_turned t_wasConverted t_lastBits t_lastSum t_lastHeld t_lastLeft t_lastCode t_writtenLong t_codeMany t_acts t_done0 t_stoppedAt, ic E (r_t 14) 84 f36, ic E (r_t 17) 10 t_open, ic E (r_t 21) 10 (upd f31 x32.toNatClampNeg 0), ic E (r_t 19) 10 t_sign, ic E (r_t 18) 10 t_stage, ic E (r_t 20) 10 (upd f30 x32.toNatClampNeg 0), bc E (r_t 2) 400 t_tape]) (hm_runV (rest := []) hx hb hml hown X hA Y w 0 (ci := 7) (T := TX8) (N := 55) rfl rfl mw_X8_fails ml_X8_144 dX8_goesOn_258 hm_ac0 [.int x27] rfl [0] rfl rfl (ct_X8_fails l E H.size h0 r_t t_base t_taped x27 t_faultPlace t_number t_newBits t_newTold x37 t_newThings x32 t_sum t_heldAll t_onPaper t_turned t_wasConverted t_lastBits t_lastSum t_lastHeld t_lastLeft t_lastCode t_writtenLong t_codeMany t_acts t_done0 t_stoppedAt x27 (r47, x48) hc258) rfl hl.1 ⟨⟨rfl, rfl⟩, ⟨Nat.le_of_ble_eq_true rfl, Nat.le_of_ble_eq_true rfl⟩, ⟨Nat.le_of_ble_eq_true rfl, Nat.le_of_ble_eq_true rfl⟩, Nat.le_of_ble_eq_true rfl⟩) hA w [0] [1, 2, 3, 4, 5, 6, 7] [7, 0, 1, 2, 3, 4, 5, 6] rfl rfl (by decide) (fun _ => rfl) (fun _ H locs w => ?_)
                        obtain ⟨g261, hf⟩ := pf_ckZ hf
                        exact hQ _ _ _ _ _ (x27, x48, f36, x37, t_stage, t_sign, (upd f30 x32.toNatClampNeg 0), (upd f31 x32.toNatClampNeg 0), x32) (fun _ => 0) hf (hm_z g261) w dX8_goesOn_261
                    refine lv_icmp_ne (tgt := 248) hx hb dX8_goesOn_240 (by decide) (fun c240 => ?_) (fun c240 => ?_)
                    · have hf := pf_e c240 hf
                      refine lv_bipush (v := 93) hx hb dX8_goesOn_248 (by decide) ?_
                      exact kJ250 _ _ _ _ hf w (lv_sub hl [0, 1] rfl)
                    · have hf := pf_t c240 hf
                      refine lv_bipush (v := 41) hx hb dX8_goesOn_243 (by decide) ?_
                      refine lv_goto (tgt := 250) hx hb dX8_goesOn_245 (by decide) ?_
                      exact kJ250 _ _ _ _ hf w (lv_sub hl [0, 1] rfl)
                  refine lv_icmp_ne (tgt := 229) hx hb dX8_goesOn_210 (by decide) (fun c210 => ?_) (fun c210 => ?_)
                  · have hf := pf_e c210 hf
                    exact kJ229 _ _ _ hf w (lv_sub hl [0, 1] rfl)
                  · have hf := pf_t c210 hf
                    refine lv_aload_n hx hb dX8_goesOn_213 rfl (lv_at hl 0 rfl) ?_
                    refine hm_get cb_X8 hx hb hown X w 0 18 fl_X8_49 dX8_goesOn_214 rfl (by decide) rfl ?_
                    refine lv_iload_n hx hb dX8_goesOn_217 rfl (lv_at hl 1 rfl) ?_
                    obtain ⟨g218, hf⟩ := pf_ckI hf
                    refine hm_iald hx hb X w 5 dX8_goesOn_218 rfl g218 ?_
                    refine lv_iconst (v := 3) hx hb dX8_goesOn_219 (by decide) ?_
                    refine lv_icmp_ge (tgt := 229) hx hb dX8_goesOn_220 (by decide) (fun c220 => ?_) (fun c220 => ?_)
                    · have hf := pf_t c220 hf
                      exact kJ229 _ _ _ hf w (lv_sub hl [0, 1] rfl)
                    · have hf := pf_e c220 hf
                      refine lv_aload_n hx hb dX8_goesOn_223 rfl (lv_at hl 0 rfl) ?_
                      refine lv_iload_n hx hb dX8_goesOn_224 rfl (lv_at hl 1 rfl) ?_
                      obtain ⟨r49, x50, x51, f52, f53, hc225, hf⟩ := pf_bi_4 hf
                      refine hm_aft_i (ws' := fun _ => [oc8 h0 r_t t_base t_taped x50 x51 t_number t_newBits t_newTold x37 t_newThings x32 t_sum t_heldAll t_onPaper t_turned t_wasConverted t_lastBits t_lastSum t_lastHeld t_lastLeft t_lastCode t_writtenLong t_codeMany t_acts t_done0 t_stoppedAt, ic E (r_t 14) 84 f36, ic E (r_t 17) 10 t_open, ic E (r_t 21) 10 (upd f31 x32.toNatClampNeg 0), ic E (r_t 19) 10 f53, ic E (r_t 18) 10 f52, ic E (r_t 20) 10 (upd f30 x32.toNatClampNeg 0), bc E (r_t 2) 400 t_tape]) (hm_runV (rest := []) hx hb hml hown X hA Y w 0 (ci := 7) (T := TX8) (N := 55) rfl rfl mw_X8_partsOn ml_X8_209 dX8_goesOn_225 hm_ac0 [.int x32] rfl [0, 4, 5, 7] rfl rfl (ct_X8_partsOn l E H.size h0 r_t t_base t_taped x27 t_faultPlace t_number t_newBits t_newTold x37 t_newThings x32 t_sum t_heldAll t_onPaper t_turned t_wasConverted t_lastBits t_lastSum t_lastHeld t_lastLeft t_lastCode t_writtenLong t_codeMany t_acts t_done0 t_stoppedAt t_sign t_stage t_tape x32 (r49, x50, x51, f52, f53) hc225) rfl hl.1 ⟨⟨rfl, rfl⟩, ⟨Nat.le_of_ble_eq_true rfl, Nat.le_of_ble_eq_true rfl⟩, ⟨Nat.le_of_ble_eq_true rfl, Nat.le_of_ble_eq_true rfl⟩, Nat.le_of_ble_eq_true rfl⟩) hA w [0, 4, 5, 7] [1, 2, 3, 6] [4, 0, 1, 2, 5, 6, 3, 7] rfl rfl (by decide) (fun _ => rfl) (fun _ H locs w => ?_)
                      obtain ⟨g228, hf⟩ := pf_ckZ hf
                      exact hQ _ _ _ _ _ (x50, x51, f36, x37, f52, f53, (upd f30 x32.toNatClampNeg 0), (upd f31 x32.toNatClampNeg 0), x32) (fun _ => 0) hf (hm_z g228) w dX8_goesOn_228
                · have hf := pf_t c172 hf
                  exact kJ175 _ _ _ _ _ _ _ _ _ hf w (lv_sub hl [0] rfl)
              · have hf := pf_e c141 hf
                exact kJ144 _ _ _ _ _ _ _ _ _ _ hf w (lv_sub hl [0, 1] rfl)
            refine lv_if_eq (tgt := 124) hx hb dX8_goesOn_108 (by decide) (fun c108 => ?_) (fun c108 => ?_)
            · have hf := pf_t c108 hf
              exact kJ124 _ _ _ _ _ hf w (lv_sub hl [0, 1] rfl)
            · have hf := pf_e c108 hf
              refine lv_aload_n hx hb dX8_goesOn_111 rfl (lv_at hl 0 rfl) ?_
              refine lv_aload_n hx hb dX8_goesOn_112 rfl (lv_at hl 0 rfl) ?_
              refine hm_get cb_X8 hx hb hown X w 0 20 fl_X8_55 dX8_goesOn_113 rfl (by decide) rfl ?_
              refine lv_iload_n hx hb dX8_goesOn_116 rfl (lv_at hl 1 rfl) ?_
              obtain ⟨g117, hf⟩ := pf_ckI hf
              refine hm_iald hx hb X w 6 dX8_goesOn_117 rfl g117 ?_
              obtain ⟨r54, hc118, hf⟩ := pf_bi_0 hf
              refine hm_aft_i (ws' := fun _ => [oc8 h0 r_t t_base t_taped x27 t_faultPlace t_number t_newBits t_newTold x34 t_newThings x32 t_sum t_heldAll t_onPaper t_turned t_wasConverted t_lastBits t_lastSum t_lastHeld t_lastLeft t_lastCode t_writtenLong t_codeMany t_acts t_done0 t_stoppedAt, ic E (r_t 14) 84 f33, ic E (r_t 17) 10 t_open, ic E (r_t 21) 10 (upd f31 x32.toNatClampNeg 0), ic E (r_t 19) 10 t_sign, ic E (r_t 18) 10 t_stage, ic E (r_t 20) 10 f30, bc E (r_t 2) 400 t_tape]) (hm_runS (rest := [.ref h0]) hx hb hml hown X hA Y w mw_X8_doingOf ml_X8_203 dX8_goesOn_118 hm_ac0 [.int (f30 x32.toNatClampNeg)] rfl [] rfl rfl (ct_X8_doingOf l E H.size (f30 x32.toNatClampNeg) (r54, ()) hc118) rfl hl.1 ⟨⟨rfl, rfl⟩, ⟨Nat.le_of_ble_eq_true rfl, Nat.le_of_ble_eq_true rfl⟩, ⟨Nat.le_of_ble_eq_true rfl, Nat.le_of_ble_eq_true rfl⟩, Nat.le_of_ble_eq_true rfl⟩) hA w [] [0, 1, 2, 3, 4, 5, 6, 7] [0, 1, 2, 3, 4, 5, 6, 7] rfl rfl (by decide) (fun _ => rfl) (fun _ H locs w => ?_)
              obtain ⟨f55, x56, hc121, hf⟩ := pf_bv_2 hf
              refine hm_aft_v (ws' := fun _ => [oc8 h0 r_t t_base t_taped x27 t_faultPlace t_number t_newBits t_newTold x56 t_newThings x32 t_sum t_heldAll t_onPaper t_turned t_wasConverted t_lastBits t_lastSum t_lastHeld t_lastLeft t_lastCode t_writtenLong t_codeMany t_acts t_done0 t_stoppedAt, ic E (r_t 14) 84 f55, ic E (r_t 17) 10 t_open, ic E (r_t 21) 10 (upd f31 x32.toNatClampNeg 0), ic E (r_t 19) 10 t_sign, ic E (r_t 18) 10 t_stage, ic E (r_t 20) 10 f30, bc E (r_t 2) 400 t_tape]) (hm_runV (rest := []) hx hb hml hown X hA Y w 0 (ci := 7) (T := TX8) (N := 55) rfl rfl mw_X8_does ml_X8_197 dX8_goesOn_121 hm_ac0 [.int r54] rfl [0, 1] rfl rfl (ct_X8_does l E H.size h0 r_t t_base t_taped x27 t_faultPlace t_number t_newBits t_newTold x34 t_newThings x32 t_sum t_heldAll t_onPaper t_turned t_wasConverted t_lastBits t_lastSum t_lastHeld t_lastLeft t_lastCode t_writtenLong t_codeMany t_acts t_done0 t_stoppedAt f33 r54 (f55, x56) hc121) rfl hl.1 ⟨⟨rfl, rfl⟩, ⟨Nat.le_of_ble_eq_true rfl, Nat.le_of_ble_eq_true rfl⟩, ⟨Nat.le_of_ble_eq_true rfl, Nat.le_of_ble_eq_true rfl⟩, Nat.le_of_ble_eq_true rfl⟩) hA w [0, 1] [2, 3, 4, 5, 6, 7] [6, 7, 0, 1, 2, 3, 4, 5] rfl rfl (by decide) (fun _ => rfl) (fun _ H locs w => ?_)
              exact kJ124 _ _ _ _ _ hf w (lv_sub hl [0, 1] rfl)
          · have hf := pf_e c77 hf
            exact kJ80 _ _ _ _ _ _ _ _ _ _ hf w (lv_sub hl [0, 1] rfl)
        refine lv_if_eq (tgt := 60) hx hb dX8_goesOn_44 (by decide) (fun c44 => ?_) (fun c44 => ?_)
        · have hf := pf_t c44 hf
          exact kJ60 _ _ _ _ _ hf w (lv_sub hl [1, 0] rfl)
        · have hf := pf_e c44 hf
          refine lv_aload_n hx hb dX8_goesOn_47 rfl (lv_at hl 1 rfl) ?_
          refine lv_aload_n hx hb dX8_goesOn_48 rfl (lv_at hl 1 rfl) ?_
          refine hm_get cb_X8 hx hb hown X w 0 21 fl_X8_58 dX8_goesOn_49 rfl (by decide) rfl ?_
          refine lv_iload_n hx hb dX8_goesOn_52 rfl (lv_at hl 0 rfl) ?_
          obtain ⟨g53, hf⟩ := pf_ckI hf
          refine hm_iald hx hb X w 3 dX8_goesOn_53 rfl g53 ?_
          obtain ⟨r57, hc54, hf⟩ := pf_bi_0 hf
          refine hm_aft_i (ws' := fun _ => [oc8 h0 r_t t_base t_taped x27 t_faultPlace t_number t_newBits t_newTold x29 t_newThings x32 t_sum t_heldAll t_onPaper t_turned t_wasConverted t_lastBits t_lastSum t_lastHeld t_lastLeft t_lastCode t_writtenLong t_codeMany t_acts t_done0 t_stoppedAt, ic E (r_t 14) 84 f28, ic E (r_t 17) 10 t_open, ic E (r_t 21) 10 f31, ic E (r_t 19) 10 t_sign, ic E (r_t 18) 10 t_stage, ic E (r_t 20) 10 f30, bc E (r_t 2) 400 t_tape]) (hm_runS (rest := [.ref h0]) hx hb hml hown X hA Y w mw_X8_doingOf ml_X8_203 dX8_goesOn_54 hm_ac0 [.int (f31 x32.toNatClampNeg)] rfl [] rfl rfl (ct_X8_doingOf l E H.size (f31 x32.toNatClampNeg) (r57, ()) hc54) rfl hl.1 ⟨⟨rfl, rfl⟩, ⟨Nat.le_of_ble_eq_true rfl, Nat.le_of_ble_eq_true rfl⟩, ⟨Nat.le_of_ble_eq_true rfl, Nat.le_of_ble_eq_true rfl⟩, Nat.le_of_ble_eq_true rfl⟩) hA w [] [0, 1, 2, 3, 4, 5, 6, 7] [0, 1, 2, 3, 4, 5, 6, 7] rfl rfl (by decide) (fun _ => rfl) (fun _ H locs w => ?_)
          obtain ⟨f58, x59, hc57, hf⟩ := pf_bv_2 hf
          refine hm_aft_v (ws' := fun _ => [oc8 h0 r_t t_base t_taped x27 t_faultPlace t_number t_newBits t_newTold x59 t_newThings x32 t_sum t_heldAll t_onPaper t_turned t_wasConverted t_lastBits t_lastSum t_lastHeld t_lastLeft t_lastCode t_writtenLong t_codeMany t_acts t_done0 t_stoppedAt, ic E (r_t 14) 84 f58, ic E (r_t 17) 10 t_open, ic E (r_t 21) 10 f31, ic E (r_t 19) 10 t_sign, ic E (r_t 18) 10 t_stage, ic E (r_t 20) 10 f30, bc E (r_t 2) 400 t_tape]) (hm_runV (rest := []) hx hb hml hown X hA Y w 0 (ci := 7) (T := TX8) (N := 55) rfl rfl mw_X8_does ml_X8_197 dX8_goesOn_57 hm_ac0 [.int r57] rfl [0, 1] rfl rfl (ct_X8_does l E H.size h0 r_t t_base t_taped x27 t_faultPlace t_number t_newBits t_newTold x29 t_newThings x32 t_sum t_heldAll t_onPaper t_turned t_wasConverted t_lastBits t_lastSum t_lastHeld t_lastLeft t_lastCode t_writtenLong t_codeMany t_acts t_done0 t_stoppedAt f28 r57 (f58, x59) hc57) rfl hl.1 ⟨⟨rfl, rfl⟩, ⟨Nat.le_of_ble_eq_true rfl, Nat.le_of_ble_eq_true rfl⟩, ⟨Nat.le_of_ble_eq_true rfl, Nat.le_of_ble_eq_true rfl⟩, Nat.le_of_ble_eq_true rfl⟩) hA w [0, 1] [2, 3, 4, 5, 6, 7] [6, 7, 0, 1, 2, 3, 4, 5] rfl rfl (by decide) (fun _ => rfl) (fun _ H locs w => ?_)
          exact kJ60 _ _ _ _ _ hf w (lv_sub hl [1, 0] rfl)
      · have hf := pf_t c10 hf
        refine lv_aload_n hx hb dX8_goesOn_13 rfl (lv_at hl 0 rfl) ?_
        refine lv_sipush (v := 10015) hx hb dX8_goesOn_14 (by decide) ?_
        obtain ⟨f60, x61, hc17, hf⟩ := pf_bv_2 hf
        refine hm_aft_v (ws' := fun _ => [oc8 h0 r_t t_base t_taped x27 t_faultPlace t_number t_newBits t_newTold x61 t_newThings x32 t_sum t_heldAll t_onPaper t_turned t_wasConverted t_lastBits t_lastSum t_lastHeld t_lastLeft t_lastCode t_writtenLong t_codeMany t_acts t_done0 t_stoppedAt, ic E (r_t 14) 84 f60, ic E (r_t 17) 10 t_open, ic E (r_t 21) 10 f31, ic E (r_t 19) 10 t_sign, ic E (r_t 18) 10 t_stage, ic E (r_t 20) 10 f30, bc E (r_t 2) 400 t_tape]) (hm_runV (rest := []) hx hb hml hown X hA Y w 0 (ci := 7) (T := TX8) (N := 55) rfl rfl mw_X8_does ml_X8_197 dX8_goesOn_17 hm_ac0 [.int 10015] rfl [0, 1] rfl rfl (ct_X8_does l E H.size h0 r_t t_base t_taped x27 t_faultPlace t_number t_newBits t_newTold x29 t_newThings x32 t_sum t_heldAll t_onPaper t_turned t_wasConverted t_lastBits t_lastSum t_lastHeld t_lastLeft t_lastCode t_writtenLong t_codeMany t_acts t_done0 t_stoppedAt f28 10015 (f60, x61) hc17) rfl hl.1 ⟨⟨rfl, rfl⟩, ⟨Nat.le_of_ble_eq_true rfl, Nat.le_of_ble_eq_true rfl⟩, ⟨Nat.le_of_ble_eq_true rfl, Nat.le_of_ble_eq_true rfl⟩, Nat.le_of_ble_eq_true rfl⟩) hA w [0, 1] [2, 3, 4, 5, 6, 7] [6, 7, 0, 1, 2, 3, 4, 5] rfl rfl (by decide) (fun _ => rfl) (fun _ H locs w => ?_)
        refine lv_aload_n hx hb dX8_goesOn_20 rfl (lv_at hl 0 rfl) ?_
        refine lv_dup hx hb dX8_goesOn_21 rfl ?_
        refine hm_get cb_X8 hx hb hown X w 0 22 fl_X8_188 dX8_goesOn_22 rfl (by decide) rfl ?_
        refine lv_iconst (v := 1) hx hb dX8_goesOn_25 (by decide) ?_
        refine lv_isub hx hb dX8_goesOn_26 ?_
        refine lv_topi (fun x62 ex62 => ?_)
        have hf := pf_nm ex62 hf
        refine hm_put (ws' := [oc8 h0 r_t t_base t_taped x27 t_faultPlace t_number t_newBits t_newTold x61 t_newThings x62 t_sum t_heldAll t_onPaper t_turned t_wasConverted t_lastBits t_lastSum t_lastHeld t_lastLeft t_lastCode t_writtenLong t_codeMany t_acts t_done0 t_stoppedAt, ic E (r_t 14) 84 f60, ic E (r_t 17) 10 t_open, ic E (r_t 21) 10 f31, ic E (r_t 19) 10 t_sign, ic E (r_t 18) 10 t_stage, ic E (r_t 20) 10 f30, bc E (r_t 2) 400 t_tape]) cb_X8 hx hb hown X w 0 22 fl_X8_188 dX8_goesOn_27 rfl (by decide) (Nat.le_of_ble_eq_true rfl) rfl rfl rfl rfl (fun H locs w => ?_)
        refine lv_goto (tgt := 0) hx hb dX8_goesOn_30 (by decide) ?_
        exact ih0 _ _ _ _ _ _ _ _ _ hf w (lv_sub hl [0] rfl)
  exact klp_X8_goesOn_0 FU _ _ _ _ _ _ _ _ _ hf w (lv_sub hl [0] rfl)
set_option maxHeartbeats 8000000 in
set_option maxRecDepth 100000 in
theorem ct_X8_readDrift (l : Launch) (E : hm_E) (sz : Nat) (h0 : Nat) (r_t : Nat → Nat) (t_base t_taped t_at t_faultPlace t_number t_newBits t_newTold t_newDoings t_newThings t_opened t_sum t_heldAll t_onPaper t_turned t_wasConverted t_lastBits t_lastSum t_lastHeld t_lastLeft t_lastCode t_writtenLong t_codeMany t_acts t_done0 t_stoppedAt : Int32) (t_newDoing : Nat → Int32) (t_open : Nat → Int32) (t_productSign : Nat → Int32) (t_sign : Nat → Int32) (t_stage : Nat → Int32) (t_sumSign : Nat → Int32) (t_tape : Nat → Int32) (R : Int32 × Int32 × Int32 × Int32 × (Nat → Int32) × Int32 × Int32 × (Nat → Int32) × (Nat → Int32) × (Nat → Int32) × (Nat → Int32) × (Nat → Int32) × Int32) (hf : pf_X8_readDrift t_tape t_taped t_number t_newDoing t_open t_stage t_sign t_sumSign t_productSign = some R) : hm_Mi l E yX8_readDrift cX8_readDrift 3 .boolean [] (hm_rr 4 86 0 0) [.ref h0] sz [oc8 h0 r_t t_base t_taped t_at t_faultPlace t_number t_newBits t_newTold t_newDoings t_newThings t_opened t_sum t_heldAll t_onPaper t_turned t_wasConverted t_lastBits t_lastSum t_lastHeld t_lastLeft t_lastCode t_writtenLong t_codeMany t_acts t_done0 t_stoppedAt, ic E (r_t 14) 84 t_newDoing, ic E (r_t 17) 10 t_open, ic E (r_t 21) 10 t_productSign, ic E (r_t 19) 10 t_sign, ic E (r_t 18) 10 t_stage, ic E (r_t 20) 10 t_sumSign, bc E (r_t 2) 400 t_tape] R.1 (fun _ => [oc8 h0 r_t t_base t_taped (R.2.1) (R.2.2.1) (R.2.2.2.1) t_newBits t_newTold (R.2.2.2.2.2.1) (R.2.2.2.2.2.2.1) (R.2.2.2.2.2.2.2.2.2.2.2.2) t_sum t_heldAll t_onPaper t_turned t_wasConverted t_lastBits t_lastSum t_lastHeld t_lastLeft t_lastCode t_writtenLong t_codeMany t_acts t_done0 t_stoppedAt, ic E (r_t 14) 84 (R.2.2.2.2.1), ic E (r_t 17) 10 (R.2.2.2.2.2.2.2.1), ic E (r_t 21) 10 (R.2.2.2.2.2.2.2.2.2.2.2.1), ic E (r_t 19) 10 (R.2.2.2.2.2.2.2.2.2.1), ic E (r_t 18) 10 (R.2.2.2.2.2.2.2.2.1), ic E (r_t 20) 10 (R.2.2.2.2.2.2.2.2.2.2.1), bc E (r_t 2) 400 t_tape]) := by
  refine hm_ct_i R (fun u qs => [oc8 h0 r_t t_base t_taped (u.1) (u.2.1) (u.2.2.1) t_newBits t_newTold (u.2.2.2.2.1) (u.2.2.2.2.2.1) (u.2.2.2.2.2.2.2.2.2.2.2) t_sum t_heldAll t_onPaper t_turned t_wasConverted t_lastBits t_lastSum t_lastHeld t_lastLeft t_lastCode t_writtenLong t_codeMany t_acts t_done0 t_stoppedAt, ic E (r_t 14) 84 (u.2.2.2.1), ic E (r_t 17) 10 (u.2.2.2.2.2.2.1), ic E (r_t 21) 10 (u.2.2.2.2.2.2.2.2.2.2.1), ic E (r_t 19) 10 (u.2.2.2.2.2.2.2.2.1), ic E (r_t 18) 10 (u.2.2.2.2.2.2.2.1), ic E (r_t 20) 10 (u.2.2.2.2.2.2.2.2.2.1), bc E (r_t 2) 400 t_tape]) (by decide) (Nat.le_of_ble_eq_true rfl) (Or.inr rfl) ?_
  intro p e s m args below meth c A Q ls H locs hx hb hml hown X hA Y hex w hl hQ
  have hl : lv_has ls 3 [(0, .ref h0)] := hl
  unfold pf_X8_readDrift at hf
  refine lv_aload_n hx hb dX8_readDrift_0 rfl (lv_at hl 0 rfl) ?_
  refine lv_iconst (v := 0) hx hb dX8_readDrift_1 (by decide) ?_
  refine hm_put (ws' := [oc8 h0 r_t t_base t_taped 0 t_faultPlace t_number t_newBits t_newTold t_newDoings t_newThings t_opened t_sum t_heldAll t_onPaper t_turned t_wasConverted t_lastBits t_lastSum t_lastHeld t_lastLeft t_lastCode t_writtenLong t_codeMany t_acts t_done0 t_stoppedAt, ic E (r_t 14) 84 t_newDoing, ic E (r_t 17) 10 t_open, ic E (r_t 21) 10 t_productSign, ic E (r_t 19) 10 t_sign, ic E (r_t 18) 10 t_stage, ic E (r_t 20) 10 t_sumSign, bc E (r_t 2) 400 t_tape]) cb_X8 hx hb hown X w 0 4 fl_X8_133 dX8_readDrift_2 rfl (by decide) (Nat.le_of_ble_eq_true rfl) rfl rfl rfl rfl (fun H locs w => ?_)
  refine lv_aload_n hx hb dX8_readDrift_5 rfl (lv_at hl 0 rfl) ?_
  refine lv_iconst (v := (-1)) hx hb dX8_readDrift_6 (by decide) ?_
  refine hm_put (ws' := [oc8 h0 r_t t_base t_taped 0 (-1) t_number t_newBits t_newTold t_newDoings t_newThings t_opened t_sum t_heldAll t_onPaper t_turned t_wasConverted t_lastBits t_lastSum t_lastHeld t_lastLeft t_lastCode t_writtenLong t_codeMany t_acts t_done0 t_stoppedAt, ic E (r_t 14) 84 t_newDoing, ic E (r_t 17) 10 t_open, ic E (r_t 21) 10 t_productSign, ic E (r_t 19) 10 t_sign, ic E (r_t 18) 10 t_stage, ic E (r_t 20) 10 t_sumSign, bc E (r_t 2) 400 t_tape]) cb_X8 hx hb hown X w 0 5 fl_X8_25 dX8_readDrift_7 rfl (by decide) (Nat.le_of_ble_eq_true rfl) rfl rfl rfl rfl (fun H locs w => ?_)
  refine lv_aload_n hx hb dX8_readDrift_10 rfl (lv_at hl 0 rfl) ?_
  refine lv_iconst (v := 0) hx hb dX8_readDrift_11 (by decide) ?_
  refine hm_put (ws' := [oc8 h0 r_t t_base t_taped 0 (-1) t_number t_newBits t_newTold 0 t_newThings t_opened t_sum t_heldAll t_onPaper t_turned t_wasConverted t_lastBits t_lastSum t_lastHeld t_lastLeft t_lastCode t_writtenLong t_codeMany t_acts t_done0 t_stoppedAt, ic E (r_t 14) 84 t_newDoing, ic E (r_t 17) 10 t_open, ic E (r_t 21) 10 t_productSign, ic E (r_t 19) 10 t_sign, ic E (r_t 18) 10 t_stage, ic E (r_t 20) 10 t_sumSign, bc E (r_t 2) 400 t_tape]) cb_X8 hx hb hown X w 0 15 fl_X8_185 dX8_readDrift_12 rfl (by decide) (Nat.le_of_ble_eq_true rfl) rfl rfl rfl rfl (fun H locs w => ?_)
  refine lv_aload_n hx hb dX8_readDrift_15 rfl (lv_at hl 0 rfl) ?_
  refine lv_iconst (v := 0) hx hb dX8_readDrift_16 (by decide) ?_
  refine hm_put (ws' := [oc8 h0 r_t t_base t_taped 0 (-1) t_number t_newBits t_newTold 0 0 t_opened t_sum t_heldAll t_onPaper t_turned t_wasConverted t_lastBits t_lastSum t_lastHeld t_lastLeft t_lastCode t_writtenLong t_codeMany t_acts t_done0 t_stoppedAt, ic E (r_t 14) 84 t_newDoing, ic E (r_t 17) 10 t_open, ic E (r_t 21) 10 t_productSign, ic E (r_t 19) 10 t_sign, ic E (r_t 18) 10 t_stage, ic E (r_t 20) 10 t_sumSign, bc E (r_t 2) 400 t_tape]) cb_X8 hx hb hown X w 0 16 fl_X8_194 dX8_readDrift_17 rfl (by decide) (Nat.le_of_ble_eq_true rfl) rfl rfl rfl rfl (fun H locs w => ?_)
  refine lv_aload_n hx hb dX8_readDrift_20 rfl (lv_at hl 0 rfl) ?_
  refine lv_iconst (v := (-1)) hx hb dX8_readDrift_21 (by decide) ?_
  refine hm_put (ws' := [oc8 h0 r_t t_base t_taped 0 (-1) t_number t_newBits t_newTold 0 0 (-1) t_sum t_heldAll t_onPaper t_turned t_wasConverted t_lastBits t_lastSum t_lastHeld t_lastLeft t_lastCode t_writtenLong t_codeMany t_acts t_done0 t_stoppedAt, ic E (r_t 14) 84 t_newDoing, ic E (r_t 17) 10 t_open, ic E (r_t 21) 10 t_productSign, ic E (r_t 19) 10 t_sign, ic E (r_t 18) 10 t_stage, ic E (r_t 20) 10 t_sumSign, bc E (r_t 2) 400 t_tape]) cb_X8 hx hb hown X w 0 22 fl_X8_188 dX8_readDrift_22 rfl (by decide) (Nat.le_of_ble_eq_true rfl) rfl rfl rfl rfl (fun H locs w => ?_)
  refine lv_aload_n hx hb dX8_readDrift_25 rfl (lv_at hl 0 rfl) ?_
  refine lv_iconst (v := 0) hx hb dX8_readDrift_26 (by decide) ?_
  obtain ⟨f1, f2, f3, f4, x5, hc27, hf⟩ := pf_bv_5 hf
  refine hm_aft_v (ws' := fun _ => [oc8 h0 r_t t_base t_taped 0 (-1) t_number t_newBits t_newTold 0 0 x5 t_sum t_heldAll t_onPaper t_turned t_wasConverted t_lastBits t_lastSum t_lastHeld t_lastLeft t_lastCode t_writtenLong t_codeMany t_acts t_done0 t_stoppedAt, ic E (r_t 14) 84 t_newDoing, ic E (r_t 17) 10 f1, ic E (r_t 21) 10 f4, ic E (r_t 19) 10 t_sign, ic E (r_t 18) 10 f2, ic E (r_t 20) 10 f3, bc E (r_t 2) 400 t_tape]) (hm_runV (rest := []) hx hb hml hown X hA Y w 0 (ci := 7) (T := TX8) (N := 55) rfl rfl mw_X8_openOne ml_X8_200 dX8_readDrift_27 hm_ac0 [.int 0] rfl [0, 2, 3, 5, 6] rfl rfl (ct_X8_openOne l E H.size h0 r_t t_base t_taped 0 (-1) t_number t_newBits t_newTold 0 0 (-1) t_sum t_heldAll t_onPaper t_turned t_wasConverted t_lastBits t_lastSum t_lastHeld t_lastLeft t_lastCode t_writtenLong t_codeMany t_acts t_done0 t_stoppedAt t_open t_productSign t_stage t_sumSign 0 (f1, f2, f3, f4, x5) hc27) rfl hl.1 ⟨⟨rfl, rfl⟩, ⟨Nat.le_of_ble_eq_true rfl, Nat.le_of_ble_eq_true rfl⟩, ⟨Nat.le_of_ble_eq_true rfl, Nat.le_of_ble_eq_true rfl⟩, Nat.le_of_ble_eq_true rfl⟩) hA w [0, 2, 3, 5, 6] [1, 4, 7] [3, 0, 4, 5, 1, 6, 7, 2] rfl rfl (by decide) (fun _ => rfl) (fun _ H locs w => ?_)
  refine lv_aload_n hx hb dX8_readDrift_30 rfl (lv_at hl 0 rfl) ?_
  refine hm_get cb_X8 hx hb hown X w 0 3 fl_X8_122 dX8_readDrift_31 rfl (by decide) rfl ?_
  obtain ⟨J42, hJ42, hf⟩ := pf_jn hf
  have kJ42 : ∀ (x6 : Int32) (H : Heap) (locs : List Loc) (ls : Array Slot), J42 x6 = some R → hm_W E A s.heap [oc8 h0 r_t t_base t_taped 0 (-1) t_number t_newBits t_newTold 0 0 x5 t_sum t_heldAll t_onPaper t_turned t_wasConverted t_lastBits t_lastSum t_lastHeld t_lastLeft t_lastCode t_writtenLong t_codeMany t_acts t_done0 t_stoppedAt, ic E (r_t 14) 84 t_newDoing, ic E (r_t 17) 10 f1, ic E (r_t 21) 10 f4, ic E (r_t 19) 10 t_sign, ic E (r_t 18) 10 f2, ic E (r_t 20) 10 f3, bc E (r_t 2) 400 t_tape] H locs → lv_has ls 3 [(0, .ref h0)] → W p l e (hm_rr 4 86 0 0) s m args below meth c H locs 0 0 Q (F0 m 42 ls [.int x6]) := by
    intro x6 H locs ls hf w hl
    have hf := pf_j1 hJ42 hf
    refine lv_istore_n (lv' := [(1, .int x6), (0, .ref h0)]) hx hb dX8_readDrift_42 rfl hl (by decide) rfl (fun ls hl => ?_)
    obtain ⟨J79, hJ79, hf⟩ := pf_jn hf
    have kJ79 : ∀ (x7 : Int32) (x8 : Int32) (x9 : Int32) (f10 : Nat → Int32) (x11 : Int32) (x12 : Int32) (f13 : Nat → Int32) (f14 : Nat → Int32) (f15 : Nat → Int32) (f16 : Nat → Int32) (f17 : Nat → Int32) (x18 : Int32) (H : Heap) (locs : List Loc) (ls : Array Slot), J79 x7 x8 x9 f10 x11 x12 f13 f14 f15 f16 f17 x18 = some R → hm_W E A s.heap [oc8 h0 r_t t_base t_taped x7 x8 x9 t_newBits t_newTold x11 x12 x18 t_sum t_heldAll t_onPaper t_turned t_wasConverted t_lastBits t_lastSum t_lastHeld t_lastLeft t_lastCode t_writtenLong t_codeMany t_acts t_done0 t_stoppedAt, ic E (r_t 14) 84 f10, ic E (r_t 17) 10 f13, ic E (r_t 21) 10 f17, ic E (r_t 19) 10 f15, ic E (r_t 18) 10 f14, ic E (r_t 20) 10 f16, bc E (r_t 2) 400 t_tape] H locs → lv_has ls 3 [(0, .ref h0)] → W p l e (hm_rr 4 86 0 0) s m args below meth c H locs 0 0 Q (F0 m 79 ls []) := by
      intro x7 x8 x9 f10 x11 x12 f13 f14 f15 f16 f17 x18 H locs ls hf w hl
      have hf := pf_j12 hJ79 hf
      refine lv_aload_n hx hb dX8_readDrift_79 rfl (lv_at hl 0 rfl) ?_
      refine hm_get cb_X8 hx hb hown X w 0 5 fl_X8_25 dX8_readDrift_80 rfl (by decide) rfl ?_
      refine lv_iconst (v := (-1)) hx hb dX8_readDrift_83 (by decide) ?_
      refine lv_icmp_ne (tgt := 91) hx hb dX8_readDrift_84 (by decide) (fun c84 => ?_) (fun c84 => ?_)
      · have hf := pf_e c84 hf
        refine lv_iconst (v := 0) hx hb dX8_readDrift_91 (by decide) ?_
        exact hQ _ _ _ _ _ (x7, x8, x9, f10, x11, x12, f13, f14, f15, f16, f17, x18) (fun _ => 0) hf rfl w dX8_readDrift_92
      · have hf := pf_t c84 hf
        refine lv_iconst (v := 1) hx hb dX8_readDrift_87 (by decide) ?_
        refine lv_goto (tgt := 92) hx hb dX8_readDrift_88 (by decide) ?_
        exact hQ _ _ _ _ _ (x7, x8, x9, f10, x11, x12, f13, f14, f15, f16, f17, x18) (fun _ => 0) hf rfl w dX8_readDrift_92
    have klp_X8_readDrift_43 : ∀ (n : Nat) (x19 : Int32) (x20 : Int32) (x21 : Int32) (x22 : Int32) (f23 : Nat → Int32) (x24 : Int32) (x25 : Int32) (f26 : Nat → Int32) (f27 : Nat → Int32) (f28 : Nat → Int32) (f29 : Nat → Int32) (f30 : Nat → Int32) (x31 : Int32) (H : Heap) (locs : List Loc) (ls : Array Slot), lp_X8_readDrift_43 t_taped t_tape J79 n x19 x20 x21 x22 f23 x24 x25 f26 f27 f28 f29 f30 x31 = some R → hm_W E A s.heap [oc8 h0 r_t t_base t_taped x20 x21 x22 t_newBits t_newTold x24 x25 x31 t_sum t_heldAll t_onPaper t_turned t_wasConverted t_lastBits t_lastSum t_lastHeld t_lastLeft t_lastCode t_writtenLong t_codeMany t_acts t_done0 t_stoppedAt, ic E (r_t 14) 84 f23, ic E (r_t 17) 10 f26, ic E (r_t 21) 10 f30, ic E (r_t 19) 10 f28, ic E (r_t 18) 10 f27, ic E (r_t 20) 10 f29, bc E (r_t 2) 400 t_tape] H locs → lv_has ls 3 [(0, .ref h0), (1, .int x19)] → W p l e (hm_rr 4 86 0 0) s m args below meth c H locs 0 0 Q (F0 m 43 ls []) := by
      intro n
      induction n with
      | zero =>
        intro x19 x20 x21 x22 f23 x24 x25 f26 f27 f28 f29 f30 x31 H locs ls hf w hl
        exact pf_no hf
      | succ n ih43 =>
        intro x19 x20 x21 x22 f23 x24 x25 f26 f27 f28 f29 f30 x31 H locs ls hf w hl
        rw [lp_X8_readDrift_43] at hf
        refine lv_iload_n hx hb dX8_readDrift_43 rfl (lv_at hl 1 rfl) ?_
        refine lv_if_eq (tgt := 79) hx hb dX8_readDrift_44 (by decide) (fun c44 => ?_) (fun c44 => ?_)
        · have hf := pf_t c44 hf
          exact kJ79 _ _ _ _ _ _ _ _ _ _ _ _ _ _ _ hf w (lv_sub hl [0] rfl)
        · have hf := pf_e c44 hf
          refine lv_aload_n hx hb dX8_readDrift_47 rfl (lv_at hl 0 rfl) ?_
          obtain ⟨r32, x33, x34, x35, f36, x37, x38, f39, f40, f41, f42, x43, hc48, hf⟩ := pf_bi_11 hf
          refine hm_aft_i (ws' := fun _ => [oc8 h0 r_t t_base t_taped x33 x34 x35 t_newBits t_newTold x37 x38 x43 t_sum t_heldAll t_onPaper t_turned t_wasConverted t_lastBits t_lastSum t_lastHeld t_lastLeft t_lastCode t_writtenLong t_codeMany t_acts t_done0 t_stoppedAt, ic E (r_t 14) 84 f36, ic E (r_t 17) 10 f39, ic E (r_t 21) 10 f42, ic E (r_t 19) 10 f28, ic E (r_t 18) 10 f40, ic E (r_t 20) 10 f41, bc E (r_t 2) 400 t_tape]) (hm_runV (rest := []) hx hb hml hown X hA Y w 0 (ci := 7) (T := TX8) (N := 55) rfl rfl mw_X8_readThing ml_X8_212 dX8_readDrift_48 hm_ac0 [] rfl [0, 1, 2, 3, 5, 6, 7] rfl rfl (ct_X8_readThing l E H.size h0 r_t t_base t_taped x20 x21 x22 t_newBits t_newTold x24 x25 x31 t_sum t_heldAll t_onPaper t_turned t_wasConverted t_lastBits t_lastSum t_lastHeld t_lastLeft t_lastCode t_writtenLong t_codeMany t_acts t_done0 t_stoppedAt f23 f26 f30 f27 f29 t_tape (r32, x33, x34, x35, f36, x37, x38, f39, f40, f41, f42, x43) hc48) rfl hl.1 ⟨⟨rfl, rfl⟩, ⟨Nat.le_of_ble_eq_true rfl, Nat.le_of_ble_eq_true rfl⟩, ⟨Nat.le_of_ble_eq_true rfl, Nat.le_of_ble_eq_true rfl⟩, Nat.le_of_ble_eq_true rfl⟩) hA w [0, 1, 2, 3, 5, 6, 7] [4] [1, 2, 3, 4, 0, 5, 6, 7] rfl rfl (by decide) (fun _ => rfl) (fun _ H locs w => ?_)
          refine lv_istore_n (lv' := [(2, .int r32), (0, .ref h0), (1, .int x19)]) hx hb dX8_readDrift_51 rfl hl (by decide) rfl (fun ls hl => ?_)
          refine lv_iload_n hx hb dX8_readDrift_52 rfl (lv_at hl 0 rfl) ?_
          refine lv_iconst (v := (-1)) hx hb dX8_readDrift_53 (by decide) ?_
          refine lv_icmp_ne (tgt := 59) hx hb dX8_readDrift_54 (by decide) (fun c54 => ?_) (fun c54 => ?_)
          · have hf := pf_e c54 hf
            refine lv_iload_n hx hb dX8_readDrift_59 rfl (lv_at hl 0 rfl) ?_
            refine lv_if_eq (tgt := 70) hx hb dX8_readDrift_60 (by decide) (fun c60 => ?_) (fun c60 => ?_)
            · have hf := pf_t c60 hf
              refine lv_iconst (v := 1) hx hb dX8_readDrift_70 (by decide) ?_
              refine lv_goto (tgt := 75) hx hb dX8_readDrift_71 (by decide) ?_
              refine lv_istore_n (lv' := [(1, .int 1), (2, .int r32), (0, .ref h0)]) hx hb dX8_readDrift_75 rfl hl (by decide) rfl (fun ls hl => ?_)
              refine lv_goto (tgt := 43) hx hb dX8_readDrift_76 (by decide) ?_
              exact ih43 _ _ _ _ _ _ _ _ _ _ _ _ _ _ _ _ hf w (lv_sub hl [2, 0] rfl)
            · have hf := pf_e c60 hf
              refine lv_aload_n hx hb dX8_readDrift_63 rfl (lv_at hl 1 rfl) ?_
              obtain ⟨r44, x45, x46, f47, x48, f49, f50, f51, f52, x53, hc64, hf⟩ := pf_bi_9 hf
              refine hm_aft_i (ws' := fun _ => [oc8 h0 r_t t_base t_taped x45 x46 x35 t_newBits t_newTold x48 x38 x53 t_sum t_heldAll t_onPaper t_turned t_wasConverted t_lastBits t_lastSum t_lastHeld t_lastLeft t_lastCode t_writtenLong t_codeMany t_acts t_done0 t_stoppedAt, ic E (r_t 14) 84 f47, ic E (r_t 17) 10 f39, ic E (r_t 21) 10 f52, ic E (r_t 19) 10 f50, ic E (r_t 18) 10 f49, ic E (r_t 20) 10 f51, bc E (r_t 2) 400 t_tape]) (hm_runV (rest := []) hx hb hml hown X hA Y w 0 (ci := 7) (T := TX8) (N := 55) rfl rfl mw_X8_goesOn ml_X8_215 dX8_readDrift_64 hm_ac0 [] rfl [0, 1, 2, 3, 4, 5, 6, 7] rfl rfl (ct_X8_goesOn l E H.size h0 r_t t_base t_taped x33 x34 x35 t_newBits t_newTold x37 x38 x43 t_sum t_heldAll t_onPaper t_turned t_wasConverted t_lastBits t_lastSum t_lastHeld t_lastLeft t_lastCode t_writtenLong t_codeMany t_acts t_done0 t_stoppedAt f36 f39 f42 f28 f40 f41 t_tape (r44, x45, x46, f47, x48, f49, f50, f51, f52, x53) hc64) rfl hl.1 ⟨⟨rfl, rfl⟩, ⟨Nat.le_of_ble_eq_true rfl, Nat.le_of_ble_eq_true rfl⟩, ⟨Nat.le_of_ble_eq_true rfl, Nat.le_of_ble_eq_true rfl⟩, Nat.le_of_ble_eq_true rfl⟩) hA w [0, 1, 2, 3, 4, 5, 6, 7] [] [0, 1, 2, 3, 4, 5, 6, 7] rfl rfl (by decide) (fun _ => rfl) (fun _ H locs w => ?_)
              refine lv_if_eq (tgt := 74) hx hb dX8_readDrift_67 (by decide) (fun c67 => ?_) (fun c67 => ?_)
              · have hf := pf_t c67 hf
                refine lv_iconst (v := 0) hx hb dX8_readDrift_74 (by decide) ?_
                refine lv_istore_n (lv' := [(1, .int 0), (2, .int r32), (0, .ref h0)]) hx hb dX8_readDrift_75 rfl hl (by decide) rfl (fun ls hl => ?_)
                refine lv_goto (tgt := 43) hx hb dX8_readDrift_76 (by decide) ?_
                exact ih43 _ _ _ _ _ _ _ _ _ _ _ _ _ _ _ _ hf w (lv_sub hl [2, 0] rfl)
              · have hf := pf_e c67 hf
                refine lv_iconst (v := 1) hx hb dX8_readDrift_70 (by decide) ?_
                refine lv_goto (tgt := 75) hx hb dX8_readDrift_71 (by decide) ?_
                refine lv_istore_n (lv' := [(1, .int 1), (2, .int r32), (0, .ref h0)]) hx hb dX8_readDrift_75 rfl hl (by decide) rfl (fun ls hl => ?_)
                refine lv_goto (tgt := 43) hx hb dX8_readDrift_76 (by decide) ?_
                exact ih43 _ _ _ _ _ _ _ _ _ _ _ _ _ _ _ _ hf w (lv_sub hl [2, 0] rfl)
          · have hf := pf_t c54 hf
            refine lv_iconst (v := 0) hx hb dX8_readDrift_57 (by decide) ?_
            exact hQ _ _ _ _ _ (x33, x34, x35, f36, x37, x38, f39, f40, f28, f41, f42, x43) (fun _ => 0) hf rfl w dX8_readDrift_58
    exact klp_X8_readDrift_43 FU _ _ _ _ _ _ _ _ _ _ _ _ _ _ _ _ hf w (lv_sub hl [1, 0] rfl)
  refine lv_if_le (tgt := 41) hx hb dX8_readDrift_34 (by decide) (fun c34 => ?_) (fun c34 => ?_)
  · have hf := pf_t c34 hf
    refine lv_iconst (v := 0) hx hb dX8_readDrift_41 (by decide) ?_
    exact kJ42 _ _ _ _ hf w (lv_sub hl [0] rfl)
  · have hf := pf_e c34 hf
    refine lv_iconst (v := 1) hx hb dX8_readDrift_37 (by decide) ?_
    refine lv_goto (tgt := 42) hx hb dX8_readDrift_38 (by decide) ?_
    exact kJ42 _ _ _ _ hf w (lv_sub hl [0] rfl)
set_option maxHeartbeats 8000000 in
set_option maxRecDepth 100000 in
theorem ct_X8_drift (l : Launch) (E : hm_E) (sz : Nat) (h0 : Nat) (r_t : Nat → Nat) (t_base t_taped t_at t_faultPlace t_number t_newBits t_newTold t_newDoings t_newThings t_opened t_sum t_heldAll t_onPaper t_turned t_wasConverted t_lastBits t_lastSum t_lastHeld t_lastLeft t_lastCode t_writtenLong t_codeMany t_acts t_done0 t_stoppedAt : Int32) (t_all : Nat → Int32) (t_newDoing : Nat → Int32) (t_open : Nat → Int32) (t_productSign : Nat → Int32) (t_sign : Nat → Int32) (t_stage : Nat → Int32) (t_sumSign : Nat → Int32) (t_tape : Nat → Int32) (R : Int32 × (Nat → Int32) × Int32 × Int32 × Int32 × Int32 × (Nat → Int32) × Int32 × Int32 × (Nat → Int32) × (Nat → Int32) × (Nat → Int32) × (Nat → Int32) × (Nat → Int32) × Int32) (hf : pf_X8_drift t_all t_base t_tape t_taped t_number t_newDoing t_open t_stage t_sign t_sumSign t_productSign = some R) : hm_Mi l E yX8_drift cX8_drift 3 .int [] (hm_rr 5 108 0 0) [.ref h0] sz [oc8 h0 r_t t_base t_taped t_at t_faultPlace t_number t_newBits t_newTold t_newDoings t_newThings t_opened t_sum t_heldAll t_onPaper t_turned t_wasConverted t_lastBits t_lastSum t_lastHeld t_lastLeft t_lastCode t_writtenLong t_codeMany t_acts t_done0 t_stoppedAt, ic E (r_t 0) 800 t_all, ic E (r_t 14) 84 t_newDoing, ic E (r_t 17) 10 t_open, ic E (r_t 21) 10 t_productSign, ic E (r_t 19) 10 t_sign, ic E (r_t 18) 10 t_stage, ic E (r_t 20) 10 t_sumSign, bc E (r_t 2) 400 t_tape] R.1 (fun _ => [oc8 h0 r_t t_base (R.2.2.1) (R.2.2.2.1) (R.2.2.2.2.1) (R.2.2.2.2.2.1) t_newBits t_newTold (R.2.2.2.2.2.2.2.1) (R.2.2.2.2.2.2.2.2.1) (R.2.2.2.2.2.2.2.2.2.2.2.2.2.2) t_sum t_heldAll t_onPaper t_turned t_wasConverted t_lastBits t_lastSum t_lastHeld t_lastLeft t_lastCode t_writtenLong t_codeMany t_acts t_done0 t_stoppedAt, ic E (r_t 0) 800 (R.2.1), ic E (r_t 14) 84 (R.2.2.2.2.2.2.1), ic E (r_t 17) 10 (R.2.2.2.2.2.2.2.2.2.1), ic E (r_t 21) 10 (R.2.2.2.2.2.2.2.2.2.2.2.2.2.1), ic E (r_t 19) 10 (R.2.2.2.2.2.2.2.2.2.2.2.1), ic E (r_t 18) 10 (R.2.2.2.2.2.2.2.2.2.2.1), ic E (r_t 20) 10 (R.2.2.2.2.2.2.2.2.2.2.2.2.1), bc E (r_t 2) 400 t_tape]) := by
  refine hm_ct_i R (fun u qs => [oc8 h0 r_t t_base (u.2.1) (u.2.2.1) (u.2.2.2.1) (u.2.2.2.2.1) t_newBits t_newTold (u.2.2.2.2.2.2.1) (u.2.2.2.2.2.2.2.1) (u.2.2.2.2.2.2.2.2.2.2.2.2.2) t_sum t_heldAll t_onPaper t_turned t_wasConverted t_lastBits t_lastSum t_lastHeld t_lastLeft t_lastCode t_writtenLong t_codeMany t_acts t_done0 t_stoppedAt, ic E (r_t 0) 800 (u.1), ic E (r_t 14) 84 (u.2.2.2.2.2.1), ic E (r_t 17) 10 (u.2.2.2.2.2.2.2.2.1), ic E (r_t 21) 10 (u.2.2.2.2.2.2.2.2.2.2.2.2.1), ic E (r_t 19) 10 (u.2.2.2.2.2.2.2.2.2.2.1), ic E (r_t 18) 10 (u.2.2.2.2.2.2.2.2.2.1), ic E (r_t 20) 10 (u.2.2.2.2.2.2.2.2.2.2.2.1), bc E (r_t 2) 400 t_tape]) (by decide) (Nat.le_of_ble_eq_true rfl) (Or.inl rfl) ?_
  intro p e s m args below meth c A Q ls H locs hx hb hml hown X hA Y hex w hl hQ
  have hl : lv_has ls 3 [(0, .ref h0)] := hl
  unfold pf_X8_drift at hf
  refine lv_aload_n hx hb dX8_drift_0 rfl (lv_at hl 0 rfl) ?_
  obtain ⟨r1, x2, x3, x4, f5, x6, x7, f8, f9, f10, f11, f12, x13, hc1, hf⟩ := pf_bi_12 hf
  refine hm_aft_i (ws' := fun _ => [oc8 h0 r_t t_base t_taped x2 x3 x4 t_newBits t_newTold x6 x7 x13 t_sum t_heldAll t_onPaper t_turned t_wasConverted t_lastBits t_lastSum t_lastHeld t_lastLeft t_lastCode t_writtenLong t_codeMany t_acts t_done0 t_stoppedAt, ic E (r_t 0) 800 t_all, ic E (r_t 14) 84 f5, ic E (r_t 17) 10 f8, ic E (r_t 21) 10 f12, ic E (r_t 19) 10 f10, ic E (r_t 18) 10 f9, ic E (r_t 20) 10 f11, bc E (r_t 2) 400 t_tape]) (hm_runV (rest := []) hx hb hml hown X hA Y w 0 (ci := 7) (T := TX8) (N := 55) rfl rfl mw_X8_readDrift ml_X8_218 dX8_drift_1 hm_ac0 [] rfl [0, 2, 3, 4, 5, 6, 7, 8] rfl rfl (ct_X8_readDrift l E H.size h0 r_t t_base t_taped t_at t_faultPlace t_number t_newBits t_newTold t_newDoings t_newThings t_opened t_sum t_heldAll t_onPaper t_turned t_wasConverted t_lastBits t_lastSum t_lastHeld t_lastLeft t_lastCode t_writtenLong t_codeMany t_acts t_done0 t_stoppedAt t_newDoing t_open t_productSign t_sign t_stage t_sumSign t_tape (r1, x2, x3, x4, f5, x6, x7, f8, f9, f10, f11, f12, x13) hc1) rfl hl.1 ⟨⟨rfl, rfl⟩, ⟨Nat.le_of_ble_eq_true rfl, Nat.le_of_ble_eq_true rfl⟩, ⟨Nat.le_of_ble_eq_true rfl, Nat.le_of_ble_eq_true rfl⟩, Nat.le_of_ble_eq_true rfl⟩) hA w [0, 2, 3, 4, 5, 6, 7, 8] [1] [1, 0, 2, 3, 4, 5, 6, 7, 8] rfl rfl (by decide) (fun _ => rfl) (fun _ H locs w => ?_)
  refine lv_istore_n (lv' := [(1, .int r1), (0, .ref h0)]) hx hb dX8_drift_4 rfl hl (by decide) rfl (fun ls hl => ?_)
  refine lv_aload_n hx hb dX8_drift_5 rfl (lv_at hl 1 rfl) ?_
  refine lv_iconst (v := 0) hx hb dX8_drift_6 (by decide) ?_
  refine hm_put (ws' := [oc8 h0 r_t t_base 0 x2 x3 x4 t_newBits t_newTold x6 x7 x13 t_sum t_heldAll t_onPaper t_turned t_wasConverted t_lastBits t_lastSum t_lastHeld t_lastLeft t_lastCode t_writtenLong t_codeMany t_acts t_done0 t_stoppedAt, ic E (r_t 0) 800 t_all, ic E (r_t 14) 84 f5, ic E (r_t 17) 10 f8, ic E (r_t 21) 10 f12, ic E (r_t 19) 10 f10, ic E (r_t 18) 10 f9, ic E (r_t 20) 10 f11, bc E (r_t 2) 400 t_tape]) cb_X8 hx hb hown X w 0 3 fl_X8_122 dX8_drift_7 rfl (by decide) (Nat.le_of_ble_eq_true rfl) rfl rfl rfl rfl (fun H locs w => ?_)
  refine lv_iload_n hx hb dX8_drift_10 rfl (lv_at hl 0 rfl) ?_
  refine lv_if_ne (tgt := 16) hx hb dX8_drift_11 (by decide) (fun c11 => ?_) (fun c11 => ?_)
  · have hf := pf_e c11 hf
    refine lv_aload_n hx hb dX8_drift_16 rfl (lv_at hl 1 rfl) ?_
    refine lv_bipush (v := 74) hx hb dX8_drift_17 (by decide) ?_
    refine lv_aload_n hx hb dX8_drift_19 rfl (lv_at hl 1 rfl) ?_
    refine hm_get cb_X8 hx hb hown X w 0 16 fl_X8_194 dX8_drift_20 rfl (by decide) rfl ?_
    obtain ⟨f14, hc23, hf⟩ := pf_bv_1 hf
    refine hm_aft_v (ws' := fun _ => [oc8 h0 r_t t_base 0 x2 x3 x4 t_newBits t_newTold x6 x7 x13 t_sum t_heldAll t_onPaper t_turned t_wasConverted t_lastBits t_lastSum t_lastHeld t_lastLeft t_lastCode t_writtenLong t_codeMany t_acts t_done0 t_stoppedAt, ic E (r_t 0) 800 f14, ic E (r_t 14) 84 f5, ic E (r_t 17) 10 f8, ic E (r_t 21) 10 f12, ic E (r_t 19) 10 f10, ic E (r_t 18) 10 f9, ic E (r_t 20) 10 f11, bc E (r_t 2) 400 t_tape]) (hm_runV (rest := []) hx hb hml hown X hA Y w 0 (ci := 7) (T := TX8) (N := 55) rfl rfl mw_X8_put ml_X8_119 dX8_drift_23 hm_ac0 [.int 74, .int x7] rfl [0, 1] rfl rfl (ct_X8_put l E H.size h0 r_t t_base 0 x2 x3 x4 t_newBits t_newTold x6 x7 x13 t_sum t_heldAll t_onPaper t_turned t_wasConverted t_lastBits t_lastSum t_lastHeld t_lastLeft t_lastCode t_writtenLong t_codeMany t_acts t_done0 t_stoppedAt t_all 74 x7 f14 hc23) rfl hl.1 ⟨⟨rfl, rfl⟩, ⟨Nat.le_of_ble_eq_true rfl, Nat.le_of_ble_eq_true rfl⟩, ⟨Nat.le_of_ble_eq_true rfl, Nat.le_of_ble_eq_true rfl⟩, Nat.le_of_ble_eq_true rfl⟩) hA w [0, 1] [2, 3, 4, 5, 6, 7, 8] [7, 8, 0, 1, 2, 3, 4, 5, 6] rfl rfl (by decide) (fun _ => rfl) (fun _ H locs w => ?_)
    refine lv_aload_n hx hb dX8_drift_26 rfl (lv_at hl 1 rfl) ?_
    refine lv_bipush (v := 75) hx hb dX8_drift_27 (by decide) ?_
    refine lv_aload_n hx hb dX8_drift_29 rfl (lv_at hl 1 rfl) ?_
    refine hm_get cb_X8 hx hb hown X w 0 15 fl_X8_185 dX8_drift_30 rfl (by decide) rfl ?_
    obtain ⟨f15, hc33, hf⟩ := pf_bv_1 hf
    refine hm_aft_v (ws' := fun _ => [oc8 h0 r_t t_base 0 x2 x3 x4 t_newBits t_newTold x6 x7 x13 t_sum t_heldAll t_onPaper t_turned t_wasConverted t_lastBits t_lastSum t_lastHeld t_lastLeft t_lastCode t_writtenLong t_codeMany t_acts t_done0 t_stoppedAt, ic E (r_t 0) 800 f15, ic E (r_t 14) 84 f5, ic E (r_t 17) 10 f8, ic E (r_t 21) 10 f12, ic E (r_t 19) 10 f10, ic E (r_t 18) 10 f9, ic E (r_t 20) 10 f11, bc E (r_t 2) 400 t_tape]) (hm_runV (rest := []) hx hb hml hown X hA Y w 0 (ci := 7) (T := TX8) (N := 55) rfl rfl mw_X8_put ml_X8_119 dX8_drift_33 hm_ac0 [.int 75, .int x6] rfl [0, 1] rfl rfl (ct_X8_put l E H.size h0 r_t t_base 0 x2 x3 x4 t_newBits t_newTold x6 x7 x13 t_sum t_heldAll t_onPaper t_turned t_wasConverted t_lastBits t_lastSum t_lastHeld t_lastLeft t_lastCode t_writtenLong t_codeMany t_acts t_done0 t_stoppedAt f14 75 x6 f15 hc33) rfl hl.1 ⟨⟨rfl, rfl⟩, ⟨Nat.le_of_ble_eq_true rfl, Nat.le_of_ble_eq_true rfl⟩, ⟨Nat.le_of_ble_eq_true rfl, Nat.le_of_ble_eq_true rfl⟩, Nat.le_of_ble_eq_true rfl⟩) hA w [0, 1] [2, 3, 4, 5, 6, 7, 8] [7, 8, 0, 1, 2, 3, 4, 5, 6] rfl rfl (by decide) (fun _ => rfl) (fun _ H locs w => ?_)
    refine lv_iconst (v := 0) hx hb dX8_drift_36 (by decide) ?_
    refine lv_istore_n (lv' := [(2, .int 0), (1, .int r1), (0, .ref h0)]) hx hb dX8_drift_37 rfl hl (by decide) rfl (fun ls hl => ?_)
    have klp_X8_drift_38 : ∀ (n : Nat) (x16 : Int32) (f17 : Nat → Int32) (H : Heap) (locs : List Loc) (ls : Array Slot), lp_X8_drift_38 t_base x2 x3 x4 f5 x6 x7 f8 f9 f10 f11 f12 x13 n x16 f17 = some R → hm_W E A s.heap [oc8 h0 r_t t_base 0 x2 x3 x4 t_newBits t_newTold x6 x7 x13 t_sum t_heldAll t_onPaper t_turned t_wasConverted t_lastBits t_lastSum t_lastHeld t_lastLeft t_lastCode t_writtenLong t_codeMany t_acts t_done0 t_stoppedAt, ic E (r_t 0) 800 f17, ic E (r_t 14) 84 f5, ic E (r_t 17) 10 f8, ic E (r_t 21) 10 f12, ic E (r_t 19) 10 f10, ic E (r_t 18) 10 f9, ic E (r_t 20) 10 f11, bc E (r_t 2) 400 t_tape] H locs → lv_has ls 3 [(0, .ref h0), (2, .int x16)] → W p l e (hm_rr 5 108 0 0) s m args below meth c H locs 0 0 Q (F0 m 38 ls []) := by
      intro n
      induction n with
      | zero =>
        intro x16 f17 H locs ls hf w hl
        exact pf_no hf
      | succ n ih38 =>
        intro x16 f17 H locs ls hf w hl
        rw [lp_X8_drift_38] at hf
        refine lv_iload_n hx hb dX8_drift_38 rfl (lv_at hl 1 rfl) ?_
        refine lv_aload_n hx hb dX8_drift_39 rfl (lv_at hl 0 rfl) ?_
        refine hm_get cb_X8 hx hb hown X w 0 15 fl_X8_185 dX8_drift_40 rfl (by decide) rfl ?_
        refine lv_icmp_ge (tgt := 66) hx hb dX8_drift_43 (by decide) (fun c43 => ?_) (fun c43 => ?_)
        · have hf := pf_t c43 hf
          refine lv_aload_n hx hb dX8_drift_66 rfl (lv_at hl 0 rfl) ?_
          refine hm_get cb_X8 hx hb hown X w 0 16 fl_X8_194 dX8_drift_67 rfl (by decide) rfl ?_
          exact hQ _ _ _ _ _ (f17, 0, x2, x3, x4, f5, x6, x7, f8, f9, f10, f11, f12, x13) (fun _ => 0) hf rfl w dX8_drift_70
        · have hf := pf_e c43 hf
          refine lv_aload_n hx hb dX8_drift_46 rfl (lv_at hl 0 rfl) ?_
          refine lv_bipush (v := 76) hx hb dX8_drift_47 (by decide) ?_
          refine lv_iload_n hx hb dX8_drift_49 rfl (lv_at hl 1 rfl) ?_
          refine lv_iadd hx hb dX8_drift_50 ?_
          refine lv_aload_n hx hb dX8_drift_51 rfl (lv_at hl 0 rfl) ?_
          refine hm_get cb_X8 hx hb hown X w 0 14 fl_X8_43 dX8_drift_52 rfl (by decide) rfl ?_
          refine lv_iload_n hx hb dX8_drift_55 rfl (lv_at hl 1 rfl) ?_
          obtain ⟨g56, hf⟩ := pf_ckI hf
          refine hm_iald hx hb X w 2 dX8_drift_56 rfl g56 ?_
          obtain ⟨f18, hc57, hf⟩ := pf_bv_1 hf
          refine hm_aft_v (ws' := fun _ => [oc8 h0 r_t t_base 0 x2 x3 x4 t_newBits t_newTold x6 x7 x13 t_sum t_heldAll t_onPaper t_turned t_wasConverted t_lastBits t_lastSum t_lastHeld t_lastLeft t_lastCode t_writtenLong t_codeMany t_acts t_done0 t_stoppedAt, ic E (r_t 0) 800 f18, ic E (r_t 14) 84 f5, ic E (r_t 17) 10 f8, ic E (r_t 21) 10 f12, ic E (r_t 19) 10 f10, ic E (r_t 18) 10 f9, ic E (r_t 20) 10 f11, bc E (r_t 2) 400 t_tape]) (hm_runV (rest := []) hx hb hml hown X hA Y w 0 (ci := 7) (T := TX8) (N := 55) rfl rfl mw_X8_put ml_X8_119 dX8_drift_57 hm_ac0 [.int (76 + x16), .int (f5 x16.toNatClampNeg)] rfl [0, 1] rfl rfl (ct_X8_put l E H.size h0 r_t t_base 0 x2 x3 x4 t_newBits t_newTold x6 x7 x13 t_sum t_heldAll t_onPaper t_turned t_wasConverted t_lastBits t_lastSum t_lastHeld t_lastLeft t_lastCode t_writtenLong t_codeMany t_acts t_done0 t_stoppedAt f17 (76 + x16) (f5 x16.toNatClampNeg) f18 hc57) rfl hl.1 ⟨⟨rfl, rfl⟩, ⟨Nat.le_of_ble_eq_true rfl, Nat.le_of_ble_eq_true rfl⟩, ⟨Nat.le_of_ble_eq_true rfl, Nat.le_of_ble_eq_true rfl⟩, Nat.le_of_ble_eq_true rfl⟩) hA w [0, 1] [2, 3, 4, 5, 6, 7, 8] [7, 8, 0, 1, 2, 3, 4, 5, 6] rfl rfl (by decide) (fun _ => rfl) (fun _ H locs w => ?_)
          obtain ⟨x19, ex19⟩ : ∃ y : Int32, y = (x16 + 1) := ⟨_, rfl⟩
          have hf := pf_nm ex19 hf
          refine lv_iinc (v := x19) (lv' := [(2, .int x19), (0, .ref h0)]) hx hb dX8_drift_60 hl (k := 1) rfl (by rw [ex19]; rfl) (by decide) rfl (fun ls hl => ?_)
          refine lv_goto (tgt := 38) hx hb dX8_drift_63 (by decide) ?_
          exact ih38 _ _ _ _ _ hf w (lv_sub hl [1, 0] rfl)
    exact klp_X8_drift_38 FU _ _ _ _ _ hf w (lv_sub hl [2, 0] rfl)
  · have hf := pf_t c11 hf
    refine lv_iconst (v := (-1)) hx hb dX8_drift_14 (by decide) ?_
    exact hQ _ _ _ _ _ (t_all, 0, x2, x3, x4, f5, x6, x7, f8, f9, f10, f11, f12, x13) (fun _ => 0) hf rfl w dX8_drift_15
set_option maxHeartbeats 8000000 in
set_option maxRecDepth 100000 in
theorem ct_X8_weight (l : Launch) (E : hm_E) (sz : Nat) (h0 : Nat) (r_t : Nat → Nat) (t_base t_taped t_at t_faultPlace t_number t_newBits t_newTold t_newDoings t_newThings t_opened t_sum t_heldAll t_onPaper t_turned t_wasConverted t_lastBits t_lastSum t_lastHeld t_lastLeft t_lastCode t_writtenLong t_codeMany t_acts t_done0 t_stoppedAt : Int32) (t_all : Nat → Int32) (a1 : Int32) (R : Int32 × Unit) (hf : pf_X8_weight a1 t_all t_base = some R) : hm_Mi l E yX8_weight cX8_weight 2 .int [] (hm_rr 1 21 0 0) [.ref h0, .int a1] sz [oc8 h0 r_t t_base t_taped t_at t_faultPlace t_number t_newBits t_newTold t_newDoings t_newThings t_opened t_sum t_heldAll t_onPaper t_turned t_wasConverted t_lastBits t_lastSum t_lastHeld t_lastLeft t_lastCode t_writtenLong t_codeMany t_acts t_done0 t_stoppedAt, ic E (r_t 0) 800 t_all] R.1 (fun _ => [oc8 h0 r_t t_base t_taped t_at t_faultPlace t_number t_newBits t_newTold t_newDoings t_newThings t_opened t_sum t_heldAll t_onPaper t_turned t_wasConverted t_lastBits t_lastSum t_lastHeld t_lastLeft t_lastCode t_writtenLong t_codeMany t_acts t_done0 t_stoppedAt, ic E (r_t 0) 800 t_all]) := by
  refine hm_ct_i R (fun u qs => [oc8 h0 r_t t_base t_taped t_at t_faultPlace t_number t_newBits t_newTold t_newDoings t_newThings t_opened t_sum t_heldAll t_onPaper t_turned t_wasConverted t_lastBits t_lastSum t_lastHeld t_lastLeft t_lastCode t_writtenLong t_codeMany t_acts t_done0 t_stoppedAt, ic E (r_t 0) 800 t_all]) (by decide) (Nat.le_of_ble_eq_true rfl) (Or.inl rfl) ?_
  intro p e s m args below meth c A Q ls H locs hx hb hml hown X hA Y hex w hl hQ
  have hl : lv_has ls 2 [(0, .ref h0), (1, .int a1)] := hl
  unfold pf_X8_weight at hf
  refine lv_aload_n hx hb dX8_weight_0 rfl (lv_at hl 0 rfl) ?_
  refine lv_bipush (v := 9) hx hb dX8_weight_1 (by decide) ?_
  refine lv_iload_n hx hb dX8_weight_3 rfl (lv_at hl 1 rfl) ?_
  refine lv_iadd hx hb dX8_weight_4 ?_
  obtain ⟨r1, hc5, hf⟩ := pf_bi_0 hf
  refine hm_aft_i (ws' := fun _ => [oc8 h0 r_t t_base t_taped t_at t_faultPlace t_number t_newBits t_newTold t_newDoings t_newThings t_opened t_sum t_heldAll t_onPaper t_turned t_wasConverted t_lastBits t_lastSum t_lastHeld t_lastLeft t_lastCode t_writtenLong t_codeMany t_acts t_done0 t_stoppedAt, ic E (r_t 0) 800 t_all]) (hm_runV (rest := []) hx hb hml hown X hA Y w 0 (ci := 7) (T := TX8) (N := 55) rfl rfl mw_X8_get ml_X8_221 dX8_weight_5 hm_ac0 [.int (9 + a1)] rfl [0, 1] rfl rfl (ct_X8_get l E H.size h0 r_t t_base t_taped t_at t_faultPlace t_number t_newBits t_newTold t_newDoings t_newThings t_opened t_sum t_heldAll t_onPaper t_turned t_wasConverted t_lastBits t_lastSum t_lastHeld t_lastLeft t_lastCode t_writtenLong t_codeMany t_acts t_done0 t_stoppedAt t_all (9 + a1) (r1, ()) hc5) rfl hl.1 ⟨⟨rfl, rfl⟩, ⟨Nat.le_of_ble_eq_true rfl, Nat.le_of_ble_eq_true rfl⟩, ⟨Nat.le_of_ble_eq_true rfl, Nat.le_of_ble_eq_true rfl⟩, Nat.le_of_ble_eq_true rfl⟩) hA w [0, 1] [] [0, 1] rfl rfl (by decide) (fun _ => rfl) (fun _ H locs w => ?_)
  refine lv_aload_n hx hb dX8_weight_8 rfl (lv_at hl 0 rfl) ?_
  refine lv_bipush (v := 21) hx hb dX8_weight_9 (by decide) ?_
  refine lv_iload_n hx hb dX8_weight_11 rfl (lv_at hl 1 rfl) ?_
  refine lv_iadd hx hb dX8_weight_12 ?_
  obtain ⟨r2, hc13, hf⟩ := pf_bi_0 hf
  refine hm_aft_i (ws' := fun _ => [oc8 h0 r_t t_base t_taped t_at t_faultPlace t_number t_newBits t_newTold t_newDoings t_newThings t_opened t_sum t_heldAll t_onPaper t_turned t_wasConverted t_lastBits t_lastSum t_lastHeld t_lastLeft t_lastCode t_writtenLong t_codeMany t_acts t_done0 t_stoppedAt, ic E (r_t 0) 800 t_all]) (hm_runV (rest := [.int r1]) hx hb hml hown X hA Y w 0 (ci := 7) (T := TX8) (N := 55) rfl rfl mw_X8_get ml_X8_221 dX8_weight_13 hm_ac0 [.int (21 + a1)] rfl [0, 1] rfl rfl (ct_X8_get l E H.size h0 r_t t_base t_taped t_at t_faultPlace t_number t_newBits t_newTold t_newDoings t_newThings t_opened t_sum t_heldAll t_onPaper t_turned t_wasConverted t_lastBits t_lastSum t_lastHeld t_lastLeft t_lastCode t_writtenLong t_codeMany t_acts t_done0 t_stoppedAt t_all (21 + a1) (r2, ()) hc13) rfl hl.1 ⟨⟨rfl, rfl⟩, ⟨Nat.le_of_ble_eq_true rfl, Nat.le_of_ble_eq_true rfl⟩, ⟨Nat.le_of_ble_eq_true rfl, Nat.le_of_ble_eq_true rfl⟩, Nat.le_of_ble_eq_true rfl⟩) hA w [0, 1] [] [0, 1] rfl rfl (by decide) (fun _ => rfl) (fun _ H locs w => ?_)
  refine lv_iadd hx hb dX8_weight_16 ?_
  exact hQ _ _ _ _ _ () (fun _ => 0) hf rfl w dX8_weight_17
set_option maxHeartbeats 8000000 in
set_option maxRecDepth 100000 in
theorem ct_X8_asked (l : Launch) (E : hm_E) (sz : Nat) (h0 : Nat) (r_t : Nat → Nat) (t_base t_taped t_at t_faultPlace t_number t_newBits t_newTold t_newDoings t_newThings t_opened t_sum t_heldAll t_onPaper t_turned t_wasConverted t_lastBits t_lastSum t_lastHeld t_lastLeft t_lastCode t_writtenLong t_codeMany t_acts t_done0 t_stoppedAt : Int32) (t_all : Nat → Int32) (a1 : Int32) (a2 : Int32) (R : Int32 × Unit) (hf : pf_X8_asked a1 a2 t_all t_base = some R) : hm_Mi l E yX8_asked cX8_asked 3 .int [] (hm_rr 2 42 0 0) [.ref h0, .int a1, .int a2] sz [oc8 h0 r_t t_base t_taped t_at t_faultPlace t_number t_newBits t_newTold t_newDoings t_newThings t_opened t_sum t_heldAll t_onPaper t_turned t_wasConverted t_lastBits t_lastSum t_lastHeld t_lastLeft t_lastCode t_writtenLong t_codeMany t_acts t_done0 t_stoppedAt, ic E (r_t 0) 800 t_all] R.1 (fun _ => [oc8 h0 r_t t_base t_taped t_at t_faultPlace t_number t_newBits t_newTold t_newDoings t_newThings t_opened t_sum t_heldAll t_onPaper t_turned t_wasConverted t_lastBits t_lastSum t_lastHeld t_lastLeft t_lastCode t_writtenLong t_codeMany t_acts t_done0 t_stoppedAt, ic E (r_t 0) 800 t_all]) := by
  refine hm_ct_i R (fun u qs => [oc8 h0 r_t t_base t_taped t_at t_faultPlace t_number t_newBits t_newTold t_newDoings t_newThings t_opened t_sum t_heldAll t_onPaper t_turned t_wasConverted t_lastBits t_lastSum t_lastHeld t_lastLeft t_lastCode t_writtenLong t_codeMany t_acts t_done0 t_stoppedAt, ic E (r_t 0) 800 t_all]) (by decide) (Nat.le_of_ble_eq_true rfl) (Or.inl rfl) ?_
  intro p e s m args below meth c A Q ls H locs hx hb hml hown X hA Y hex w hl hQ
  have hl : lv_has ls 3 [(0, .ref h0), (1, .int a1), (2, .int a2)] := hl
  unfold pf_X8_asked at hf
  refine lv_iload_n hx hb dX8_asked_0 rfl (lv_at hl 1 rfl) ?_
  by_cases c1_0 : a1 = 0
  · have hf := pf_t c1_0 hf
    refine lv_tableIn (off := 31) (tgt := 32) hx hb dX8_asked_1 (by rw [c1_0]; decide) (by rw [c1_0]; decide) (by rw [c1_0]; rfl) (by decide) ?_
    refine lv_iload_n hx hb dX8_asked_32 rfl (lv_at hl 2 rfl) ?_
    exact hQ _ _ _ _ _ () (fun _ => 0) hf rfl w dX8_asked_33
  · have hf := pf_e c1_0 hf
    by_cases c1_1 : a1 = 1
    · have hf := pf_t c1_1 hf
      refine lv_tableIn (off := 33) (tgt := 34) hx hb dX8_asked_1 (by rw [c1_1]; decide) (by rw [c1_1]; decide) (by rw [c1_1]; rfl) (by decide) ?_
      refine lv_aload_n hx hb dX8_asked_34 rfl (lv_at hl 0 rfl) ?_
      refine lv_bipush (v := 9) hx hb dX8_asked_35 (by decide) ?_
      refine lv_iload_n hx hb dX8_asked_37 rfl (lv_at hl 2 rfl) ?_
      refine lv_iadd hx hb dX8_asked_38 ?_
      obtain ⟨r1, hc39, hf⟩ := pf_bi_0 hf
      refine hm_aft_i (ws' := fun _ => [oc8 h0 r_t t_base t_taped t_at t_faultPlace t_number t_newBits t_newTold t_newDoings t_newThings t_opened t_sum t_heldAll t_onPaper t_turned t_wasConverted t_lastBits t_lastSum t_lastHeld t_lastLeft t_lastCode t_writtenLong t_codeMany t_acts t_done0 t_stoppedAt, ic E (r_t 0) 800 t_all]) (hm_runV (rest := []) hx hb hml hown X hA Y w 0 (ci := 7) (T := TX8) (N := 55) rfl rfl mw_X8_get ml_X8_221 dX8_asked_39 hm_ac0 [.int (9 + a2)] rfl [0, 1] rfl rfl (ct_X8_get l E H.size h0 r_t t_base t_taped t_at t_faultPlace t_number t_newBits t_newTold t_newDoings t_newThings t_opened t_sum t_heldAll t_onPaper t_turned t_wasConverted t_lastBits t_lastSum t_lastHeld t_lastLeft t_lastCode t_writtenLong t_codeMany t_acts t_done0 t_stoppedAt t_all (9 + a2) (r1, ()) hc39) rfl hl.1 ⟨⟨rfl, rfl⟩, ⟨Nat.le_of_ble_eq_true rfl, Nat.le_of_ble_eq_true rfl⟩, ⟨Nat.le_of_ble_eq_true rfl, Nat.le_of_ble_eq_true rfl⟩, Nat.le_of_ble_eq_true rfl⟩) hA w [0, 1] [] [0, 1] rfl rfl (by decide) (fun _ => rfl) (fun _ H locs w => ?_)
      exact hQ _ _ _ _ _ () (fun _ => 0) hf rfl w dX8_asked_42
    · have hf := pf_e c1_1 hf
      by_cases c1_2 : a1 = 2
      · have hf := pf_t c1_2 hf
        refine lv_tableIn (off := 42) (tgt := 43) hx hb dX8_asked_1 (by rw [c1_2]; decide) (by rw [c1_2]; decide) (by rw [c1_2]; rfl) (by decide) ?_
        refine lv_aload_n hx hb dX8_asked_43 rfl (lv_at hl 0 rfl) ?_
        refine lv_iload_n hx hb dX8_asked_44 rfl (lv_at hl 2 rfl) ?_
        obtain ⟨r2, hc45, hf⟩ := pf_bi_0 hf
        refine hm_aft_i (ws' := fun _ => [oc8 h0 r_t t_base t_taped t_at t_faultPlace t_number t_newBits t_newTold t_newDoings t_newThings t_opened t_sum t_heldAll t_onPaper t_turned t_wasConverted t_lastBits t_lastSum t_lastHeld t_lastLeft t_lastCode t_writtenLong t_codeMany t_acts t_done0 t_stoppedAt, ic E (r_t 0) 800 t_all]) (hm_runV (rest := []) hx hb hml hown X hA Y w 0 (ci := 7) (T := TX8) (N := 55) rfl rfl mw_X8_weight ml_X8_224 dX8_asked_45 hm_ac0 [.int a2] rfl [0, 1] rfl rfl (ct_X8_weight l E H.size h0 r_t t_base t_taped t_at t_faultPlace t_number t_newBits t_newTold t_newDoings t_newThings t_opened t_sum t_heldAll t_onPaper t_turned t_wasConverted t_lastBits t_lastSum t_lastHeld t_lastLeft t_lastCode t_writtenLong t_codeMany t_acts t_done0 t_stoppedAt t_all a2 (r2, ()) hc45) rfl hl.1 ⟨⟨rfl, rfl⟩, ⟨Nat.le_of_ble_eq_true rfl, Nat.le_of_ble_eq_true rfl⟩, ⟨Nat.le_of_ble_eq_true rfl, Nat.le_of_ble_eq_true rfl⟩, Nat.le_of_ble_eq_true rfl⟩) hA w [0, 1] [] [0, 1] rfl rfl (by decide) (fun _ => rfl) (fun _ H locs w => ?_)
        exact hQ _ _ _ _ _ () (fun _ => 0) hf rfl w dX8_asked_48
      · have hf := pf_e c1_2 hf
        by_cases c1_3 : a1 = 3
        · have hf := pf_t c1_3 hf
          refine lv_tableIn (off := 48) (tgt := 49) hx hb dX8_asked_1 (by rw [c1_3]; decide) (by rw [c1_3]; decide) (by rw [c1_3]; rfl) (by decide) ?_
          refine lv_aload_n hx hb dX8_asked_49 rfl (lv_at hl 0 rfl) ?_
          refine lv_bipush (v := 7) hx hb dX8_asked_50 (by decide) ?_
          obtain ⟨r3, hc52, hf⟩ := pf_bi_0 hf
          refine hm_aft_i (ws' := fun _ => [oc8 h0 r_t t_base t_taped t_at t_faultPlace t_number t_newBits t_newTold t_newDoings t_newThings t_opened t_sum t_heldAll t_onPaper t_turned t_wasConverted t_lastBits t_lastSum t_lastHeld t_lastLeft t_lastCode t_writtenLong t_codeMany t_acts t_done0 t_stoppedAt, ic E (r_t 0) 800 t_all]) (hm_runV (rest := []) hx hb hml hown X hA Y w 0 (ci := 7) (T := TX8) (N := 55) rfl rfl mw_X8_get ml_X8_221 dX8_asked_52 hm_ac0 [.int 7] rfl [0, 1] rfl rfl (ct_X8_get l E H.size h0 r_t t_base t_taped t_at t_faultPlace t_number t_newBits t_newTold t_newDoings t_newThings t_opened t_sum t_heldAll t_onPaper t_turned t_wasConverted t_lastBits t_lastSum t_lastHeld t_lastLeft t_lastCode t_writtenLong t_codeMany t_acts t_done0 t_stoppedAt t_all 7 (r3, ()) hc52) rfl hl.1 ⟨⟨rfl, rfl⟩, ⟨Nat.le_of_ble_eq_true rfl, Nat.le_of_ble_eq_true rfl⟩, ⟨Nat.le_of_ble_eq_true rfl, Nat.le_of_ble_eq_true rfl⟩, Nat.le_of_ble_eq_true rfl⟩) hA w [0, 1] [] [0, 1] rfl rfl (by decide) (fun _ => rfl) (fun _ H locs w => ?_)
          exact hQ _ _ _ _ _ () (fun _ => 0) hf rfl w dX8_asked_55
        · have hf := pf_e c1_3 hf
          refine lv_tableOut (tgt := 56) hx hb dX8_asked_1 (hm_out (fun k h1 h2 => by have u := And.intro h1 h2; have v0 := hm_ti c1_0; rw [show (0 : Int32).toInt = 0 from by decide] at v0; have v1 := hm_ti c1_1; rw [show (1 : Int32).toInt = 1 from by decide] at v1; have v2 := hm_ti c1_2; rw [show (2 : Int32).toInt = 2 from by decide] at v2; have v3 := hm_ti c1_3; rw [show (3 : Int32).toInt = 3 from by decide] at v3; omega)) (by decide) ?_
          refine lv_aload_n hx hb dX8_asked_56 rfl (lv_at hl 0 rfl) ?_
          refine lv_bipush (v := 8) hx hb dX8_asked_57 (by decide) ?_
          obtain ⟨r4, hc59, hf⟩ := pf_bi_0 hf
          refine hm_aft_i (ws' := fun _ => [oc8 h0 r_t t_base t_taped t_at t_faultPlace t_number t_newBits t_newTold t_newDoings t_newThings t_opened t_sum t_heldAll t_onPaper t_turned t_wasConverted t_lastBits t_lastSum t_lastHeld t_lastLeft t_lastCode t_writtenLong t_codeMany t_acts t_done0 t_stoppedAt, ic E (r_t 0) 800 t_all]) (hm_runV (rest := []) hx hb hml hown X hA Y w 0 (ci := 7) (T := TX8) (N := 55) rfl rfl mw_X8_get ml_X8_221 dX8_asked_59 hm_ac0 [.int 8] rfl [0, 1] rfl rfl (ct_X8_get l E H.size h0 r_t t_base t_taped t_at t_faultPlace t_number t_newBits t_newTold t_newDoings t_newThings t_opened t_sum t_heldAll t_onPaper t_turned t_wasConverted t_lastBits t_lastSum t_lastHeld t_lastLeft t_lastCode t_writtenLong t_codeMany t_acts t_done0 t_stoppedAt t_all 8 (r4, ()) hc59) rfl hl.1 ⟨⟨rfl, rfl⟩, ⟨Nat.le_of_ble_eq_true rfl, Nat.le_of_ble_eq_true rfl⟩, ⟨Nat.le_of_ble_eq_true rfl, Nat.le_of_ble_eq_true rfl⟩, Nat.le_of_ble_eq_true rfl⟩) hA w [0, 1] [] [0, 1] rfl rfl (by decide) (fun _ => rfl) (fun _ H locs w => ?_)
          exact hQ _ _ _ _ _ () (fun _ => 0) hf rfl w dX8_asked_62
set_option maxHeartbeats 8000000 in
set_option maxRecDepth 100000 in
theorem ct_X8_joined (l : Launch) (E : hm_E) (sz : Nat) (a0 : Int32) (a1 : Int32) (a2 : Int32) (R : Int32 × Unit) (hf : pf_X8_joined a0 a1 a2 = some R) : hm_Mi l E yX8_joined cX8_joined 3 .int [] (hm_rr 0 0 0 0) [.int a0, .int a1, .int a2] sz [] R.1 (fun _ => []) := by
  refine hm_ct_i R (fun u qs => []) (by decide) (Nat.le_of_ble_eq_true rfl) (Or.inl rfl) ?_
  intro p e s m args below meth c A Q ls H locs hx hb hml hown X hA Y hex w hl hQ
  have hl : lv_has ls 3 [(0, .int a0), (1, .int a1), (2, .int a2)] := hl
  unfold pf_X8_joined at hf
  refine lv_iload_n hx hb dX8_joined_0 rfl (lv_at hl 0 rfl) ?_
  by_cases c1_10010 : a0 = 10010
  · have hf := pf_t c1_10010 hf
    refine lv_tableIn (off := 31) (tgt := 32) hx hb dX8_joined_1 (by rw [c1_10010]; decide) (by rw [c1_10010]; decide) (by rw [c1_10010]; rfl) (by decide) ?_
    refine lv_iload_n hx hb dX8_joined_32 rfl (lv_at hl 1 rfl) ?_
    refine lv_iload_n hx hb dX8_joined_33 rfl (lv_at hl 2 rfl) ?_
    refine lv_iadd hx hb dX8_joined_34 ?_
    exact hQ _ _ _ _ _ () (fun _ => 0) hf rfl w dX8_joined_35
  · have hf := pf_e c1_10010 hf
    by_cases c1_10011 : a0 = 10011
    · have hf := pf_t c1_10011 hf
      refine lv_tableIn (off := 35) (tgt := 36) hx hb dX8_joined_1 (by rw [c1_10011]; decide) (by rw [c1_10011]; decide) (by rw [c1_10011]; rfl) (by decide) ?_
      refine lv_iload_n hx hb dX8_joined_36 rfl (lv_at hl 1 rfl) ?_
      refine lv_iload_n hx hb dX8_joined_37 rfl (lv_at hl 2 rfl) ?_
      refine lv_isub hx hb dX8_joined_38 ?_
      exact hQ _ _ _ _ _ () (fun _ => 0) hf rfl w dX8_joined_39
    · have hf := pf_e c1_10011 hf
      by_cases c1_10012 : a0 = 10012
      · have hf := pf_t c1_10012 hf
        refine lv_tableIn (off := 39) (tgt := 40) hx hb dX8_joined_1 (by rw [c1_10012]; decide) (by rw [c1_10012]; decide) (by rw [c1_10012]; rfl) (by decide) ?_
        refine lv_iload_n hx hb dX8_joined_40 rfl (lv_at hl 1 rfl) ?_
        refine lv_iload_n hx hb dX8_joined_41 rfl (lv_at hl 2 rfl) ?_
        refine lv_imul hx hb dX8_joined_42 ?_
        exact hQ _ _ _ _ _ () (fun _ => 0) hf rfl w dX8_joined_43
      · have hf := pf_e c1_10012 hf
        by_cases c1_10013 : a0 = 10013
        · have hf := pf_t c1_10013 hf
          refine lv_tableIn (off := 43) (tgt := 44) hx hb dX8_joined_1 (by rw [c1_10013]; decide) (by rw [c1_10013]; decide) (by rw [c1_10013]; rfl) (by decide) ?_
          refine lv_iload_n hx hb dX8_joined_44 rfl (lv_at hl 2 rfl) ?_
          refine lv_if_ne (tgt := 52) hx hb dX8_joined_45 (by decide) (fun c45 => ?_) (fun c45 => ?_)
          · have hf := pf_e c45 hf
            refine lv_iload_n hx hb dX8_joined_52 rfl (lv_at hl 1 rfl) ?_
            refine lv_iload_n hx hb dX8_joined_53 rfl (lv_at hl 2 rfl) ?_
            obtain ⟨g54, hf⟩ := pf_ckD hf
            refine lv_idiv hx hb dX8_joined_54 g54 ?_
            exact hQ _ _ _ _ _ () (fun _ => 0) hf rfl w dX8_joined_55
          · have hf := pf_t c45 hf
            refine lv_iconst (v := 0) hx hb dX8_joined_48 (by decide) ?_
            refine lv_goto (tgt := 55) hx hb dX8_joined_49 (by decide) ?_
            exact hQ _ _ _ _ _ () (fun _ => 0) hf rfl w dX8_joined_55
        · have hf := pf_e c1_10013 hf
          refine lv_tableOut (tgt := 56) hx hb dX8_joined_1 (hm_out (fun k h1 h2 => by have u := And.intro h1 h2; have v10010 := hm_ti c1_10010; rw [show (10010 : Int32).toInt = 10010 from by decide] at v10010; have v10011 := hm_ti c1_10011; rw [show (10011 : Int32).toInt = 10011 from by decide] at v10011; have v10012 := hm_ti c1_10012; rw [show (10012 : Int32).toInt = 10012 from by decide] at v10012; have v10013 := hm_ti c1_10013; rw [show (10013 : Int32).toInt = 10013 from by decide] at v10013; omega)) (by decide) ?_
          refine lv_iload_n hx hb dX8_joined_56 rfl (lv_at hl 2 rfl) ?_
          refine lv_if_ne (tgt := 64) hx hb dX8_joined_57 (by decide) (fun c57 => ?_) (fun c57 => ?_)
          · have hf := pf_e c57 hf
            refine lv_iload_n hx hb dX8_joined_64 rfl (lv_at hl 1 rfl) ?_
            refine lv_iload_n hx hb dX8_joined_65 rfl (lv_at hl 2 rfl) ?_
            obtain ⟨g66, hf⟩ := pf_ckD hf
            refine lv_irem hx hb dX8_joined_66 g66 ?_
            exact hQ _ _ _ _ _ () (fun _ => 0) hf rfl w dX8_joined_67
          · have hf := pf_t c57 hf
            refine lv_iconst (v := 0) hx hb dX8_joined_60 (by decide) ?_
            refine lv_goto (tgt := 67) hx hb dX8_joined_61 (by decide) ?_
            exact hQ _ _ _ _ _ () (fun _ => 0) hf rfl w dX8_joined_67
set_option maxHeartbeats 8000000 in
set_option maxRecDepth 100000 in
theorem ct_X8_driftOf (l : Launch) (E : hm_E) (sz : Nat) (h0 : Nat) (r_t : Nat → Nat) (t_base t_taped t_at t_faultPlace t_number t_newBits t_newTold t_newDoings t_newThings t_opened t_sum t_heldAll t_onPaper t_turned t_wasConverted t_lastBits t_lastSum t_lastHeld t_lastLeft t_lastCode t_writtenLong t_codeMany t_acts t_done0 t_stoppedAt : Int32) (t_all : Nat → Int32) (t_pile : Nat → Int32) (a1 : Int32) (R : Int32 × (Nat → Int32)) (hf : pf_X8_driftOf a1 t_all t_base t_pile = some R) : hm_Mi l E yX8_driftOf cX8_driftOf 6 .int [] (hm_rr 3 64 0 0) [.ref h0, .int a1] sz [oc8 h0 r_t t_base t_taped t_at t_faultPlace t_number t_newBits t_newTold t_newDoings t_newThings t_opened t_sum t_heldAll t_onPaper t_turned t_wasConverted t_lastBits t_lastSum t_lastHeld t_lastLeft t_lastCode t_writtenLong t_codeMany t_acts t_done0 t_stoppedAt, ic E (r_t 0) 800 t_all, ic E (r_t 23) 90 t_pile] R.1 (fun _ => [oc8 h0 r_t t_base t_taped t_at t_faultPlace t_number t_newBits t_newTold t_newDoings t_newThings t_opened t_sum t_heldAll t_onPaper t_turned t_wasConverted t_lastBits t_lastSum t_lastHeld t_lastLeft t_lastCode t_writtenLong t_codeMany t_acts t_done0 t_stoppedAt, ic E (r_t 0) 800 t_all, ic E (r_t 23) 90 R.2]) := by
  refine hm_ct_i R (fun u qs => [oc8 h0 r_t t_base t_taped t_at t_faultPlace t_number t_newBits t_newTold t_newDoings t_newThings t_opened t_sum t_heldAll t_onPaper t_turned t_wasConverted t_lastBits t_lastSum t_lastHeld t_lastLeft t_lastCode t_writtenLong t_codeMany t_acts t_done0 t_stoppedAt, ic E (r_t 0) 800 t_all, ic E (r_t 23) 90 u]) (by decide) (Nat.le_of_ble_eq_true rfl) (Or.inl rfl) ?_
  intro p e s m args below meth c A Q ls H locs hx hb hml hown X hA Y hex w hl hQ
  have hl : lv_has ls 6 [(0, .ref h0), (1, .int a1)] := hl
  unfold pf_X8_driftOf at hf
  refine lv_iconst (v := 0) hx hb dX8_driftOf_0 (by decide) ?_
  refine lv_istore_n (lv' := [(2, .int 0), (0, .ref h0), (1, .int a1)]) hx hb dX8_driftOf_1 rfl hl (by decide) rfl (fun ls hl => ?_)
  refine lv_iconst (v := 0) hx hb dX8_driftOf_2 (by decide) ?_
  refine lv_istore_n (lv' := [(3, .int 0), (2, .int 0), (0, .ref h0), (1, .int a1)]) hx hb dX8_driftOf_3 rfl hl (by decide) rfl (fun ls hl => ?_)
  obtain ⟨J235, hJ235, hf⟩ := pf_jn hf
  have kJ235 : ∀ (x1 : Int32) (f2 : Nat → Int32) (H : Heap) (locs : List Loc) (ls : Array Slot), J235 x1 f2 = some R → hm_W E A s.heap [oc8 h0 r_t t_base t_taped t_at t_faultPlace t_number t_newBits t_newTold t_newDoings t_newThings t_opened t_sum t_heldAll t_onPaper t_turned t_wasConverted t_lastBits t_lastSum t_lastHeld t_lastLeft t_lastCode t_writtenLong t_codeMany t_acts t_done0 t_stoppedAt, ic E (r_t 0) 800 t_all, ic E (r_t 23) 90 f2] H locs → lv_has ls 6 [(0, .ref h0), (2, .int x1)] → W p l e (hm_rr 3 64 0 0) s m args below meth c H locs 0 0 Q (F0 m 235 ls []) := by
    intro x1 f2 H locs ls hf w hl
    have hf := pf_j2 hJ235 hf
    refine lv_iload_n hx hb dX8_driftOf_235 rfl (lv_at hl 1 rfl) ?_
    refine lv_if_ne (tgt := 243) hx hb dX8_driftOf_236 (by decide) (fun c236 => ?_) (fun c236 => ?_)
    · have hf := pf_e c236 hf
      refine lv_aload_n hx hb dX8_driftOf_243 rfl (lv_at hl 0 rfl) ?_
      refine hm_get cb_X8 hx hb hown X w 0 23 fl_X8_61 dX8_driftOf_244 rfl (by decide) rfl ?_
      refine lv_iconst (v := 0) hx hb dX8_driftOf_247 (by decide) ?_
      obtain ⟨g248, hf⟩ := pf_ckI hf
      refine hm_iald hx hb X w 2 dX8_driftOf_248 rfl g248 ?_
      exact hQ _ _ _ _ _ f2 (fun _ => 0) hf rfl w dX8_driftOf_249
    · have hf := pf_t c236 hf
      refine lv_iconst (v := 0) hx hb dX8_driftOf_239 (by decide) ?_
      refine lv_goto (tgt := 249) hx hb dX8_driftOf_240 (by decide) ?_
      exact hQ _ _ _ _ _ f2 (fun _ => 0) hf rfl w dX8_driftOf_249
  have klp_X8_driftOf_4 : ∀ (n : Nat) (x3 : Int32) (x4 : Int32) (f5 : Nat → Int32) (H : Heap) (locs : List Loc) (ls : Array Slot), lp_X8_driftOf_4 a1 t_base t_all J235 n x3 x4 f5 = some R → hm_W E A s.heap [oc8 h0 r_t t_base t_taped t_at t_faultPlace t_number t_newBits t_newTold t_newDoings t_newThings t_opened t_sum t_heldAll t_onPaper t_turned t_wasConverted t_lastBits t_lastSum t_lastHeld t_lastLeft t_lastCode t_writtenLong t_codeMany t_acts t_done0 t_stoppedAt, ic E (r_t 0) 800 t_all, ic E (r_t 23) 90 f5] H locs → lv_has ls 6 [(0, .ref h0), (1, .int a1), (2, .int x3), (3, .int x4)] → W p l e (hm_rr 3 64 0 0) s m args below meth c H locs 0 0 Q (F0 m 4 ls []) := by
    intro n
    induction n with
    | zero =>
      intro x3 x4 f5 H locs ls hf w hl
      exact pf_no hf
    | succ n ih4 =>
      intro x3 x4 f5 H locs ls hf w hl
      rw [lp_X8_driftOf_4] at hf
      refine lv_iload_n hx hb dX8_driftOf_4 rfl (lv_at hl 3 rfl) ?_
      refine lv_aload_n hx hb dX8_driftOf_5 rfl (lv_at hl 0 rfl) ?_
      refine lv_bipush (v := 75) hx hb dX8_driftOf_6 (by decide) ?_
      obtain ⟨r6, hc8, hf⟩ := pf_bi_0 hf
      refine hm_aft_i (ws' := fun _ => [oc8 h0 r_t t_base t_taped t_at t_faultPlace t_number t_newBits t_newTold t_newDoings t_newThings t_opened t_sum t_heldAll t_onPaper t_turned t_wasConverted t_lastBits t_lastSum t_lastHeld t_lastLeft t_lastCode t_writtenLong t_codeMany t_acts t_done0 t_stoppedAt, ic E (r_t 0) 800 t_all, ic E (r_t 23) 90 f5]) (hm_runV (rest := [.int x4]) hx hb hml hown X hA Y w 0 (ci := 7) (T := TX8) (N := 55) rfl rfl mw_X8_get ml_X8_221 dX8_driftOf_8 hm_ac0 [.int 75] rfl [0, 1] rfl rfl (ct_X8_get l E H.size h0 r_t t_base t_taped t_at t_faultPlace t_number t_newBits t_newTold t_newDoings t_newThings t_opened t_sum t_heldAll t_onPaper t_turned t_wasConverted t_lastBits t_lastSum t_lastHeld t_lastLeft t_lastCode t_writtenLong t_codeMany t_acts t_done0 t_stoppedAt t_all 75 (r6, ()) hc8) rfl hl.1 ⟨⟨rfl, rfl⟩, ⟨Nat.le_of_ble_eq_true rfl, Nat.le_of_ble_eq_true rfl⟩, ⟨Nat.le_of_ble_eq_true rfl, Nat.le_of_ble_eq_true rfl⟩, Nat.le_of_ble_eq_true rfl⟩) hA w [0, 1] [2] [1, 2, 0] rfl rfl (by decide) (fun _ => rfl) (fun _ H locs w => ?_)
      refine lv_icmp_ge (tgt := 235) hx hb dX8_driftOf_11 (by decide) (fun c11 => ?_) (fun c11 => ?_)
      · have hf := pf_t c11 hf
        exact kJ235 _ _ _ _ _ hf w (lv_sub hl [0, 2] rfl)
      · have hf := pf_e c11 hf
        refine lv_aload_n hx hb dX8_driftOf_14 rfl (lv_at hl 0 rfl) ?_
        refine lv_bipush (v := 76) hx hb dX8_driftOf_15 (by decide) ?_
        refine lv_iload_n hx hb dX8_driftOf_17 rfl (lv_at hl 3 rfl) ?_
        refine lv_iadd hx hb dX8_driftOf_18 ?_
        obtain ⟨r7, hc19, hf⟩ := pf_bi_0 hf
        refine hm_aft_i (ws' := fun _ => [oc8 h0 r_t t_base t_taped t_at t_faultPlace t_number t_newBits t_newTold t_newDoings t_newThings t_opened t_sum t_heldAll t_onPaper t_turned t_wasConverted t_lastBits t_lastSum t_lastHeld t_lastLeft t_lastCode t_writtenLong t_codeMany t_acts t_done0 t_stoppedAt, ic E (r_t 0) 800 t_all, ic E (r_t 23) 90 f5]) (hm_runV (rest := []) hx hb hml hown X hA Y w 0 (ci := 7) (T := TX8) (N := 55) rfl rfl mw_X8_get ml_X8_221 dX8_driftOf_19 hm_ac0 [.int (76 + x4)] rfl [0, 1] rfl rfl (ct_X8_get l E H.size h0 r_t t_base t_taped t_at t_faultPlace t_number t_newBits t_newTold t_newDoings t_newThings t_opened t_sum t_heldAll t_onPaper t_turned t_wasConverted t_lastBits t_lastSum t_lastHeld t_lastLeft t_lastCode t_writtenLong t_codeMany t_acts t_done0 t_stoppedAt t_all (76 + x4) (r7, ()) hc19) rfl hl.1 ⟨⟨rfl, rfl⟩, ⟨Nat.le_of_ble_eq_true rfl, Nat.le_of_ble_eq_true rfl⟩, ⟨Nat.le_of_ble_eq_true rfl, Nat.le_of_ble_eq_true rfl⟩, Nat.le_of_ble_eq_true rfl⟩) hA w [0, 1] [2] [1, 2, 0] rfl rfl (by decide) (fun _ => rfl) (fun _ H locs w => ?_)
        refine lv_istore (lv' := [(4, .int r7), (0, .ref h0), (1, .int a1), (2, .int x3), (3, .int x4)]) hx hb dX8_driftOf_22 hl (by decide) rfl (fun ls hl => ?_)
        refine lv_iload hx hb dX8_driftOf_24 (lv_at hl 0 rfl) ?_
        refine lv_sipush (v := 10010) hx hb dX8_driftOf_26 (by decide) ?_
        refine lv_icmp_ge (tgt := 68) hx hb dX8_driftOf_29 (by decide) (fun c29 => ?_) (fun c29 => ?_)
        · have hf := pf_t c29 hf
          refine lv_iload hx hb dX8_driftOf_68 (lv_at hl 0 rfl) ?_
          refine lv_sipush (v := 10015) hx hb dX8_driftOf_70 (by decide) ?_
          refine lv_icmp_ge (tgt := 109) hx hb dX8_driftOf_73 (by decide) (fun c73 => ?_) (fun c73 => ?_)
          · have hf := pf_t c73 hf
            refine lv_iload hx hb dX8_driftOf_109 (lv_at hl 0 rfl) ?_
            refine lv_sipush (v := 10015) hx hb dX8_driftOf_111 (by decide) ?_
            refine lv_icmp_ne (tgt := 137) hx hb dX8_driftOf_114 (by decide) (fun c114 => ?_) (fun c114 => ?_)
            · have hf := pf_e c114 hf
              obtain ⟨x8, ex8⟩ : ∃ y : Int32, y = (x3 + (-3)) := ⟨_, rfl⟩
              have hf := pf_nm ex8 hf
              refine lv_iinc (v := x8) (lv' := [(2, .int x8), (4, .int r7), (0, .ref h0), (1, .int a1), (3, .int x4)]) hx hb dX8_driftOf_137 hl (k := 3) rfl (by rw [ex8]; rfl) (by decide) rfl (fun ls hl => ?_)
              refine lv_iload hx hb dX8_driftOf_140 (lv_at hl 1 rfl) ?_
              refine lv_sipush (v := 10016) hx hb dX8_driftOf_142 (by decide) ?_
              obtain ⟨J195, hJ195, hf⟩ := pf_jn hf
              have kJ195 : ∀ (x9 : Int32) (H : Heap) (locs : List Loc) (ls : Array Slot), J195 x9 = some R → hm_W E A s.heap [oc8 h0 r_t t_base t_taped t_at t_faultPlace t_number t_newBits t_newTold t_newDoings t_newThings t_opened t_sum t_heldAll t_onPaper t_turned t_wasConverted t_lastBits t_lastSum t_lastHeld t_lastLeft t_lastCode t_writtenLong t_codeMany t_acts t_done0 t_stoppedAt, ic E (r_t 0) 800 t_all, ic E (r_t 23) 90 f5] H locs → lv_has ls 6 [(0, .ref h0), (1, .int a1), (2, .int x8), (3, .int x4)] → W p l e (hm_rr 3 64 0 0) s m args below meth c H locs 0 0 Q (F0 m 195 ls [.int x9]) := by
                intro x9 H locs ls hf w hl
                have hf := pf_j1 hJ195 hf
                refine lv_istore (lv' := [(5, .int x9), (0, .ref h0), (1, .int a1), (2, .int x8), (3, .int x4)]) hx hb dX8_driftOf_195 hl (by decide) rfl (fun ls hl => ?_)
                refine lv_aload_n hx hb dX8_driftOf_197 rfl (lv_at hl 1 rfl) ?_
                refine hm_get cb_X8 hx hb hown X w 0 23 fl_X8_61 dX8_driftOf_198 rfl (by decide) rfl ?_
                refine lv_iload_n hx hb dX8_driftOf_201 rfl (lv_at hl 3 rfl) ?_
                refine lv_iconst (v := 1) hx hb dX8_driftOf_202 (by decide) ?_
                refine lv_isub hx hb dX8_driftOf_203 ?_
                refine lv_iload hx hb dX8_driftOf_204 (lv_at hl 0 rfl) ?_
                obtain ⟨J228, hJ228, hf⟩ := pf_jn hf
                have kJ228 : ∀ (x10 : Int32) (H : Heap) (locs : List Loc) (ls : Array Slot), J228 x10 = some R → hm_W E A s.heap [oc8 h0 r_t t_base t_taped t_at t_faultPlace t_number t_newBits t_newTold t_newDoings t_newThings t_opened t_sum t_heldAll t_onPaper t_turned t_wasConverted t_lastBits t_lastSum t_lastHeld t_lastLeft t_lastCode t_writtenLong t_codeMany t_acts t_done0 t_stoppedAt, ic E (r_t 0) 800 t_all, ic E (r_t 23) 90 f5] H locs → lv_has ls 6 [(0, .ref h0), (1, .int a1), (2, .int x8), (3, .int x4)] → W p l e (hm_rr 3 64 0 0) s m args below meth c H locs 0 0 Q (F0 m 228 ls [.int x10, .int (x8 - 1), .ref (r_t 23)]) := by
                  intro x10 H locs ls hf w hl
                  have hf := pf_j1 hJ228 hf
                  obtain ⟨g228, hf⟩ := pf_ckI hf
                  refine hm_iast (ws' := [oc8 h0 r_t t_base t_taped t_at t_faultPlace t_number t_newBits t_newTold t_newDoings t_newThings t_opened t_sum t_heldAll t_onPaper t_turned t_wasConverted t_lastBits t_lastSum t_lastHeld t_lastLeft t_lastCode t_writtenLong t_codeMany t_acts t_done0 t_stoppedAt, ic E (r_t 0) 800 t_all, ic E (r_t 23) 90 (upd f5 (x8 - 1).toNatClampNeg x10)]) hx hb X w 2 dX8_driftOf_228 rfl g228 rfl (fun H locs w => ?_)
                  obtain ⟨x11, ex11⟩ : ∃ y : Int32, y = (x4 + 1) := ⟨_, rfl⟩
                  have hf := pf_nm ex11 hf
                  refine lv_iinc (v := x11) (lv' := [(3, .int x11), (0, .ref h0), (1, .int a1), (2, .int x8)]) hx hb dX8_driftOf_229 hl (k := 3) rfl (by rw [ex11]; rfl) (by decide) rfl (fun ls hl => ?_)
                  refine lv_goto (tgt := 4) hx hb dX8_driftOf_232 (by decide) ?_
                  exact ih4 _ _ _ _ _ _ hf w (lv_sub hl [1, 2, 3, 0] rfl)
                refine lv_if_eq (tgt := 220) hx hb dX8_driftOf_206 (by decide) (fun c206 => ?_) (fun c206 => ?_)
                · have hf := pf_t c206 hf
                  refine lv_aload_n hx hb dX8_driftOf_220 rfl (lv_at hl 1 rfl) ?_
                  refine hm_get cb_X8 hx hb hown X w 0 23 fl_X8_61 dX8_driftOf_221 rfl (by decide) rfl ?_
                  refine lv_iload_n hx hb dX8_driftOf_224 rfl (lv_at hl 3 rfl) ?_
                  refine lv_iconst (v := 2) hx hb dX8_driftOf_225 (by decide) ?_
                  refine lv_iadd hx hb dX8_driftOf_226 ?_
                  obtain ⟨g227, hf⟩ := pf_ckI hf
                  refine hm_iald hx hb X w 2 dX8_driftOf_227 rfl g227 ?_
                  exact kJ228 _ _ _ _ hf w (lv_sub hl [1, 2, 3, 4] rfl)
                · have hf := pf_e c206 hf
                  refine lv_aload_n hx hb dX8_driftOf_209 rfl (lv_at hl 1 rfl) ?_
                  refine hm_get cb_X8 hx hb hown X w 0 23 fl_X8_61 dX8_driftOf_210 rfl (by decide) rfl ?_
                  refine lv_iload_n hx hb dX8_driftOf_213 rfl (lv_at hl 3 rfl) ?_
                  refine lv_iconst (v := 1) hx hb dX8_driftOf_214 (by decide) ?_
                  refine lv_iadd hx hb dX8_driftOf_215 ?_
                  obtain ⟨g216, hf⟩ := pf_ckI hf
                  refine hm_iald hx hb X w 2 dX8_driftOf_216 rfl g216 ?_
                  refine lv_goto (tgt := 228) hx hb dX8_driftOf_217 (by decide) ?_
                  exact kJ228 _ _ _ _ hf w (lv_sub hl [1, 2, 3, 4] rfl)
              refine lv_icmp_ne (tgt := 173) hx hb dX8_driftOf_145 (by decide) (fun c145 => ?_) (fun c145 => ?_)
              · have hf := pf_e c145 hf
                refine lv_aload_n hx hb dX8_driftOf_173 rfl (lv_at hl 2 rfl) ?_
                refine hm_get cb_X8 hx hb hown X w 0 23 fl_X8_61 dX8_driftOf_174 rfl (by decide) rfl ?_
                refine lv_iload_n hx hb dX8_driftOf_177 rfl (lv_at hl 0 rfl) ?_
                refine lv_iconst (v := 1) hx hb dX8_driftOf_178 (by decide) ?_
                refine lv_isub hx hb dX8_driftOf_179 ?_
                obtain ⟨g180, hf⟩ := pf_ckI hf
                refine hm_iald hx hb X w 2 dX8_driftOf_180 rfl g180 ?_
                refine lv_aload_n hx hb dX8_driftOf_181 rfl (lv_at hl 2 rfl) ?_
                refine hm_get cb_X8 hx hb hown X w 0 23 fl_X8_61 dX8_driftOf_182 rfl (by decide) rfl ?_
                refine lv_iload_n hx hb dX8_driftOf_185 rfl (lv_at hl 0 rfl) ?_
                obtain ⟨g186, hf⟩ := pf_ckI hf
                refine hm_iald hx hb X w 2 dX8_driftOf_186 rfl g186 ?_
                refine lv_icmp_ne (tgt := 194) hx hb dX8_driftOf_187 (by decide) (fun c187 => ?_) (fun c187 => ?_)
                · have hf := pf_e c187 hf
                  refine lv_iconst (v := 0) hx hb dX8_driftOf_194 (by decide) ?_
                  exact kJ195 _ _ _ _ hf w (lv_sub hl [2, 3, 0, 4] rfl)
                · have hf := pf_t c187 hf
                  refine lv_iconst (v := 1) hx hb dX8_driftOf_190 (by decide) ?_
                  refine lv_goto (tgt := 195) hx hb dX8_driftOf_191 (by decide) ?_
                  exact kJ195 _ _ _ _ hf w (lv_sub hl [2, 3, 0, 4] rfl)
              · have hf := pf_t c145 hf
                refine lv_aload_n hx hb dX8_driftOf_148 rfl (lv_at hl 2 rfl) ?_
                refine hm_get cb_X8 hx hb hown X w 0 23 fl_X8_61 dX8_driftOf_149 rfl (by decide) rfl ?_
                refine lv_iload_n hx hb dX8_driftOf_152 rfl (lv_at hl 0 rfl) ?_
                refine lv_iconst (v := 1) hx hb dX8_driftOf_153 (by decide) ?_
                refine lv_isub hx hb dX8_driftOf_154 ?_
                obtain ⟨g155, hf⟩ := pf_ckI hf
                refine hm_iald hx hb X w 2 dX8_driftOf_155 rfl g155 ?_
                refine lv_aload_n hx hb dX8_driftOf_156 rfl (lv_at hl 2 rfl) ?_
                refine hm_get cb_X8 hx hb hown X w 0 23 fl_X8_61 dX8_driftOf_157 rfl (by decide) rfl ?_
                refine lv_iload_n hx hb dX8_driftOf_160 rfl (lv_at hl 0 rfl) ?_
                obtain ⟨g161, hf⟩ := pf_ckI hf
                refine hm_iald hx hb X w 2 dX8_driftOf_161 rfl g161 ?_
                refine lv_icmp_ge (tgt := 169) hx hb dX8_driftOf_162 (by decide) (fun c162 => ?_) (fun c162 => ?_)
                · have hf := pf_t c162 hf
                  refine lv_iconst (v := 0) hx hb dX8_driftOf_169 (by decide) ?_
                  refine lv_goto (tgt := 195) hx hb dX8_driftOf_170 (by decide) ?_
                  exact kJ195 _ _ _ _ hf w (lv_sub hl [2, 3, 0, 4] rfl)
                · have hf := pf_e c162 hf
                  refine lv_iconst (v := 1) hx hb dX8_driftOf_165 (by decide) ?_
                  refine lv_goto (tgt := 195) hx hb dX8_driftOf_166 (by decide) ?_
                  exact kJ195 _ _ _ _ hf w (lv_sub hl [2, 3, 0, 4] rfl)
            · have hf := pf_t c114 hf
              refine lv_aload_n hx hb dX8_driftOf_117 rfl (lv_at hl 1 rfl) ?_
              refine hm_get cb_X8 hx hb hown X w 0 23 fl_X8_61 dX8_driftOf_118 rfl (by decide) rfl ?_
              refine lv_iload_n hx hb dX8_driftOf_121 rfl (lv_at hl 3 rfl) ?_
              refine lv_iconst (v := 1) hx hb dX8_driftOf_122 (by decide) ?_
              refine lv_isub hx hb dX8_driftOf_123 ?_
              refine lv_aload_n hx hb dX8_driftOf_124 rfl (lv_at hl 1 rfl) ?_
              refine hm_get cb_X8 hx hb hown X w 0 23 fl_X8_61 dX8_driftOf_125 rfl (by decide) rfl ?_
              refine lv_iload_n hx hb dX8_driftOf_128 rfl (lv_at hl 3 rfl) ?_
              refine lv_iconst (v := 1) hx hb dX8_driftOf_129 (by decide) ?_
              refine lv_isub hx hb dX8_driftOf_130 ?_
              obtain ⟨g131, hf⟩ := pf_ckI hf
              refine hm_iald hx hb X w 2 dX8_driftOf_131 rfl g131 ?_
              refine lv_ineg hx hb dX8_driftOf_132 ?_
              refine lv_topi (fun x12 ex12 => ?_)
              have hf := pf_nm ex12 hf
              obtain ⟨g133, hf⟩ := pf_ckI hf
              refine hm_iast (ws' := [oc8 h0 r_t t_base t_taped t_at t_faultPlace t_number t_newBits t_newTold t_newDoings t_newThings t_opened t_sum t_heldAll t_onPaper t_turned t_wasConverted t_lastBits t_lastSum t_lastHeld t_lastLeft t_lastCode t_writtenLong t_codeMany t_acts t_done0 t_stoppedAt, ic E (r_t 0) 800 t_all, ic E (r_t 23) 90 (upd f5 (x3 - 1).toNatClampNeg x12)]) hx hb X w 2 dX8_driftOf_133 rfl g133 rfl (fun H locs w => ?_)
              refine lv_goto (tgt := 229) hx hb dX8_driftOf_134 (by decide) ?_
              obtain ⟨x13, ex13⟩ : ∃ y : Int32, y = (x4 + 1) := ⟨_, rfl⟩
              have hf := pf_nm ex13 hf
              refine lv_iinc (v := x13) (lv' := [(3, .int x13), (4, .int r7), (0, .ref h0), (1, .int a1), (2, .int x3)]) hx hb dX8_driftOf_229 hl (k := 4) rfl (by rw [ex13]; rfl) (by decide) rfl (fun ls hl => ?_)
              refine lv_goto (tgt := 4) hx hb dX8_driftOf_232 (by decide) ?_
              exact ih4 _ _ _ _ _ _ hf w (lv_sub hl [2, 3, 4, 0] rfl)
          · have hf := pf_e c73 hf
            obtain ⟨x14, ex14⟩ : ∃ y : Int32, y = (x3 + (-1)) := ⟨_, rfl⟩
            have hf := pf_nm ex14 hf
            refine lv_iinc (v := x14) (lv' := [(2, .int x14), (4, .int r7), (0, .ref h0), (1, .int a1), (3, .int x4)]) hx hb dX8_driftOf_76 hl (k := 3) rfl (by rw [ex14]; rfl) (by decide) rfl (fun ls hl => ?_)
            refine lv_aload_n hx hb dX8_driftOf_79 rfl (lv_at hl 2 rfl) ?_
            refine hm_get cb_X8 hx hb hown X w 0 23 fl_X8_61 dX8_driftOf_80 rfl (by decide) rfl ?_
            refine lv_iload_n hx hb dX8_driftOf_83 rfl (lv_at hl 0 rfl) ?_
            refine lv_iconst (v := 1) hx hb dX8_driftOf_84 (by decide) ?_
            refine lv_isub hx hb dX8_driftOf_85 ?_
            refine lv_iload hx hb dX8_driftOf_86 (lv_at hl 1 rfl) ?_
            refine lv_aload_n hx hb dX8_driftOf_88 rfl (lv_at hl 2 rfl) ?_
            refine hm_get cb_X8 hx hb hown X w 0 23 fl_X8_61 dX8_driftOf_89 rfl (by decide) rfl ?_
            refine lv_iload_n hx hb dX8_driftOf_92 rfl (lv_at hl 0 rfl) ?_
            refine lv_iconst (v := 1) hx hb dX8_driftOf_93 (by decide) ?_
            refine lv_isub hx hb dX8_driftOf_94 ?_
            obtain ⟨g95, hf⟩ := pf_ckI hf
            refine hm_iald hx hb X w 2 dX8_driftOf_95 rfl g95 ?_
            refine lv_aload_n hx hb dX8_driftOf_96 rfl (lv_at hl 2 rfl) ?_
            refine hm_get cb_X8 hx hb hown X w 0 23 fl_X8_61 dX8_driftOf_97 rfl (by decide) rfl ?_
            refine lv_iload_n hx hb dX8_driftOf_100 rfl (lv_at hl 0 rfl) ?_
            obtain ⟨g101, hf⟩ := pf_ckI hf
            refine hm_iald hx hb X w 2 dX8_driftOf_101 rfl g101 ?_
            obtain ⟨r15, hc102, hf⟩ := pf_bi_0 hf
            refine hm_aft_i (ws' := fun _ => [oc8 h0 r_t t_base t_taped t_at t_faultPlace t_number t_newBits t_newTold t_newDoings t_newThings t_opened t_sum t_heldAll t_onPaper t_turned t_wasConverted t_lastBits t_lastSum t_lastHeld t_lastLeft t_lastCode t_writtenLong t_codeMany t_acts t_done0 t_stoppedAt, ic E (r_t 0) 800 t_all, ic E (r_t 23) 90 f5]) (hm_runS (rest := [.int (x14 - 1), .ref (r_t 23)]) hx hb hml hown X hA Y w mw_X8_joined ml_X8_231 dX8_driftOf_102 hm_ac0 [.int r7, .int (f5 (x14 - 1).toNatClampNeg), .int (f5 x14.toNatClampNeg)] rfl [] rfl rfl (ct_X8_joined l E H.size r7 (f5 (x14 - 1).toNatClampNeg) (f5 x14.toNatClampNeg) (r15, ()) hc102) rfl hl.1 ⟨⟨rfl, rfl⟩, ⟨Nat.le_of_ble_eq_true rfl, Nat.le_of_ble_eq_true rfl⟩, ⟨Nat.le_of_ble_eq_true rfl, Nat.le_of_ble_eq_true rfl⟩, Nat.le_of_ble_eq_true rfl⟩) hA w [] [0, 1, 2] [0, 1, 2] rfl rfl (by decide) (fun _ => rfl) (fun _ H locs w => ?_)
            obtain ⟨g105, hf⟩ := pf_ckI hf
            refine hm_iast (ws' := [oc8 h0 r_t t_base t_taped t_at t_faultPlace t_number t_newBits t_newTold t_newDoings t_newThings t_opened t_sum t_heldAll t_onPaper t_turned t_wasConverted t_lastBits t_lastSum t_lastHeld t_lastLeft t_lastCode t_writtenLong t_codeMany t_acts t_done0 t_stoppedAt, ic E (r_t 0) 800 t_all, ic E (r_t 23) 90 (upd f5 (x14 - 1).toNatClampNeg r15)]) hx hb X w 2 dX8_driftOf_105 rfl g105 rfl (fun H locs w => ?_)
            refine lv_goto (tgt := 229) hx hb dX8_driftOf_106 (by decide) ?_
            obtain ⟨x16, ex16⟩ : ∃ y : Int32, y = (x4 + 1) := ⟨_, rfl⟩
            have hf := pf_nm ex16 hf
            refine lv_iinc (v := x16) (lv' := [(3, .int x16), (2, .int x14), (4, .int r7), (0, .ref h0), (1, .int a1)]) hx hb dX8_driftOf_229 hl (k := 4) rfl (by rw [ex16]; rfl) (by decide) rfl (fun ls hl => ?_)
            refine lv_goto (tgt := 4) hx hb dX8_driftOf_232 (by decide) ?_
            exact ih4 _ _ _ _ _ _ hf w (lv_sub hl [3, 4, 1, 0] rfl)
        · have hf := pf_e c29 hf
          refine lv_aload_n hx hb dX8_driftOf_32 rfl (lv_at hl 1 rfl) ?_
          refine hm_get cb_X8 hx hb hown X w 0 23 fl_X8_61 dX8_driftOf_33 rfl (by decide) rfl ?_
          refine lv_iload_n hx hb dX8_driftOf_36 rfl (lv_at hl 3 rfl) ?_
          refine lv_iload hx hb dX8_driftOf_37 (lv_at hl 0 rfl) ?_
          refine lv_sipush (v := 10000) hx hb dX8_driftOf_39 (by decide) ?_
          obtain ⟨J61, hJ61, hf⟩ := pf_jn hf
          have kJ61 : ∀ (x17 : Int32) (H : Heap) (locs : List Loc) (ls : Array Slot), J61 x17 = some R → hm_W E A s.heap [oc8 h0 r_t t_base t_taped t_at t_faultPlace t_number t_newBits t_newTold t_newDoings t_newThings t_opened t_sum t_heldAll t_onPaper t_turned t_wasConverted t_lastBits t_lastSum t_lastHeld t_lastLeft t_lastCode t_writtenLong t_codeMany t_acts t_done0 t_stoppedAt, ic E (r_t 0) 800 t_all, ic E (r_t 23) 90 f5] H locs → lv_has ls 6 [(0, .ref h0), (1, .int a1), (2, .int x3), (3, .int x4)] → W p l e (hm_rr 3 64 0 0) s m args below meth c H locs 0 0 Q (F0 m 61 ls [.int x17, .int x3, .ref (r_t 23)]) := by
            intro x17 H locs ls hf w hl
            have hf := pf_j1 hJ61 hf
            obtain ⟨g61, hf⟩ := pf_ckI hf
            refine hm_iast (ws' := [oc8 h0 r_t t_base t_taped t_at t_faultPlace t_number t_newBits t_newTold t_newDoings t_newThings t_opened t_sum t_heldAll t_onPaper t_turned t_wasConverted t_lastBits t_lastSum t_lastHeld t_lastLeft t_lastCode t_writtenLong t_codeMany t_acts t_done0 t_stoppedAt, ic E (r_t 0) 800 t_all, ic E (r_t 23) 90 (upd f5 x3.toNatClampNeg x17)]) hx hb X w 2 dX8_driftOf_61 rfl g61 rfl (fun H locs w => ?_)
            obtain ⟨x18, ex18⟩ : ∃ y : Int32, y = (x3 + 1) := ⟨_, rfl⟩
            have hf := pf_nm ex18 hf
            refine lv_iinc (v := x18) (lv' := [(2, .int x18), (0, .ref h0), (1, .int a1), (3, .int x4)]) hx hb dX8_driftOf_62 hl (k := 2) rfl (by rw [ex18]; rfl) (by decide) rfl (fun ls hl => ?_)
            refine lv_goto (tgt := 229) hx hb dX8_driftOf_65 (by decide) ?_
            obtain ⟨x19, ex19⟩ : ∃ y : Int32, y = (x4 + 1) := ⟨_, rfl⟩
            have hf := pf_nm ex19 hf
            refine lv_iinc (v := x19) (lv' := [(3, .int x19), (2, .int x18), (0, .ref h0), (1, .int a1)]) hx hb dX8_driftOf_229 hl (k := 3) rfl (by rw [ex19]; rfl) (by decide) rfl (fun ls hl => ?_)
            refine lv_goto (tgt := 4) hx hb dX8_driftOf_232 (by decide) ?_
            exact ih4 _ _ _ _ _ _ hf w (lv_sub hl [2, 3, 1, 0] rfl)
          refine lv_icmp_ge (tgt := 50) hx hb dX8_driftOf_42 (by decide) (fun c42 => ?_) (fun c42 => ?_)
          · have hf := pf_t c42 hf
            refine lv_aload_n hx hb dX8_driftOf_50 rfl (lv_at hl 1 rfl) ?_
            refine lv_iload hx hb dX8_driftOf_51 (lv_at hl 0 rfl) ?_
            refine lv_sipush (v := 10000) hx hb dX8_driftOf_53 (by decide) ?_
            refine lv_isub hx hb dX8_driftOf_56 ?_
            refine lv_iload_n hx hb dX8_driftOf_57 rfl (lv_at hl 2 rfl) ?_
            obtain ⟨r20, hc58, hf⟩ := pf_bi_0 hf
            refine hm_aft_i (ws' := fun _ => [oc8 h0 r_t t_base t_taped t_at t_faultPlace t_number t_newBits t_newTold t_newDoings t_newThings t_opened t_sum t_heldAll t_onPaper t_turned t_wasConverted t_lastBits t_lastSum t_lastHeld t_lastLeft t_lastCode t_writtenLong t_codeMany t_acts t_done0 t_stoppedAt, ic E (r_t 0) 800 t_all, ic E (r_t 23) 90 f5]) (hm_runV (rest := [.int x3, .ref (r_t 23)]) hx hb hml hown X hA Y w 0 (ci := 7) (T := TX8) (N := 55) rfl rfl mw_X8_asked ml_X8_227 dX8_driftOf_58 hm_ac0 [.int (r7 - 10000), .int a1] rfl [0, 1] rfl rfl (ct_X8_asked l E H.size h0 r_t t_base t_taped t_at t_faultPlace t_number t_newBits t_newTold t_newDoings t_newThings t_opened t_sum t_heldAll t_onPaper t_turned t_wasConverted t_lastBits t_lastSum t_lastHeld t_lastLeft t_lastCode t_writtenLong t_codeMany t_acts t_done0 t_stoppedAt t_all (r7 - 10000) a1 (r20, ()) hc58) rfl hl.1 ⟨⟨rfl, rfl⟩, ⟨Nat.le_of_ble_eq_true rfl, Nat.le_of_ble_eq_true rfl⟩, ⟨Nat.le_of_ble_eq_true rfl, Nat.le_of_ble_eq_true rfl⟩, Nat.le_of_ble_eq_true rfl⟩) hA w [0, 1] [2] [1, 2, 0] rfl rfl (by decide) (fun _ => rfl) (fun _ H locs w => ?_)
            exact kJ61 _ _ _ _ hf w (lv_sub hl [1, 2, 3, 4] rfl)
          · have hf := pf_e c42 hf
            refine lv_iload hx hb dX8_driftOf_45 (lv_at hl 0 rfl) ?_
            refine lv_goto (tgt := 61) hx hb dX8_driftOf_47 (by decide) ?_
            exact kJ61 _ _ _ _ hf w (lv_sub hl [1, 2, 3, 4] rfl)
  exact klp_X8_driftOf_4 FU _ _ _ _ _ _ hf w (lv_sub hl [2, 3, 1, 0] rfl)
set_option maxHeartbeats 8000000 in
set_option maxRecDepth 100000 in
theorem ct_X8_held (l : Launch) (E : hm_E) (sz : Nat) (a0 : Int32) (a1 : Int32) (a2 : Int32) (R : Int32 × Unit) (hf : pf_X8_held a0 a1 a2 = some R) : hm_Mi l E yX8_held cX8_held 3 .int [] (hm_rr 0 0 0 0) [.int a0, .int a1, .int a2] sz [] R.1 (fun _ => []) := by
  refine hm_ct_i R (fun u qs => []) (by decide) (Nat.le_of_ble_eq_true rfl) (Or.inl rfl) ?_
  intro p e s m args below meth c A Q ls H locs hx hb hml hown X hA Y hex w hl hQ
  have hl : lv_has ls 3 [(0, .int a0), (1, .int a1), (2, .int a2)] := hl
  unfold pf_X8_held at hf
  refine lv_iload_n hx hb dX8_held_0 rfl (lv_at hl 0 rfl) ?_
  refine lv_iload_n hx hb dX8_held_1 rfl (lv_at hl 1 rfl) ?_
  refine lv_icmp_ge (tgt := 9) hx hb dX8_held_2 (by decide) (fun c2 => ?_) (fun c2 => ?_)
  · have hf := pf_t c2 hf
    refine lv_iload_n hx hb dX8_held_9 rfl (lv_at hl 0 rfl) ?_
    refine lv_iload_n hx hb dX8_held_10 rfl (lv_at hl 2 rfl) ?_
    refine lv_icmp_le (tgt := 18) hx hb dX8_held_11 (by decide) (fun c11 => ?_) (fun c11 => ?_)
    · have hf := pf_t c11 hf
      refine lv_iload_n hx hb dX8_held_18 rfl (lv_at hl 0 rfl) ?_
      exact hQ _ _ _ _ _ () (fun _ => 0) hf rfl w dX8_held_19
    · have hf := pf_e c11 hf
      refine lv_iload_n hx hb dX8_held_14 rfl (lv_at hl 2 rfl) ?_
      refine lv_goto (tgt := 19) hx hb dX8_held_15 (by decide) ?_
      exact hQ _ _ _ _ _ () (fun _ => 0) hf rfl w dX8_held_19
  · have hf := pf_e c2 hf
    refine lv_iload_n hx hb dX8_held_5 rfl (lv_at hl 1 rfl) ?_
    refine lv_goto (tgt := 19) hx hb dX8_held_6 (by decide) ?_
    exact hQ _ _ _ _ _ () (fun _ => 0) hf rfl w dX8_held_19
set_option maxHeartbeats 8000000 in
set_option maxRecDepth 100000 in
theorem ct_X8_hour (l : Launch) (E : hm_E) (sz : Nat) (h0 : Nat) (r_t : Nat → Nat) (t_base t_taped t_at t_faultPlace t_number t_newBits t_newTold t_newDoings t_newThings t_opened t_sum t_heldAll t_onPaper t_turned t_wasConverted t_lastBits t_lastSum t_lastHeld t_lastLeft t_lastCode t_writtenLong t_codeMany t_acts t_done0 t_stoppedAt : Int32) (t_all : Nat → Int32) (t_nextOff : Nat → Int32) (t_pile : Nat → Int32) (R : Int32 × (Nat → Int32) × (Nat → Int32) × (Nat → Int32)) (hf : pf_X8_hour t_all t_base t_pile t_nextOff = some R) : hm_Mi l E yX8_hour cX8_hour 4 .int [] (hm_rr 4 89 0 0) [.ref h0] sz [oc8 h0 r_t t_base t_taped t_at t_faultPlace t_number t_newBits t_newTold t_newDoings t_newThings t_opened t_sum t_heldAll t_onPaper t_turned t_wasConverted t_lastBits t_lastSum t_lastHeld t_lastLeft t_lastCode t_writtenLong t_codeMany t_acts t_done0 t_stoppedAt, ic E (r_t 0) 800 t_all, ic E (r_t 24) 12 t_nextOff, ic E (r_t 23) 90 t_pile] R.1 (fun _ => [oc8 h0 r_t t_base t_taped t_at t_faultPlace t_number t_newBits t_newTold t_newDoings t_newThings t_opened t_sum t_heldAll t_onPaper t_turned t_wasConverted t_lastBits t_lastSum t_lastHeld t_lastLeft t_lastCode t_writtenLong t_codeMany t_acts t_done0 t_stoppedAt, ic E (r_t 0) 800 (R.2.1), ic E (r_t 24) 12 (R.2.2.2), ic E (r_t 23) 90 (R.2.2.1)]) := by
  refine hm_ct_i R (fun u qs => [oc8 h0 r_t t_base t_taped t_at t_faultPlace t_number t_newBits t_newTold t_newDoings t_newThings t_opened t_sum t_heldAll t_onPaper t_turned t_wasConverted t_lastBits t_lastSum t_lastHeld t_lastLeft t_lastCode t_writtenLong t_codeMany t_acts t_done0 t_stoppedAt, ic E (r_t 0) 800 (u.1), ic E (r_t 24) 12 (u.2.2), ic E (r_t 23) 90 (u.2.1)]) (by decide) (Nat.le_of_ble_eq_true rfl) (Or.inl rfl) ?_
  intro p e s m args below meth c A Q ls H locs hx hb hml hown X hA Y hex w hl hQ
  have hl : lv_has ls 4 [(0, .ref h0)] := hl
  unfold pf_X8_hour at hf
  refine lv_iconst (v := 0) hx hb dX8_hour_0 (by decide) ?_
  refine lv_istore_n (lv' := [(1, .int 0), (0, .ref h0)]) hx hb dX8_hour_1 rfl hl (by decide) rfl (fun ls hl => ?_)
  refine lv_iconst (v := 0) hx hb dX8_hour_2 (by decide) ?_
  refine lv_istore_n (lv' := [(2, .int 0), (1, .int 0), (0, .ref h0)]) hx hb dX8_hour_3 rfl hl (by decide) rfl (fun ls hl => ?_)
  obtain ⟨J107, hJ107, hf⟩ := pf_jn hf
  have kJ107 : ∀ (x1 : Int32) (f2 : Nat → Int32) (f3 : Nat → Int32) (H : Heap) (locs : List Loc) (ls : Array Slot), J107 x1 f2 f3 = some R → hm_W E A s.heap [oc8 h0 r_t t_base t_taped t_at t_faultPlace t_number t_newBits t_newTold t_newDoings t_newThings t_opened t_sum t_heldAll t_onPaper t_turned t_wasConverted t_lastBits t_lastSum t_lastHeld t_lastLeft t_lastCode t_writtenLong t_codeMany t_acts t_done0 t_stoppedAt, ic E (r_t 0) 800 t_all, ic E (r_t 24) 12 f3, ic E (r_t 23) 90 f2] H locs → lv_has ls 4 [(0, .ref h0), (1, .int x1)] → W p l e (hm_rr 4 89 0 0) s m args below meth c H locs 0 0 Q (F0 m 107 ls []) := by
    intro x1 f2 f3 H locs ls hf w hl
    have hf := pf_j3 hJ107 hf
    refine lv_iconst (v := 0) hx hb dX8_hour_107 (by decide) ?_
    refine lv_istore_n (lv' := [(2, .int 0), (0, .ref h0), (1, .int x1)]) hx hb dX8_hour_108 rfl hl (by decide) rfl (fun ls hl => ?_)
    obtain ⟨J138, hJ138, hf⟩ := pf_jn hf
    have kJ138 : ∀ (f4 : Nat → Int32) (H : Heap) (locs : List Loc) (ls : Array Slot), J138 f4 = some R → hm_W E A s.heap [oc8 h0 r_t t_base t_taped t_at t_faultPlace t_number t_newBits t_newTold t_newDoings t_newThings t_opened t_sum t_heldAll t_onPaper t_turned t_wasConverted t_lastBits t_lastSum t_lastHeld t_lastLeft t_lastCode t_writtenLong t_codeMany t_acts t_done0 t_stoppedAt, ic E (r_t 0) 800 f4, ic E (r_t 24) 12 f3, ic E (r_t 23) 90 f2] H locs → lv_has ls 4 [(0, .ref h0), (1, .int x1)] → W p l e (hm_rr 4 89 0 0) s m args below meth c H locs 0 0 Q (F0 m 138 ls []) := by
      intro f4 H locs ls hf w hl
      have hf := pf_j1 hJ138 hf
      refine lv_aload_n hx hb dX8_hour_138 rfl (lv_at hl 0 rfl) ?_
      refine lv_bipush (v := 8) hx hb dX8_hour_139 (by decide) ?_
      refine lv_aload_n hx hb dX8_hour_141 rfl (lv_at hl 0 rfl) ?_
      refine lv_bipush (v := 8) hx hb dX8_hour_142 (by decide) ?_
      obtain ⟨r5, hc144, hf⟩ := pf_bi_0 hf
      refine hm_aft_i (ws' := fun _ => [oc8 h0 r_t t_base t_taped t_at t_faultPlace t_number t_newBits t_newTold t_newDoings t_newThings t_opened t_sum t_heldAll t_onPaper t_turned t_wasConverted t_lastBits t_lastSum t_lastHeld t_lastLeft t_lastCode t_writtenLong t_codeMany t_acts t_done0 t_stoppedAt, ic E (r_t 0) 800 f4, ic E (r_t 24) 12 f3, ic E (r_t 23) 90 f2]) (hm_runV (rest := [.int 8, .ref h0]) hx hb hml hown X hA Y w 0 (ci := 7) (T := TX8) (N := 55) rfl rfl mw_X8_get ml_X8_221 dX8_hour_144 hm_ac0 [.int 8] rfl [0, 1] rfl rfl (ct_X8_get l E H.size h0 r_t t_base t_taped t_at t_faultPlace t_number t_newBits t_newTold t_newDoings t_newThings t_opened t_sum t_heldAll t_onPaper t_turned t_wasConverted t_lastBits t_lastSum t_lastHeld t_lastLeft t_lastCode t_writtenLong t_codeMany t_acts t_done0 t_stoppedAt f4 8 (r5, ()) hc144) rfl hl.1 ⟨⟨rfl, rfl⟩, ⟨Nat.le_of_ble_eq_true rfl, Nat.le_of_ble_eq_true rfl⟩, ⟨Nat.le_of_ble_eq_true rfl, Nat.le_of_ble_eq_true rfl⟩, Nat.le_of_ble_eq_true rfl⟩) hA w [0, 1] [2, 3] [2, 3, 0, 1] rfl rfl (by decide) (fun _ => rfl) (fun _ H locs w => ?_)
      refine lv_iconst (v := 1) hx hb dX8_hour_147 (by decide) ?_
      refine lv_iadd hx hb dX8_hour_148 ?_
      obtain ⟨f6, hc149, hf⟩ := pf_bv_1 hf
      refine hm_aft_v (ws' := fun _ => [oc8 h0 r_t t_base t_taped t_at t_faultPlace t_number t_newBits t_newTold t_newDoings t_newThings t_opened t_sum t_heldAll t_onPaper t_turned t_wasConverted t_lastBits t_lastSum t_lastHeld t_lastLeft t_lastCode t_writtenLong t_codeMany t_acts t_done0 t_stoppedAt, ic E (r_t 0) 800 f6, ic E (r_t 24) 12 f3, ic E (r_t 23) 90 f2]) (hm_runV (rest := []) hx hb hml hown X hA Y w 0 (ci := 7) (T := TX8) (N := 55) rfl rfl mw_X8_put ml_X8_119 dX8_hour_149 hm_ac0 [.int 8, .int (r5 + 1)] rfl [0, 1] rfl rfl (ct_X8_put l E H.size h0 r_t t_base t_taped t_at t_faultPlace t_number t_newBits t_newTold t_newDoings t_newThings t_opened t_sum t_heldAll t_onPaper t_turned t_wasConverted t_lastBits t_lastSum t_lastHeld t_lastLeft t_lastCode t_writtenLong t_codeMany t_acts t_done0 t_stoppedAt f4 8 (r5 + 1) f6 hc149) rfl hl.1 ⟨⟨rfl, rfl⟩, ⟨Nat.le_of_ble_eq_true rfl, Nat.le_of_ble_eq_true rfl⟩, ⟨Nat.le_of_ble_eq_true rfl, Nat.le_of_ble_eq_true rfl⟩, Nat.le_of_ble_eq_true rfl⟩) hA w [0, 1] [2, 3] [2, 3, 0, 1] rfl rfl (by decide) (fun _ => rfl) (fun _ H locs w => ?_)
      refine lv_iload_n hx hb dX8_hour_152 rfl (lv_at hl 1 rfl) ?_
      exact hQ _ _ _ _ _ (f6, f2, f3) (fun _ => 0) hf rfl w dX8_hour_153
    have klp_X8_hour_109 : ∀ (n : Nat) (x7 : Int32) (f8 : Nat → Int32) (H : Heap) (locs : List Loc) (ls : Array Slot), lp_X8_hour_109 t_base f3 J138 n x7 f8 = some R → hm_W E A s.heap [oc8 h0 r_t t_base t_taped t_at t_faultPlace t_number t_newBits t_newTold t_newDoings t_newThings t_opened t_sum t_heldAll t_onPaper t_turned t_wasConverted t_lastBits t_lastSum t_lastHeld t_lastLeft t_lastCode t_writtenLong t_codeMany t_acts t_done0 t_stoppedAt, ic E (r_t 0) 800 f8, ic E (r_t 24) 12 f3, ic E (r_t 23) 90 f2] H locs → lv_has ls 4 [(0, .ref h0), (1, .int x1), (2, .int x7)] → W p l e (hm_rr 4 89 0 0) s m args below meth c H locs 0 0 Q (F0 m 109 ls []) := by
      intro n
      induction n with
      | zero =>
        intro x7 f8 H locs ls hf w hl
        exact pf_no hf
      | succ n ih109 =>
        intro x7 f8 H locs ls hf w hl
        rw [lp_X8_hour_109] at hf
        refine lv_iload_n hx hb dX8_hour_109 rfl (lv_at hl 2 rfl) ?_
        refine lv_aload_n hx hb dX8_hour_110 rfl (lv_at hl 0 rfl) ?_
        refine lv_iconst (v := 0) hx hb dX8_hour_111 (by decide) ?_
        obtain ⟨r9, hc112, hf⟩ := pf_bi_0 hf
        refine hm_aft_i (ws' := fun _ => [oc8 h0 r_t t_base t_taped t_at t_faultPlace t_number t_newBits t_newTold t_newDoings t_newThings t_opened t_sum t_heldAll t_onPaper t_turned t_wasConverted t_lastBits t_lastSum t_lastHeld t_lastLeft t_lastCode t_writtenLong t_codeMany t_acts t_done0 t_stoppedAt, ic E (r_t 0) 800 f8, ic E (r_t 24) 12 f3, ic E (r_t 23) 90 f2]) (hm_runV (rest := [.int x7]) hx hb hml hown X hA Y w 0 (ci := 7) (T := TX8) (N := 55) rfl rfl mw_X8_get ml_X8_221 dX8_hour_112 hm_ac0 [.int 0] rfl [0, 1] rfl rfl (ct_X8_get l E H.size h0 r_t t_base t_taped t_at t_faultPlace t_number t_newBits t_newTold t_newDoings t_newThings t_opened t_sum t_heldAll t_onPaper t_turned t_wasConverted t_lastBits t_lastSum t_lastHeld t_lastLeft t_lastCode t_writtenLong t_codeMany t_acts t_done0 t_stoppedAt f8 0 (r9, ()) hc112) rfl hl.1 ⟨⟨rfl, rfl⟩, ⟨Nat.le_of_ble_eq_true rfl, Nat.le_of_ble_eq_true rfl⟩, ⟨Nat.le_of_ble_eq_true rfl, Nat.le_of_ble_eq_true rfl⟩, Nat.le_of_ble_eq_true rfl⟩) hA w [0, 1] [2, 3] [2, 3, 0, 1] rfl rfl (by decide) (fun _ => rfl) (fun _ H locs w => ?_)
        refine lv_icmp_ge (tgt := 138) hx hb dX8_hour_115 (by decide) (fun c115 => ?_) (fun c115 => ?_)
        · have hf := pf_t c115 hf
          exact kJ138 _ _ _ _ hf w (lv_sub hl [0, 1] rfl)
        · have hf := pf_e c115 hf
          refine lv_aload_n hx hb dX8_hour_118 rfl (lv_at hl 0 rfl) ?_
          refine lv_bipush (v := 21) hx hb dX8_hour_119 (by decide) ?_
          refine lv_iload_n hx hb dX8_hour_121 rfl (lv_at hl 2 rfl) ?_
          refine lv_iadd hx hb dX8_hour_122 ?_
          refine lv_aload_n hx hb dX8_hour_123 rfl (lv_at hl 0 rfl) ?_
          refine hm_get cb_X8 hx hb hown X w 0 24 fl_X8_64 dX8_hour_124 rfl (by decide) rfl ?_
          refine lv_iload_n hx hb dX8_hour_127 rfl (lv_at hl 2 rfl) ?_
          obtain ⟨g128, hf⟩ := pf_ckI hf
          refine hm_iald hx hb X w 2 dX8_hour_128 rfl g128 ?_
          obtain ⟨f10, hc129, hf⟩ := pf_bv_1 hf
          refine hm_aft_v (ws' := fun _ => [oc8 h0 r_t t_base t_taped t_at t_faultPlace t_number t_newBits t_newTold t_newDoings t_newThings t_opened t_sum t_heldAll t_onPaper t_turned t_wasConverted t_lastBits t_lastSum t_lastHeld t_lastLeft t_lastCode t_writtenLong t_codeMany t_acts t_done0 t_stoppedAt, ic E (r_t 0) 800 f10, ic E (r_t 24) 12 f3, ic E (r_t 23) 90 f2]) (hm_runV (rest := []) hx hb hml hown X hA Y w 0 (ci := 7) (T := TX8) (N := 55) rfl rfl mw_X8_put ml_X8_119 dX8_hour_129 hm_ac0 [.int (21 + x7), .int (f3 x7.toNatClampNeg)] rfl [0, 1] rfl rfl (ct_X8_put l E H.size h0 r_t t_base t_taped t_at t_faultPlace t_number t_newBits t_newTold t_newDoings t_newThings t_opened t_sum t_heldAll t_onPaper t_turned t_wasConverted t_lastBits t_lastSum t_lastHeld t_lastLeft t_lastCode t_writtenLong t_codeMany t_acts t_done0 t_stoppedAt f8 (21 + x7) (f3 x7.toNatClampNeg) f10 hc129) rfl hl.1 ⟨⟨rfl, rfl⟩, ⟨Nat.le_of_ble_eq_true rfl, Nat.le_of_ble_eq_true rfl⟩, ⟨Nat.le_of_ble_eq_true rfl, Nat.le_of_ble_eq_true rfl⟩, Nat.le_of_ble_eq_true rfl⟩) hA w [0, 1] [2, 3] [2, 3, 0, 1] rfl rfl (by decide) (fun _ => rfl) (fun _ H locs w => ?_)
          obtain ⟨x11, ex11⟩ : ∃ y : Int32, y = (x7 + 1) := ⟨_, rfl⟩
          have hf := pf_nm ex11 hf
          refine lv_iinc (v := x11) (lv' := [(2, .int x11), (0, .ref h0), (1, .int x1)]) hx hb dX8_hour_132 hl (k := 2) rfl (by rw [ex11]; rfl) (by decide) rfl (fun ls hl => ?_)
          refine lv_goto (tgt := 109) hx hb dX8_hour_135 (by decide) ?_
          exact ih109 _ _ _ _ _ hf w (lv_sub hl [1, 2, 0] rfl)
    exact klp_X8_hour_109 FU _ _ _ _ _ hf w (lv_sub hl [1, 2, 0] rfl)
  have klp_X8_hour_4 : ∀ (n : Nat) (x12 : Int32) (x13 : Int32) (f14 : Nat → Int32) (f15 : Nat → Int32) (H : Heap) (locs : List Loc) (ls : Array Slot), lp_X8_hour_4 t_base t_all J107 n x12 x13 f14 f15 = some R → hm_W E A s.heap [oc8 h0 r_t t_base t_taped t_at t_faultPlace t_number t_newBits t_newTold t_newDoings t_newThings t_opened t_sum t_heldAll t_onPaper t_turned t_wasConverted t_lastBits t_lastSum t_lastHeld t_lastLeft t_lastCode t_writtenLong t_codeMany t_acts t_done0 t_stoppedAt, ic E (r_t 0) 800 t_all, ic E (r_t 24) 12 f15, ic E (r_t 23) 90 f14] H locs → lv_has ls 4 [(0, .ref h0), (1, .int x12), (2, .int x13)] → W p l e (hm_rr 4 89 0 0) s m args below meth c H locs 0 0 Q (F0 m 4 ls []) := by
    intro n
    induction n with
    | zero =>
      intro x12 x13 f14 f15 H locs ls hf w hl
      exact pf_no hf
    | succ n ih4 =>
      intro x12 x13 f14 f15 H locs ls hf w hl
      rw [lp_X8_hour_4] at hf
      refine lv_iload_n hx hb dX8_hour_4 rfl (lv_at hl 2 rfl) ?_
      refine lv_aload_n hx hb dX8_hour_5 rfl (lv_at hl 0 rfl) ?_
      refine lv_iconst (v := 0) hx hb dX8_hour_6 (by decide) ?_
      obtain ⟨r16, hc7, hf⟩ := pf_bi_0 hf
      refine hm_aft_i (ws' := fun _ => [oc8 h0 r_t t_base t_taped t_at t_faultPlace t_number t_newBits t_newTold t_newDoings t_newThings t_opened t_sum t_heldAll t_onPaper t_turned t_wasConverted t_lastBits t_lastSum t_lastHeld t_lastLeft t_lastCode t_writtenLong t_codeMany t_acts t_done0 t_stoppedAt, ic E (r_t 0) 800 t_all, ic E (r_t 24) 12 f15, ic E (r_t 23) 90 f14]) (hm_runV (rest := [.int x13]) hx hb hml hown X hA Y w 0 (ci := 7) (T := TX8) (N := 55) rfl rfl mw_X8_get ml_X8_221 dX8_hour_7 hm_ac0 [.int 0] rfl [0, 1] rfl rfl (ct_X8_get l E H.size h0 r_t t_base t_taped t_at t_faultPlace t_number t_newBits t_newTold t_newDoings t_newThings t_opened t_sum t_heldAll t_onPaper t_turned t_wasConverted t_lastBits t_lastSum t_lastHeld t_lastLeft t_lastCode t_writtenLong t_codeMany t_acts t_done0 t_stoppedAt t_all 0 (r16, ()) hc7) rfl hl.1 ⟨⟨rfl, rfl⟩, ⟨Nat.le_of_ble_eq_true rfl, Nat.le_of_ble_eq_true rfl⟩, ⟨Nat.le_of_ble_eq_true rfl, Nat.le_of_ble_eq_true rfl⟩, Nat.le_of_ble_eq_true rfl⟩) hA w [0, 1] [2, 3] [2, 3, 0, 1] rfl rfl (by decide) (fun _ => rfl) (fun _ H locs w => ?_)
      refine lv_icmp_ge (tgt := 107) hx hb dX8_hour_10 (by decide) (fun c10 => ?_) (fun c10 => ?_)
      · have hf := pf_t c10 hf
        exact kJ107 _ _ _ _ _ _ hf w (lv_sub hl [0, 1] rfl)
      · have hf := pf_e c10 hf
        refine lv_aload_n hx hb dX8_hour_13 rfl (lv_at hl 0 rfl) ?_
        refine lv_bipush (v := 21) hx hb dX8_hour_14 (by decide) ?_
        refine lv_iload_n hx hb dX8_hour_16 rfl (lv_at hl 2 rfl) ?_
        refine lv_iadd hx hb dX8_hour_17 ?_
        obtain ⟨r17, hc18, hf⟩ := pf_bi_0 hf
        refine hm_aft_i (ws' := fun _ => [oc8 h0 r_t t_base t_taped t_at t_faultPlace t_number t_newBits t_newTold t_newDoings t_newThings t_opened t_sum t_heldAll t_onPaper t_turned t_wasConverted t_lastBits t_lastSum t_lastHeld t_lastLeft t_lastCode t_writtenLong t_codeMany t_acts t_done0 t_stoppedAt, ic E (r_t 0) 800 t_all, ic E (r_t 24) 12 f15, ic E (r_t 23) 90 f14]) (hm_runV (rest := []) hx hb hml hown X hA Y w 0 (ci := 7) (T := TX8) (N := 55) rfl rfl mw_X8_get ml_X8_221 dX8_hour_18 hm_ac0 [.int (21 + x13)] rfl [0, 1] rfl rfl (ct_X8_get l E H.size h0 r_t t_base t_taped t_at t_faultPlace t_number t_newBits t_newTold t_newDoings t_newThings t_opened t_sum t_heldAll t_onPaper t_turned t_wasConverted t_lastBits t_lastSum t_lastHeld t_lastLeft t_lastCode t_writtenLong t_codeMany t_acts t_done0 t_stoppedAt t_all (21 + x13) (r17, ()) hc18) rfl hl.1 ⟨⟨rfl, rfl⟩, ⟨Nat.le_of_ble_eq_true rfl, Nat.le_of_ble_eq_true rfl⟩, ⟨Nat.le_of_ble_eq_true rfl, Nat.le_of_ble_eq_true rfl⟩, Nat.le_of_ble_eq_true rfl⟩) hA w [0, 1] [2, 3] [2, 3, 0, 1] rfl rfl (by decide) (fun _ => rfl) (fun _ H locs w => ?_)
        refine lv_aload_n hx hb dX8_hour_21 rfl (lv_at hl 0 rfl) ?_
        refine lv_iload_n hx hb dX8_hour_22 rfl (lv_at hl 2 rfl) ?_
        obtain ⟨r18, f19, hc23, hf⟩ := pf_bi_1 hf
        refine hm_aft_i (ws' := fun _ => [oc8 h0 r_t t_base t_taped t_at t_faultPlace t_number t_newBits t_newTold t_newDoings t_newThings t_opened t_sum t_heldAll t_onPaper t_turned t_wasConverted t_lastBits t_lastSum t_lastHeld t_lastLeft t_lastCode t_writtenLong t_codeMany t_acts t_done0 t_stoppedAt, ic E (r_t 0) 800 t_all, ic E (r_t 24) 12 f15, ic E (r_t 23) 90 f19]) (hm_runV (rest := [.int r17]) hx hb hml hown X hA Y w 0 (ci := 7) (T := TX8) (N := 55) rfl rfl mw_X8_driftOf ml_X8_235 dX8_hour_23 hm_ac0 [.int x13] rfl [0, 1, 3] rfl rfl (ct_X8_driftOf l E H.size h0 r_t t_base t_taped t_at t_faultPlace t_number t_newBits t_newTold t_newDoings t_newThings t_opened t_sum t_heldAll t_onPaper t_turned t_wasConverted t_lastBits t_lastSum t_lastHeld t_lastLeft t_lastCode t_writtenLong t_codeMany t_acts t_done0 t_stoppedAt t_all f14 x13 (r18, f19) hc23) rfl hl.1 ⟨⟨rfl, rfl⟩, ⟨Nat.le_of_ble_eq_true rfl, Nat.le_of_ble_eq_true rfl⟩, ⟨Nat.le_of_ble_eq_true rfl, Nat.le_of_ble_eq_true rfl⟩, Nat.le_of_ble_eq_true rfl⟩) hA w [0, 1, 3] [2] [1, 2, 0, 3] rfl rfl (by decide) (fun _ => rfl) (fun _ H locs w => ?_)
        refine lv_bipush (v := (-9)) hx hb dX8_hour_26 (by decide) ?_
        refine lv_bipush (v := 9) hx hb dX8_hour_28 (by decide) ?_
        obtain ⟨r20, hc30, hf⟩ := pf_bi_0 hf
        refine hm_aft_i (ws' := fun _ => [oc8 h0 r_t t_base t_taped t_at t_faultPlace t_number t_newBits t_newTold t_newDoings t_newThings t_opened t_sum t_heldAll t_onPaper t_turned t_wasConverted t_lastBits t_lastSum t_lastHeld t_lastLeft t_lastCode t_writtenLong t_codeMany t_acts t_done0 t_stoppedAt, ic E (r_t 0) 800 t_all, ic E (r_t 24) 12 f15, ic E (r_t 23) 90 f19]) (hm_runS (rest := [.int r17]) hx hb hml hown X hA Y w mw_X8_held ml_X8_238 dX8_hour_30 hm_ac0 [.int r18, .int (-9), .int 9] rfl [] rfl rfl (ct_X8_held l E H.size r18 (-9) 9 (r20, ()) hc30) rfl hl.1 ⟨⟨rfl, rfl⟩, ⟨Nat.le_of_ble_eq_true rfl, Nat.le_of_ble_eq_true rfl⟩, ⟨Nat.le_of_ble_eq_true rfl, Nat.le_of_ble_eq_true rfl⟩, Nat.le_of_ble_eq_true rfl⟩) hA w [] [0, 1, 2, 3] [0, 1, 2, 3] rfl rfl (by decide) (fun _ => rfl) (fun _ H locs w => ?_)
        refine lv_iadd hx hb dX8_hour_33 ?_
        refine lv_bipush (v := (-99)) hx hb dX8_hour_34 (by decide) ?_
        refine lv_bipush (v := 99) hx hb dX8_hour_36 (by decide) ?_
        obtain ⟨r21, hc38, hf⟩ := pf_bi_0 hf
        refine hm_aft_i (ws' := fun _ => [oc8 h0 r_t t_base t_taped t_at t_faultPlace t_number t_newBits t_newTold t_newDoings t_newThings t_opened t_sum t_heldAll t_onPaper t_turned t_wasConverted t_lastBits t_lastSum t_lastHeld t_lastLeft t_lastCode t_writtenLong t_codeMany t_acts t_done0 t_stoppedAt, ic E (r_t 0) 800 t_all, ic E (r_t 24) 12 f15, ic E (r_t 23) 90 f19]) (hm_runS (rest := []) hx hb hml hown X hA Y w mw_X8_held ml_X8_238 dX8_hour_38 hm_ac0 [.int (r17 + r20), .int (-99), .int 99] rfl [] rfl rfl (ct_X8_held l E H.size (r17 + r20) (-99) 99 (r21, ()) hc38) rfl hl.1 ⟨⟨rfl, rfl⟩, ⟨Nat.le_of_ble_eq_true rfl, Nat.le_of_ble_eq_true rfl⟩, ⟨Nat.le_of_ble_eq_true rfl, Nat.le_of_ble_eq_true rfl⟩, Nat.le_of_ble_eq_true rfl⟩) hA w [] [0, 1, 2, 3] [0, 1, 2, 3] rfl rfl (by decide) (fun _ => rfl) (fun _ H locs w => ?_)
        refine lv_istore_n (lv' := [(3, .int r21), (0, .ref h0), (1, .int x12), (2, .int x13)]) hx hb dX8_hour_41 rfl hl (by decide) rfl (fun ls hl => ?_)
        refine lv_aload_n hx hb dX8_hour_42 rfl (lv_at hl 1 rfl) ?_
        refine hm_get cb_X8 hx hb hown X w 0 24 fl_X8_64 dX8_hour_43 rfl (by decide) rfl ?_
        refine lv_iload_n hx hb dX8_hour_46 rfl (lv_at hl 3 rfl) ?_
        refine lv_iload_n hx hb dX8_hour_47 rfl (lv_at hl 0 rfl) ?_
        refine lv_iconst (v := 1) hx hb dX8_hour_48 (by decide) ?_
        refine lv_aload_n hx hb dX8_hour_49 rfl (lv_at hl 1 rfl) ?_
        refine lv_bipush (v := 9) hx hb dX8_hour_50 (by decide) ?_
        refine lv_iload_n hx hb dX8_hour_52 rfl (lv_at hl 3 rfl) ?_
        refine lv_iadd hx hb dX8_hour_53 ?_
        obtain ⟨r22, hc54, hf⟩ := pf_bi_0 hf
        refine hm_aft_i (ws' := fun _ => [oc8 h0 r_t t_base t_taped t_at t_faultPlace t_number t_newBits t_newTold t_newDoings t_newThings t_opened t_sum t_heldAll t_onPaper t_turned t_wasConverted t_lastBits t_lastSum t_lastHeld t_lastLeft t_lastCode t_writtenLong t_codeMany t_acts t_done0 t_stoppedAt, ic E (r_t 0) 800 t_all, ic E (r_t 24) 12 f15, ic E (r_t 23) 90 f19]) (hm_runV (rest := [.int 1, .int r21, .int x13, .ref (r_t 24)]) hx hb hml hown X hA Y w 0 (ci := 7) (T := TX8) (N := 55) rfl rfl mw_X8_get ml_X8_221 dX8_hour_54 hm_ac0 [.int (9 + x13)] rfl [0, 1] rfl rfl (ct_X8_get l E H.size h0 r_t t_base t_taped t_at t_faultPlace t_number t_newBits t_newTold t_newDoings t_newThings t_opened t_sum t_heldAll t_onPaper t_turned t_wasConverted t_lastBits t_lastSum t_lastHeld t_lastLeft t_lastCode t_writtenLong t_codeMany t_acts t_done0 t_stoppedAt t_all (9 + x13) (r22, ()) hc54) rfl hl.1 ⟨⟨rfl, rfl⟩, ⟨Nat.le_of_ble_eq_true rfl, Nat.le_of_ble_eq_true rfl⟩, ⟨Nat.le_of_ble_eq_true rfl, Nat.le_of_ble_eq_true rfl⟩, Nat.le_of_ble_eq_true rfl⟩) hA w [0, 1] [2, 3] [2, 3, 0, 1] rfl rfl (by decide) (fun _ => rfl) (fun _ H locs w => ?_)
        refine lv_isub hx hb dX8_hour_57 ?_
        obtain ⟨J75, hJ75, hf⟩ := pf_jn hf
        have kJ75 : ∀ (x23 : Int32) (H : Heap) (locs : List Loc) (ls : Array Slot), J75 x23 = some R → hm_W E A s.heap [oc8 h0 r_t t_base t_taped t_at t_faultPlace t_number t_newBits t_newTold t_newDoings t_newThings t_opened t_sum t_heldAll t_onPaper t_turned t_wasConverted t_lastBits t_lastSum t_lastHeld t_lastLeft t_lastCode t_writtenLong t_codeMany t_acts t_done0 t_stoppedAt, ic E (r_t 0) 800 t_all, ic E (r_t 24) 12 f15, ic E (r_t 23) 90 f19] H locs → lv_has ls 4 [(0, .ref h0), (1, .int x12), (2, .int x13)] → W p l e (hm_rr 4 89 0 0) s m args below meth c H locs 0 0 Q (F0 m 75 ls [.int x23, .int x13, .ref (r_t 24)]) := by
          intro x23 H locs ls hf w hl
          have hf := pf_j1 hJ75 hf
          obtain ⟨g75, hf⟩ := pf_ckI hf
          refine hm_iast (ws' := [oc8 h0 r_t t_base t_taped t_at t_faultPlace t_number t_newBits t_newTold t_newDoings t_newThings t_opened t_sum t_heldAll t_onPaper t_turned t_wasConverted t_lastBits t_lastSum t_lastHeld t_lastLeft t_lastCode t_writtenLong t_codeMany t_acts t_done0 t_stoppedAt, ic E (r_t 0) 800 t_all, ic E (r_t 24) 12 (upd f15 x13.toNatClampNeg x23), ic E (r_t 23) 90 f19]) hx hb X w 2 dX8_hour_75 rfl g75 rfl (fun H locs w => ?_)
          refine lv_iload_n hx hb dX8_hour_76 rfl (lv_at hl 1 rfl) ?_
          refine lv_aload_n hx hb dX8_hour_77 rfl (lv_at hl 0 rfl) ?_
          refine hm_get cb_X8 hx hb hown X w 0 24 fl_X8_64 dX8_hour_78 rfl (by decide) rfl ?_
          refine lv_iload_n hx hb dX8_hour_81 rfl (lv_at hl 2 rfl) ?_
          obtain ⟨g82, hf⟩ := pf_ckI hf
          refine hm_iald hx hb X w 2 dX8_hour_82 rfl g82 ?_
          refine lv_aload_n hx hb dX8_hour_83 rfl (lv_at hl 0 rfl) ?_
          refine lv_bipush (v := 21) hx hb dX8_hour_84 (by decide) ?_
          refine lv_iload_n hx hb dX8_hour_86 rfl (lv_at hl 2 rfl) ?_
          refine lv_iadd hx hb dX8_hour_87 ?_
          obtain ⟨r24, hc88, hf⟩ := pf_bi_0 hf
          refine hm_aft_i (ws' := fun _ => [oc8 h0 r_t t_base t_taped t_at t_faultPlace t_number t_newBits t_newTold t_newDoings t_newThings t_opened t_sum t_heldAll t_onPaper t_turned t_wasConverted t_lastBits t_lastSum t_lastHeld t_lastLeft t_lastCode t_writtenLong t_codeMany t_acts t_done0 t_stoppedAt, ic E (r_t 0) 800 t_all, ic E (r_t 24) 12 (upd f15 x13.toNatClampNeg x23), ic E (r_t 23) 90 f19]) (hm_runV (rest := [.int ((upd f15 x13.toNatClampNeg x23) x13.toNatClampNeg), .int x12]) hx hb hml hown X hA Y w 0 (ci := 7) (T := TX8) (N := 55) rfl rfl mw_X8_get ml_X8_221 dX8_hour_88 hm_ac0 [.int (21 + x13)] rfl [0, 1] rfl rfl (ct_X8_get l E H.size h0 r_t t_base t_taped t_at t_faultPlace t_number t_newBits t_newTold t_newDoings t_newThings t_opened t_sum t_heldAll t_onPaper t_turned t_wasConverted t_lastBits t_lastSum t_lastHeld t_lastLeft t_lastCode t_writtenLong t_codeMany t_acts t_done0 t_stoppedAt t_all (21 + x13) (r24, ()) hc88) rfl hl.1 ⟨⟨rfl, rfl⟩, ⟨Nat.le_of_ble_eq_true rfl, Nat.le_of_ble_eq_true rfl⟩, ⟨Nat.le_of_ble_eq_true rfl, Nat.le_of_ble_eq_true rfl⟩, Nat.le_of_ble_eq_true rfl⟩) hA w [0, 1] [2, 3] [2, 3, 0, 1] rfl rfl (by decide) (fun _ => rfl) (fun _ H locs w => ?_)
          refine lv_icmp_eq (tgt := 98) hx hb dX8_hour_91 (by decide) (fun c91 => ?_) (fun c91 => ?_)
          · have hf := pf_t c91 hf
            refine lv_iconst (v := 0) hx hb dX8_hour_98 (by decide) ?_
            refine lv_iadd hx hb dX8_hour_99 ?_
            refine lv_topi (fun x25 ex25 => ?_)
            have hf := pf_nm ex25 hf
            refine lv_istore_n (lv' := [(1, .int x25), (0, .ref h0), (2, .int x13)]) hx hb dX8_hour_100 rfl hl (by decide) rfl (fun ls hl => ?_)
            obtain ⟨x26, ex26⟩ : ∃ y : Int32, y = (x13 + 1) := ⟨_, rfl⟩
            have hf := pf_nm ex26 hf
            refine lv_iinc (v := x26) (lv' := [(2, .int x26), (1, .int x25), (0, .ref h0)]) hx hb dX8_hour_101 hl (k := 2) rfl (by rw [ex26]; rfl) (by decide) rfl (fun ls hl => ?_)
            refine lv_goto (tgt := 4) hx hb dX8_hour_104 (by decide) ?_
            exact ih4 _ _ _ _ _ _ _ hf w (lv_sub hl [2, 1, 0] rfl)
          · have hf := pf_e c91 hf
            refine lv_iconst (v := 1) hx hb dX8_hour_94 (by decide) ?_
            refine lv_goto (tgt := 99) hx hb dX8_hour_95 (by decide) ?_
            refine lv_iadd hx hb dX8_hour_99 ?_
            refine lv_topi (fun x27 ex27 => ?_)
            have hf := pf_nm ex27 hf
            refine lv_istore_n (lv' := [(1, .int x27), (0, .ref h0), (2, .int x13)]) hx hb dX8_hour_100 rfl hl (by decide) rfl (fun ls hl => ?_)
            obtain ⟨x28, ex28⟩ : ∃ y : Int32, y = (x13 + 1) := ⟨_, rfl⟩
            have hf := pf_nm ex28 hf
            refine lv_iinc (v := x28) (lv' := [(2, .int x28), (1, .int x27), (0, .ref h0)]) hx hb dX8_hour_101 hl (k := 2) rfl (by rw [ex28]; rfl) (by decide) rfl (fun ls hl => ?_)
            refine lv_goto (tgt := 4) hx hb dX8_hour_104 (by decide) ?_
            exact ih4 _ _ _ _ _ _ _ hf w (lv_sub hl [2, 1, 0] rfl)
        refine lv_icmp_ge (tgt := 74) hx hb dX8_hour_58 (by decide) (fun c58 => ?_) (fun c58 => ?_)
        · have hf := pf_t c58 hf
          refine lv_iload_n hx hb dX8_hour_74 rfl (lv_at hl 0 rfl) ?_
          exact kJ75 _ _ _ _ hf w (lv_sub hl [1, 2, 3] rfl)
        · have hf := pf_e c58 hf
          refine lv_iconst (v := 1) hx hb dX8_hour_61 (by decide) ?_
          refine lv_aload_n hx hb dX8_hour_62 rfl (lv_at hl 1 rfl) ?_
          refine lv_bipush (v := 9) hx hb dX8_hour_63 (by decide) ?_
          refine lv_iload_n hx hb dX8_hour_65 rfl (lv_at hl 3 rfl) ?_
          refine lv_iadd hx hb dX8_hour_66 ?_
          obtain ⟨r29, hc67, hf⟩ := pf_bi_0 hf
          refine hm_aft_i (ws' := fun _ => [oc8 h0 r_t t_base t_taped t_at t_faultPlace t_number t_newBits t_newTold t_newDoings t_newThings t_opened t_sum t_heldAll t_onPaper t_turned t_wasConverted t_lastBits t_lastSum t_lastHeld t_lastLeft t_lastCode t_writtenLong t_codeMany t_acts t_done0 t_stoppedAt, ic E (r_t 0) 800 t_all, ic E (r_t 24) 12 f15, ic E (r_t 23) 90 f19]) (hm_runV (rest := [.int 1, .int x13, .ref (r_t 24)]) hx hb hml hown X hA Y w 0 (ci := 7) (T := TX8) (N := 55) rfl rfl mw_X8_get ml_X8_221 dX8_hour_67 hm_ac0 [.int (9 + x13)] rfl [0, 1] rfl rfl (ct_X8_get l E H.size h0 r_t t_base t_taped t_at t_faultPlace t_number t_newBits t_newTold t_newDoings t_newThings t_opened t_sum t_heldAll t_onPaper t_turned t_wasConverted t_lastBits t_lastSum t_lastHeld t_lastLeft t_lastCode t_writtenLong t_codeMany t_acts t_done0 t_stoppedAt t_all (9 + x13) (r29, ()) hc67) rfl hl.1 ⟨⟨rfl, rfl⟩, ⟨Nat.le_of_ble_eq_true rfl, Nat.le_of_ble_eq_true rfl⟩, ⟨Nat.le_of_ble_eq_true rfl, Nat.le_of_ble_eq_true rfl⟩, Nat.le_of_ble_eq_true rfl⟩) hA w [0, 1] [2, 3] [2, 3, 0, 1] rfl rfl (by decide) (fun _ => rfl) (fun _ H locs w => ?_)
          refine lv_isub hx hb dX8_hour_70 ?_
          refine lv_goto (tgt := 75) hx hb dX8_hour_71 (by decide) ?_
          exact kJ75 _ _ _ _ hf w (lv_sub hl [1, 2, 3] rfl)
  exact klp_X8_hour_4 FU _ _ _ _ _ _ _ hf w (lv_sub hl [2, 1, 0] rfl)
set_option maxHeartbeats 8000000 in
set_option maxRecDepth 100000 in
theorem ct_X8_pass (l : Launch) (E : hm_E) (sz : Nat) (h0 : Nat) (r_t : Nat → Nat) (t_base t_taped t_at t_faultPlace t_number t_newBits t_newTold t_newDoings t_newThings t_opened t_sum t_heldAll t_onPaper t_turned t_wasConverted t_lastBits t_lastSum t_lastHeld t_lastLeft t_lastCode t_writtenLong t_codeMany t_acts t_done0 t_stoppedAt : Int32) (t_all : Nat → Int32) (t_nextOff : Nat → Int32) (t_pile : Nat → Int32) (a1 : Int32) (R : Int32 × (Nat → Int32) × (Nat → Int32) × (Nat → Int32)) (hf : pf_X8_pass a1 t_all t_base t_pile t_nextOff = some R) : hm_Mi l E yX8_pass cX8_pass 4 .int [] (hm_rr 5 112 0 0) [.ref h0, .int a1] sz [oc8 h0 r_t t_base t_taped t_at t_faultPlace t_number t_newBits t_newTold t_newDoings t_newThings t_opened t_sum t_heldAll t_onPaper t_turned t_wasConverted t_lastBits t_lastSum t_lastHeld t_lastLeft t_lastCode t_writtenLong t_codeMany t_acts t_done0 t_stoppedAt, ic E (r_t 0) 800 t_all, ic E (r_t 24) 12 t_nextOff, ic E (r_t 23) 90 t_pile] R.1 (fun _ => [oc8 h0 r_t t_base t_taped t_at t_faultPlace t_number t_newBits t_newTold t_newDoings t_newThings t_opened t_sum t_heldAll t_onPaper t_turned t_wasConverted t_lastBits t_lastSum t_lastHeld t_lastLeft t_lastCode t_writtenLong t_codeMany t_acts t_done0 t_stoppedAt, ic E (r_t 0) 800 (R.2.1), ic E (r_t 24) 12 (R.2.2.2), ic E (r_t 23) 90 (R.2.2.1)]) := by
  refine hm_ct_i R (fun u qs => [oc8 h0 r_t t_base t_taped t_at t_faultPlace t_number t_newBits t_newTold t_newDoings t_newThings t_opened t_sum t_heldAll t_onPaper t_turned t_wasConverted t_lastBits t_lastSum t_lastHeld t_lastLeft t_lastCode t_writtenLong t_codeMany t_acts t_done0 t_stoppedAt, ic E (r_t 0) 800 (u.1), ic E (r_t 24) 12 (u.2.2), ic E (r_t 23) 90 (u.2.1)]) (by decide) (Nat.le_of_ble_eq_true rfl) (Or.inl rfl) ?_
  intro p e s m args below meth c A Q ls H locs hx hb hml hown X hA Y hex w hl hQ
  have hl : lv_has ls 4 [(0, .ref h0), (1, .int a1)] := hl
  unfold pf_X8_pass at hf
  refine lv_iload_n hx hb dX8_pass_0 rfl (lv_at hl 1 rfl) ?_
  refine lv_iconst (v := 1) hx hb dX8_pass_1 (by decide) ?_
  refine lv_bipush (v := 100) hx hb dX8_pass_2 (by decide) ?_
  obtain ⟨r1, hc4, hf⟩ := pf_bi_0 hf
  refine hm_aft_i (ws' := fun _ => [oc8 h0 r_t t_base t_taped t_at t_faultPlace t_number t_newBits t_newTold t_newDoings t_newThings t_opened t_sum t_heldAll t_onPaper t_turned t_wasConverted t_lastBits t_lastSum t_lastHeld t_lastLeft t_lastCode t_writtenLong t_codeMany t_acts t_done0 t_stoppedAt, ic E (r_t 0) 800 t_all, ic E (r_t 24) 12 t_nextOff, ic E (r_t 23) 90 t_pile]) (hm_runS (rest := []) hx hb hml hown X hA Y w mw_X8_isIn ml_X8_129 dX8_pass_4 hm_ac0 [.int a1, .int 1, .int 100] rfl [] rfl rfl (ct_X8_isIn l E H.size a1 1 100 (r1, ()) hc4) rfl hl.1 ⟨⟨rfl, rfl⟩, ⟨Nat.le_of_ble_eq_true rfl, Nat.le_of_ble_eq_true rfl⟩, ⟨Nat.le_of_ble_eq_true rfl, Nat.le_of_ble_eq_true rfl⟩, Nat.le_of_ble_eq_true rfl⟩) hA w [] [0, 1, 2, 3] [0, 1, 2, 3] rfl rfl (by decide) (fun _ => rfl) (fun _ H locs w => ?_)
  refine lv_if_ne (tgt := 12) hx hb dX8_pass_7 (by decide) (fun c7 => ?_) (fun c7 => ?_)
  · have hf := pf_e c7 hf
    refine lv_iconst (v := 0) hx hb dX8_pass_12 (by decide) ?_
    refine lv_istore_n (lv' := [(2, .int 0), (0, .ref h0), (1, .int a1)]) hx hb dX8_pass_13 rfl hl (by decide) rfl (fun ls hl => ?_)
    refine lv_iconst (v := 0) hx hb dX8_pass_14 (by decide) ?_
    refine lv_istore_n (lv' := [(3, .int 0), (2, .int 0), (0, .ref h0), (1, .int a1)]) hx hb dX8_pass_15 rfl hl (by decide) rfl (fun ls hl => ?_)
    have klp_X8_pass_16 : ∀ (n : Nat) (x2 : Int32) (x3 : Int32) (f4 : Nat → Int32) (f5 : Nat → Int32) (f6 : Nat → Int32) (H : Heap) (locs : List Loc) (ls : Array Slot), lp_X8_pass_16 a1 t_base n x2 x3 f4 f5 f6 = some R → hm_W E A s.heap [oc8 h0 r_t t_base t_taped t_at t_faultPlace t_number t_newBits t_newTold t_newDoings t_newThings t_opened t_sum t_heldAll t_onPaper t_turned t_wasConverted t_lastBits t_lastSum t_lastHeld t_lastLeft t_lastCode t_writtenLong t_codeMany t_acts t_done0 t_stoppedAt, ic E (r_t 0) 800 f4, ic E (r_t 24) 12 f6, ic E (r_t 23) 90 f5] H locs → lv_has ls 4 [(0, .ref h0), (1, .int a1), (2, .int x2), (3, .int x3)] → W p l e (hm_rr 5 112 0 0) s m args below meth c H locs 0 0 Q (F0 m 16 ls []) := by
      intro n
      induction n with
      | zero =>
        intro x2 x3 f4 f5 f6 H locs ls hf w hl
        exact pf_no hf
      | succ n ih16 =>
        intro x2 x3 f4 f5 f6 H locs ls hf w hl
        rw [lp_X8_pass_16] at hf
        refine lv_iload_n hx hb dX8_pass_16 rfl (lv_at hl 3 rfl) ?_
        refine lv_iload_n hx hb dX8_pass_17 rfl (lv_at hl 1 rfl) ?_
        refine lv_icmp_ge (tgt := 34) hx hb dX8_pass_18 (by decide) (fun c18 => ?_) (fun c18 => ?_)
        · have hf := pf_t c18 hf
          refine lv_iload_n hx hb dX8_pass_34 rfl (lv_at hl 2 rfl) ?_
          exact hQ _ _ _ _ _ (f4, f5, f6) (fun _ => 0) hf rfl w dX8_pass_35
        · have hf := pf_e c18 hf
          refine lv_iload_n hx hb dX8_pass_21 rfl (lv_at hl 2 rfl) ?_
          refine lv_aload_n hx hb dX8_pass_22 rfl (lv_at hl 0 rfl) ?_
          obtain ⟨r7, f8, f9, f10, hc23, hf⟩ := pf_bi_3 hf
          refine hm_aft_i (ws' := fun _ => [oc8 h0 r_t t_base t_taped t_at t_faultPlace t_number t_newBits t_newTold t_newDoings t_newThings t_opened t_sum t_heldAll t_onPaper t_turned t_wasConverted t_lastBits t_lastSum t_lastHeld t_lastLeft t_lastCode t_writtenLong t_codeMany t_acts t_done0 t_stoppedAt, ic E (r_t 0) 800 f8, ic E (r_t 24) 12 f10, ic E (r_t 23) 90 f9]) (hm_runV (rest := [.int x2]) hx hb hml hown X hA Y w 0 (ci := 7) (T := TX8) (N := 55) rfl rfl mw_X8_hour ml_X8_241 dX8_pass_23 hm_ac0 [] rfl [0, 1, 2, 3] rfl rfl (ct_X8_hour l E H.size h0 r_t t_base t_taped t_at t_faultPlace t_number t_newBits t_newTold t_newDoings t_newThings t_opened t_sum t_heldAll t_onPaper t_turned t_wasConverted t_lastBits t_lastSum t_lastHeld t_lastLeft t_lastCode t_writtenLong t_codeMany t_acts t_done0 t_stoppedAt f4 f6 f5 (r7, f8, f9, f10) hc23) rfl hl.1 ⟨⟨rfl, rfl⟩, ⟨Nat.le_of_ble_eq_true rfl, Nat.le_of_ble_eq_true rfl⟩, ⟨Nat.le_of_ble_eq_true rfl, Nat.le_of_ble_eq_true rfl⟩, Nat.le_of_ble_eq_true rfl⟩) hA w [0, 1, 2, 3] [] [0, 1, 2, 3] rfl rfl (by decide) (fun _ => rfl) (fun _ H locs w => ?_)
          refine lv_iadd hx hb dX8_pass_26 ?_
          refine lv_topi (fun x11 ex11 => ?_)
          have hf := pf_nm ex11 hf
          refine lv_istore_n (lv' := [(2, .int x11), (0, .ref h0), (1, .int a1), (3, .int x3)]) hx hb dX8_pass_27 rfl hl (by decide) rfl (fun ls hl => ?_)
          obtain ⟨x12, ex12⟩ : ∃ y : Int32, y = (x3 + 1) := ⟨_, rfl⟩
          have hf := pf_nm ex12 hf
          refine lv_iinc (v := x12) (lv' := [(3, .int x12), (2, .int x11), (0, .ref h0), (1, .int a1)]) hx hb dX8_pass_28 hl (k := 3) rfl (by rw [ex12]; rfl) (by decide) rfl (fun ls hl => ?_)
          refine lv_goto (tgt := 16) hx hb dX8_pass_31 (by decide) ?_
          exact ih16 _ _ _ _ _ _ _ _ hf w (lv_sub hl [2, 3, 1, 0] rfl)
    exact klp_X8_pass_16 FU _ _ _ _ _ _ _ _ hf w (lv_sub hl [2, 3, 1, 0] rfl)
  · have hf := pf_t c7 hf
    refine lv_iconst (v := (-1)) hx hb dX8_pass_10 (by decide) ?_
    exact hQ _ _ _ _ _ (t_all, t_pile, t_nextOff) (fun _ => 0) hf rfl w dX8_pass_11
set_option maxHeartbeats 8000000 in
set_option maxRecDepth 100000 in
theorem ct_X8_heat (l : Launch) (E : hm_E) (sz : Nat) (h0 : Nat) (r_t : Nat → Nat) (t_base t_taped t_at t_faultPlace t_number t_newBits t_newTold t_newDoings t_newThings t_opened t_sum t_heldAll t_onPaper t_turned t_wasConverted t_lastBits t_lastSum t_lastHeld t_lastLeft t_lastCode t_writtenLong t_codeMany t_acts t_done0 t_stoppedAt : Int32) (t_all : Nat → Int32) (a1 : Int32) (R : Int32 × (Nat → Int32)) (hf : pf_X8_heat a1 t_all t_base = some R) : hm_Mi l E yX8_heat cX8_heat 2 .boolean [] (hm_rr 1 22 0 0) [.ref h0, .int a1] sz [oc8 h0 r_t t_base t_taped t_at t_faultPlace t_number t_newBits t_newTold t_newDoings t_newThings t_opened t_sum t_heldAll t_onPaper t_turned t_wasConverted t_lastBits t_lastSum t_lastHeld t_lastLeft t_lastCode t_writtenLong t_codeMany t_acts t_done0 t_stoppedAt, ic E (r_t 0) 800 t_all] R.1 (fun _ => [oc8 h0 r_t t_base t_taped t_at t_faultPlace t_number t_newBits t_newTold t_newDoings t_newThings t_opened t_sum t_heldAll t_onPaper t_turned t_wasConverted t_lastBits t_lastSum t_lastHeld t_lastLeft t_lastCode t_writtenLong t_codeMany t_acts t_done0 t_stoppedAt, ic E (r_t 0) 800 R.2]) := by
  refine hm_ct_i R (fun u qs => [oc8 h0 r_t t_base t_taped t_at t_faultPlace t_number t_newBits t_newTold t_newDoings t_newThings t_opened t_sum t_heldAll t_onPaper t_turned t_wasConverted t_lastBits t_lastSum t_lastHeld t_lastLeft t_lastCode t_writtenLong t_codeMany t_acts t_done0 t_stoppedAt, ic E (r_t 0) 800 u]) (by decide) (Nat.le_of_ble_eq_true rfl) (Or.inr rfl) ?_
  intro p e s m args below meth c A Q ls H locs hx hb hml hown X hA Y hex w hl hQ
  have hl : lv_has ls 2 [(0, .ref h0), (1, .int a1)] := hl
  unfold pf_X8_heat at hf
  refine lv_iload_n hx hb dX8_heat_0 rfl (lv_at hl 1 rfl) ?_
  refine lv_iconst (v := 0) hx hb dX8_heat_1 (by decide) ?_
  refine lv_bipush (v := 99) hx hb dX8_heat_2 (by decide) ?_
  obtain ⟨r1, hc4, hf⟩ := pf_bi_0 hf
  refine hm_aft_i (ws' := fun _ => [oc8 h0 r_t t_base t_taped t_at t_faultPlace t_number t_newBits t_newTold t_newDoings t_newThings t_opened t_sum t_heldAll t_onPaper t_turned t_wasConverted t_lastBits t_lastSum t_lastHeld t_lastLeft t_lastCode t_writtenLong t_codeMany t_acts t_done0 t_stoppedAt, ic E (r_t 0) 800 t_all]) (hm_runS (rest := []) hx hb hml hown X hA Y w mw_X8_isIn ml_X8_129 dX8_heat_4 hm_ac0 [.int a1, .int 0, .int 99] rfl [] rfl rfl (ct_X8_isIn l E H.size a1 0 99 (r1, ()) hc4) rfl hl.1 ⟨⟨rfl, rfl⟩, ⟨Nat.le_of_ble_eq_true rfl, Nat.le_of_ble_eq_true rfl⟩, ⟨Nat.le_of_ble_eq_true rfl, Nat.le_of_ble_eq_true rfl⟩, Nat.le_of_ble_eq_true rfl⟩) hA w [] [0, 1] [0, 1] rfl rfl (by decide) (fun _ => rfl) (fun _ H locs w => ?_)
  refine lv_if_ne (tgt := 12) hx hb dX8_heat_7 (by decide) (fun c7 => ?_) (fun c7 => ?_)
  · have hf := pf_e c7 hf
    refine lv_aload_n hx hb dX8_heat_12 rfl (lv_at hl 0 rfl) ?_
    refine lv_bipush (v := 7) hx hb dX8_heat_13 (by decide) ?_
    refine lv_iload_n hx hb dX8_heat_15 rfl (lv_at hl 1 rfl) ?_
    obtain ⟨f2, hc16, hf⟩ := pf_bv_1 hf
    refine hm_aft_v (ws' := fun _ => [oc8 h0 r_t t_base t_taped t_at t_faultPlace t_number t_newBits t_newTold t_newDoings t_newThings t_opened t_sum t_heldAll t_onPaper t_turned t_wasConverted t_lastBits t_lastSum t_lastHeld t_lastLeft t_lastCode t_writtenLong t_codeMany t_acts t_done0 t_stoppedAt, ic E (r_t 0) 800 f2]) (hm_runV (rest := []) hx hb hml hown X hA Y w 0 (ci := 7) (T := TX8) (N := 55) rfl rfl mw_X8_put ml_X8_119 dX8_heat_16 hm_ac0 [.int 7, .int a1] rfl [0, 1] rfl rfl (ct_X8_put l E H.size h0 r_t t_base t_taped t_at t_faultPlace t_number t_newBits t_newTold t_newDoings t_newThings t_opened t_sum t_heldAll t_onPaper t_turned t_wasConverted t_lastBits t_lastSum t_lastHeld t_lastLeft t_lastCode t_writtenLong t_codeMany t_acts t_done0 t_stoppedAt t_all 7 a1 f2 hc16) rfl hl.1 ⟨⟨rfl, rfl⟩, ⟨Nat.le_of_ble_eq_true rfl, Nat.le_of_ble_eq_true rfl⟩, ⟨Nat.le_of_ble_eq_true rfl, Nat.le_of_ble_eq_true rfl⟩, Nat.le_of_ble_eq_true rfl⟩) hA w [0, 1] [] [0, 1] rfl rfl (by decide) (fun _ => rfl) (fun _ H locs w => ?_)
    refine lv_iconst (v := 1) hx hb dX8_heat_19 (by decide) ?_
    exact hQ _ _ _ _ _ f2 (fun _ => 0) hf rfl w dX8_heat_20
  · have hf := pf_t c7 hf
    refine lv_iconst (v := 0) hx hb dX8_heat_10 (by decide) ?_
    exact hQ _ _ _ _ _ t_all (fun _ => 0) hf rfl w dX8_heat_11
set_option maxHeartbeats 8000000 in
set_option maxRecDepth 100000 in
theorem ct_X8_sumOf (l : Launch) (E : hm_E) (sz : Nat) (h0 : Nat) (r_t : Nat → Nat) (t_base t_taped t_at t_faultPlace t_number t_newBits t_newTold t_newDoings t_newThings t_opened t_sum t_heldAll t_onPaper t_turned t_wasConverted t_lastBits t_lastSum t_lastHeld t_lastLeft t_lastCode t_writtenLong t_codeMany t_acts t_done0 t_stoppedAt : Int32) (t_all : Nat → Int32) (a1 : Int32) (a2 : Int32) (R : Int32 × Unit) (hf : pf_X8_sumOf a1 a2 t_all t_base = some R) : hm_Mi l E yX8_sumOf cX8_sumOf 5 .int [] (hm_rr 1 21 0 0) [.ref h0, .int a1, .int a2] sz [oc8 h0 r_t t_base t_taped t_at t_faultPlace t_number t_newBits t_newTold t_newDoings t_newThings t_opened t_sum t_heldAll t_onPaper t_turned t_wasConverted t_lastBits t_lastSum t_lastHeld t_lastLeft t_lastCode t_writtenLong t_codeMany t_acts t_done0 t_stoppedAt, ic E (r_t 0) 800 t_all] R.1 (fun _ => [oc8 h0 r_t t_base t_taped t_at t_faultPlace t_number t_newBits t_newTold t_newDoings t_newThings t_opened t_sum t_heldAll t_onPaper t_turned t_wasConverted t_lastBits t_lastSum t_lastHeld t_lastLeft t_lastCode t_writtenLong t_codeMany t_acts t_done0 t_stoppedAt, ic E (r_t 0) 800 t_all]) := by
  refine hm_ct_i R (fun u qs => [oc8 h0 r_t t_base t_taped t_at t_faultPlace t_number t_newBits t_newTold t_newDoings t_newThings t_opened t_sum t_heldAll t_onPaper t_turned t_wasConverted t_lastBits t_lastSum t_lastHeld t_lastLeft t_lastCode t_writtenLong t_codeMany t_acts t_done0 t_stoppedAt, ic E (r_t 0) 800 t_all]) (by decide) (Nat.le_of_ble_eq_true rfl) (Or.inl rfl) ?_
  intro p e s m args below meth c A Q ls H locs hx hb hml hown X hA Y hex w hl hQ
  have hl : lv_has ls 5 [(0, .ref h0), (1, .int a1), (2, .int a2)] := hl
  unfold pf_X8_sumOf at hf
  refine lv_iconst (v := 0) hx hb dX8_sumOf_0 (by decide) ?_
  refine lv_istore_n (lv' := [(3, .int 0), (0, .ref h0), (1, .int a1), (2, .int a2)]) hx hb dX8_sumOf_1 rfl hl (by decide) rfl (fun ls hl => ?_)
  refine lv_iconst (v := 0) hx hb dX8_sumOf_2 (by decide) ?_
  refine lv_istore (lv' := [(4, .int 0), (3, .int 0), (0, .ref h0), (1, .int a1), (2, .int a2)]) hx hb dX8_sumOf_3 hl (by decide) rfl (fun ls hl => ?_)
  have klp_X8_sumOf_5 : ∀ (n : Nat) (x1 : Int32) (x2 : Int32) (H : Heap) (locs : List Loc) (ls : Array Slot), lp_X8_sumOf_5 a1 a2 t_base t_all n x1 x2 = some R → hm_W E A s.heap [oc8 h0 r_t t_base t_taped t_at t_faultPlace t_number t_newBits t_newTold t_newDoings t_newThings t_opened t_sum t_heldAll t_onPaper t_turned t_wasConverted t_lastBits t_lastSum t_lastHeld t_lastLeft t_lastCode t_writtenLong t_codeMany t_acts t_done0 t_stoppedAt, ic E (r_t 0) 800 t_all] H locs → lv_has ls 5 [(0, .ref h0), (1, .int a1), (2, .int a2), (3, .int x1), (4, .int x2)] → W p l e (hm_rr 1 21 0 0) s m args below meth c H locs 0 0 Q (F0 m 5 ls []) := by
    intro n
    induction n with
    | zero =>
      intro x1 x2 H locs ls hf w hl
      exact pf_no hf
    | succ n ih5 =>
      intro x1 x2 H locs ls hf w hl
      rw [lp_X8_sumOf_5] at hf
      refine lv_iload hx hb dX8_sumOf_5 (lv_at hl 4 rfl) ?_
      refine lv_iload_n hx hb dX8_sumOf_7 rfl (lv_at hl 2 rfl) ?_
      refine lv_icmp_ge (tgt := 28) hx hb dX8_sumOf_8 (by decide) (fun c8 => ?_) (fun c8 => ?_)
      · have hf := pf_t c8 hf
        refine lv_iload_n hx hb dX8_sumOf_28 rfl (lv_at hl 3 rfl) ?_
        exact hQ _ _ _ _ _ () (fun _ => 0) hf rfl w dX8_sumOf_29
      · have hf := pf_e c8 hf
        refine lv_iload_n hx hb dX8_sumOf_11 rfl (lv_at hl 3 rfl) ?_
        refine lv_aload_n hx hb dX8_sumOf_12 rfl (lv_at hl 0 rfl) ?_
        refine lv_iload_n hx hb dX8_sumOf_13 rfl (lv_at hl 1 rfl) ?_
        refine lv_iload hx hb dX8_sumOf_14 (lv_at hl 4 rfl) ?_
        refine lv_iadd hx hb dX8_sumOf_16 ?_
        obtain ⟨r3, hc17, hf⟩ := pf_bi_0 hf
        refine hm_aft_i (ws' := fun _ => [oc8 h0 r_t t_base t_taped t_at t_faultPlace t_number t_newBits t_newTold t_newDoings t_newThings t_opened t_sum t_heldAll t_onPaper t_turned t_wasConverted t_lastBits t_lastSum t_lastHeld t_lastLeft t_lastCode t_writtenLong t_codeMany t_acts t_done0 t_stoppedAt, ic E (r_t 0) 800 t_all]) (hm_runV (rest := [.int x1]) hx hb hml hown X hA Y w 0 (ci := 7) (T := TX8) (N := 55) rfl rfl mw_X8_get ml_X8_221 dX8_sumOf_17 hm_ac0 [.int (a1 + x2)] rfl [0, 1] rfl rfl (ct_X8_get l E H.size h0 r_t t_base t_taped t_at t_faultPlace t_number t_newBits t_newTold t_newDoings t_newThings t_opened t_sum t_heldAll t_onPaper t_turned t_wasConverted t_lastBits t_lastSum t_lastHeld t_lastLeft t_lastCode t_writtenLong t_codeMany t_acts t_done0 t_stoppedAt t_all (a1 + x2) (r3, ()) hc17) rfl hl.1 ⟨⟨rfl, rfl⟩, ⟨Nat.le_of_ble_eq_true rfl, Nat.le_of_ble_eq_true rfl⟩, ⟨Nat.le_of_ble_eq_true rfl, Nat.le_of_ble_eq_true rfl⟩, Nat.le_of_ble_eq_true rfl⟩) hA w [0, 1] [] [0, 1] rfl rfl (by decide) (fun _ => rfl) (fun _ H locs w => ?_)
        refine lv_iadd hx hb dX8_sumOf_20 ?_
        refine lv_topi (fun x4 ex4 => ?_)
        have hf := pf_nm ex4 hf
        refine lv_istore_n (lv' := [(3, .int x4), (0, .ref h0), (1, .int a1), (2, .int a2), (4, .int x2)]) hx hb dX8_sumOf_21 rfl hl (by decide) rfl (fun ls hl => ?_)
        obtain ⟨x5, ex5⟩ : ∃ y : Int32, y = (x2 + 1) := ⟨_, rfl⟩
        have hf := pf_nm ex5 hf
        refine lv_iinc (v := x5) (lv' := [(4, .int x5), (3, .int x4), (0, .ref h0), (1, .int a1), (2, .int a2)]) hx hb dX8_sumOf_22 hl (k := 4) rfl (by rw [ex5]; rfl) (by decide) rfl (fun ls hl => ?_)
        refine lv_goto (tgt := 5) hx hb dX8_sumOf_25 (by decide) ?_
        exact ih5 _ _ _ _ _ hf w (lv_sub hl [2, 3, 4, 1, 0] rfl)
  exact klp_X8_sumOf_5 FU _ _ _ _ _ hf w (lv_sub hl [2, 3, 4, 1, 0] rfl)
set_option maxHeartbeats 8000000 in
set_option maxRecDepth 100000 in
theorem ct_X8_reach (l : Launch) (E : hm_E) (sz : Nat) (h0 : Nat) (r_t : Nat → Nat) (t_base t_taped t_at t_faultPlace t_number t_newBits t_newTold t_newDoings t_newThings t_opened t_sum t_heldAll t_onPaper t_turned t_wasConverted t_lastBits t_lastSum t_lastHeld t_lastLeft t_lastCode t_writtenLong t_codeMany t_acts t_done0 t_stoppedAt : Int32) (t_all : Nat → Int32) (a1 : Int32) (R : Int32 × Unit) (hf : pf_X8_reach a1 t_all t_base = some R) : hm_Mi l E yX8_reach cX8_reach 2 .int [] (hm_rr 2 45 0 0) [.ref h0, .int a1] sz [oc8 h0 r_t t_base t_taped t_at t_faultPlace t_number t_newBits t_newTold t_newDoings t_newThings t_opened t_sum t_heldAll t_onPaper t_turned t_wasConverted t_lastBits t_lastSum t_lastHeld t_lastLeft t_lastCode t_writtenLong t_codeMany t_acts t_done0 t_stoppedAt, ic E (r_t 0) 800 t_all] R.1 (fun _ => [oc8 h0 r_t t_base t_taped t_at t_faultPlace t_number t_newBits t_newTold t_newDoings t_newThings t_opened t_sum t_heldAll t_onPaper t_turned t_wasConverted t_lastBits t_lastSum t_lastHeld t_lastLeft t_lastCode t_writtenLong t_codeMany t_acts t_done0 t_stoppedAt, ic E (r_t 0) 800 t_all]) := by
  refine hm_ct_i R (fun u qs => [oc8 h0 r_t t_base t_taped t_at t_faultPlace t_number t_newBits t_newTold t_newDoings t_newThings t_opened t_sum t_heldAll t_onPaper t_turned t_wasConverted t_lastBits t_lastSum t_lastHeld t_lastLeft t_lastCode t_writtenLong t_codeMany t_acts t_done0 t_stoppedAt, ic E (r_t 0) 800 t_all]) (by decide) (Nat.le_of_ble_eq_true rfl) (Or.inl rfl) ?_
  intro p e s m args below meth c A Q ls H locs hx hb hml hown X hA Y hex w hl hQ
  have hl : lv_has ls 2 [(0, .ref h0), (1, .int a1)] := hl
  unfold pf_X8_reach at hf
  refine lv_aload_n hx hb dX8_reach_0 rfl (lv_at hl 0 rfl) ?_
  refine lv_bipush (v := 9) hx hb dX8_reach_1 (by decide) ?_
  refine lv_iload_n hx hb dX8_reach_3 rfl (lv_at hl 1 rfl) ?_
  obtain ⟨r1, hc4, hf⟩ := pf_bi_0 hf
  refine hm_aft_i (ws' := fun _ => [oc8 h0 r_t t_base t_taped t_at t_faultPlace t_number t_newBits t_newTold t_newDoings t_newThings t_opened t_sum t_heldAll t_onPaper t_turned t_wasConverted t_lastBits t_lastSum t_lastHeld t_lastLeft t_lastCode t_writtenLong t_codeMany t_acts t_done0 t_stoppedAt, ic E (r_t 0) 800 t_all]) (hm_runV (rest := []) hx hb hml hown X hA Y w 0 (ci := 7) (T := TX8) (N := 55) rfl rfl mw_X8_sumOf ml_X8_244 dX8_reach_4 hm_ac0 [.int 9, .int a1] rfl [0, 1] rfl rfl (ct_X8_sumOf l E H.size h0 r_t t_base t_taped t_at t_faultPlace t_number t_newBits t_newTold t_newDoings t_newThings t_opened t_sum t_heldAll t_onPaper t_turned t_wasConverted t_lastBits t_lastSum t_lastHeld t_lastLeft t_lastCode t_writtenLong t_codeMany t_acts t_done0 t_stoppedAt t_all 9 a1 (r1, ()) hc4) rfl hl.1 ⟨⟨rfl, rfl⟩, ⟨Nat.le_of_ble_eq_true rfl, Nat.le_of_ble_eq_true rfl⟩, ⟨Nat.le_of_ble_eq_true rfl, Nat.le_of_ble_eq_true rfl⟩, Nat.le_of_ble_eq_true rfl⟩) hA w [0, 1] [] [0, 1] rfl rfl (by decide) (fun _ => rfl) (fun _ H locs w => ?_)
  refine lv_aload_n hx hb dX8_reach_7 rfl (lv_at hl 0 rfl) ?_
  refine lv_bipush (v := 21) hx hb dX8_reach_8 (by decide) ?_
  refine lv_iload_n hx hb dX8_reach_10 rfl (lv_at hl 1 rfl) ?_
  obtain ⟨r2, hc11, hf⟩ := pf_bi_0 hf
  refine hm_aft_i (ws' := fun _ => [oc8 h0 r_t t_base t_taped t_at t_faultPlace t_number t_newBits t_newTold t_newDoings t_newThings t_opened t_sum t_heldAll t_onPaper t_turned t_wasConverted t_lastBits t_lastSum t_lastHeld t_lastLeft t_lastCode t_writtenLong t_codeMany t_acts t_done0 t_stoppedAt, ic E (r_t 0) 800 t_all]) (hm_runV (rest := [.int r1]) hx hb hml hown X hA Y w 0 (ci := 7) (T := TX8) (N := 55) rfl rfl mw_X8_sumOf ml_X8_244 dX8_reach_11 hm_ac0 [.int 21, .int a1] rfl [0, 1] rfl rfl (ct_X8_sumOf l E H.size h0 r_t t_base t_taped t_at t_faultPlace t_number t_newBits t_newTold t_newDoings t_newThings t_opened t_sum t_heldAll t_onPaper t_turned t_wasConverted t_lastBits t_lastSum t_lastHeld t_lastLeft t_lastCode t_writtenLong t_codeMany t_acts t_done0 t_stoppedAt t_all 21 a1 (r2, ()) hc11) rfl hl.1 ⟨⟨rfl, rfl⟩, ⟨Nat.le_of_ble_eq_true rfl, Nat.le_of_ble_eq_true rfl⟩, ⟨Nat.le_of_ble_eq_true rfl, Nat.le_of_ble_eq_true rfl⟩, Nat.le_of_ble_eq_true rfl⟩) hA w [0, 1] [] [0, 1] rfl rfl (by decide) (fun _ => rfl) (fun _ H locs w => ?_)
  refine lv_iadd hx hb dX8_reach_14 ?_
  exact hQ _ _ _ _ _ () (fun _ => 0) hf rfl w dX8_reach_15