set_option maxHeartbeats 8000000 in
set_option maxRecDepth 100000 in
theorem ct_X8_learnOnPaper (l : Launch) (E : hm_E) (sz : Nat) (h0 : Nat) (r_t : Nat → Nat) (t_base t_taped t_at t_faultPlace t_number t_newBits t_newTold t_newDoings t_newThings t_opened t_sum t_heldAll t_onPaper t_turned t_wasConverted t_lastBits t_lastSum t_lastHeld t_lastLeft t_lastCode t_writtenLong t_codeMany t_acts t_done0 t_stoppedAt : Int32) (t_all : Nat → Int32) (t_askedOf : Nat → Int32) (t_decided : Nat → Int32) (t_heldBehind : Nat → Int32) (t_wasLate : Nat → Int32) (a1 : Int32) (R : (Nat → Int32) × (Nat → Int32) × (Nat → Int32) × (Nat → Int32) × (Nat → Int32) × Int32 × Int32 × Int32) (hf : pf_X8_learnOnPaper a1 t_all t_base t_decided t_wasLate t_askedOf t_heldBehind t_sum t_heldAll t_turned = some R) : hm_Mv l E yX8_learnOnPaper cX8_learnOnPaper 2 [] (hm_rr 5 120 0 0) [.ref h0, .int a1] sz [oc8 h0 r_t t_base t_taped t_at t_faultPlace t_number t_newBits t_newTold t_newDoings t_newThings t_opened t_sum t_heldAll t_onPaper t_turned t_wasConverted t_lastBits t_lastSum t_lastHeld t_lastLeft t_lastCode t_writtenLong t_codeMany t_acts t_done0 t_stoppedAt, ic E (r_t 0) 800 t_all, ic E (r_t 27) 12 t_askedOf, ic E (r_t 25) 12 t_decided, ic E (r_t 28) 12 t_heldBehind, zc E (r_t 26) 12 t_wasLate] (fun _ => [oc8 h0 r_t t_base t_taped t_at t_faultPlace t_number t_newBits t_newTold t_newDoings t_newThings t_opened (R.2.2.2.2.2.1) (R.2.2.2.2.2.2.1) (R.2.2.2.2.2.2.2) t_turned t_wasConverted t_lastBits t_lastSum t_lastHeld t_lastLeft t_lastCode t_writtenLong t_codeMany t_acts t_done0 t_stoppedAt, ic E (r_t 0) 800 (R.1), ic E (r_t 27) 12 (R.2.2.2.1), ic E (r_t 25) 12 (R.2.1), ic E (r_t 28) 12 (R.2.2.2.2.1), zc E (r_t 26) 12 (R.2.2.1)]) := by
  refine hm_ct_v R (fun u _ => [oc8 h0 r_t t_base t_taped t_at t_faultPlace t_number t_newBits t_newTold t_newDoings t_newThings t_opened (u.2.2.2.2.2.1) (u.2.2.2.2.2.2.1) (u.2.2.2.2.2.2.2) t_turned t_wasConverted t_lastBits t_lastSum t_lastHeld t_lastLeft t_lastCode t_writtenLong t_codeMany t_acts t_done0 t_stoppedAt, ic E (r_t 0) 800 (u.1), ic E (r_t 27) 12 (u.2.2.2.1), ic E (r_t 25) 12 (u.2.1), ic E (r_t 28) 12 (u.2.2.2.2.1), zc E (r_t 26) 12 (u.2.2.1)]) (by decide) (Nat.le_of_ble_eq_true rfl) ?_
  intro p e s m args below meth c A Q ls H locs hx hb hml hown X hA Y hex hin w hl hQ
  have hl : lv_has ls 2 [(0, .ref h0), (1, .int a1)] := hl
  unfold pf_X8_learnOnPaper at hf
  refine lv_aload_n hx hb dX8_learnOnPaper_0 rfl (lv_at hl 0 rfl) ?_
  refine lv_iconst (v := 1) hx hb dX8_learnOnPaper_1 (by decide) ?_
  refine hm_put (ws' := [oc8 h0 r_t t_base t_taped t_at t_faultPlace t_number t_newBits t_newTold t_newDoings t_newThings t_opened t_sum t_heldAll 1 t_turned t_wasConverted t_lastBits t_lastSum t_lastHeld t_lastLeft t_lastCode t_writtenLong t_codeMany t_acts t_done0 t_stoppedAt, ic E (r_t 0) 800 t_all, ic E (r_t 27) 12 t_askedOf, ic E (r_t 25) 12 t_decided, ic E (r_t 28) 12 t_heldBehind, zc E (r_t 26) 12 t_wasLate]) cb_X8 hx hb hown X w 0 31 fl_X8_258 dX8_learnOnPaper_2 rfl (by decide) (Nat.le_of_ble_eq_true rfl) rfl rfl rfl rfl (fun H locs w => ?_)
  refine lv_aload_n hx hb dX8_learnOnPaper_5 rfl (lv_at hl 0 rfl) ?_
  refine lv_iload_n hx hb dX8_learnOnPaper_6 rfl (lv_at hl 1 rfl) ?_
  refine lv_iconst (v := 1) hx hb dX8_learnOnPaper_7 (by decide) ?_
  obtain ⟨f1, f2, f3, f4, f5, x6, x7, hc8, hf⟩ := pf_bv_7 hf
  refine hm_aft_v (ws' := fun _ => [oc8 h0 r_t t_base t_taped t_at t_faultPlace t_number t_newBits t_newTold t_newDoings t_newThings t_opened x6 x7 1 t_turned t_wasConverted t_lastBits t_lastSum t_lastHeld t_lastLeft t_lastCode t_writtenLong t_codeMany t_acts t_done0 t_stoppedAt, ic E (r_t 0) 800 f1, ic E (r_t 27) 12 f4, ic E (r_t 25) 12 f2, ic E (r_t 28) 12 f5, zc E (r_t 26) 12 f3]) (hm_runV (rest := []) hx hb hml hown X hA Y w 0 (ci := 7) (T := TX8) (N := 55) rfl rfl mw_X8_learnNow ml_X8_305 dX8_learnOnPaper_8 hm_ac0 [.int a1, .int 1] rfl [0, 1, 2, 3, 4, 5] rfl rfl (ct_X8_learnNow l E H.size h0 r_t t_base t_taped t_at t_faultPlace t_number t_newBits t_newTold t_newDoings t_newThings t_opened t_sum t_heldAll 1 t_turned t_wasConverted t_lastBits t_lastSum t_lastHeld t_lastLeft t_lastCode t_writtenLong t_codeMany t_acts t_done0 t_stoppedAt t_all t_askedOf t_decided t_heldBehind t_wasLate a1 1 (f1, f2, f3, f4, f5, x6, x7) hc8) rfl hl.1 ⟨⟨rfl, rfl⟩, ⟨Nat.le_of_ble_eq_true rfl, Nat.le_of_ble_eq_true rfl⟩, ⟨Nat.le_of_ble_eq_true rfl, Nat.le_of_ble_eq_true rfl⟩, Nat.le_of_ble_eq_true rfl⟩) hA w [0, 1, 2, 3, 4, 5] [] [0, 1, 2, 3, 4, 5] rfl rfl (by decide) (fun _ => rfl) (fun _ H locs w => ?_)
  refine lv_aload_n hx hb dX8_learnOnPaper_11 rfl (lv_at hl 0 rfl) ?_
  refine lv_iconst (v := 0) hx hb dX8_learnOnPaper_12 (by decide) ?_
  refine hm_put (ws' := [oc8 h0 r_t t_base t_taped t_at t_faultPlace t_number t_newBits t_newTold t_newDoings t_newThings t_opened x6 x7 0 t_turned t_wasConverted t_lastBits t_lastSum t_lastHeld t_lastLeft t_lastCode t_writtenLong t_codeMany t_acts t_done0 t_stoppedAt, ic E (r_t 0) 800 f1, ic E (r_t 27) 12 f4, ic E (r_t 25) 12 f2, ic E (r_t 28) 12 f5, zc E (r_t 26) 12 f3]) cb_X8 hx hb hown X w 0 31 fl_X8_258 dX8_learnOnPaper_13 rfl (by decide) (Nat.le_of_ble_eq_true rfl) rfl rfl rfl rfl (fun H locs w => ?_)
  exact hQ _ _ _ _ (f1, f2, f3, f4, f5, x6, x7, 0) (fun _ => 0) hf w dX8_learnOnPaper_16
set_option maxHeartbeats 8000000 in
set_option maxRecDepth 100000 in
theorem ct_X8_learn (l : Launch) (E : hm_E) (sz : Nat) (h0 : Nat) (r_t : Nat → Nat) (t_base t_taped t_at t_faultPlace t_number t_newBits t_newTold t_newDoings t_newThings t_opened t_sum t_heldAll t_onPaper t_turned t_wasConverted t_lastBits t_lastSum t_lastHeld t_lastLeft t_lastCode t_writtenLong t_codeMany t_acts t_done0 t_stoppedAt : Int32) (t_all : Nat → Int32) (t_askedOf : Nat → Int32) (t_decided : Nat → Int32) (t_heldBehind : Nat → Int32) (t_wasLate : Nat → Int32) (a1 : Int32) (a2 : Int32) (R : Int32 × (Nat → Int32) × (Nat → Int32) × (Nat → Int32) × (Nat → Int32) × (Nat → Int32) × Int32 × Int32) (hf : pf_X8_learn a1 a2 t_all t_base t_decided t_wasLate t_askedOf t_heldBehind t_sum t_heldAll t_onPaper t_turned = some R) : hm_Mi l E yX8_learn cX8_learn 6 .int [] (hm_rr 5 120 0 0) [.ref h0, .int a1, .int a2] sz [oc8 h0 r_t t_base t_taped t_at t_faultPlace t_number t_newBits t_newTold t_newDoings t_newThings t_opened t_sum t_heldAll t_onPaper t_turned t_wasConverted t_lastBits t_lastSum t_lastHeld t_lastLeft t_lastCode t_writtenLong t_codeMany t_acts t_done0 t_stoppedAt, ic E (r_t 0) 800 t_all, ic E (r_t 27) 12 t_askedOf, ic E (r_t 25) 12 t_decided, ic E (r_t 28) 12 t_heldBehind, zc E (r_t 26) 12 t_wasLate] R.1 (fun _ => [oc8 h0 r_t t_base t_taped t_at t_faultPlace t_number t_newBits t_newTold t_newDoings t_newThings t_opened (R.2.2.2.2.2.2.1) (R.2.2.2.2.2.2.2) t_onPaper t_turned t_wasConverted t_lastBits t_lastSum t_lastHeld t_lastLeft t_lastCode t_writtenLong t_codeMany t_acts t_done0 t_stoppedAt, ic E (r_t 0) 800 (R.2.1), ic E (r_t 27) 12 (R.2.2.2.2.1), ic E (r_t 25) 12 (R.2.2.1), ic E (r_t 28) 12 (R.2.2.2.2.2.1), zc E (r_t 26) 12 (R.2.2.2.1)]) := by
  refine hm_ct_i R (fun u qs => [oc8 h0 r_t t_base t_taped t_at t_faultPlace t_number t_newBits t_newTold t_newDoings t_newThings t_opened (u.2.2.2.2.2.1) (u.2.2.2.2.2.2) t_onPaper t_turned t_wasConverted t_lastBits t_lastSum t_lastHeld t_lastLeft t_lastCode t_writtenLong t_codeMany t_acts t_done0 t_stoppedAt, ic E (r_t 0) 800 (u.1), ic E (r_t 27) 12 (u.2.2.2.1), ic E (r_t 25) 12 (u.2.1), ic E (r_t 28) 12 (u.2.2.2.2.1), zc E (r_t 26) 12 (u.2.2.1)]) (by decide) (Nat.le_of_ble_eq_true rfl) (Or.inl rfl) ?_
  intro p e s m args below meth c A Q ls H locs hx hb hml hown X hA Y hex w hl hQ
  have hl : lv_has ls 6 [(0, .ref h0), (1, .int a1), (2, .int a2)] := hl
  unfold pf_X8_learn at hf
  refine lv_aload_n hx hb dX8_learn_0 rfl (lv_at hl 0 rfl) ?_
  refine lv_iconst (v := 0) hx hb dX8_learn_1 (by decide) ?_
  obtain ⟨r1, hc2, hf⟩ := pf_bi_0 hf
  refine hm_aft_i (ws' := fun _ => [oc8 h0 r_t t_base t_taped t_at t_faultPlace t_number t_newBits t_newTold t_newDoings t_newThings t_opened t_sum t_heldAll t_onPaper t_turned t_wasConverted t_lastBits t_lastSum t_lastHeld t_lastLeft t_lastCode t_writtenLong t_codeMany t_acts t_done0 t_stoppedAt, ic E (r_t 0) 800 t_all, ic E (r_t 27) 12 t_askedOf, ic E (r_t 25) 12 t_decided, ic E (r_t 28) 12 t_heldBehind, zc E (r_t 26) 12 t_wasLate]) (hm_runV (rest := []) hx hb hml hown X hA Y w 0 (ci := 7) (T := TX8) (N := 55) rfl rfl mw_X8_get ml_X8_221 dX8_learn_2 hm_ac0 [.int 0] rfl [0, 1] rfl rfl (ct_X8_get l E H.size h0 r_t t_base t_taped t_at t_faultPlace t_number t_newBits t_newTold t_newDoings t_newThings t_opened t_sum t_heldAll t_onPaper t_turned t_wasConverted t_lastBits t_lastSum t_lastHeld t_lastLeft t_lastCode t_writtenLong t_codeMany t_acts t_done0 t_stoppedAt t_all 0 (r1, ()) hc2) rfl hl.1 ⟨⟨rfl, rfl⟩, ⟨Nat.le_of_ble_eq_true rfl, Nat.le_of_ble_eq_true rfl⟩, ⟨Nat.le_of_ble_eq_true rfl, Nat.le_of_ble_eq_true rfl⟩, Nat.le_of_ble_eq_true rfl⟩) hA w [0, 1] [2, 3, 4, 5] [4, 5, 0, 1, 2, 3] rfl rfl (by decide) (fun _ => rfl) (fun _ H locs w => ?_)
  refine lv_istore_n (lv' := [(3, .int r1), (0, .ref h0), (1, .int a1), (2, .int a2)]) hx hb dX8_learn_5 rfl hl (by decide) rfl (fun ls hl => ?_)
  refine lv_iload_n hx hb dX8_learn_6 rfl (lv_at hl 2 rfl) ?_
  refine lv_iconst (v := 1) hx hb dX8_learn_7 (by decide) ?_
  refine lv_iload_n hx hb dX8_learn_8 rfl (lv_at hl 0 rfl) ?_
  obtain ⟨r2, hc9, hf⟩ := pf_bi_0 hf
  refine hm_aft_i (ws' := fun _ => [oc8 h0 r_t t_base t_taped t_at t_faultPlace t_number t_newBits t_newTold t_newDoings t_newThings t_opened t_sum t_heldAll t_onPaper t_turned t_wasConverted t_lastBits t_lastSum t_lastHeld t_lastLeft t_lastCode t_writtenLong t_codeMany t_acts t_done0 t_stoppedAt, ic E (r_t 0) 800 t_all, ic E (r_t 27) 12 t_askedOf, ic E (r_t 25) 12 t_decided, ic E (r_t 28) 12 t_heldBehind, zc E (r_t 26) 12 t_wasLate]) (hm_runS (rest := []) hx hb hml hown X hA Y w mw_X8_isIn ml_X8_129 dX8_learn_9 hm_ac0 [.int a1, .int 1, .int r1] rfl [] rfl rfl (ct_X8_isIn l E H.size a1 1 r1 (r2, ()) hc9) rfl hl.1 ⟨⟨rfl, rfl⟩, ⟨Nat.le_of_ble_eq_true rfl, Nat.le_of_ble_eq_true rfl⟩, ⟨Nat.le_of_ble_eq_true rfl, Nat.le_of_ble_eq_true rfl⟩, Nat.le_of_ble_eq_true rfl⟩) hA w [] [0, 1, 2, 3, 4, 5] [0, 1, 2, 3, 4, 5] rfl rfl (by decide) (fun _ => rfl) (fun _ H locs w => ?_)
  refine lv_if_eq (tgt := 25) hx hb dX8_learn_12 (by decide) (fun c12 => ?_) (fun c12 => ?_)
  · have hf := pf_t c12 hf
    refine lv_iconst (v := (-1)) hx hb dX8_learn_25 (by decide) ?_
    exact hQ _ _ _ _ _ (t_all, t_decided, t_wasLate, t_askedOf, t_heldBehind, t_sum, t_heldAll) (fun _ => 0) hf rfl w dX8_learn_26
  · have hf := pf_e c12 hf
    refine lv_iload_n hx hb dX8_learn_15 rfl (lv_at hl 3 rfl) ?_
    refine lv_iconst (v := 1) hx hb dX8_learn_16 (by decide) ?_
    refine lv_bipush (v := 8) hx hb dX8_learn_17 (by decide) ?_
    obtain ⟨r3, hc19, hf⟩ := pf_bi_0 hf
    refine hm_aft_i (ws' := fun _ => [oc8 h0 r_t t_base t_taped t_at t_faultPlace t_number t_newBits t_newTold t_newDoings t_newThings t_opened t_sum t_heldAll t_onPaper t_turned t_wasConverted t_lastBits t_lastSum t_lastHeld t_lastLeft t_lastCode t_writtenLong t_codeMany t_acts t_done0 t_stoppedAt, ic E (r_t 0) 800 t_all, ic E (r_t 27) 12 t_askedOf, ic E (r_t 25) 12 t_decided, ic E (r_t 28) 12 t_heldBehind, zc E (r_t 26) 12 t_wasLate]) (hm_runS (rest := []) hx hb hml hown X hA Y w mw_X8_isIn ml_X8_129 dX8_learn_19 hm_ac0 [.int a2, .int 1, .int 8] rfl [] rfl rfl (ct_X8_isIn l E H.size a2 1 8 (r3, ()) hc19) rfl hl.1 ⟨⟨rfl, rfl⟩, ⟨Nat.le_of_ble_eq_true rfl, Nat.le_of_ble_eq_true rfl⟩, ⟨Nat.le_of_ble_eq_true rfl, Nat.le_of_ble_eq_true rfl⟩, Nat.le_of_ble_eq_true rfl⟩) hA w [] [0, 1, 2, 3, 4, 5] [0, 1, 2, 3, 4, 5] rfl rfl (by decide) (fun _ => rfl) (fun _ H locs w => ?_)
    refine lv_if_ne (tgt := 27) hx hb dX8_learn_22 (by decide) (fun c22 => ?_) (fun c22 => ?_)
    · have hf := pf_e c22 hf
      refine lv_aload_n hx hb dX8_learn_27 rfl (lv_at hl 1 rfl) ?_
      refine lv_iload_n hx hb dX8_learn_28 rfl (lv_at hl 2 rfl) ?_
      refine lv_iload_n hx hb dX8_learn_29 rfl (lv_at hl 3 rfl) ?_
      obtain ⟨f4, f5, f6, f7, f8, x9, x10, hc30, hf⟩ := pf_bv_7 hf
      refine hm_aft_v (ws' := fun _ => [oc8 h0 r_t t_base t_taped t_at t_faultPlace t_number t_newBits t_newTold t_newDoings t_newThings t_opened x9 x10 t_onPaper t_turned t_wasConverted t_lastBits t_lastSum t_lastHeld t_lastLeft t_lastCode t_writtenLong t_codeMany t_acts t_done0 t_stoppedAt, ic E (r_t 0) 800 f4, ic E (r_t 27) 12 f7, ic E (r_t 25) 12 f5, ic E (r_t 28) 12 f8, zc E (r_t 26) 12 f6]) (hm_runV (rest := []) hx hb hml hown X hA Y w 0 (ci := 7) (T := TX8) (N := 55) rfl rfl mw_X8_learnNow ml_X8_305 dX8_learn_30 hm_ac0 [.int a1, .int a2] rfl [0, 1, 2, 3, 4, 5] rfl rfl (ct_X8_learnNow l E H.size h0 r_t t_base t_taped t_at t_faultPlace t_number t_newBits t_newTold t_newDoings t_newThings t_opened t_sum t_heldAll t_onPaper t_turned t_wasConverted t_lastBits t_lastSum t_lastHeld t_lastLeft t_lastCode t_writtenLong t_codeMany t_acts t_done0 t_stoppedAt t_all t_askedOf t_decided t_heldBehind t_wasLate a1 a2 (f4, f5, f6, f7, f8, x9, x10) hc30) rfl hl.1 ⟨⟨rfl, rfl⟩, ⟨Nat.le_of_ble_eq_true rfl, Nat.le_of_ble_eq_true rfl⟩, ⟨Nat.le_of_ble_eq_true rfl, Nat.le_of_ble_eq_true rfl⟩, Nat.le_of_ble_eq_true rfl⟩) hA w [0, 1, 2, 3, 4, 5] [] [0, 1, 2, 3, 4, 5] rfl rfl (by decide) (fun _ => rfl) (fun _ H locs w => ?_)
      refine lv_iconst (v := 0) hx hb dX8_learn_33 (by decide) ?_
      refine lv_istore (lv' := [(4, .int 0), (3, .int r1), (0, .ref h0), (1, .int a1), (2, .int a2)]) hx hb dX8_learn_34 hl (by decide) rfl (fun ls hl => ?_)
      refine lv_iload_n hx hb dX8_learn_36 rfl (lv_at hl 3 rfl) ?_
      refine lv_istore (lv' := [(5, .int a1), (4, .int 0), (3, .int r1), (0, .ref h0), (1, .int a1), (2, .int a2)]) hx hb dX8_learn_37 hl (by decide) rfl (fun ls hl => ?_)
      have klp_X8_learn_39 : ∀ (n : Nat) (x11 : Int32) (x12 : Int32) (H : Heap) (locs : List Loc) (ls : Array Slot), lp_X8_learn_39 t_base r1 f4 f5 f6 f7 f8 x9 x10 n x11 x12 = some R → hm_W E A s.heap [oc8 h0 r_t t_base t_taped t_at t_faultPlace t_number t_newBits t_newTold t_newDoings t_newThings t_opened x9 x10 t_onPaper t_turned t_wasConverted t_lastBits t_lastSum t_lastHeld t_lastLeft t_lastCode t_writtenLong t_codeMany t_acts t_done0 t_stoppedAt, ic E (r_t 0) 800 f4, ic E (r_t 27) 12 f7, ic E (r_t 25) 12 f5, ic E (r_t 28) 12 f8, zc E (r_t 26) 12 f6] H locs → lv_has ls 6 [(0, .ref h0), (3, .int r1), (4, .int x11), (5, .int x12)] → W p l e (hm_rr 5 120 0 0) s m args below meth c H locs 0 0 Q (F0 m 39 ls []) := by
        intro n
        induction n with
        | zero =>
          intro x11 x12 H locs ls hf w hl
          exact pf_no hf
        | succ n ih39 =>
          intro x11 x12 H locs ls hf w hl
          rw [lp_X8_learn_39] at hf
          refine lv_iload hx hb dX8_learn_39 (lv_at hl 3 rfl) ?_
          refine lv_iload_n hx hb dX8_learn_41 rfl (lv_at hl 1 rfl) ?_
          refine lv_icmp_ge (tgt := 70) hx hb dX8_learn_42 (by decide) (fun c42 => ?_) (fun c42 => ?_)
          · have hf := pf_t c42 hf
            refine lv_iload hx hb dX8_learn_70 (lv_at hl 2 rfl) ?_
            exact hQ _ _ _ _ _ (f4, f5, f6, f7, f8, x9, x10) (fun _ => 0) hf rfl w dX8_learn_72
          · have hf := pf_e c42 hf
            refine lv_iload hx hb dX8_learn_45 (lv_at hl 2 rfl) ?_
            refine lv_aload_n hx hb dX8_learn_47 rfl (lv_at hl 0 rfl) ?_
            refine lv_iload hx hb dX8_learn_48 (lv_at hl 3 rfl) ?_
            obtain ⟨r13, hc50, hf⟩ := pf_bi_0 hf
            refine hm_aft_i (ws' := fun _ => [oc8 h0 r_t t_base t_taped t_at t_faultPlace t_number t_newBits t_newTold t_newDoings t_newThings t_opened x9 x10 t_onPaper t_turned t_wasConverted t_lastBits t_lastSum t_lastHeld t_lastLeft t_lastCode t_writtenLong t_codeMany t_acts t_done0 t_stoppedAt, ic E (r_t 0) 800 f4, ic E (r_t 27) 12 f7, ic E (r_t 25) 12 f5, ic E (r_t 28) 12 f8, zc E (r_t 26) 12 f6]) (hm_runV (rest := [.int x11]) hx hb hml hown X hA Y w 0 (ci := 7) (T := TX8) (N := 55) rfl rfl mw_X8_isShort ml_X8_254 dX8_learn_50 hm_ac0 [.int x12] rfl [0, 1] rfl rfl (ct_X8_isShort l E H.size h0 r_t t_base t_taped t_at t_faultPlace t_number t_newBits t_newTold t_newDoings t_newThings t_opened x9 x10 t_onPaper t_turned t_wasConverted t_lastBits t_lastSum t_lastHeld t_lastLeft t_lastCode t_writtenLong t_codeMany t_acts t_done0 t_stoppedAt f4 x12 (r13, ()) hc50) rfl hl.1 ⟨⟨rfl, rfl⟩, ⟨Nat.le_of_ble_eq_true rfl, Nat.le_of_ble_eq_true rfl⟩, ⟨Nat.le_of_ble_eq_true rfl, Nat.le_of_ble_eq_true rfl⟩, Nat.le_of_ble_eq_true rfl⟩) hA w [0, 1] [2, 3, 4, 5] [4, 5, 0, 1, 2, 3] rfl rfl (by decide) (fun _ => rfl) (fun _ H locs w => ?_)
            refine lv_if_eq (tgt := 60) hx hb dX8_learn_53 (by decide) (fun c53 => ?_) (fun c53 => ?_)
            · have hf := pf_t c53 hf
              refine lv_iconst (v := 0) hx hb dX8_learn_60 (by decide) ?_
              refine lv_iadd hx hb dX8_learn_61 ?_
              refine lv_topi (fun x14 ex14 => ?_)
              have hf := pf_nm ex14 hf
              refine lv_istore (lv' := [(4, .int x14), (0, .ref h0), (3, .int r1), (5, .int x12)]) hx hb dX8_learn_62 hl (by decide) rfl (fun ls hl => ?_)
              obtain ⟨x15, ex15⟩ : ∃ y : Int32, y = (x12 + 1) := ⟨_, rfl⟩
              have hf := pf_nm ex15 hf
              refine lv_iinc (v := x15) (lv' := [(5, .int x15), (4, .int x14), (0, .ref h0), (3, .int r1)]) hx hb dX8_learn_64 hl (k := 3) rfl (by rw [ex15]; rfl) (by decide) rfl (fun ls hl => ?_)
              refine lv_goto (tgt := 39) hx hb dX8_learn_67 (by decide) ?_
              exact ih39 _ _ _ _ _ hf w (lv_sub hl [2, 3, 1, 0] rfl)
            · have hf := pf_e c53 hf
              refine lv_iconst (v := 1) hx hb dX8_learn_56 (by decide) ?_
              refine lv_goto (tgt := 61) hx hb dX8_learn_57 (by decide) ?_
              refine lv_iadd hx hb dX8_learn_61 ?_
              refine lv_topi (fun x16 ex16 => ?_)
              have hf := pf_nm ex16 hf
              refine lv_istore (lv' := [(4, .int x16), (0, .ref h0), (3, .int r1), (5, .int x12)]) hx hb dX8_learn_62 hl (by decide) rfl (fun ls hl => ?_)
              obtain ⟨x17, ex17⟩ : ∃ y : Int32, y = (x12 + 1) := ⟨_, rfl⟩
              have hf := pf_nm ex17 hf
              refine lv_iinc (v := x17) (lv' := [(5, .int x17), (4, .int x16), (0, .ref h0), (3, .int r1)]) hx hb dX8_learn_64 hl (k := 3) rfl (by rw [ex17]; rfl) (by decide) rfl (fun ls hl => ?_)
              refine lv_goto (tgt := 39) hx hb dX8_learn_67 (by decide) ?_
              exact ih39 _ _ _ _ _ hf w (lv_sub hl [2, 3, 1, 0] rfl)
      exact klp_X8_learn_39 FU _ _ _ _ _ hf w (lv_sub hl [3, 2, 1, 0] rfl)
    · have hf := pf_t c22 hf
      refine lv_iconst (v := (-1)) hx hb dX8_learn_25 (by decide) ?_
      exact hQ _ _ _ _ _ (t_all, t_decided, t_wasLate, t_askedOf, t_heldBehind, t_sum, t_heldAll) (fun _ => 0) hf rfl w dX8_learn_26
set_option maxHeartbeats 8000000 in
set_option maxRecDepth 100000 in
theorem ct_X8_forget (l : Launch) (E : hm_E) (sz : Nat) (h0 : Nat) (r_t : Nat → Nat) (t_base t_taped t_at t_faultPlace t_number t_newBits t_newTold t_newDoings t_newThings t_opened t_sum t_heldAll t_onPaper t_turned t_wasConverted t_lastBits t_lastSum t_lastHeld t_lastLeft t_lastCode t_writtenLong t_codeMany t_acts t_done0 t_stoppedAt : Int32) (t_all : Nat → Int32) (R : Int32 × (Nat → Int32)) (hf : pf_X8_forget t_all t_base = some R) : hm_Mi l E yX8_forget cX8_forget 3 .int [] (hm_rr 1 22 0 0) [.ref h0] sz [oc8 h0 r_t t_base t_taped t_at t_faultPlace t_number t_newBits t_newTold t_newDoings t_newThings t_opened t_sum t_heldAll t_onPaper t_turned t_wasConverted t_lastBits t_lastSum t_lastHeld t_lastLeft t_lastCode t_writtenLong t_codeMany t_acts t_done0 t_stoppedAt, ic E (r_t 0) 800 t_all] R.1 (fun _ => [oc8 h0 r_t t_base t_taped t_at t_faultPlace t_number t_newBits t_newTold t_newDoings t_newThings t_opened t_sum t_heldAll t_onPaper t_turned t_wasConverted t_lastBits t_lastSum t_lastHeld t_lastLeft t_lastCode t_writtenLong t_codeMany t_acts t_done0 t_stoppedAt, ic E (r_t 0) 800 R.2]) := by
  refine hm_ct_i R (fun u qs => [oc8 h0 r_t t_base t_taped t_at t_faultPlace t_number t_newBits t_newTold t_newDoings t_newThings t_opened t_sum t_heldAll t_onPaper t_turned t_wasConverted t_lastBits t_lastSum t_lastHeld t_lastLeft t_lastCode t_writtenLong t_codeMany t_acts t_done0 t_stoppedAt, ic E (r_t 0) 800 u]) (by decide) (Nat.le_of_ble_eq_true rfl) (Or.inl rfl) ?_
  intro p e s m args below meth c A Q ls H locs hx hb hml hown X hA Y hex w hl hQ
  have hl : lv_has ls 3 [(0, .ref h0)] := hl
  unfold pf_X8_forget at hf
  refine lv_iconst (v := 0) hx hb dX8_forget_0 (by decide) ?_
  refine lv_istore_n (lv' := [(1, .int 0), (0, .ref h0)]) hx hb dX8_forget_1 rfl hl (by decide) rfl (fun ls hl => ?_)
  refine lv_iconst (v := 0) hx hb dX8_forget_2 (by decide) ?_
  refine lv_istore_n (lv' := [(2, .int 0), (1, .int 0), (0, .ref h0)]) hx hb dX8_forget_3 rfl hl (by decide) rfl (fun ls hl => ?_)
  have klp_X8_forget_4 : ∀ (n : Nat) (x1 : Int32) (x2 : Int32) (f3 : Nat → Int32) (H : Heap) (locs : List Loc) (ls : Array Slot), lp_X8_forget_4 t_base n x1 x2 f3 = some R → hm_W E A s.heap [oc8 h0 r_t t_base t_taped t_at t_faultPlace t_number t_newBits t_newTold t_newDoings t_newThings t_opened t_sum t_heldAll t_onPaper t_turned t_wasConverted t_lastBits t_lastSum t_lastHeld t_lastLeft t_lastCode t_writtenLong t_codeMany t_acts t_done0 t_stoppedAt, ic E (r_t 0) 800 f3] H locs → lv_has ls 3 [(0, .ref h0), (1, .int x1), (2, .int x2)] → W p l e (hm_rr 1 22 0 0) s m args below meth c H locs 0 0 Q (F0 m 4 ls []) := by
    intro n
    induction n with
    | zero =>
      intro x1 x2 f3 H locs ls hf w hl
      exact pf_no hf
    | succ n ih4 =>
      intro x1 x2 f3 H locs ls hf w hl
      rw [lp_X8_forget_4] at hf
      refine lv_iload_n hx hb dX8_forget_4 rfl (lv_at hl 2 rfl) ?_
      refine lv_aload_n hx hb dX8_forget_5 rfl (lv_at hl 0 rfl) ?_
      refine lv_iconst (v := 0) hx hb dX8_forget_6 (by decide) ?_
      obtain ⟨r4, hc7, hf⟩ := pf_bi_0 hf
      refine hm_aft_i (ws' := fun _ => [oc8 h0 r_t t_base t_taped t_at t_faultPlace t_number t_newBits t_newTold t_newDoings t_newThings t_opened t_sum t_heldAll t_onPaper t_turned t_wasConverted t_lastBits t_lastSum t_lastHeld t_lastLeft t_lastCode t_writtenLong t_codeMany t_acts t_done0 t_stoppedAt, ic E (r_t 0) 800 f3]) (hm_runV (rest := [.int x2]) hx hb hml hown X hA Y w 0 (ci := 7) (T := TX8) (N := 55) rfl rfl mw_X8_get ml_X8_221 dX8_forget_7 hm_ac0 [.int 0] rfl [0, 1] rfl rfl (ct_X8_get l E H.size h0 r_t t_base t_taped t_at t_faultPlace t_number t_newBits t_newTold t_newDoings t_newThings t_opened t_sum t_heldAll t_onPaper t_turned t_wasConverted t_lastBits t_lastSum t_lastHeld t_lastLeft t_lastCode t_writtenLong t_codeMany t_acts t_done0 t_stoppedAt f3 0 (r4, ()) hc7) rfl hl.1 ⟨⟨rfl, rfl⟩, ⟨Nat.le_of_ble_eq_true rfl, Nat.le_of_ble_eq_true rfl⟩, ⟨Nat.le_of_ble_eq_true rfl, Nat.le_of_ble_eq_true rfl⟩, Nat.le_of_ble_eq_true rfl⟩) hA w [0, 1] [] [0, 1] rfl rfl (by decide) (fun _ => rfl) (fun _ H locs w => ?_)
      refine lv_icmp_ge (tgt := 62) hx hb dX8_forget_10 (by decide) (fun c10 => ?_) (fun c10 => ?_)
      · have hf := pf_t c10 hf
        refine lv_iload_n hx hb dX8_forget_62 rfl (lv_at hl 1 rfl) ?_
        exact hQ _ _ _ _ _ f3 (fun _ => 0) hf rfl w dX8_forget_63
      · have hf := pf_e c10 hf
        refine lv_iload_n hx hb dX8_forget_13 rfl (lv_at hl 1 rfl) ?_
        refine lv_aload_n hx hb dX8_forget_14 rfl (lv_at hl 0 rfl) ?_
        refine lv_bipush (v := 33) hx hb dX8_forget_15 (by decide) ?_
        refine lv_iload_n hx hb dX8_forget_17 rfl (lv_at hl 2 rfl) ?_
        refine lv_iadd hx hb dX8_forget_18 ?_
        obtain ⟨r5, hc19, hf⟩ := pf_bi_0 hf
        refine hm_aft_i (ws' := fun _ => [oc8 h0 r_t t_base t_taped t_at t_faultPlace t_number t_newBits t_newTold t_newDoings t_newThings t_opened t_sum t_heldAll t_onPaper t_turned t_wasConverted t_lastBits t_lastSum t_lastHeld t_lastLeft t_lastCode t_writtenLong t_codeMany t_acts t_done0 t_stoppedAt, ic E (r_t 0) 800 f3]) (hm_runV (rest := [.int x1]) hx hb hml hown X hA Y w 0 (ci := 7) (T := TX8) (N := 55) rfl rfl mw_X8_get ml_X8_221 dX8_forget_19 hm_ac0 [.int (33 + x2)] rfl [0, 1] rfl rfl (ct_X8_get l E H.size h0 r_t t_base t_taped t_at t_faultPlace t_number t_newBits t_newTold t_newDoings t_newThings t_opened t_sum t_heldAll t_onPaper t_turned t_wasConverted t_lastBits t_lastSum t_lastHeld t_lastLeft t_lastCode t_writtenLong t_codeMany t_acts t_done0 t_stoppedAt f3 (33 + x2) (r5, ()) hc19) rfl hl.1 ⟨⟨rfl, rfl⟩, ⟨Nat.le_of_ble_eq_true rfl, Nat.le_of_ble_eq_true rfl⟩, ⟨Nat.le_of_ble_eq_true rfl, Nat.le_of_ble_eq_true rfl⟩, Nat.le_of_ble_eq_true rfl⟩) hA w [0, 1] [] [0, 1] rfl rfl (by decide) (fun _ => rfl) (fun _ H locs w => ?_)
        refine lv_aload_n hx hb dX8_forget_22 rfl (lv_at hl 0 rfl) ?_
        refine lv_bipush (v := 9) hx hb dX8_forget_23 (by decide) ?_
        refine lv_iload_n hx hb dX8_forget_25 rfl (lv_at hl 2 rfl) ?_
        refine lv_iadd hx hb dX8_forget_26 ?_
        obtain ⟨r6, hc27, hf⟩ := pf_bi_0 hf
        refine hm_aft_i (ws' := fun _ => [oc8 h0 r_t t_base t_taped t_at t_faultPlace t_number t_newBits t_newTold t_newDoings t_newThings t_opened t_sum t_heldAll t_onPaper t_turned t_wasConverted t_lastBits t_lastSum t_lastHeld t_lastLeft t_lastCode t_writtenLong t_codeMany t_acts t_done0 t_stoppedAt, ic E (r_t 0) 800 f3]) (hm_runV (rest := [.int r5, .int x1]) hx hb hml hown X hA Y w 0 (ci := 7) (T := TX8) (N := 55) rfl rfl mw_X8_get ml_X8_221 dX8_forget_27 hm_ac0 [.int (9 + x2)] rfl [0, 1] rfl rfl (ct_X8_get l E H.size h0 r_t t_base t_taped t_at t_faultPlace t_number t_newBits t_newTold t_newDoings t_newThings t_opened t_sum t_heldAll t_onPaper t_turned t_wasConverted t_lastBits t_lastSum t_lastHeld t_lastLeft t_lastCode t_writtenLong t_codeMany t_acts t_done0 t_stoppedAt f3 (9 + x2) (r6, ()) hc27) rfl hl.1 ⟨⟨rfl, rfl⟩, ⟨Nat.le_of_ble_eq_true rfl, Nat.le_of_ble_eq_true rfl⟩, ⟨Nat.le_of_ble_eq_true rfl, Nat.le_of_ble_eq_true rfl⟩, Nat.le_of_ble_eq_true rfl⟩) hA w [0, 1] [] [0, 1] rfl rfl (by decide) (fun _ => rfl) (fun _ H locs w => ?_)
        obtain ⟨J38, hJ38, hf⟩ := pf_jn hf
        have kJ38 : ∀ (x7 : Int32) (H : Heap) (locs : List Loc) (ls : Array Slot), J38 x7 = some R → hm_W E A s.heap [oc8 h0 r_t t_base t_taped t_at t_faultPlace t_number t_newBits t_newTold t_newDoings t_newThings t_opened t_sum t_heldAll t_onPaper t_turned t_wasConverted t_lastBits t_lastSum t_lastHeld t_lastLeft t_lastCode t_writtenLong t_codeMany t_acts t_done0 t_stoppedAt, ic E (r_t 0) 800 f3] H locs → lv_has ls 3 [(0, .ref h0), (2, .int x2)] → W p l e (hm_rr 1 22 0 0) s m args below meth c H locs 0 0 Q (F0 m 38 ls [.int x7, .int x1]) := by
          intro x7 H locs ls hf w hl
          have hf := pf_j1 hJ38 hf
          refine lv_iadd hx hb dX8_forget_38 ?_
          refine lv_topi (fun x8 ex8 => ?_)
          have hf := pf_nm ex8 hf
          refine lv_istore_n (lv' := [(1, .int x8), (0, .ref h0), (2, .int x2)]) hx hb dX8_forget_39 rfl hl (by decide) rfl (fun ls hl => ?_)
          refine lv_aload_n hx hb dX8_forget_40 rfl (lv_at hl 1 rfl) ?_
          refine lv_bipush (v := 33) hx hb dX8_forget_41 (by decide) ?_
          refine lv_iload_n hx hb dX8_forget_43 rfl (lv_at hl 2 rfl) ?_
          refine lv_iadd hx hb dX8_forget_44 ?_
          refine lv_aload_n hx hb dX8_forget_45 rfl (lv_at hl 1 rfl) ?_
          refine lv_bipush (v := 9) hx hb dX8_forget_46 (by decide) ?_
          refine lv_iload_n hx hb dX8_forget_48 rfl (lv_at hl 2 rfl) ?_
          refine lv_iadd hx hb dX8_forget_49 ?_
          obtain ⟨r9, hc50, hf⟩ := pf_bi_0 hf
          refine hm_aft_i (ws' := fun _ => [oc8 h0 r_t t_base t_taped t_at t_faultPlace t_number t_newBits t_newTold t_newDoings t_newThings t_opened t_sum t_heldAll t_onPaper t_turned t_wasConverted t_lastBits t_lastSum t_lastHeld t_lastLeft t_lastCode t_writtenLong t_codeMany t_acts t_done0 t_stoppedAt, ic E (r_t 0) 800 f3]) (hm_runV (rest := [.int (33 + x2), .ref h0]) hx hb hml hown X hA Y w 0 (ci := 7) (T := TX8) (N := 55) rfl rfl mw_X8_get ml_X8_221 dX8_forget_50 hm_ac0 [.int (9 + x2)] rfl [0, 1] rfl rfl (ct_X8_get l E H.size h0 r_t t_base t_taped t_at t_faultPlace t_number t_newBits t_newTold t_newDoings t_newThings t_opened t_sum t_heldAll t_onPaper t_turned t_wasConverted t_lastBits t_lastSum t_lastHeld t_lastLeft t_lastCode t_writtenLong t_codeMany t_acts t_done0 t_stoppedAt f3 (9 + x2) (r9, ()) hc50) rfl hl.1 ⟨⟨rfl, rfl⟩, ⟨Nat.le_of_ble_eq_true rfl, Nat.le_of_ble_eq_true rfl⟩, ⟨Nat.le_of_ble_eq_true rfl, Nat.le_of_ble_eq_true rfl⟩, Nat.le_of_ble_eq_true rfl⟩) hA w [0, 1] [] [0, 1] rfl rfl (by decide) (fun _ => rfl) (fun _ H locs w => ?_)
          obtain ⟨f10, hc53, hf⟩ := pf_bv_1 hf
          refine hm_aft_v (ws' := fun _ => [oc8 h0 r_t t_base t_taped t_at t_faultPlace t_number t_newBits t_newTold t_newDoings t_newThings t_opened t_sum t_heldAll t_onPaper t_turned t_wasConverted t_lastBits t_lastSum t_lastHeld t_lastLeft t_lastCode t_writtenLong t_codeMany t_acts t_done0 t_stoppedAt, ic E (r_t 0) 800 f10]) (hm_runV (rest := []) hx hb hml hown X hA Y w 0 (ci := 7) (T := TX8) (N := 55) rfl rfl mw_X8_put ml_X8_119 dX8_forget_53 hm_ac0 [.int (33 + x2), .int r9] rfl [0, 1] rfl rfl (ct_X8_put l E H.size h0 r_t t_base t_taped t_at t_faultPlace t_number t_newBits t_newTold t_newDoings t_newThings t_opened t_sum t_heldAll t_onPaper t_turned t_wasConverted t_lastBits t_lastSum t_lastHeld t_lastLeft t_lastCode t_writtenLong t_codeMany t_acts t_done0 t_stoppedAt f3 (33 + x2) r9 f10 hc53) rfl hl.1 ⟨⟨rfl, rfl⟩, ⟨Nat.le_of_ble_eq_true rfl, Nat.le_of_ble_eq_true rfl⟩, ⟨Nat.le_of_ble_eq_true rfl, Nat.le_of_ble_eq_true rfl⟩, Nat.le_of_ble_eq_true rfl⟩) hA w [0, 1] [] [0, 1] rfl rfl (by decide) (fun _ => rfl) (fun _ H locs w => ?_)
          obtain ⟨x11, ex11⟩ : ∃ y : Int32, y = (x2 + 1) := ⟨_, rfl⟩
          have hf := pf_nm ex11 hf
          refine lv_iinc (v := x11) (lv' := [(2, .int x11), (1, .int x8), (0, .ref h0)]) hx hb dX8_forget_56 hl (k := 2) rfl (by rw [ex11]; rfl) (by decide) rfl (fun ls hl => ?_)
          refine lv_goto (tgt := 4) hx hb dX8_forget_59 (by decide) ?_
          exact ih4 _ _ _ _ _ _ hf w (lv_sub hl [2, 1, 0] rfl)
        refine lv_icmp_eq (tgt := 37) hx hb dX8_forget_30 (by decide) (fun c30 => ?_) (fun c30 => ?_)
        · have hf := pf_t c30 hf
          refine lv_iconst (v := 0) hx hb dX8_forget_37 (by decide) ?_
          exact kJ38 _ _ _ _ hf w (lv_sub hl [0, 2] rfl)
        · have hf := pf_e c30 hf
          refine lv_iconst (v := 1) hx hb dX8_forget_33 (by decide) ?_
          refine lv_goto (tgt := 38) hx hb dX8_forget_34 (by decide) ?_
          exact kJ38 _ _ _ _ hf w (lv_sub hl [0, 2] rfl)
  exact klp_X8_forget_4 FU _ _ _ _ _ _ hf w (lv_sub hl [2, 1, 0] rfl)
set_option maxHeartbeats 8000000 in
set_option maxRecDepth 100000 in
theorem ct_X8_code (l : Launch) (E : hm_E) (sz : Nat) (h0 : Nat) (r_t : Nat → Nat) (t_base t_taped t_at t_faultPlace t_number t_newBits t_newTold t_newDoings t_newThings t_opened t_sum t_heldAll t_onPaper t_turned t_wasConverted t_lastBits t_lastSum t_lastHeld t_lastLeft t_lastCode t_writtenLong t_codeMany t_acts t_done0 t_stoppedAt : Int32) (t_all : Nat → Int32) (t_askedOf : Nat → Int32) (t_decided : Nat → Int32) (t_heldBehind : Nat → Int32) (t_wasLate : Nat → Int32) (a1 : Int32) (R : Int32 × (Nat → Int32) × (Nat → Int32) × (Nat → Int32) × (Nat → Int32) × (Nat → Int32) × Int32 × Int32 × Int32) (hf : pf_X8_code a1 t_all t_base t_decided t_wasLate t_askedOf t_heldBehind t_sum t_heldAll t_onPaper t_turned = some R) : hm_Mi l E yX8_code cX8_code 2 .int [] (hm_rr 5 115 0 0) [.ref h0, .int a1] sz [oc8 h0 r_t t_base t_taped t_at t_faultPlace t_number t_newBits t_newTold t_newDoings t_newThings t_opened t_sum t_heldAll t_onPaper t_turned t_wasConverted t_lastBits t_lastSum t_lastHeld t_lastLeft t_lastCode t_writtenLong t_codeMany t_acts t_done0 t_stoppedAt, ic E (r_t 0) 800 t_all, ic E (r_t 27) 12 t_askedOf, ic E (r_t 25) 12 t_decided, ic E (r_t 28) 12 t_heldBehind, zc E (r_t 26) 12 t_wasLate] R.1 (fun _ => [oc8 h0 r_t t_base t_taped t_at t_faultPlace t_number t_newBits t_newTold t_newDoings t_newThings t_opened (R.2.2.2.2.2.2.1) (R.2.2.2.2.2.2.2.1) (R.2.2.2.2.2.2.2.2) t_turned t_wasConverted t_lastBits t_lastSum t_lastHeld t_lastLeft t_lastCode t_writtenLong t_codeMany t_acts t_done0 t_stoppedAt, ic E (r_t 0) 800 (R.2.1), ic E (r_t 27) 12 (R.2.2.2.2.1), ic E (r_t 25) 12 (R.2.2.1), ic E (r_t 28) 12 (R.2.2.2.2.2.1), zc E (r_t 26) 12 (R.2.2.2.1)]) := by
  refine hm_ct_i R (fun u qs => [oc8 h0 r_t t_base t_taped t_at t_faultPlace t_number t_newBits t_newTold t_newDoings t_newThings t_opened (u.2.2.2.2.2.1) (u.2.2.2.2.2.2.1) (u.2.2.2.2.2.2.2) t_turned t_wasConverted t_lastBits t_lastSum t_lastHeld t_lastLeft t_lastCode t_writtenLong t_codeMany t_acts t_done0 t_stoppedAt, ic E (r_t 0) 800 (u.1), ic E (r_t 27) 12 (u.2.2.2.1), ic E (r_t 25) 12 (u.2.1), ic E (r_t 28) 12 (u.2.2.2.2.1), zc E (r_t 26) 12 (u.2.2.1)]) (by decide) (Nat.le_of_ble_eq_true rfl) (Or.inl rfl) ?_
  intro p e s m args below meth c A Q ls H locs hx hb hml hown X hA Y hex w hl hQ
  have hl : lv_has ls 2 [(0, .ref h0), (1, .int a1)] := hl
  unfold pf_X8_code at hf
  refine lv_iload_n hx hb dX8_code_0 rfl (lv_at hl 1 rfl) ?_
  obtain ⟨r1, hc1, hf⟩ := pf_bi_0 hf
  refine hm_aft_i (ws' := fun _ => [oc8 h0 r_t t_base t_taped t_at t_faultPlace t_number t_newBits t_newTold t_newDoings t_newThings t_opened t_sum t_heldAll t_onPaper t_turned t_wasConverted t_lastBits t_lastSum t_lastHeld t_lastLeft t_lastCode t_writtenLong t_codeMany t_acts t_done0 t_stoppedAt, ic E (r_t 0) 800 t_all, ic E (r_t 27) 12 t_askedOf, ic E (r_t 25) 12 t_decided, ic E (r_t 28) 12 t_heldBehind, zc E (r_t 26) 12 t_wasLate]) (hm_runS (rest := []) hx hb hml hown X hA Y w mw_X8_isX ml_X8_280 dX8_code_1 hm_ac0 [.int a1] rfl [] rfl rfl (ct_X8_isX l E H.size a1 (r1, ()) hc1) rfl hl.1 ⟨⟨rfl, rfl⟩, ⟨Nat.le_of_ble_eq_true rfl, Nat.le_of_ble_eq_true rfl⟩, ⟨Nat.le_of_ble_eq_true rfl, Nat.le_of_ble_eq_true rfl⟩, Nat.le_of_ble_eq_true rfl⟩) hA w [] [0, 1, 2, 3, 4, 5] [0, 1, 2, 3, 4, 5] rfl rfl (by decide) (fun _ => rfl) (fun _ H locs w => ?_)
  refine lv_if_eq (tgt := 23) hx hb dX8_code_4 (by decide) (fun c4 => ?_) (fun c4 => ?_)
  · have hf := pf_t c4 hf
    refine lv_ldcw (v := (-1000000)) hx hb hown (X.use ck_X8_283 rfl) dX8_code_23 ?_
    exact hQ _ _ _ _ _ (t_all, t_decided, t_wasLate, t_askedOf, t_heldBehind, t_sum, t_heldAll, t_onPaper) (fun _ => 0) hf rfl w dX8_code_26
  · have hf := pf_e c4 hf
    refine lv_aload_n hx hb dX8_code_7 rfl (lv_at hl 0 rfl) ?_
    refine lv_iconst (v := 0) hx hb dX8_code_8 (by decide) ?_
    obtain ⟨r2, hc9, hf⟩ := pf_bi_0 hf
    refine hm_aft_i (ws' := fun _ => [oc8 h0 r_t t_base t_taped t_at t_faultPlace t_number t_newBits t_newTold t_newDoings t_newThings t_opened t_sum t_heldAll t_onPaper t_turned t_wasConverted t_lastBits t_lastSum t_lastHeld t_lastLeft t_lastCode t_writtenLong t_codeMany t_acts t_done0 t_stoppedAt, ic E (r_t 0) 800 t_all, ic E (r_t 27) 12 t_askedOf, ic E (r_t 25) 12 t_decided, ic E (r_t 28) 12 t_heldBehind, zc E (r_t 26) 12 t_wasLate]) (hm_runV (rest := []) hx hb hml hown X hA Y w 0 (ci := 7) (T := TX8) (N := 55) rfl rfl mw_X8_get ml_X8_221 dX8_code_9 hm_ac0 [.int 0] rfl [0, 1] rfl rfl (ct_X8_get l E H.size h0 r_t t_base t_taped t_at t_faultPlace t_number t_newBits t_newTold t_newDoings t_newThings t_opened t_sum t_heldAll t_onPaper t_turned t_wasConverted t_lastBits t_lastSum t_lastHeld t_lastLeft t_lastCode t_writtenLong t_codeMany t_acts t_done0 t_stoppedAt t_all 0 (r2, ()) hc9) rfl hl.1 ⟨⟨rfl, rfl⟩, ⟨Nat.le_of_ble_eq_true rfl, Nat.le_of_ble_eq_true rfl⟩, ⟨Nat.le_of_ble_eq_true rfl, Nat.le_of_ble_eq_true rfl⟩, Nat.le_of_ble_eq_true rfl⟩) hA w [0, 1] [2, 3, 4, 5] [4, 5, 0, 1, 2, 3] rfl rfl (by decide) (fun _ => rfl) (fun _ H locs w => ?_)
    refine lv_if_le (tgt := 23) hx hb dX8_code_12 (by decide) (fun c12 => ?_) (fun c12 => ?_)
    · have hf := pf_t c12 hf
      refine lv_ldcw (v := (-1000000)) hx hb hown (X.use ck_X8_283 rfl) dX8_code_23 ?_
      exact hQ _ _ _ _ _ (t_all, t_decided, t_wasLate, t_askedOf, t_heldBehind, t_sum, t_heldAll, t_onPaper) (fun _ => 0) hf rfl w dX8_code_26
    · have hf := pf_e c12 hf
      refine lv_aload_n hx hb dX8_code_15 rfl (lv_at hl 0 rfl) ?_
      refine lv_iload_n hx hb dX8_code_16 rfl (lv_at hl 1 rfl) ?_
      obtain ⟨r3, f4, f5, f6, f7, f8, x9, x10, x11, hc17, hf⟩ := pf_bi_8 hf
      refine hm_aft_i (ws' := fun _ => [oc8 h0 r_t t_base t_taped t_at t_faultPlace t_number t_newBits t_newTold t_newDoings t_newThings t_opened x9 x10 x11 t_turned t_wasConverted t_lastBits t_lastSum t_lastHeld t_lastLeft t_lastCode t_writtenLong t_codeMany t_acts t_done0 t_stoppedAt, ic E (r_t 0) 800 f4, ic E (r_t 27) 12 f7, ic E (r_t 25) 12 f5, ic E (r_t 28) 12 f8, zc E (r_t 26) 12 f6]) (hm_runV (rest := []) hx hb hml hown X hA Y w 0 (ci := 7) (T := TX8) (N := 55) rfl rfl mw_X8_paperCode ml_X8_308 dX8_code_17 hm_ac0 [.int a1] rfl [0, 1, 2, 3, 4, 5] rfl rfl (ct_X8_paperCode l E H.size h0 r_t t_base t_taped t_at t_faultPlace t_number t_newBits t_newTold t_newDoings t_newThings t_opened t_sum t_heldAll t_onPaper t_turned t_wasConverted t_lastBits t_lastSum t_lastHeld t_lastLeft t_lastCode t_writtenLong t_codeMany t_acts t_done0 t_stoppedAt t_all t_askedOf t_decided t_heldBehind t_wasLate a1 (r3, f4, f5, f6, f7, f8, x9, x10, x11) hc17) rfl hl.1 ⟨⟨rfl, rfl⟩, ⟨Nat.le_of_ble_eq_true rfl, Nat.le_of_ble_eq_true rfl⟩, ⟨Nat.le_of_ble_eq_true rfl, Nat.le_of_ble_eq_true rfl⟩, Nat.le_of_ble_eq_true rfl⟩) hA w [0, 1, 2, 3, 4, 5] [] [0, 1, 2, 3, 4, 5] rfl rfl (by decide) (fun _ => rfl) (fun _ H locs w => ?_)
      refine lv_goto (tgt := 26) hx hb dX8_code_20 (by decide) ?_
      exact hQ _ _ _ _ _ (f4, f5, f6, f7, f8, x9, x10, x11) (fun _ => 0) hf rfl w dX8_code_26
set_option maxHeartbeats 8000000 in
set_option maxRecDepth 100000 in
theorem ct_X8_isForgiven (l : Launch) (E : hm_E) (sz : Nat) (h0 : Nat) (r_t : Nat → Nat) (t_base t_taped t_at t_faultPlace t_number t_newBits t_newTold t_newDoings t_newThings t_opened t_sum t_heldAll t_onPaper t_turned t_wasConverted t_lastBits t_lastSum t_lastHeld t_lastLeft t_lastCode t_writtenLong t_codeMany t_acts t_done0 t_stoppedAt : Int32) (t_all : Nat → Int32) (t_askedOf : Nat → Int32) (t_decided : Nat → Int32) (t_heldBehind : Nat → Int32) (t_wasLate : Nat → Int32) (a1 : Int32) (a2 : Int32) (R : Int32 × (Nat → Int32) × (Nat → Int32) × (Nat → Int32) × (Nat → Int32) × (Nat → Int32) × Int32 × Int32 × Int32 × Int32) (hf : pf_X8_isForgiven a1 a2 t_all t_base t_decided t_wasLate t_askedOf t_heldBehind t_turned = some R) : hm_Mi l E yX8_isForgiven cX8_isForgiven 5 .boolean [] (hm_rr 5 115 0 0) [.ref h0, .int a1, .int a2] sz [oc8 h0 r_t t_base t_taped t_at t_faultPlace t_number t_newBits t_newTold t_newDoings t_newThings t_opened t_sum t_heldAll t_onPaper t_turned t_wasConverted t_lastBits t_lastSum t_lastHeld t_lastLeft t_lastCode t_writtenLong t_codeMany t_acts t_done0 t_stoppedAt, ic E (r_t 0) 800 t_all, ic E (r_t 27) 12 t_askedOf, ic E (r_t 25) 12 t_decided, ic E (r_t 28) 12 t_heldBehind, zc E (r_t 26) 12 t_wasLate] R.1 (fun _ => [oc8 h0 r_t t_base t_taped t_at t_faultPlace t_number t_newBits t_newTold t_newDoings t_newThings t_opened (R.2.2.2.2.2.2.1) (R.2.2.2.2.2.2.2.1) (R.2.2.2.2.2.2.2.2.1) (R.2.2.2.2.2.2.2.2.2) t_wasConverted t_lastBits t_lastSum t_lastHeld t_lastLeft t_lastCode t_writtenLong t_codeMany t_acts t_done0 t_stoppedAt, ic E (r_t 0) 800 (R.2.1), ic E (r_t 27) 12 (R.2.2.2.2.1), ic E (r_t 25) 12 (R.2.2.1), ic E (r_t 28) 12 (R.2.2.2.2.2.1), zc E (r_t 26) 12 (R.2.2.2.1)]) := by
  refine hm_ct_i R (fun u qs => [oc8 h0 r_t t_base t_taped t_at t_faultPlace t_number t_newBits t_newTold t_newDoings t_newThings t_opened (u.2.2.2.2.2.1) (u.2.2.2.2.2.2.1) (u.2.2.2.2.2.2.2.1) (u.2.2.2.2.2.2.2.2) t_wasConverted t_lastBits t_lastSum t_lastHeld t_lastLeft t_lastCode t_writtenLong t_codeMany t_acts t_done0 t_stoppedAt, ic E (r_t 0) 800 (u.1), ic E (r_t 27) 12 (u.2.2.2.1), ic E (r_t 25) 12 (u.2.1), ic E (r_t 28) 12 (u.2.2.2.2.1), zc E (r_t 26) 12 (u.2.2.1)]) (by decide) (Nat.le_of_ble_eq_true rfl) (Or.inr rfl) ?_
  intro p e s m args below meth c A Q ls H locs hx hb hml hown X hA Y hex w hl hQ
  have hl : lv_has ls 5 [(0, .ref h0), (1, .int a1), (2, .int a2)] := hl
  unfold pf_X8_isForgiven at hf
  refine lv_aload_n hx hb dX8_isForgiven_0 rfl (lv_at hl 0 rfl) ?_
  refine lv_iload_n hx hb dX8_isForgiven_1 rfl (lv_at hl 1 rfl) ?_
  obtain ⟨r1, f2, f3, f4, f5, f6, x7, x8, x9, hc2, hf⟩ := pf_bi_8 hf
  refine hm_aft_i (ws' := fun _ => [oc8 h0 r_t t_base t_taped t_at t_faultPlace t_number t_newBits t_newTold t_newDoings t_newThings t_opened x7 x8 x9 t_turned t_wasConverted t_lastBits t_lastSum t_lastHeld t_lastLeft t_lastCode t_writtenLong t_codeMany t_acts t_done0 t_stoppedAt, ic E (r_t 0) 800 f2, ic E (r_t 27) 12 f5, ic E (r_t 25) 12 f3, ic E (r_t 28) 12 f6, zc E (r_t 26) 12 f4]) (hm_runV (rest := []) hx hb hml hown X hA Y w 0 (ci := 7) (T := TX8) (N := 55) rfl rfl mw_X8_paperCode ml_X8_308 dX8_isForgiven_2 hm_ac0 [.int a1] rfl [0, 1, 2, 3, 4, 5] rfl rfl (ct_X8_paperCode l E H.size h0 r_t t_base t_taped t_at t_faultPlace t_number t_newBits t_newTold t_newDoings t_newThings t_opened t_sum t_heldAll t_onPaper t_turned t_wasConverted t_lastBits t_lastSum t_lastHeld t_lastLeft t_lastCode t_writtenLong t_codeMany t_acts t_done0 t_stoppedAt t_all t_askedOf t_decided t_heldBehind t_wasLate a1 (r1, f2, f3, f4, f5, f6, x7, x8, x9) hc2) rfl hl.1 ⟨⟨rfl, rfl⟩, ⟨Nat.le_of_ble_eq_true rfl, Nat.le_of_ble_eq_true rfl⟩, ⟨Nat.le_of_ble_eq_true rfl, Nat.le_of_ble_eq_true rfl⟩, Nat.le_of_ble_eq_true rfl⟩) hA w [0, 1, 2, 3, 4, 5] [] [0, 1, 2, 3, 4, 5] rfl rfl (by decide) (fun _ => rfl) (fun _ H locs w => ?_)
  refine lv_istore_n (lv' := [(3, .int r1), (0, .ref h0), (1, .int a1), (2, .int a2)]) hx hb dX8_isForgiven_5 rfl hl (by decide) rfl (fun ls hl => ?_)
  refine lv_aload_n hx hb dX8_isForgiven_6 rfl (lv_at hl 1 rfl) ?_
  refine lv_iload_n hx hb dX8_isForgiven_7 rfl (lv_at hl 3 rfl) ?_
  refine hm_put (ws' := [oc8 h0 r_t t_base t_taped t_at t_faultPlace t_number t_newBits t_newTold t_newDoings t_newThings t_opened x7 x8 x9 a2 t_wasConverted t_lastBits t_lastSum t_lastHeld t_lastLeft t_lastCode t_writtenLong t_codeMany t_acts t_done0 t_stoppedAt, ic E (r_t 0) 800 f2, ic E (r_t 27) 12 f5, ic E (r_t 25) 12 f3, ic E (r_t 28) 12 f6, zc E (r_t 26) 12 f4]) cb_X8 hx hb hown X w 0 32 fl_X8_80 dX8_isForgiven_8 rfl (by decide) (Nat.le_of_ble_eq_true rfl) rfl rfl rfl rfl (fun H locs w => ?_)
  refine lv_aload_n hx hb dX8_isForgiven_11 rfl (lv_at hl 1 rfl) ?_
  refine lv_iload_n hx hb dX8_isForgiven_12 rfl (lv_at hl 2 rfl) ?_
  obtain ⟨r10, f11, f12, f13, f14, f15, x16, x17, x18, hc13, hf⟩ := pf_bi_8 hf
  refine hm_aft_i (ws' := fun _ => [oc8 h0 r_t t_base t_taped t_at t_faultPlace t_number t_newBits t_newTold t_newDoings t_newThings t_opened x16 x17 x18 a2 t_wasConverted t_lastBits t_lastSum t_lastHeld t_lastLeft t_lastCode t_writtenLong t_codeMany t_acts t_done0 t_stoppedAt, ic E (r_t 0) 800 f11, ic E (r_t 27) 12 f14, ic E (r_t 25) 12 f12, ic E (r_t 28) 12 f15, zc E (r_t 26) 12 f13]) (hm_runV (rest := []) hx hb hml hown X hA Y w 0 (ci := 7) (T := TX8) (N := 55) rfl rfl mw_X8_paperCode ml_X8_308 dX8_isForgiven_13 hm_ac0 [.int a1] rfl [0, 1, 2, 3, 4, 5] rfl rfl (ct_X8_paperCode l E H.size h0 r_t t_base t_taped t_at t_faultPlace t_number t_newBits t_newTold t_newDoings t_newThings t_opened x7 x8 x9 a2 t_wasConverted t_lastBits t_lastSum t_lastHeld t_lastLeft t_lastCode t_writtenLong t_codeMany t_acts t_done0 t_stoppedAt f2 f5 f3 f6 f4 a1 (r10, f11, f12, f13, f14, f15, x16, x17, x18) hc13) rfl hl.1 ⟨⟨rfl, rfl⟩, ⟨Nat.le_of_ble_eq_true rfl, Nat.le_of_ble_eq_true rfl⟩, ⟨Nat.le_of_ble_eq_true rfl, Nat.le_of_ble_eq_true rfl⟩, Nat.le_of_ble_eq_true rfl⟩) hA w [0, 1, 2, 3, 4, 5] [] [0, 1, 2, 3, 4, 5] rfl rfl (by decide) (fun _ => rfl) (fun _ H locs w => ?_)
  refine lv_istore (lv' := [(4, .int r10), (3, .int r1), (0, .ref h0), (1, .int a1), (2, .int a2)]) hx hb dX8_isForgiven_16 hl (by decide) rfl (fun ls hl => ?_)
  refine lv_aload_n hx hb dX8_isForgiven_18 rfl (lv_at hl 2 rfl) ?_
  refine lv_iconst (v := (-1)) hx hb dX8_isForgiven_19 (by decide) ?_
  refine hm_put (ws' := [oc8 h0 r_t t_base t_taped t_at t_faultPlace t_number t_newBits t_newTold t_newDoings t_newThings t_opened x16 x17 x18 (-1) t_wasConverted t_lastBits t_lastSum t_lastHeld t_lastLeft t_lastCode t_writtenLong t_codeMany t_acts t_done0 t_stoppedAt, ic E (r_t 0) 800 f11, ic E (r_t 27) 12 f14, ic E (r_t 25) 12 f12, ic E (r_t 28) 12 f15, zc E (r_t 26) 12 f13]) cb_X8 hx hb hown X w 0 32 fl_X8_80 dX8_isForgiven_20 rfl (by decide) (Nat.le_of_ble_eq_true rfl) rfl rfl rfl rfl (fun H locs w => ?_)
  refine lv_iload_n hx hb dX8_isForgiven_23 rfl (lv_at hl 1 rfl) ?_
  refine lv_iload hx hb dX8_isForgiven_24 (lv_at hl 0 rfl) ?_
  refine lv_icmp_ne (tgt := 33) hx hb dX8_isForgiven_26 (by decide) (fun c26 => ?_) (fun c26 => ?_)
  · have hf := pf_e c26 hf
    refine lv_iconst (v := 0) hx hb dX8_isForgiven_33 (by decide) ?_
    exact hQ _ _ _ _ _ (f11, f12, f13, f14, f15, x16, x17, x18, (-1)) (fun _ => 0) hf rfl w dX8_isForgiven_34
  · have hf := pf_t c26 hf
    refine lv_iconst (v := 1) hx hb dX8_isForgiven_29 (by decide) ?_
    refine lv_goto (tgt := 34) hx hb dX8_isForgiven_30 (by decide) ?_
    exact hQ _ _ _ _ _ (f11, f12, f13, f14, f15, x16, x17, x18, (-1)) (fun _ => 0) hf rfl w dX8_isForgiven_34
set_option maxHeartbeats 8000000 in
set_option maxRecDepth 100000 in
theorem ct_X8_forgiven (l : Launch) (E : hm_E) (sz : Nat) (h0 : Nat) (r_t : Nat → Nat) (t_base t_taped t_at t_faultPlace t_number t_newBits t_newTold t_newDoings t_newThings t_opened t_sum t_heldAll t_onPaper t_turned t_wasConverted t_lastBits t_lastSum t_lastHeld t_lastLeft t_lastCode t_writtenLong t_codeMany t_acts t_done0 t_stoppedAt : Int32) (t_all : Nat → Int32) (t_askedOf : Nat → Int32) (t_decided : Nat → Int32) (t_heldBehind : Nat → Int32) (t_wasLate : Nat → Int32) (a1 : Int32) (a2 : Int32) (R : Int32 × (Nat → Int32) × (Nat → Int32) × (Nat → Int32) × (Nat → Int32) × (Nat → Int32) × Int32 × Int32 × Int32 × Int32) (hf : pf_X8_forgiven a1 a2 t_all t_base t_decided t_wasLate t_askedOf t_heldBehind t_sum t_heldAll t_onPaper t_turned = some R) : hm_Mi l E yX8_forgiven cX8_forgiven 3 .int [] (hm_rr 6 139 0 0) [.ref h0, .int a1, .int a2] sz [oc8 h0 r_t t_base t_taped t_at t_faultPlace t_number t_newBits t_newTold t_newDoings t_newThings t_opened t_sum t_heldAll t_onPaper t_turned t_wasConverted t_lastBits t_lastSum t_lastHeld t_lastLeft t_lastCode t_writtenLong t_codeMany t_acts t_done0 t_stoppedAt, ic E (r_t 0) 800 t_all, ic E (r_t 27) 12 t_askedOf, ic E (r_t 25) 12 t_decided, ic E (r_t 28) 12 t_heldBehind, zc E (r_t 26) 12 t_wasLate] R.1 (fun _ => [oc8 h0 r_t t_base t_taped t_at t_faultPlace t_number t_newBits t_newTold t_newDoings t_newThings t_opened (R.2.2.2.2.2.2.1) (R.2.2.2.2.2.2.2.1) (R.2.2.2.2.2.2.2.2.1) (R.2.2.2.2.2.2.2.2.2) t_wasConverted t_lastBits t_lastSum t_lastHeld t_lastLeft t_lastCode t_writtenLong t_codeMany t_acts t_done0 t_stoppedAt, ic E (r_t 0) 800 (R.2.1), ic E (r_t 27) 12 (R.2.2.2.2.1), ic E (r_t 25) 12 (R.2.2.1), ic E (r_t 28) 12 (R.2.2.2.2.2.1), zc E (r_t 26) 12 (R.2.2.2.1)]) := by
  refine hm_ct_i R (fun u qs => [oc8 h0 r_t t_base t_taped t_at t_faultPlace t_number t_newBits t_newTold t_newDoings t_newThings t_opened (u.2.2.2.2.2.1) (u.2.2.2.2.2.2.1) (u.2.2.2.2.2.2.2.1) (u.2.2.2.2.2.2.2.2) t_wasConverted t_lastBits t_lastSum t_lastHeld t_lastLeft t_lastCode t_writtenLong t_codeMany t_acts t_done0 t_stoppedAt, ic E (r_t 0) 800 (u.1), ic E (r_t 27) 12 (u.2.2.2.1), ic E (r_t 25) 12 (u.2.1), ic E (r_t 28) 12 (u.2.2.2.2.1), zc E (r_t 26) 12 (u.2.2.1)]) (by decide) (Nat.le_of_ble_eq_true rfl) (Or.inl rfl) ?_
  intro p e s m args below meth c A Q ls H locs hx hb hml hown X hA Y hex w hl hQ
  have hl : lv_has ls 3 [(0, .ref h0), (1, .int a1), (2, .int a2)] := hl
  unfold pf_X8_forgiven at hf
  refine lv_iload_n hx hb dX8_forgiven_0 rfl (lv_at hl 1 rfl) ?_
  obtain ⟨r1, hc1, hf⟩ := pf_bi_0 hf
  refine hm_aft_i (ws' := fun _ => [oc8 h0 r_t t_base t_taped t_at t_faultPlace t_number t_newBits t_newTold t_newDoings t_newThings t_opened t_sum t_heldAll t_onPaper t_turned t_wasConverted t_lastBits t_lastSum t_lastHeld t_lastLeft t_lastCode t_writtenLong t_codeMany t_acts t_done0 t_stoppedAt, ic E (r_t 0) 800 t_all, ic E (r_t 27) 12 t_askedOf, ic E (r_t 25) 12 t_decided, ic E (r_t 28) 12 t_heldBehind, zc E (r_t 26) 12 t_wasLate]) (hm_runS (rest := []) hx hb hml hown X hA Y w mw_X8_isX ml_X8_280 dX8_forgiven_1 hm_ac0 [.int a1] rfl [] rfl rfl (ct_X8_isX l E H.size a1 (r1, ()) hc1) rfl hl.1 ⟨⟨rfl, rfl⟩, ⟨Nat.le_of_ble_eq_true rfl, Nat.le_of_ble_eq_true rfl⟩, ⟨Nat.le_of_ble_eq_true rfl, Nat.le_of_ble_eq_true rfl⟩, Nat.le_of_ble_eq_true rfl⟩) hA w [] [0, 1, 2, 3, 4, 5] [0, 1, 2, 3, 4, 5] rfl rfl (by decide) (fun _ => rfl) (fun _ H locs w => ?_)
  refine lv_if_eq (tgt := 32) hx hb dX8_forgiven_4 (by decide) (fun c4 => ?_) (fun c4 => ?_)
  · have hf := pf_t c4 hf
    refine lv_iconst (v := (-1)) hx hb dX8_forgiven_32 (by decide) ?_
    exact hQ _ _ _ _ _ (t_all, t_decided, t_wasLate, t_askedOf, t_heldBehind, t_sum, t_heldAll, t_onPaper, t_turned) (fun _ => 0) hf rfl w dX8_forgiven_33
  · have hf := pf_e c4 hf
    refine lv_aload_n hx hb dX8_forgiven_7 rfl (lv_at hl 0 rfl) ?_
    refine lv_iload_n hx hb dX8_forgiven_8 rfl (lv_at hl 2 rfl) ?_
    obtain ⟨r2, hc9, hf⟩ := pf_bi_0 hf
    refine hm_aft_i (ws' := fun _ => [oc8 h0 r_t t_base t_taped t_at t_faultPlace t_number t_newBits t_newTold t_newDoings t_newThings t_opened t_sum t_heldAll t_onPaper t_turned t_wasConverted t_lastBits t_lastSum t_lastHeld t_lastLeft t_lastCode t_writtenLong t_codeMany t_acts t_done0 t_stoppedAt, ic E (r_t 0) 800 t_all, ic E (r_t 27) 12 t_askedOf, ic E (r_t 25) 12 t_decided, ic E (r_t 28) 12 t_heldBehind, zc E (r_t 26) 12 t_wasLate]) (hm_runV (rest := []) hx hb hml hown X hA Y w 0 (ci := 7) (T := TX8) (N := 55) rfl rfl mw_X8_isBit ml_X8_251 dX8_forgiven_9 hm_ac0 [.int a2] rfl [0, 1] rfl rfl (ct_X8_isBit l E H.size h0 r_t t_base t_taped t_at t_faultPlace t_number t_newBits t_newTold t_newDoings t_newThings t_opened t_sum t_heldAll t_onPaper t_turned t_wasConverted t_lastBits t_lastSum t_lastHeld t_lastLeft t_lastCode t_writtenLong t_codeMany t_acts t_done0 t_stoppedAt t_all a2 (r2, ()) hc9) rfl hl.1 ⟨⟨rfl, rfl⟩, ⟨Nat.le_of_ble_eq_true rfl, Nat.le_of_ble_eq_true rfl⟩, ⟨Nat.le_of_ble_eq_true rfl, Nat.le_of_ble_eq_true rfl⟩, Nat.le_of_ble_eq_true rfl⟩) hA w [0, 1] [2, 3, 4, 5] [4, 5, 0, 1, 2, 3] rfl rfl (by decide) (fun _ => rfl) (fun _ H locs w => ?_)
    refine lv_if_eq (tgt := 32) hx hb dX8_forgiven_12 (by decide) (fun c12 => ?_) (fun c12 => ?_)
    · have hf := pf_t c12 hf
      refine lv_iconst (v := (-1)) hx hb dX8_forgiven_32 (by decide) ?_
      exact hQ _ _ _ _ _ (t_all, t_decided, t_wasLate, t_askedOf, t_heldBehind, t_sum, t_heldAll, t_onPaper, t_turned) (fun _ => 0) hf rfl w dX8_forgiven_33
    · have hf := pf_e c12 hf
      refine lv_aload_n hx hb dX8_forgiven_15 rfl (lv_at hl 0 rfl) ?_
      refine lv_iload_n hx hb dX8_forgiven_16 rfl (lv_at hl 1 rfl) ?_
      refine lv_iload_n hx hb dX8_forgiven_17 rfl (lv_at hl 2 rfl) ?_
      obtain ⟨r3, f4, f5, f6, f7, f8, x9, x10, x11, x12, hc18, hf⟩ := pf_bi_9 hf
      refine hm_aft_i (ws' := fun _ => [oc8 h0 r_t t_base t_taped t_at t_faultPlace t_number t_newBits t_newTold t_newDoings t_newThings t_opened x9 x10 x11 x12 t_wasConverted t_lastBits t_lastSum t_lastHeld t_lastLeft t_lastCode t_writtenLong t_codeMany t_acts t_done0 t_stoppedAt, ic E (r_t 0) 800 f4, ic E (r_t 27) 12 f7, ic E (r_t 25) 12 f5, ic E (r_t 28) 12 f8, zc E (r_t 26) 12 f6]) (hm_runV (rest := []) hx hb hml hown X hA Y w 0 (ci := 7) (T := TX8) (N := 55) rfl rfl mw_X8_isForgiven ml_X8_311 dX8_forgiven_18 hm_ac0 [.int a1, .int a2] rfl [0, 1, 2, 3, 4, 5] rfl rfl (ct_X8_isForgiven l E H.size h0 r_t t_base t_taped t_at t_faultPlace t_number t_newBits t_newTold t_newDoings t_newThings t_opened t_sum t_heldAll t_onPaper t_turned t_wasConverted t_lastBits t_lastSum t_lastHeld t_lastLeft t_lastCode t_writtenLong t_codeMany t_acts t_done0 t_stoppedAt t_all t_askedOf t_decided t_heldBehind t_wasLate a1 a2 (r3, f4, f5, f6, f7, f8, x9, x10, x11, x12) hc18) rfl hl.1 ⟨⟨rfl, rfl⟩, ⟨Nat.le_of_ble_eq_true rfl, Nat.le_of_ble_eq_true rfl⟩, ⟨Nat.le_of_ble_eq_true rfl, Nat.le_of_ble_eq_true rfl⟩, Nat.le_of_ble_eq_true rfl⟩) hA w [0, 1, 2, 3, 4, 5] [] [0, 1, 2, 3, 4, 5] rfl rfl (by decide) (fun _ => rfl) (fun _ H locs w => ?_)
      refine lv_if_eq (tgt := 28) hx hb dX8_forgiven_21 (by decide) (fun c21 => ?_) (fun c21 => ?_)
      · have hf := pf_t c21 hf
        refine lv_iconst (v := 0) hx hb dX8_forgiven_28 (by decide) ?_
        refine lv_goto (tgt := 33) hx hb dX8_forgiven_29 (by decide) ?_
        exact hQ _ _ _ _ _ (f4, f5, f6, f7, f8, x9, x10, x11, x12) (fun _ => 0) hf rfl w dX8_forgiven_33
      · have hf := pf_e c21 hf
        refine lv_iconst (v := 1) hx hb dX8_forgiven_24 (by decide) ?_
        refine lv_goto (tgt := 33) hx hb dX8_forgiven_25 (by decide) ?_
        exact hQ _ _ _ _ _ (f4, f5, f6, f7, f8, x9, x10, x11, x12) (fun _ => 0) hf rfl w dX8_forgiven_33
set_option maxHeartbeats 8000000 in
set_option maxRecDepth 100000 in
theorem ct_X8_slackOf (l : Launch) (E : hm_E) (sz : Nat) (h0 : Nat) (r_t : Nat → Nat) (t_base t_taped t_at t_faultPlace t_number t_newBits t_newTold t_newDoings t_newThings t_opened t_sum t_heldAll t_onPaper t_turned t_wasConverted t_lastBits t_lastSum t_lastHeld t_lastLeft t_lastCode t_writtenLong t_codeMany t_acts t_done0 t_stoppedAt : Int32) (t_all : Nat → Int32) (t_askedOf : Nat → Int32) (t_decided : Nat → Int32) (t_heldBehind : Nat → Int32) (t_wasLate : Nat → Int32) (a1 : Int32) (R : Int32 × (Nat → Int32) × (Nat → Int32) × (Nat → Int32) × (Nat → Int32) × (Nat → Int32) × Int32 × Int32 × Int32 × Int32) (hf : pf_X8_slackOf a1 t_all t_base t_decided t_wasLate t_askedOf t_heldBehind t_sum t_heldAll t_onPaper t_turned = some R) : hm_Mi l E yX8_slackOf cX8_slackOf 4 .int [] (hm_rr 6 139 0 0) [.ref h0, .int a1] sz [oc8 h0 r_t t_base t_taped t_at t_faultPlace t_number t_newBits t_newTold t_newDoings t_newThings t_opened t_sum t_heldAll t_onPaper t_turned t_wasConverted t_lastBits t_lastSum t_lastHeld t_lastLeft t_lastCode t_writtenLong t_codeMany t_acts t_done0 t_stoppedAt, ic E (r_t 0) 800 t_all, ic E (r_t 27) 12 t_askedOf, ic E (r_t 25) 12 t_decided, ic E (r_t 28) 12 t_heldBehind, zc E (r_t 26) 12 t_wasLate] R.1 (fun _ => [oc8 h0 r_t t_base t_taped t_at t_faultPlace t_number t_newBits t_newTold t_newDoings t_newThings t_opened (R.2.2.2.2.2.2.1) (R.2.2.2.2.2.2.2.1) (R.2.2.2.2.2.2.2.2.1) (R.2.2.2.2.2.2.2.2.2) t_wasConverted t_lastBits t_lastSum t_lastHeld t_lastLeft t_lastCode t_writtenLong t_codeMany t_acts t_done0 t_stoppedAt, ic E (r_t 0) 800 (R.2.1), ic E (r_t 27) 12 (R.2.2.2.2.1), ic E (r_t 25) 12 (R.2.2.1), ic E (r_t 28) 12 (R.2.2.2.2.2.1), zc E (r_t 26) 12 (R.2.2.2.1)]) := by
  refine hm_ct_i R (fun u qs => [oc8 h0 r_t t_base t_taped t_at t_faultPlace t_number t_newBits t_newTold t_newDoings t_newThings t_opened (u.2.2.2.2.2.1) (u.2.2.2.2.2.2.1) (u.2.2.2.2.2.2.2.1) (u.2.2.2.2.2.2.2.2) t_wasConverted t_lastBits t_lastSum t_lastHeld t_lastLeft t_lastCode t_writtenLong t_codeMany t_acts t_done0 t_stoppedAt, ic E (r_t 0) 800 (u.1), ic E (r_t 27) 12 (u.2.2.2.1), ic E (r_t 25) 12 (u.2.1), ic E (r_t 28) 12 (u.2.2.2.2.1), zc E (r_t 26) 12 (u.2.2.1)]) (by decide) (Nat.le_of_ble_eq_true rfl) (Or.inl rfl) ?_
  intro p e s m args below meth c A Q ls H locs hx hb hml hown X hA Y hex w hl hQ
  have hl : lv_has ls 4 [(0, .ref h0), (1, .int a1)] := hl
  unfold pf_X8_slackOf at hf
  refine lv_aload_n hx hb dX8_slackOf_0 rfl (lv_at hl 0 rfl) ?_
  refine lv_iload_n hx hb dX8_slackOf_1 rfl (lv_at hl 1 rfl) ?_
  obtain ⟨r1, hc2, hf⟩ := pf_bi_0 hf
  refine hm_aft_i (ws' := fun _ => [oc8 h0 r_t t_base t_taped t_at t_faultPlace t_number t_newBits t_newTold t_newDoings t_newThings t_opened t_sum t_heldAll t_onPaper t_turned t_wasConverted t_lastBits t_lastSum t_lastHeld t_lastLeft t_lastCode t_writtenLong t_codeMany t_acts t_done0 t_stoppedAt, ic E (r_t 0) 800 t_all, ic E (r_t 27) 12 t_askedOf, ic E (r_t 25) 12 t_decided, ic E (r_t 28) 12 t_heldBehind, zc E (r_t 26) 12 t_wasLate]) (hm_runV (rest := []) hx hb hml hown X hA Y w 0 (ci := 7) (T := TX8) (N := 55) rfl rfl mw_X8_weight ml_X8_224 dX8_slackOf_2 hm_ac0 [.int a1] rfl [0, 1] rfl rfl (ct_X8_weight l E H.size h0 r_t t_base t_taped t_at t_faultPlace t_number t_newBits t_newTold t_newDoings t_newThings t_opened t_sum t_heldAll t_onPaper t_turned t_wasConverted t_lastBits t_lastSum t_lastHeld t_lastLeft t_lastCode t_writtenLong t_codeMany t_acts t_done0 t_stoppedAt t_all a1 (r1, ()) hc2) rfl hl.1 ⟨⟨rfl, rfl⟩, ⟨Nat.le_of_ble_eq_true rfl, Nat.le_of_ble_eq_true rfl⟩, ⟨Nat.le_of_ble_eq_true rfl, Nat.le_of_ble_eq_true rfl⟩, Nat.le_of_ble_eq_true rfl⟩) hA w [0, 1] [2, 3, 4, 5] [4, 5, 0, 1, 2, 3] rfl rfl (by decide) (fun _ => rfl) (fun _ H locs w => ?_)
  refine lv_aload_n hx hb dX8_slackOf_5 rfl (lv_at hl 0 rfl) ?_
  refine lv_iconst (v := 1) hx hb dX8_slackOf_6 (by decide) ?_
  obtain ⟨r2, hc7, hf⟩ := pf_bi_0 hf
  refine hm_aft_i (ws' := fun _ => [oc8 h0 r_t t_base t_taped t_at t_faultPlace t_number t_newBits t_newTold t_newDoings t_newThings t_opened t_sum t_heldAll t_onPaper t_turned t_wasConverted t_lastBits t_lastSum t_lastHeld t_lastLeft t_lastCode t_writtenLong t_codeMany t_acts t_done0 t_stoppedAt, ic E (r_t 0) 800 t_all, ic E (r_t 27) 12 t_askedOf, ic E (r_t 25) 12 t_decided, ic E (r_t 28) 12 t_heldBehind, zc E (r_t 26) 12 t_wasLate]) (hm_runV (rest := [.int r1]) hx hb hml hown X hA Y w 0 (ci := 7) (T := TX8) (N := 55) rfl rfl mw_X8_get ml_X8_221 dX8_slackOf_7 hm_ac0 [.int 1] rfl [0, 1] rfl rfl (ct_X8_get l E H.size h0 r_t t_base t_taped t_at t_faultPlace t_number t_newBits t_newTold t_newDoings t_newThings t_opened t_sum t_heldAll t_onPaper t_turned t_wasConverted t_lastBits t_lastSum t_lastHeld t_lastLeft t_lastCode t_writtenLong t_codeMany t_acts t_done0 t_stoppedAt t_all 1 (r2, ()) hc7) rfl hl.1 ⟨⟨rfl, rfl⟩, ⟨Nat.le_of_ble_eq_true rfl, Nat.le_of_ble_eq_true rfl⟩, ⟨Nat.le_of_ble_eq_true rfl, Nat.le_of_ble_eq_true rfl⟩, Nat.le_of_ble_eq_true rfl⟩) hA w [0, 1] [2, 3, 4, 5] [4, 5, 0, 1, 2, 3] rfl rfl (by decide) (fun _ => rfl) (fun _ H locs w => ?_)
  refine lv_isub hx hb dX8_slackOf_10 ?_
  refine lv_topi (fun x3 ex3 => ?_)
  have hf := pf_nm ex3 hf
  refine lv_istore_n (lv' := [(2, .int x3), (0, .ref h0), (1, .int a1)]) hx hb dX8_slackOf_11 rfl hl (by decide) rfl (fun ls hl => ?_)
  refine lv_iconst (v := 0) hx hb dX8_slackOf_12 (by decide) ?_
  refine lv_istore_n (lv' := [(3, .int 0), (2, .int x3), (0, .ref h0), (1, .int a1)]) hx hb dX8_slackOf_13 rfl hl (by decide) rfl (fun ls hl => ?_)
  have klp_X8_slackOf_14 : ∀ (n : Nat) (x4 : Int32) (f5 : Nat → Int32) (f6 : Nat → Int32) (f7 : Nat → Int32) (f8 : Nat → Int32) (f9 : Nat → Int32) (x10 : Int32) (x11 : Int32) (x12 : Int32) (x13 : Int32) (H : Heap) (locs : List Loc) (ls : Array Slot), lp_X8_slackOf_14 a1 t_base x3 n x4 f5 f6 f7 f8 f9 x10 x11 x12 x13 = some R → hm_W E A s.heap [oc8 h0 r_t t_base t_taped t_at t_faultPlace t_number t_newBits t_newTold t_newDoings t_newThings t_opened x10 x11 x12 x13 t_wasConverted t_lastBits t_lastSum t_lastHeld t_lastLeft t_lastCode t_writtenLong t_codeMany t_acts t_done0 t_stoppedAt, ic E (r_t 0) 800 f5, ic E (r_t 27) 12 f8, ic E (r_t 25) 12 f6, ic E (r_t 28) 12 f9, zc E (r_t 26) 12 f7] H locs → lv_has ls 4 [(0, .ref h0), (1, .int a1), (2, .int x3), (3, .int x4)] → W p l e (hm_rr 6 139 0 0) s m args below meth c H locs 0 0 Q (F0 m 14 ls []) := by
    intro n
    induction n with
    | zero =>
      intro x4 f5 f6 f7 f8 f9 x10 x11 x12 x13 H locs ls hf w hl
      exact pf_no hf
    | succ n ih14 =>
      intro x4 f5 f6 f7 f8 f9 x10 x11 x12 x13 H locs ls hf w hl
      rw [lp_X8_slackOf_14] at hf
      refine lv_iload_n hx hb dX8_slackOf_14 rfl (lv_at hl 3 rfl) ?_
      refine lv_sipush (v := 2000) hx hb dX8_slackOf_15 (by decide) ?_
      refine lv_icmp_gt (tgt := 49) hx hb dX8_slackOf_18 (by decide) (fun c18 => ?_) (fun c18 => ?_)
      · have hf := pf_t c18 hf
        refine lv_iload_n hx hb dX8_slackOf_49 rfl (lv_at hl 3 rfl) ?_
        refine lv_iconst (v := 1) hx hb dX8_slackOf_50 (by decide) ?_
        refine lv_isub hx hb dX8_slackOf_51 ?_
        exact hQ _ _ _ _ _ (f5, f6, f7, f8, f9, x10, x11, x12, x13) (fun _ => 0) hf rfl w dX8_slackOf_52
      · have hf := pf_e c18 hf
        refine lv_aload_n hx hb dX8_slackOf_21 rfl (lv_at hl 0 rfl) ?_
        refine lv_iload_n hx hb dX8_slackOf_22 rfl (lv_at hl 2 rfl) ?_
        refine lv_iload_n hx hb dX8_slackOf_23 rfl (lv_at hl 3 rfl) ?_
        refine lv_isub hx hb dX8_slackOf_24 ?_
        refine lv_iload_n hx hb dX8_slackOf_25 rfl (lv_at hl 1 rfl) ?_
        obtain ⟨r14, f15, f16, f17, f18, f19, x20, x21, x22, x23, hc26, hf⟩ := pf_bi_9 hf
        refine hm_aft_i (ws' := fun _ => [oc8 h0 r_t t_base t_taped t_at t_faultPlace t_number t_newBits t_newTold t_newDoings t_newThings t_opened x20 x21 x22 x23 t_wasConverted t_lastBits t_lastSum t_lastHeld t_lastLeft t_lastCode t_writtenLong t_codeMany t_acts t_done0 t_stoppedAt, ic E (r_t 0) 800 f15, ic E (r_t 27) 12 f18, ic E (r_t 25) 12 f16, ic E (r_t 28) 12 f19, zc E (r_t 26) 12 f17]) (hm_runV (rest := []) hx hb hml hown X hA Y w 0 (ci := 7) (T := TX8) (N := 55) rfl rfl mw_X8_isForgiven ml_X8_311 dX8_slackOf_26 hm_ac0 [.int (x3 - x4), .int a1] rfl [0, 1, 2, 3, 4, 5] rfl rfl (ct_X8_isForgiven l E H.size h0 r_t t_base t_taped t_at t_faultPlace t_number t_newBits t_newTold t_newDoings t_newThings t_opened x10 x11 x12 x13 t_wasConverted t_lastBits t_lastSum t_lastHeld t_lastLeft t_lastCode t_writtenLong t_codeMany t_acts t_done0 t_stoppedAt f5 f8 f6 f9 f7 (x3 - x4) a1 (r14, f15, f16, f17, f18, f19, x20, x21, x22, x23) hc26) rfl hl.1 ⟨⟨rfl, rfl⟩, ⟨Nat.le_of_ble_eq_true rfl, Nat.le_of_ble_eq_true rfl⟩, ⟨Nat.le_of_ble_eq_true rfl, Nat.le_of_ble_eq_true rfl⟩, Nat.le_of_ble_eq_true rfl⟩) hA w [0, 1, 2, 3, 4, 5] [] [0, 1, 2, 3, 4, 5] rfl rfl (by decide) (fun _ => rfl) (fun _ H locs w => ?_)
        refine lv_if_eq (tgt := 49) hx hb dX8_slackOf_29 (by decide) (fun c29 => ?_) (fun c29 => ?_)
        · have hf := pf_t c29 hf
          refine lv_iload_n hx hb dX8_slackOf_49 rfl (lv_at hl 3 rfl) ?_
          refine lv_iconst (v := 1) hx hb dX8_slackOf_50 (by decide) ?_
          refine lv_isub hx hb dX8_slackOf_51 ?_
          exact hQ _ _ _ _ _ (f15, f16, f17, f18, f19, x20, x21, x22, x23) (fun _ => 0) hf rfl w dX8_slackOf_52
        · have hf := pf_e c29 hf
          refine lv_aload_n hx hb dX8_slackOf_32 rfl (lv_at hl 0 rfl) ?_
          refine lv_iload_n hx hb dX8_slackOf_33 rfl (lv_at hl 2 rfl) ?_
          refine lv_iload_n hx hb dX8_slackOf_34 rfl (lv_at hl 3 rfl) ?_
          refine lv_iadd hx hb dX8_slackOf_35 ?_
          refine lv_iload_n hx hb dX8_slackOf_36 rfl (lv_at hl 1 rfl) ?_
          obtain ⟨r24, f25, f26, f27, f28, f29, x30, x31, x32, x33, hc37, hf⟩ := pf_bi_9 hf
          refine hm_aft_i (ws' := fun _ => [oc8 h0 r_t t_base t_taped t_at t_faultPlace t_number t_newBits t_newTold t_newDoings t_newThings t_opened x30 x31 x32 x33 t_wasConverted t_lastBits t_lastSum t_lastHeld t_lastLeft t_lastCode t_writtenLong t_codeMany t_acts t_done0 t_stoppedAt, ic E (r_t 0) 800 f25, ic E (r_t 27) 12 f28, ic E (r_t 25) 12 f26, ic E (r_t 28) 12 f29, zc E (r_t 26) 12 f27]) (hm_runV (rest := []) hx hb hml hown X hA Y w 0 (ci := 7) (T := TX8) (N := 55) rfl rfl mw_X8_isForgiven ml_X8_311 dX8_slackOf_37 hm_ac0 [.int (x3 + x4), .int a1] rfl [0, 1, 2, 3, 4, 5] rfl rfl (ct_X8_isForgiven l E H.size h0 r_t t_base t_taped t_at t_faultPlace t_number t_newBits t_newTold t_newDoings t_newThings t_opened x20 x21 x22 x23 t_wasConverted t_lastBits t_lastSum t_lastHeld t_lastLeft t_lastCode t_writtenLong t_codeMany t_acts t_done0 t_stoppedAt f15 f18 f16 f19 f17 (x3 + x4) a1 (r24, f25, f26, f27, f28, f29, x30, x31, x32, x33) hc37) rfl hl.1 ⟨⟨rfl, rfl⟩, ⟨Nat.le_of_ble_eq_true rfl, Nat.le_of_ble_eq_true rfl⟩, ⟨Nat.le_of_ble_eq_true rfl, Nat.le_of_ble_eq_true rfl⟩, Nat.le_of_ble_eq_true rfl⟩) hA w [0, 1, 2, 3, 4, 5] [] [0, 1, 2, 3, 4, 5] rfl rfl (by decide) (fun _ => rfl) (fun _ H locs w => ?_)
          refine lv_if_eq (tgt := 49) hx hb dX8_slackOf_40 (by decide) (fun c40 => ?_) (fun c40 => ?_)
          · have hf := pf_t c40 hf
            refine lv_iload_n hx hb dX8_slackOf_49 rfl (lv_at hl 3 rfl) ?_
            refine lv_iconst (v := 1) hx hb dX8_slackOf_50 (by decide) ?_
            refine lv_isub hx hb dX8_slackOf_51 ?_
            exact hQ _ _ _ _ _ (f25, f26, f27, f28, f29, x30, x31, x32, x33) (fun _ => 0) hf rfl w dX8_slackOf_52
          · have hf := pf_e c40 hf
            obtain ⟨x34, ex34⟩ : ∃ y : Int32, y = (x4 + 1) := ⟨_, rfl⟩
            have hf := pf_nm ex34 hf
            refine lv_iinc (v := x34) (lv' := [(3, .int x34), (0, .ref h0), (1, .int a1), (2, .int x3)]) hx hb dX8_slackOf_43 hl (k := 3) rfl (by rw [ex34]; rfl) (by decide) rfl (fun ls hl => ?_)
            refine lv_goto (tgt := 14) hx hb dX8_slackOf_46 (by decide) ?_
            exact ih14 _ _ _ _ _ _ _ _ _ _ _ _ _ hf w (lv_sub hl [1, 2, 3, 0] rfl)
  exact klp_X8_slackOf_14 FU _ _ _ _ _ _ _ _ _ _ _ _ _ hf w (lv_sub hl [2, 3, 1, 0] rfl)
set_option maxHeartbeats 8000000 in
set_option maxRecDepth 100000 in
theorem ct_X8_slack (l : Launch) (E : hm_E) (sz : Nat) (h0 : Nat) (r_t : Nat → Nat) (t_base t_taped t_at t_faultPlace t_number t_newBits t_newTold t_newDoings t_newThings t_opened t_sum t_heldAll t_onPaper t_turned t_wasConverted t_lastBits t_lastSum t_lastHeld t_lastLeft t_lastCode t_writtenLong t_codeMany t_acts t_done0 t_stoppedAt : Int32) (t_all : Nat → Int32) (t_askedOf : Nat → Int32) (t_decided : Nat → Int32) (t_heldBehind : Nat → Int32) (t_wasLate : Nat → Int32) (a1 : Int32) (R : Int32 × (Nat → Int32) × (Nat → Int32) × (Nat → Int32) × (Nat → Int32) × (Nat → Int32) × Int32 × Int32 × Int32 × Int32) (hf : pf_X8_slack a1 t_all t_base t_decided t_wasLate t_askedOf t_heldBehind t_sum t_heldAll t_onPaper t_turned = some R) : hm_Mi l E yX8_slack cX8_slack 2 .int [] (hm_rr 7 162 0 0) [.ref h0, .int a1] sz [oc8 h0 r_t t_base t_taped t_at t_faultPlace t_number t_newBits t_newTold t_newDoings t_newThings t_opened t_sum t_heldAll t_onPaper t_turned t_wasConverted t_lastBits t_lastSum t_lastHeld t_lastLeft t_lastCode t_writtenLong t_codeMany t_acts t_done0 t_stoppedAt, ic E (r_t 0) 800 t_all, ic E (r_t 27) 12 t_askedOf, ic E (r_t 25) 12 t_decided, ic E (r_t 28) 12 t_heldBehind, zc E (r_t 26) 12 t_wasLate] R.1 (fun _ => [oc8 h0 r_t t_base t_taped t_at t_faultPlace t_number t_newBits t_newTold t_newDoings t_newThings t_opened (R.2.2.2.2.2.2.1) (R.2.2.2.2.2.2.2.1) (R.2.2.2.2.2.2.2.2.1) (R.2.2.2.2.2.2.2.2.2) t_wasConverted t_lastBits t_lastSum t_lastHeld t_lastLeft t_lastCode t_writtenLong t_codeMany t_acts t_done0 t_stoppedAt, ic E (r_t 0) 800 (R.2.1), ic E (r_t 27) 12 (R.2.2.2.2.1), ic E (r_t 25) 12 (R.2.2.1), ic E (r_t 28) 12 (R.2.2.2.2.2.1), zc E (r_t 26) 12 (R.2.2.2.1)]) := by
  refine hm_ct_i R (fun u qs => [oc8 h0 r_t t_base t_taped t_at t_faultPlace t_number t_newBits t_newTold t_newDoings t_newThings t_opened (u.2.2.2.2.2.1) (u.2.2.2.2.2.2.1) (u.2.2.2.2.2.2.2.1) (u.2.2.2.2.2.2.2.2) t_wasConverted t_lastBits t_lastSum t_lastHeld t_lastLeft t_lastCode t_writtenLong t_codeMany t_acts t_done0 t_stoppedAt, ic E (r_t 0) 800 (u.1), ic E (r_t 27) 12 (u.2.2.2.1), ic E (r_t 25) 12 (u.2.1), ic E (r_t 28) 12 (u.2.2.2.2.1), zc E (r_t 26) 12 (u.2.2.1)]) (by decide) (Nat.le_of_ble_eq_true rfl) (Or.inl rfl) ?_
  intro p e s m args below meth c A Q ls H locs hx hb hml hown X hA Y hex w hl hQ
  have hl : lv_has ls 2 [(0, .ref h0), (1, .int a1)] := hl
  unfold pf_X8_slack at hf
  refine lv_aload_n hx hb dX8_slack_0 rfl (lv_at hl 0 rfl) ?_
  refine lv_iload_n hx hb dX8_slack_1 rfl (lv_at hl 1 rfl) ?_
  obtain ⟨r1, hc2, hf⟩ := pf_bi_0 hf
  refine hm_aft_i (ws' := fun _ => [oc8 h0 r_t t_base t_taped t_at t_faultPlace t_number t_newBits t_newTold t_newDoings t_newThings t_opened t_sum t_heldAll t_onPaper t_turned t_wasConverted t_lastBits t_lastSum t_lastHeld t_lastLeft t_lastCode t_writtenLong t_codeMany t_acts t_done0 t_stoppedAt, ic E (r_t 0) 800 t_all, ic E (r_t 27) 12 t_askedOf, ic E (r_t 25) 12 t_decided, ic E (r_t 28) 12 t_heldBehind, zc E (r_t 26) 12 t_wasLate]) (hm_runV (rest := []) hx hb hml hown X hA Y w 0 (ci := 7) (T := TX8) (N := 55) rfl rfl mw_X8_isBit ml_X8_251 dX8_slack_2 hm_ac0 [.int a1] rfl [0, 1] rfl rfl (ct_X8_isBit l E H.size h0 r_t t_base t_taped t_at t_faultPlace t_number t_newBits t_newTold t_newDoings t_newThings t_opened t_sum t_heldAll t_onPaper t_turned t_wasConverted t_lastBits t_lastSum t_lastHeld t_lastLeft t_lastCode t_writtenLong t_codeMany t_acts t_done0 t_stoppedAt t_all a1 (r1, ()) hc2) rfl hl.1 ⟨⟨rfl, rfl⟩, ⟨Nat.le_of_ble_eq_true rfl, Nat.le_of_ble_eq_true rfl⟩, ⟨Nat.le_of_ble_eq_true rfl, Nat.le_of_ble_eq_true rfl⟩, Nat.le_of_ble_eq_true rfl⟩) hA w [0, 1] [2, 3, 4, 5] [4, 5, 0, 1, 2, 3] rfl rfl (by decide) (fun _ => rfl) (fun _ H locs w => ?_)
  refine lv_if_eq (tgt := 16) hx hb dX8_slack_5 (by decide) (fun c5 => ?_) (fun c5 => ?_)
  · have hf := pf_t c5 hf
    refine lv_bipush (v := (-2)) hx hb dX8_slack_16 (by decide) ?_
    exact hQ _ _ _ _ _ (t_all, t_decided, t_wasLate, t_askedOf, t_heldBehind, t_sum, t_heldAll, t_onPaper, t_turned) (fun _ => 0) hf rfl w dX8_slack_18
  · have hf := pf_e c5 hf
    refine lv_aload_n hx hb dX8_slack_8 rfl (lv_at hl 0 rfl) ?_
    refine lv_iload_n hx hb dX8_slack_9 rfl (lv_at hl 1 rfl) ?_
    obtain ⟨r2, f3, f4, f5, f6, f7, x8, x9, x10, x11, hc10, hf⟩ := pf_bi_9 hf
    refine hm_aft_i (ws' := fun _ => [oc8 h0 r_t t_base t_taped t_at t_faultPlace t_number t_newBits t_newTold t_newDoings t_newThings t_opened x8 x9 x10 x11 t_wasConverted t_lastBits t_lastSum t_lastHeld t_lastLeft t_lastCode t_writtenLong t_codeMany t_acts t_done0 t_stoppedAt, ic E (r_t 0) 800 f3, ic E (r_t 27) 12 f6, ic E (r_t 25) 12 f4, ic E (r_t 28) 12 f7, zc E (r_t 26) 12 f5]) (hm_runV (rest := []) hx hb hml hown X hA Y w 0 (ci := 7) (T := TX8) (N := 55) rfl rfl mw_X8_slackOf ml_X8_314 dX8_slack_10 hm_ac0 [.int a1] rfl [0, 1, 2, 3, 4, 5] rfl rfl (ct_X8_slackOf l E H.size h0 r_t t_base t_taped t_at t_faultPlace t_number t_newBits t_newTold t_newDoings t_newThings t_opened t_sum t_heldAll t_onPaper t_turned t_wasConverted t_lastBits t_lastSum t_lastHeld t_lastLeft t_lastCode t_writtenLong t_codeMany t_acts t_done0 t_stoppedAt t_all t_askedOf t_decided t_heldBehind t_wasLate a1 (r2, f3, f4, f5, f6, f7, x8, x9, x10, x11) hc10) rfl hl.1 ⟨⟨rfl, rfl⟩, ⟨Nat.le_of_ble_eq_true rfl, Nat.le_of_ble_eq_true rfl⟩, ⟨Nat.le_of_ble_eq_true rfl, Nat.le_of_ble_eq_true rfl⟩, Nat.le_of_ble_eq_true rfl⟩) hA w [0, 1, 2, 3, 4, 5] [] [0, 1, 2, 3, 4, 5] rfl rfl (by decide) (fun _ => rfl) (fun _ H locs w => ?_)
    refine lv_goto (tgt := 18) hx hb dX8_slack_13 (by decide) ?_
    exact hQ _ _ _ _ _ (f3, f4, f5, f6, f7, x8, x9, x10, x11) (fun _ => 0) hf rfl w dX8_slack_18
set_option maxHeartbeats 8000000 in
set_option maxRecDepth 100000 in
theorem ct_X8_gap (l : Launch) (E : hm_E) (sz : Nat) (h0 : Nat) (r_t : Nat → Nat) (t_base t_taped t_at t_faultPlace t_number t_newBits t_newTold t_newDoings t_newThings t_opened t_sum t_heldAll t_onPaper t_turned t_wasConverted t_lastBits t_lastSum t_lastHeld t_lastLeft t_lastCode t_writtenLong t_codeMany t_acts t_done0 t_stoppedAt : Int32) (t_all : Nat → Int32) (a1 : Int32) (R : Int32 × Unit) (hf : pf_X8_gap a1 t_all t_base = some R) : hm_Mi l E yX8_gap cX8_gap 7 .int [] (hm_rr 3 66 0 0) [.ref h0, .int a1] sz [oc8 h0 r_t t_base t_taped t_at t_faultPlace t_number t_newBits t_newTold t_newDoings t_newThings t_opened t_sum t_heldAll t_onPaper t_turned t_wasConverted t_lastBits t_lastSum t_lastHeld t_lastLeft t_lastCode t_writtenLong t_codeMany t_acts t_done0 t_stoppedAt, ic E (r_t 0) 800 t_all] R.1 (fun _ => [oc8 h0 r_t t_base t_taped t_at t_faultPlace t_number t_newBits t_newTold t_newDoings t_newThings t_opened t_sum t_heldAll t_onPaper t_turned t_wasConverted t_lastBits t_lastSum t_lastHeld t_lastLeft t_lastCode t_writtenLong t_codeMany t_acts t_done0 t_stoppedAt, ic E (r_t 0) 800 t_all]) := by
  refine hm_ct_i R (fun u qs => [oc8 h0 r_t t_base t_taped t_at t_faultPlace t_number t_newBits t_newTold t_newDoings t_newThings t_opened t_sum t_heldAll t_onPaper t_turned t_wasConverted t_lastBits t_lastSum t_lastHeld t_lastLeft t_lastCode t_writtenLong t_codeMany t_acts t_done0 t_stoppedAt, ic E (r_t 0) 800 t_all]) (by decide) (Nat.le_of_ble_eq_true rfl) (Or.inl rfl) ?_
  intro p e s m args below meth c A Q ls H locs hx hb hml hown X hA Y hex w hl hQ
  have hl : lv_has ls 7 [(0, .ref h0), (1, .int a1)] := hl
  unfold pf_X8_gap at hf
  refine lv_aload_n hx hb dX8_gap_0 rfl (lv_at hl 0 rfl) ?_
  refine lv_iconst (v := 0) hx hb dX8_gap_1 (by decide) ?_
  obtain ⟨r1, hc2, hf⟩ := pf_bi_0 hf
  refine hm_aft_i (ws' := fun _ => [oc8 h0 r_t t_base t_taped t_at t_faultPlace t_number t_newBits t_newTold t_newDoings t_newThings t_opened t_sum t_heldAll t_onPaper t_turned t_wasConverted t_lastBits t_lastSum t_lastHeld t_lastLeft t_lastCode t_writtenLong t_codeMany t_acts t_done0 t_stoppedAt, ic E (r_t 0) 800 t_all]) (hm_runV (rest := []) hx hb hml hown X hA Y w 0 (ci := 7) (T := TX8) (N := 55) rfl rfl mw_X8_get ml_X8_221 dX8_gap_2 hm_ac0 [.int 0] rfl [0, 1] rfl rfl (ct_X8_get l E H.size h0 r_t t_base t_taped t_at t_faultPlace t_number t_newBits t_newTold t_newDoings t_newThings t_opened t_sum t_heldAll t_onPaper t_turned t_wasConverted t_lastBits t_lastSum t_lastHeld t_lastLeft t_lastCode t_writtenLong t_codeMany t_acts t_done0 t_stoppedAt t_all 0 (r1, ()) hc2) rfl hl.1 ⟨⟨rfl, rfl⟩, ⟨Nat.le_of_ble_eq_true rfl, Nat.le_of_ble_eq_true rfl⟩, ⟨Nat.le_of_ble_eq_true rfl, Nat.le_of_ble_eq_true rfl⟩, Nat.le_of_ble_eq_true rfl⟩) hA w [0, 1] [] [0, 1] rfl rfl (by decide) (fun _ => rfl) (fun _ H locs w => ?_)
  refine lv_istore_n (lv' := [(2, .int r1), (0, .ref h0), (1, .int a1)]) hx hb dX8_gap_5 rfl hl (by decide) rfl (fun ls hl => ?_)
  refine lv_iload_n hx hb dX8_gap_6 rfl (lv_at hl 0 rfl) ?_
  refine lv_if_eq (tgt := 19) hx hb dX8_gap_7 (by decide) (fun c7 => ?_) (fun c7 => ?_)
  · have hf := pf_t c7 hf
    refine lv_bipush (v := (-2)) hx hb dX8_gap_19 (by decide) ?_
    exact hQ _ _ _ _ _ () (fun _ => 0) hf rfl w dX8_gap_21
  · have hf := pf_e c7 hf
    refine lv_iload_n hx hb dX8_gap_10 rfl (lv_at hl 2 rfl) ?_
    refine lv_iconst (v := 0) hx hb dX8_gap_11 (by decide) ?_
    refine lv_iconst (v := 1) hx hb dX8_gap_12 (by decide) ?_
    obtain ⟨r2, hc13, hf⟩ := pf_bi_0 hf
    refine hm_aft_i (ws' := fun _ => [oc8 h0 r_t t_base t_taped t_at t_faultPlace t_number t_newBits t_newTold t_newDoings t_newThings t_opened t_sum t_heldAll t_onPaper t_turned t_wasConverted t_lastBits t_lastSum t_lastHeld t_lastLeft t_lastCode t_writtenLong t_codeMany t_acts t_done0 t_stoppedAt, ic E (r_t 0) 800 t_all]) (hm_runS (rest := []) hx hb hml hown X hA Y w mw_X8_isIn ml_X8_129 dX8_gap_13 hm_ac0 [.int a1, .int 0, .int 1] rfl [] rfl rfl (ct_X8_isIn l E H.size a1 0 1 (r2, ()) hc13) rfl hl.1 ⟨⟨rfl, rfl⟩, ⟨Nat.le_of_ble_eq_true rfl, Nat.le_of_ble_eq_true rfl⟩, ⟨Nat.le_of_ble_eq_true rfl, Nat.le_of_ble_eq_true rfl⟩, Nat.le_of_ble_eq_true rfl⟩) hA w [] [0, 1] [0, 1] rfl rfl (by decide) (fun _ => rfl) (fun _ H locs w => ?_)
    refine lv_if_ne (tgt := 22) hx hb dX8_gap_16 (by decide) (fun c16 => ?_) (fun c16 => ?_)
    · have hf := pf_e c16 hf
      refine lv_iconst (v := 0) hx hb dX8_gap_22 (by decide) ?_
      refine lv_istore_n (lv' := [(3, .int 0), (2, .int r1), (0, .ref h0), (1, .int a1)]) hx hb dX8_gap_23 rfl hl (by decide) rfl (fun ls hl => ?_)
      refine lv_iconst (v := (-1)) hx hb dX8_gap_24 (by decide) ?_
      refine lv_istore (lv' := [(4, .int (-1)), (3, .int 0), (2, .int r1), (0, .ref h0), (1, .int a1)]) hx hb dX8_gap_25 hl (by decide) rfl (fun ls hl => ?_)
      refine lv_iconst (v := 0) hx hb dX8_gap_27 (by decide) ?_
      refine lv_istore (lv' := [(5, .int 0), (4, .int (-1)), (3, .int 0), (2, .int r1), (0, .ref h0), (1, .int a1)]) hx hb dX8_gap_28 hl (by decide) rfl (fun ls hl => ?_)
      obtain ⟨J75, hJ75, hf⟩ := pf_jn hf
      have kJ75 : ∀ (x3 : Int32) (x4 : Int32) (H : Heap) (locs : List Loc) (ls : Array Slot), J75 x3 x4 = some R → hm_W E A s.heap [oc8 h0 r_t t_base t_taped t_at t_faultPlace t_number t_newBits t_newTold t_newDoings t_newThings t_opened t_sum t_heldAll t_onPaper t_turned t_wasConverted t_lastBits t_lastSum t_lastHeld t_lastLeft t_lastCode t_writtenLong t_codeMany t_acts t_done0 t_stoppedAt, ic E (r_t 0) 800 t_all] H locs → lv_has ls 7 [(1, .int a1), (3, .int x3), (4, .int x4)] → W p l e (hm_rr 3 66 0 0) s m args below meth c H locs 0 0 Q (F0 m 75 ls []) := by
        intro x3 x4 H locs ls hf w hl
        have hf := pf_j2 hJ75 hf
        refine lv_iload_n hx hb dX8_gap_75 rfl (lv_at hl 0 rfl) ?_
        refine lv_if_ne (tgt := 83) hx hb dX8_gap_76 (by decide) (fun c76 => ?_) (fun c76 => ?_)
        · have hf := pf_e c76 hf
          refine lv_iload hx hb dX8_gap_83 (lv_at hl 2 rfl) ?_
          exact hQ _ _ _ _ _ () (fun _ => 0) hf rfl w dX8_gap_85
        · have hf := pf_t c76 hf
          refine lv_iload_n hx hb dX8_gap_79 rfl (lv_at hl 1 rfl) ?_
          refine lv_goto (tgt := 85) hx hb dX8_gap_80 (by decide) ?_
          exact hQ _ _ _ _ _ () (fun _ => 0) hf rfl w dX8_gap_85
      have klp_X8_gap_30 : ∀ (n : Nat) (x5 : Int32) (x6 : Int32) (x7 : Int32) (H : Heap) (locs : List Loc) (ls : Array Slot), lp_X8_gap_30 t_base t_all r1 J75 n x5 x6 x7 = some R → hm_W E A s.heap [oc8 h0 r_t t_base t_taped t_at t_faultPlace t_number t_newBits t_newTold t_newDoings t_newThings t_opened t_sum t_heldAll t_onPaper t_turned t_wasConverted t_lastBits t_lastSum t_lastHeld t_lastLeft t_lastCode t_writtenLong t_codeMany t_acts t_done0 t_stoppedAt, ic E (r_t 0) 800 t_all] H locs → lv_has ls 7 [(0, .ref h0), (1, .int a1), (2, .int r1), (3, .int x5), (4, .int x6), (5, .int x7)] → W p l e (hm_rr 3 66 0 0) s m args below meth c H locs 0 0 Q (F0 m 30 ls []) := by
        intro n
        induction n with
        | zero =>
          intro x5 x6 x7 H locs ls hf w hl
          exact pf_no hf
        | succ n ih30 =>
          intro x5 x6 x7 H locs ls hf w hl
          rw [lp_X8_gap_30] at hf
          refine lv_iload hx hb dX8_gap_30 (lv_at hl 5 rfl) ?_
          refine lv_iload_n hx hb dX8_gap_32 rfl (lv_at hl 2 rfl) ?_
          refine lv_icmp_ge (tgt := 75) hx hb dX8_gap_33 (by decide) (fun c33 => ?_) (fun c33 => ?_)
          · have hf := pf_t c33 hf
            exact kJ75 _ _ _ _ _ hf w (lv_sub hl [1, 3, 4] rfl)
          · have hf := pf_e c33 hf
            refine lv_aload_n hx hb dX8_gap_36 rfl (lv_at hl 0 rfl) ?_
            refine lv_iload hx hb dX8_gap_37 (lv_at hl 5 rfl) ?_
            obtain ⟨r8, hc39, hf⟩ := pf_bi_0 hf
            refine hm_aft_i (ws' := fun _ => [oc8 h0 r_t t_base t_taped t_at t_faultPlace t_number t_newBits t_newTold t_newDoings t_newThings t_opened t_sum t_heldAll t_onPaper t_turned t_wasConverted t_lastBits t_lastSum t_lastHeld t_lastLeft t_lastCode t_writtenLong t_codeMany t_acts t_done0 t_stoppedAt, ic E (r_t 0) 800 t_all]) (hm_runV (rest := []) hx hb hml hown X hA Y w 0 (ci := 7) (T := TX8) (N := 55) rfl rfl mw_X8_weight ml_X8_224 dX8_gap_39 hm_ac0 [.int x7] rfl [0, 1] rfl rfl (ct_X8_weight l E H.size h0 r_t t_base t_taped t_at t_faultPlace t_number t_newBits t_newTold t_newDoings t_newThings t_opened t_sum t_heldAll t_onPaper t_turned t_wasConverted t_lastBits t_lastSum t_lastHeld t_lastLeft t_lastCode t_writtenLong t_codeMany t_acts t_done0 t_stoppedAt t_all x7 (r8, ()) hc39) rfl hl.1 ⟨⟨rfl, rfl⟩, ⟨Nat.le_of_ble_eq_true rfl, Nat.le_of_ble_eq_true rfl⟩, ⟨Nat.le_of_ble_eq_true rfl, Nat.le_of_ble_eq_true rfl⟩, Nat.le_of_ble_eq_true rfl⟩) hA w [0, 1] [] [0, 1] rfl rfl (by decide) (fun _ => rfl) (fun _ H locs w => ?_)
            refine lv_aload_n hx hb dX8_gap_42 rfl (lv_at hl 0 rfl) ?_
            refine lv_iload hx hb dX8_gap_43 (lv_at hl 5 rfl) ?_
            obtain ⟨r9, hc45, hf⟩ := pf_bi_0 hf
            refine hm_aft_i (ws' := fun _ => [oc8 h0 r_t t_base t_taped t_at t_faultPlace t_number t_newBits t_newTold t_newDoings t_newThings t_opened t_sum t_heldAll t_onPaper t_turned t_wasConverted t_lastBits t_lastSum t_lastHeld t_lastLeft t_lastCode t_writtenLong t_codeMany t_acts t_done0 t_stoppedAt, ic E (r_t 0) 800 t_all]) (hm_runV (rest := [.int r8]) hx hb hml hown X hA Y w 0 (ci := 7) (T := TX8) (N := 55) rfl rfl mw_X8_reach ml_X8_247 dX8_gap_45 hm_ac0 [.int x7] rfl [0, 1] rfl rfl (ct_X8_reach l E H.size h0 r_t t_base t_taped t_at t_faultPlace t_number t_newBits t_newTold t_newDoings t_newThings t_opened t_sum t_heldAll t_onPaper t_turned t_wasConverted t_lastBits t_lastSum t_lastHeld t_lastLeft t_lastCode t_writtenLong t_codeMany t_acts t_done0 t_stoppedAt t_all x7 (r9, ()) hc45) rfl hl.1 ⟨⟨rfl, rfl⟩, ⟨Nat.le_of_ble_eq_true rfl, Nat.le_of_ble_eq_true rfl⟩, ⟨Nat.le_of_ble_eq_true rfl, Nat.le_of_ble_eq_true rfl⟩, Nat.le_of_ble_eq_true rfl⟩) hA w [0, 1] [] [0, 1] rfl rfl (by decide) (fun _ => rfl) (fun _ H locs w => ?_)
            refine lv_isub hx hb dX8_gap_48 ?_
            refine lv_iconst (v := 1) hx hb dX8_gap_49 (by decide) ?_
            refine lv_isub hx hb dX8_gap_50 ?_
            refine lv_topi (fun x10 ex10 => ?_)
            have hf := pf_nm ex10 hf
            refine lv_istore (lv' := [(6, .int x10), (0, .ref h0), (1, .int a1), (2, .int r1), (3, .int x5), (4, .int x6), (5, .int x7)]) hx hb dX8_gap_51 hl (by decide) rfl (fun ls hl => ?_)
            refine lv_iload hx hb dX8_gap_53 (lv_at hl 0 rfl) ?_
            refine lv_iload_n hx hb dX8_gap_55 rfl (lv_at hl 4 rfl) ?_
            refine lv_icmp_gt (tgt := 62) hx hb dX8_gap_56 (by decide) (fun c56 => ?_) (fun c56 => ?_)
            · have hf := pf_t c56 hf
              refine lv_iload hx hb dX8_gap_62 (lv_at hl 0 rfl) ?_
              refine lv_istore_n (lv' := [(3, .int x10), (6, .int x10), (0, .ref h0), (1, .int a1), (2, .int r1), (4, .int x6), (5, .int x7)]) hx hb dX8_gap_64 rfl hl (by decide) rfl (fun ls hl => ?_)
              refine lv_iload hx hb dX8_gap_65 (lv_at hl 6 rfl) ?_
              refine lv_istore (lv' := [(4, .int x7), (3, .int x10), (6, .int x10), (0, .ref h0), (1, .int a1), (2, .int r1), (5, .int x7)]) hx hb dX8_gap_67 hl (by decide) rfl (fun ls hl => ?_)
              obtain ⟨x11, ex11⟩ : ∃ y : Int32, y = (x7 + 1) := ⟨_, rfl⟩
              have hf := pf_nm ex11 hf
              refine lv_iinc (v := x11) (lv' := [(5, .int x11), (4, .int x7), (3, .int x10), (6, .int x10), (0, .ref h0), (1, .int a1), (2, .int r1)]) hx hb dX8_gap_69 hl (k := 6) rfl (by rw [ex11]; rfl) (by decide) rfl (fun ls hl => ?_)
              refine lv_goto (tgt := 30) hx hb dX8_gap_72 (by decide) ?_
              exact ih30 _ _ _ _ _ _ hf w (lv_sub hl [4, 5, 6, 2, 1, 0] rfl)
            · have hf := pf_e c56 hf
              refine lv_goto (tgt := 69) hx hb dX8_gap_59 (by decide) ?_
              obtain ⟨x12, ex12⟩ : ∃ y : Int32, y = (x7 + 1) := ⟨_, rfl⟩
              have hf := pf_nm ex12 hf
              refine lv_iinc (v := x12) (lv' := [(5, .int x12), (6, .int x10), (0, .ref h0), (1, .int a1), (2, .int r1), (3, .int x5), (4, .int x6)]) hx hb dX8_gap_69 hl (k := 6) rfl (by rw [ex12]; rfl) (by decide) rfl (fun ls hl => ?_)
              refine lv_goto (tgt := 30) hx hb dX8_gap_72 (by decide) ?_
              exact ih30 _ _ _ _ _ _ hf w (lv_sub hl [2, 3, 4, 5, 6, 0] rfl)
      exact klp_X8_gap_30 FU _ _ _ _ _ _ hf w (lv_sub hl [4, 5, 3, 2, 1, 0] rfl)
    · have hf := pf_t c16 hf
      refine lv_bipush (v := (-2)) hx hb dX8_gap_19 (by decide) ?_
      exact hQ _ _ _ _ _ () (fun _ => 0) hf rfl w dX8_gap_21
set_option maxHeartbeats 8000000 in
set_option maxRecDepth 100000 in
theorem ct_X8_tightest (l : Launch) (E : hm_E) (sz : Nat) (h0 : Nat) (r_t : Nat → Nat) (t_base t_taped t_at t_faultPlace t_number t_newBits t_newTold t_newDoings t_newThings t_opened t_sum t_heldAll t_onPaper t_turned t_wasConverted t_lastBits t_lastSum t_lastHeld t_lastLeft t_lastCode t_writtenLong t_codeMany t_acts t_done0 t_stoppedAt : Int32) (t_all : Nat → Int32) (t_askedOf : Nat → Int32) (t_decided : Nat → Int32) (t_heldBehind : Nat → Int32) (t_wasLate : Nat → Int32) (a1 : Int32) (R : Int32 × (Nat → Int32) × (Nat → Int32) × (Nat → Int32) × (Nat → Int32) × (Nat → Int32) × Int32 × Int32 × Int32 × Int32) (hf : pf_X8_tightest a1 t_all t_base t_decided t_wasLate t_askedOf t_heldBehind t_sum t_heldAll t_onPaper t_turned = some R) : hm_Mi l E yX8_tightest cX8_tightest 7 .int [] (hm_rr 7 162 0 0) [.ref h0, .int a1] sz [oc8 h0 r_t t_base t_taped t_at t_faultPlace t_number t_newBits t_newTold t_newDoings t_newThings t_opened t_sum t_heldAll t_onPaper t_turned t_wasConverted t_lastBits t_lastSum t_lastHeld t_lastLeft t_lastCode t_writtenLong t_codeMany t_acts t_done0 t_stoppedAt, ic E (r_t 0) 800 t_all, ic E (r_t 27) 12 t_askedOf, ic E (r_t 25) 12 t_decided, ic E (r_t 28) 12 t_heldBehind, zc E (r_t 26) 12 t_wasLate] R.1 (fun _ => [oc8 h0 r_t t_base t_taped t_at t_faultPlace t_number t_newBits t_newTold t_newDoings t_newThings t_opened (R.2.2.2.2.2.2.1) (R.2.2.2.2.2.2.2.1) (R.2.2.2.2.2.2.2.2.1) (R.2.2.2.2.2.2.2.2.2) t_wasConverted t_lastBits t_lastSum t_lastHeld t_lastLeft t_lastCode t_writtenLong t_codeMany t_acts t_done0 t_stoppedAt, ic E (r_t 0) 800 (R.2.1), ic E (r_t 27) 12 (R.2.2.2.2.1), ic E (r_t 25) 12 (R.2.2.1), ic E (r_t 28) 12 (R.2.2.2.2.2.1), zc E (r_t 26) 12 (R.2.2.2.1)]) := by
  refine hm_ct_i R (fun u qs => [oc8 h0 r_t t_base t_taped t_at t_faultPlace t_number t_newBits t_newTold t_newDoings t_newThings t_opened (u.2.2.2.2.2.1) (u.2.2.2.2.2.2.1) (u.2.2.2.2.2.2.2.1) (u.2.2.2.2.2.2.2.2) t_wasConverted t_lastBits t_lastSum t_lastHeld t_lastLeft t_lastCode t_writtenLong t_codeMany t_acts t_done0 t_stoppedAt, ic E (r_t 0) 800 (u.1), ic E (r_t 27) 12 (u.2.2.2.1), ic E (r_t 25) 12 (u.2.1), ic E (r_t 28) 12 (u.2.2.2.2.1), zc E (r_t 26) 12 (u.2.2.1)]) (by decide) (Nat.le_of_ble_eq_true rfl) (Or.inl rfl) ?_
  intro p e s m args below meth c A Q ls H locs hx hb hml hown X hA Y hex w hl hQ
  have hl : lv_has ls 7 [(0, .ref h0), (1, .int a1)] := hl
  unfold pf_X8_tightest at hf
  refine lv_aload_n hx hb dX8_tightest_0 rfl (lv_at hl 0 rfl) ?_
  refine lv_iconst (v := 0) hx hb dX8_tightest_1 (by decide) ?_
  obtain ⟨r1, hc2, hf⟩ := pf_bi_0 hf
  refine hm_aft_i (ws' := fun _ => [oc8 h0 r_t t_base t_taped t_at t_faultPlace t_number t_newBits t_newTold t_newDoings t_newThings t_opened t_sum t_heldAll t_onPaper t_turned t_wasConverted t_lastBits t_lastSum t_lastHeld t_lastLeft t_lastCode t_writtenLong t_codeMany t_acts t_done0 t_stoppedAt, ic E (r_t 0) 800 t_all, ic E (r_t 27) 12 t_askedOf, ic E (r_t 25) 12 t_decided, ic E (r_t 28) 12 t_heldBehind, zc E (r_t 26) 12 t_wasLate]) (hm_runV (rest := []) hx hb hml hown X hA Y w 0 (ci := 7) (T := TX8) (N := 55) rfl rfl mw_X8_get ml_X8_221 dX8_tightest_2 hm_ac0 [.int 0] rfl [0, 1] rfl rfl (ct_X8_get l E H.size h0 r_t t_base t_taped t_at t_faultPlace t_number t_newBits t_newTold t_newDoings t_newThings t_opened t_sum t_heldAll t_onPaper t_turned t_wasConverted t_lastBits t_lastSum t_lastHeld t_lastLeft t_lastCode t_writtenLong t_codeMany t_acts t_done0 t_stoppedAt t_all 0 (r1, ()) hc2) rfl hl.1 ⟨⟨rfl, rfl⟩, ⟨Nat.le_of_ble_eq_true rfl, Nat.le_of_ble_eq_true rfl⟩, ⟨Nat.le_of_ble_eq_true rfl, Nat.le_of_ble_eq_true rfl⟩, Nat.le_of_ble_eq_true rfl⟩) hA w [0, 1] [2, 3, 4, 5] [4, 5, 0, 1, 2, 3] rfl rfl (by decide) (fun _ => rfl) (fun _ H locs w => ?_)
  refine lv_istore_n (lv' := [(2, .int r1), (0, .ref h0), (1, .int a1)]) hx hb dX8_tightest_5 rfl hl (by decide) rfl (fun ls hl => ?_)
  refine lv_iload_n hx hb dX8_tightest_6 rfl (lv_at hl 0 rfl) ?_
  refine lv_if_eq (tgt := 19) hx hb dX8_tightest_7 (by decide) (fun c7 => ?_) (fun c7 => ?_)
  · have hf := pf_t c7 hf
    refine lv_bipush (v := (-2)) hx hb dX8_tightest_19 (by decide) ?_
    exact hQ _ _ _ _ _ (t_all, t_decided, t_wasLate, t_askedOf, t_heldBehind, t_sum, t_heldAll, t_onPaper, t_turned) (fun _ => 0) hf rfl w dX8_tightest_21
  · have hf := pf_e c7 hf
    refine lv_iload_n hx hb dX8_tightest_10 rfl (lv_at hl 2 rfl) ?_
    refine lv_iconst (v := 0) hx hb dX8_tightest_11 (by decide) ?_
    refine lv_iconst (v := 1) hx hb dX8_tightest_12 (by decide) ?_
    obtain ⟨r2, hc13, hf⟩ := pf_bi_0 hf
    refine hm_aft_i (ws' := fun _ => [oc8 h0 r_t t_base t_taped t_at t_faultPlace t_number t_newBits t_newTold t_newDoings t_newThings t_opened t_sum t_heldAll t_onPaper t_turned t_wasConverted t_lastBits t_lastSum t_lastHeld t_lastLeft t_lastCode t_writtenLong t_codeMany t_acts t_done0 t_stoppedAt, ic E (r_t 0) 800 t_all, ic E (r_t 27) 12 t_askedOf, ic E (r_t 25) 12 t_decided, ic E (r_t 28) 12 t_heldBehind, zc E (r_t 26) 12 t_wasLate]) (hm_runS (rest := []) hx hb hml hown X hA Y w mw_X8_isIn ml_X8_129 dX8_tightest_13 hm_ac0 [.int a1, .int 0, .int 1] rfl [] rfl rfl (ct_X8_isIn l E H.size a1 0 1 (r2, ()) hc13) rfl hl.1 ⟨⟨rfl, rfl⟩, ⟨Nat.le_of_ble_eq_true rfl, Nat.le_of_ble_eq_true rfl⟩, ⟨Nat.le_of_ble_eq_true rfl, Nat.le_of_ble_eq_true rfl⟩, Nat.le_of_ble_eq_true rfl⟩) hA w [] [0, 1, 2, 3, 4, 5] [0, 1, 2, 3, 4, 5] rfl rfl (by decide) (fun _ => rfl) (fun _ H locs w => ?_)
    refine lv_if_ne (tgt := 22) hx hb dX8_tightest_16 (by decide) (fun c16 => ?_) (fun c16 => ?_)
    · have hf := pf_e c16 hf
      refine lv_iconst (v := (-1)) hx hb dX8_tightest_22 (by decide) ?_
      refine lv_istore_n (lv' := [(3, .int (-1)), (2, .int r1), (0, .ref h0), (1, .int a1)]) hx hb dX8_tightest_23 rfl hl (by decide) rfl (fun ls hl => ?_)
      refine lv_iconst (v := 0) hx hb dX8_tightest_24 (by decide) ?_
      refine lv_istore (lv' := [(4, .int 0), (3, .int (-1)), (2, .int r1), (0, .ref h0), (1, .int a1)]) hx hb dX8_tightest_25 hl (by decide) rfl (fun ls hl => ?_)
      refine lv_iconst (v := 1) hx hb dX8_tightest_27 (by decide) ?_
      refine lv_istore (lv' := [(5, .int 1), (4, .int 0), (3, .int (-1)), (2, .int r1), (0, .ref h0), (1, .int a1)]) hx hb dX8_tightest_28 hl (by decide) rfl (fun ls hl => ?_)
      obtain ⟨J72, hJ72, hf⟩ := pf_jn hf
      have kJ72 : ∀ (x3 : Int32) (x4 : Int32) (f5 : Nat → Int32) (f6 : Nat → Int32) (f7 : Nat → Int32) (f8 : Nat → Int32) (f9 : Nat → Int32) (x10 : Int32) (x11 : Int32) (x12 : Int32) (x13 : Int32) (H : Heap) (locs : List Loc) (ls : Array Slot), J72 x3 x4 f5 f6 f7 f8 f9 x10 x11 x12 x13 = some R → hm_W E A s.heap [oc8 h0 r_t t_base t_taped t_at t_faultPlace t_number t_newBits t_newTold t_newDoings t_newThings t_opened x10 x11 x12 x13 t_wasConverted t_lastBits t_lastSum t_lastHeld t_lastLeft t_lastCode t_writtenLong t_codeMany t_acts t_done0 t_stoppedAt, ic E (r_t 0) 800 f5, ic E (r_t 27) 12 f8, ic E (r_t 25) 12 f6, ic E (r_t 28) 12 f9, zc E (r_t 26) 12 f7] H locs → lv_has ls 7 [(1, .int a1), (3, .int x3), (4, .int x4)] → W p l e (hm_rr 7 162 0 0) s m args below meth c H locs 0 0 Q (F0 m 72 ls []) := by
        intro x3 x4 f5 f6 f7 f8 f9 x10 x11 x12 x13 H locs ls hf w hl
        have hf := pf_j11 hJ72 hf
        refine lv_iload_n hx hb dX8_tightest_72 rfl (lv_at hl 0 rfl) ?_
        refine lv_if_ne (tgt := 80) hx hb dX8_tightest_73 (by decide) (fun c73 => ?_) (fun c73 => ?_)
        · have hf := pf_e c73 hf
          refine lv_iload hx hb dX8_tightest_80 (lv_at hl 2 rfl) ?_
          exact hQ _ _ _ _ _ (f5, f6, f7, f8, f9, x10, x11, x12, x13) (fun _ => 0) hf rfl w dX8_tightest_82
        · have hf := pf_t c73 hf
          refine lv_iload_n hx hb dX8_tightest_76 rfl (lv_at hl 1 rfl) ?_
          refine lv_goto (tgt := 82) hx hb dX8_tightest_77 (by decide) ?_
          exact hQ _ _ _ _ _ (f5, f6, f7, f8, f9, x10, x11, x12, x13) (fun _ => 0) hf rfl w dX8_tightest_82
      have klp_X8_tightest_30 : ∀ (n : Nat) (x14 : Int32) (x15 : Int32) (x16 : Int32) (f17 : Nat → Int32) (f18 : Nat → Int32) (f19 : Nat → Int32) (f20 : Nat → Int32) (f21 : Nat → Int32) (x22 : Int32) (x23 : Int32) (x24 : Int32) (x25 : Int32) (H : Heap) (locs : List Loc) (ls : Array Slot), lp_X8_tightest_30 t_base r1 J72 n x14 x15 x16 f17 f18 f19 f20 f21 x22 x23 x24 x25 = some R → hm_W E A s.heap [oc8 h0 r_t t_base t_taped t_at t_faultPlace t_number t_newBits t_newTold t_newDoings t_newThings t_opened x22 x23 x24 x25 t_wasConverted t_lastBits t_lastSum t_lastHeld t_lastLeft t_lastCode t_writtenLong t_codeMany t_acts t_done0 t_stoppedAt, ic E (r_t 0) 800 f17, ic E (r_t 27) 12 f20, ic E (r_t 25) 12 f18, ic E (r_t 28) 12 f21, zc E (r_t 26) 12 f19] H locs → lv_has ls 7 [(0, .ref h0), (1, .int a1), (2, .int r1), (3, .int x14), (4, .int x15), (5, .int x16)] → W p l e (hm_rr 7 162 0 0) s m args below meth c H locs 0 0 Q (F0 m 30 ls []) := by
        intro n
        induction n with
        | zero =>
          intro x14 x15 x16 f17 f18 f19 f20 f21 x22 x23 x24 x25 H locs ls hf w hl
          exact pf_no hf
        | succ n ih30 =>
          intro x14 x15 x16 f17 f18 f19 f20 f21 x22 x23 x24 x25 H locs ls hf w hl
          rw [lp_X8_tightest_30] at hf
          refine lv_iload hx hb dX8_tightest_30 (lv_at hl 5 rfl) ?_
          refine lv_iload_n hx hb dX8_tightest_32 rfl (lv_at hl 2 rfl) ?_
          refine lv_icmp_ge (tgt := 72) hx hb dX8_tightest_33 (by decide) (fun c33 => ?_) (fun c33 => ?_)
          · have hf := pf_t c33 hf
            exact kJ72 _ _ _ _ _ _ _ _ _ _ _ _ _ _ hf w (lv_sub hl [1, 3, 4] rfl)
          · have hf := pf_e c33 hf
            refine lv_aload_n hx hb dX8_tightest_36 rfl (lv_at hl 0 rfl) ?_
            refine lv_iload hx hb dX8_tightest_37 (lv_at hl 5 rfl) ?_
            obtain ⟨r26, f27, f28, f29, f30, f31, x32, x33, x34, x35, hc39, hf⟩ := pf_bi_9 hf
            refine hm_aft_i (ws' := fun _ => [oc8 h0 r_t t_base t_taped t_at t_faultPlace t_number t_newBits t_newTold t_newDoings t_newThings t_opened x32 x33 x34 x35 t_wasConverted t_lastBits t_lastSum t_lastHeld t_lastLeft t_lastCode t_writtenLong t_codeMany t_acts t_done0 t_stoppedAt, ic E (r_t 0) 800 f27, ic E (r_t 27) 12 f30, ic E (r_t 25) 12 f28, ic E (r_t 28) 12 f31, zc E (r_t 26) 12 f29]) (hm_runV (rest := []) hx hb hml hown X hA Y w 0 (ci := 7) (T := TX8) (N := 55) rfl rfl mw_X8_slackOf ml_X8_314 dX8_tightest_39 hm_ac0 [.int x16] rfl [0, 1, 2, 3, 4, 5] rfl rfl (ct_X8_slackOf l E H.size h0 r_t t_base t_taped t_at t_faultPlace t_number t_newBits t_newTold t_newDoings t_newThings t_opened x22 x23 x24 x25 t_wasConverted t_lastBits t_lastSum t_lastHeld t_lastLeft t_lastCode t_writtenLong t_codeMany t_acts t_done0 t_stoppedAt f17 f20 f18 f21 f19 x16 (r26, f27, f28, f29, f30, f31, x32, x33, x34, x35) hc39) rfl hl.1 ⟨⟨rfl, rfl⟩, ⟨Nat.le_of_ble_eq_true rfl, Nat.le_of_ble_eq_true rfl⟩, ⟨Nat.le_of_ble_eq_true rfl, Nat.le_of_ble_eq_true rfl⟩, Nat.le_of_ble_eq_true rfl⟩) hA w [0, 1, 2, 3, 4, 5] [] [0, 1, 2, 3, 4, 5] rfl rfl (by decide) (fun _ => rfl) (fun _ H locs w => ?_)
            refine lv_istore (lv' := [(6, .int r26), (0, .ref h0), (1, .int a1), (2, .int r1), (3, .int x14), (4, .int x15), (5, .int x16)]) hx hb dX8_tightest_42 hl (by decide) rfl (fun ls hl => ?_)
            refine lv_iload_n hx hb dX8_tightest_44 rfl (lv_at hl 4 rfl) ?_
            refine lv_iconst (v := (-1)) hx hb dX8_tightest_45 (by decide) ?_
            refine lv_icmp_eq (tgt := 59) hx hb dX8_tightest_46 (by decide) (fun c46 => ?_) (fun c46 => ?_)
            · have hf := pf_t c46 hf
              refine lv_iload hx hb dX8_tightest_59 (lv_at hl 6 rfl) ?_
              refine lv_istore_n (lv' := [(3, .int x16), (6, .int r26), (0, .ref h0), (1, .int a1), (2, .int r1), (4, .int x15), (5, .int x16)]) hx hb dX8_tightest_61 rfl hl (by decide) rfl (fun ls hl => ?_)
              refine lv_iload hx hb dX8_tightest_62 (lv_at hl 1 rfl) ?_
              refine lv_istore (lv' := [(4, .int r26), (3, .int x16), (6, .int r26), (0, .ref h0), (1, .int a1), (2, .int r1), (5, .int x16)]) hx hb dX8_tightest_64 hl (by decide) rfl (fun ls hl => ?_)
              obtain ⟨x36, ex36⟩ : ∃ y : Int32, y = (x16 + 1) := ⟨_, rfl⟩
              have hf := pf_nm ex36 hf
              refine lv_iinc (v := x36) (lv' := [(5, .int x36), (4, .int r26), (3, .int x16), (6, .int r26), (0, .ref h0), (1, .int a1), (2, .int r1)]) hx hb dX8_tightest_66 hl (k := 6) rfl (by rw [ex36]; rfl) (by decide) rfl (fun ls hl => ?_)
              refine lv_goto (tgt := 30) hx hb dX8_tightest_69 (by decide) ?_
              exact ih30 _ _ _ _ _ _ _ _ _ _ _ _ _ _ _ hf w (lv_sub hl [4, 5, 6, 2, 1, 0] rfl)
            · have hf := pf_e c46 hf
              refine lv_iload hx hb dX8_tightest_49 (lv_at hl 0 rfl) ?_
              refine lv_iload hx hb dX8_tightest_51 (lv_at hl 5 rfl) ?_
              refine lv_icmp_lt (tgt := 59) hx hb dX8_tightest_53 (by decide) (fun c53 => ?_) (fun c53 => ?_)
              · have hf := pf_t c53 hf
                refine lv_iload hx hb dX8_tightest_59 (lv_at hl 6 rfl) ?_
                refine lv_istore_n (lv' := [(3, .int x16), (6, .int r26), (0, .ref h0), (1, .int a1), (2, .int r1), (4, .int x15), (5, .int x16)]) hx hb dX8_tightest_61 rfl hl (by decide) rfl (fun ls hl => ?_)
                refine lv_iload hx hb dX8_tightest_62 (lv_at hl 1 rfl) ?_
                refine lv_istore (lv' := [(4, .int r26), (3, .int x16), (6, .int r26), (0, .ref h0), (1, .int a1), (2, .int r1), (5, .int x16)]) hx hb dX8_tightest_64 hl (by decide) rfl (fun ls hl => ?_)
                obtain ⟨x37, ex37⟩ : ∃ y : Int32, y = (x16 + 1) := ⟨_, rfl⟩
                have hf := pf_nm ex37 hf
                refine lv_iinc (v := x37) (lv' := [(5, .int x37), (4, .int r26), (3, .int x16), (6, .int r26), (0, .ref h0), (1, .int a1), (2, .int r1)]) hx hb dX8_tightest_66 hl (k := 6) rfl (by rw [ex37]; rfl) (by decide) rfl (fun ls hl => ?_)
                refine lv_goto (tgt := 30) hx hb dX8_tightest_69 (by decide) ?_
                exact ih30 _ _ _ _ _ _ _ _ _ _ _ _ _ _ _ hf w (lv_sub hl [4, 5, 6, 2, 1, 0] rfl)
              · have hf := pf_e c53 hf
                refine lv_goto (tgt := 66) hx hb dX8_tightest_56 (by decide) ?_
                obtain ⟨x38, ex38⟩ : ∃ y : Int32, y = (x16 + 1) := ⟨_, rfl⟩
                have hf := pf_nm ex38 hf
                refine lv_iinc (v := x38) (lv' := [(5, .int x38), (6, .int r26), (0, .ref h0), (1, .int a1), (2, .int r1), (3, .int x14), (4, .int x15)]) hx hb dX8_tightest_66 hl (k := 6) rfl (by rw [ex38]; rfl) (by decide) rfl (fun ls hl => ?_)
                refine lv_goto (tgt := 30) hx hb dX8_tightest_69 (by decide) ?_
                exact ih30 _ _ _ _ _ _ _ _ _ _ _ _ _ _ _ hf w (lv_sub hl [2, 3, 4, 5, 6, 0] rfl)
      exact klp_X8_tightest_30 FU _ _ _ _ _ _ _ _ _ _ _ _ _ _ _ hf w (lv_sub hl [4, 5, 3, 2, 1, 0] rfl)
    · have hf := pf_t c16 hf
      refine lv_bipush (v := (-2)) hx hb dX8_tightest_19 (by decide) ?_
      exact hQ _ _ _ _ _ (t_all, t_decided, t_wasLate, t_askedOf, t_heldBehind, t_sum, t_heldAll, t_onPaper, t_turned) (fun _ => 0) hf rfl w dX8_tightest_21
set_option maxHeartbeats 8000000 in
set_option maxRecDepth 100000 in
theorem ct_X8_isRow (l : Launch) (E : hm_E) (sz : Nat) (a0 : Int32) (a1 : Int32) (a2 : Int32) (R : Int32 × Unit) (hf : pf_X8_isRow a0 a1 a2 = some R) : hm_Mi l E yX8_isRow cX8_isRow 3 .boolean [] (hm_rr 0 0 0 0) [.int a0, .int a1, .int a2] sz [] R.1 (fun _ => []) := by
  refine hm_ct_i R (fun u qs => []) (by decide) (Nat.le_of_ble_eq_true rfl) (Or.inr rfl) ?_
  intro p e s m args below meth c A Q ls H locs hx hb hml hown X hA Y hex w hl hQ
  have hl : lv_has ls 3 [(0, .int a0), (1, .int a1), (2, .int a2)] := hl
  unfold pf_X8_isRow at hf
  refine lv_iload_n hx hb dX8_isRow_0 rfl (lv_at hl 0 rfl) ?_
  refine lv_ldc (v := (-100000)) hx hb hown (X.use ck_X8_250 rfl) dX8_isRow_1 ?_
  refine lv_icmp_lt (tgt := 38) hx hb dX8_isRow_3 (by decide) (fun c3 => ?_) (fun c3 => ?_)
  · have hf := pf_t c3 hf
    refine lv_iconst (v := 0) hx hb dX8_isRow_38 (by decide) ?_
    exact hQ _ _ _ _ _ () (fun _ => 0) hf rfl w dX8_isRow_39
  · have hf := pf_e c3 hf
    refine lv_iload_n hx hb dX8_isRow_6 rfl (lv_at hl 1 rfl) ?_
    refine lv_ldcw (v := 100000) hx hb hown (X.use ck_X8_279 rfl) dX8_isRow_7 ?_
    refine lv_icmp_gt (tgt := 38) hx hb dX8_isRow_10 (by decide) (fun c10 => ?_) (fun c10 => ?_)
    · have hf := pf_t c10 hf
      refine lv_iconst (v := 0) hx hb dX8_isRow_38 (by decide) ?_
      exact hQ _ _ _ _ _ () (fun _ => 0) hf rfl w dX8_isRow_39
    · have hf := pf_e c10 hf
      refine lv_iload_n hx hb dX8_isRow_13 rfl (lv_at hl 1 rfl) ?_
      refine lv_iload_n hx hb dX8_isRow_14 rfl (lv_at hl 0 rfl) ?_
      refine lv_icmp_lt (tgt := 38) hx hb dX8_isRow_15 (by decide) (fun c15 => ?_) (fun c15 => ?_)
      · have hf := pf_t c15 hf
        refine lv_iconst (v := 0) hx hb dX8_isRow_38 (by decide) ?_
        exact hQ _ _ _ _ _ () (fun _ => 0) hf rfl w dX8_isRow_39
      · have hf := pf_e c15 hf
        refine lv_iload_n hx hb dX8_isRow_18 rfl (lv_at hl 2 rfl) ?_
        refine lv_iconst (v := 1) hx hb dX8_isRow_19 (by decide) ?_
        refine lv_icmp_lt (tgt := 38) hx hb dX8_isRow_20 (by decide) (fun c20 => ?_) (fun c20 => ?_)
        · have hf := pf_t c20 hf
          refine lv_iconst (v := 0) hx hb dX8_isRow_38 (by decide) ?_
          exact hQ _ _ _ _ _ () (fun _ => 0) hf rfl w dX8_isRow_39
        · have hf := pf_e c20 hf
          refine lv_iload_n hx hb dX8_isRow_23 rfl (lv_at hl 1 rfl) ?_
          refine lv_iload_n hx hb dX8_isRow_24 rfl (lv_at hl 0 rfl) ?_
          refine lv_isub hx hb dX8_isRow_25 ?_
          refine lv_iload_n hx hb dX8_isRow_26 rfl (lv_at hl 2 rfl) ?_
          obtain ⟨g27, hf⟩ := pf_ckD hf
          refine lv_idiv hx hb dX8_isRow_27 g27 ?_
          refine lv_sipush (v := 2000) hx hb dX8_isRow_28 (by decide) ?_
          refine lv_icmp_ge (tgt := 38) hx hb dX8_isRow_31 (by decide) (fun c31 => ?_) (fun c31 => ?_)
          · have hf := pf_t c31 hf
            refine lv_iconst (v := 0) hx hb dX8_isRow_38 (by decide) ?_
            exact hQ _ _ _ _ _ () (fun _ => 0) hf rfl w dX8_isRow_39
          · have hf := pf_e c31 hf
            refine lv_iconst (v := 1) hx hb dX8_isRow_34 (by decide) ?_
            refine lv_goto (tgt := 39) hx hb dX8_isRow_35 (by decide) ?_
            exact hQ _ _ _ _ _ () (fun _ => 0) hf rfl w dX8_isRow_39
set_option maxHeartbeats 8000000 in
set_option maxRecDepth 100000 in
theorem ct_X8_sortBy (l : Launch) (E : hm_E) (sz : Nat) (h0 : Nat) (r_t : Nat → Nat) (t_base t_taped t_at t_faultPlace t_number t_newBits t_newTold t_newDoings t_newThings t_opened t_sum t_heldAll t_onPaper t_turned t_wasConverted t_lastBits t_lastSum t_lastHeld t_lastLeft t_lastCode t_writtenLong t_codeMany t_acts t_done0 t_stoppedAt : Int32) (t_sorted : Nat → Int32) (a1 : Int32) (R : (Nat → Int32)) (hf : pf_X8_sortBy a1 t_sorted t_codeMany = some R) : hm_Mv l E yX8_sortBy cX8_sortBy 5 [] (hm_rr 0 0 0 0) [.ref h0, .int a1] sz [oc8 h0 r_t t_base t_taped t_at t_faultPlace t_number t_newBits t_newTold t_newDoings t_newThings t_opened t_sum t_heldAll t_onPaper t_turned t_wasConverted t_lastBits t_lastSum t_lastHeld t_lastLeft t_lastCode t_writtenLong t_codeMany t_acts t_done0 t_stoppedAt, ic E (r_t 43) 2000 t_sorted] (fun _ => [oc8 h0 r_t t_base t_taped t_at t_faultPlace t_number t_newBits t_newTold t_newDoings t_newThings t_opened t_sum t_heldAll t_onPaper t_turned t_wasConverted t_lastBits t_lastSum t_lastHeld t_lastLeft t_lastCode t_writtenLong t_codeMany t_acts t_done0 t_stoppedAt, ic E (r_t 43) 2000 R]) := by
  refine hm_ct_v R (fun u _ => [oc8 h0 r_t t_base t_taped t_at t_faultPlace t_number t_newBits t_newTold t_newDoings t_newThings t_opened t_sum t_heldAll t_onPaper t_turned t_wasConverted t_lastBits t_lastSum t_lastHeld t_lastLeft t_lastCode t_writtenLong t_codeMany t_acts t_done0 t_stoppedAt, ic E (r_t 43) 2000 u]) (by decide) (Nat.le_of_ble_eq_true rfl) ?_
  intro p e s m args below meth c A Q ls H locs hx hb hml hown X hA Y hex hin w hl hQ
  have hl : lv_has ls 5 [(0, .ref h0), (1, .int a1)] := hl
  unfold pf_X8_sortBy at hf
  refine lv_iload_n hx hb dX8_sortBy_0 rfl (lv_at hl 1 rfl) ?_
  refine lv_istore_n (lv' := [(2, .int a1), (0, .ref h0), (1, .int a1)]) hx hb dX8_sortBy_1 rfl hl (by decide) rfl (fun ls hl => ?_)
  have klp_X8_sortBy_2 : ∀ (n : Nat) (x1 : Int32) (f2 : Nat → Int32) (H : Heap) (locs : List Loc) (ls : Array Slot), lp_X8_sortBy_2 a1 t_codeMany n x1 f2 = some R → hm_W E A s.heap [oc8 h0 r_t t_base t_taped t_at t_faultPlace t_number t_newBits t_newTold t_newDoings t_newThings t_opened t_sum t_heldAll t_onPaper t_turned t_wasConverted t_lastBits t_lastSum t_lastHeld t_lastLeft t_lastCode t_writtenLong t_codeMany t_acts t_done0 t_stoppedAt, ic E (r_t 43) 2000 f2] H locs → lv_has ls 5 [(0, .ref h0), (1, .int a1), (2, .int x1)] → W p l e (hm_rr 0 0 0 0) s m args below meth c H locs 0 0 Q (F0 m 2 ls []) := by
    intro n
    induction n with
    | zero =>
      intro x1 f2 H locs ls hf w hl
      exact pf_no hf
    | succ n ih2 =>
      intro x1 f2 H locs ls hf w hl
      rw [lp_X8_sortBy_2] at hf
      refine lv_iload_n hx hb dX8_sortBy_2 rfl (lv_at hl 2 rfl) ?_
      refine lv_aload_n hx hb dX8_sortBy_3 rfl (lv_at hl 0 rfl) ?_
      refine hm_get cb_X8 hx hb hown X w 0 44 fl_X8_317 dX8_sortBy_4 rfl (by decide) rfl ?_
      refine lv_icmp_ge (tgt := 78) hx hb dX8_sortBy_7 (by decide) (fun c7 => ?_) (fun c7 => ?_)
      · have hf := pf_t c7 hf
        exact hQ _ _ _ _ f2 (fun _ => 0) hf w dX8_sortBy_78
      · have hf := pf_e c7 hf
        refine lv_aload_n hx hb dX8_sortBy_10 rfl (lv_at hl 0 rfl) ?_
        refine hm_get cb_X8 hx hb hown X w 0 43 fl_X8_92 dX8_sortBy_11 rfl (by decide) rfl ?_
        refine lv_iload_n hx hb dX8_sortBy_14 rfl (lv_at hl 2 rfl) ?_
        obtain ⟨g15, hf⟩ := pf_ckI hf
        refine hm_iald hx hb X w 1 dX8_sortBy_15 rfl g15 ?_
        refine lv_topi (fun x3 ex3 => ?_)
        have hf := pf_nm ex3 hf
        refine lv_istore_n (lv' := [(3, .int x3), (0, .ref h0), (1, .int a1), (2, .int x1)]) hx hb dX8_sortBy_16 rfl hl (by decide) rfl (fun ls hl => ?_)
        refine lv_iload_n hx hb dX8_sortBy_17 rfl (lv_at hl 3 rfl) ?_
        refine lv_istore (lv' := [(4, .int x1), (3, .int x3), (0, .ref h0), (1, .int a1), (2, .int x1)]) hx hb dX8_sortBy_18 hl (by decide) rfl (fun ls hl => ?_)
        obtain ⟨J64, hJ64, hf⟩ := pf_jn hf
        have kJ64 : ∀ (x4 : Int32) (f5 : Nat → Int32) (H : Heap) (locs : List Loc) (ls : Array Slot), J64 x4 f5 = some R → hm_W E A s.heap [oc8 h0 r_t t_base t_taped t_at t_faultPlace t_number t_newBits t_newTold t_newDoings t_newThings t_opened t_sum t_heldAll t_onPaper t_turned t_wasConverted t_lastBits t_lastSum t_lastHeld t_lastLeft t_lastCode t_writtenLong t_codeMany t_acts t_done0 t_stoppedAt, ic E (r_t 43) 2000 f5] H locs → lv_has ls 5 [(0, .ref h0), (1, .int a1), (2, .int x1), (3, .int x3), (4, .int x4)] → W p l e (hm_rr 0 0 0 0) s m args below meth c H locs 0 0 Q (F0 m 64 ls []) := by
          intro x4 f5 H locs ls hf w hl
          have hf := pf_j2 hJ64 hf
          refine lv_aload_n hx hb dX8_sortBy_64 rfl (lv_at hl 0 rfl) ?_
          refine hm_get cb_X8 hx hb hown X w 0 43 fl_X8_92 dX8_sortBy_65 rfl (by decide) rfl ?_
          refine lv_iload hx hb dX8_sortBy_68 (lv_at hl 4 rfl) ?_
          refine lv_iload_n hx hb dX8_sortBy_70 rfl (lv_at hl 3 rfl) ?_
          obtain ⟨g71, hf⟩ := pf_ckI hf
          refine hm_iast (ws' := [oc8 h0 r_t t_base t_taped t_at t_faultPlace t_number t_newBits t_newTold t_newDoings t_newThings t_opened t_sum t_heldAll t_onPaper t_turned t_wasConverted t_lastBits t_lastSum t_lastHeld t_lastLeft t_lastCode t_writtenLong t_codeMany t_acts t_done0 t_stoppedAt, ic E (r_t 43) 2000 (upd f5 x4.toNatClampNeg x3)]) hx hb X w 1 dX8_sortBy_71 rfl g71 rfl (fun H locs w => ?_)
          obtain ⟨x6, ex6⟩ : ∃ y : Int32, y = (x1 + 1) := ⟨_, rfl⟩
          have hf := pf_nm ex6 hf
          refine lv_iinc (v := x6) (lv' := [(2, .int x6), (0, .ref h0), (1, .int a1), (3, .int x3), (4, .int x4)]) hx hb dX8_sortBy_72 hl (k := 2) rfl (by rw [ex6]; rfl) (by decide) rfl (fun ls hl => ?_)
          refine lv_goto (tgt := 2) hx hb dX8_sortBy_75 (by decide) ?_
          exact ih2 _ _ _ _ _ hf w (lv_sub hl [1, 2, 0] rfl)
        have klp_X8_sortBy_20 : ∀ (n : Nat) (x7 : Int32) (f8 : Nat → Int32) (H : Heap) (locs : List Loc) (ls : Array Slot), lp_X8_sortBy_20 a1 x3 J64 n x7 f8 = some R → hm_W E A s.heap [oc8 h0 r_t t_base t_taped t_at t_faultPlace t_number t_newBits t_newTold t_newDoings t_newThings t_opened t_sum t_heldAll t_onPaper t_turned t_wasConverted t_lastBits t_lastSum t_lastHeld t_lastLeft t_lastCode t_writtenLong t_codeMany t_acts t_done0 t_stoppedAt, ic E (r_t 43) 2000 f8] H locs → lv_has ls 5 [(0, .ref h0), (1, .int a1), (2, .int x1), (3, .int x3), (4, .int x7)] → W p l e (hm_rr 0 0 0 0) s m args below meth c H locs 0 0 Q (F0 m 20 ls []) := by
          intro n
          induction n with
          | zero =>
            intro x7 f8 H locs ls hf w hl
            exact pf_no hf
          | succ n ih20 =>
            intro x7 f8 H locs ls hf w hl
            rw [lp_X8_sortBy_20] at hf
            refine lv_iload hx hb dX8_sortBy_20 (lv_at hl 4 rfl) ?_
            refine lv_iload_n hx hb dX8_sortBy_22 rfl (lv_at hl 1 rfl) ?_
            refine lv_icmp_lt (tgt := 64) hx hb dX8_sortBy_23 (by decide) (fun c23 => ?_) (fun c23 => ?_)
            · have hf := pf_t c23 hf
              exact kJ64 _ _ _ _ _ hf w (lv_sub hl [0, 1, 2, 3, 4] rfl)
            · have hf := pf_e c23 hf
              refine lv_aload_n hx hb dX8_sortBy_26 rfl (lv_at hl 0 rfl) ?_
              refine hm_get cb_X8 hx hb hown X w 0 43 fl_X8_92 dX8_sortBy_27 rfl (by decide) rfl ?_
              refine lv_iload hx hb dX8_sortBy_30 (lv_at hl 4 rfl) ?_
              refine lv_iload_n hx hb dX8_sortBy_32 rfl (lv_at hl 1 rfl) ?_
              refine lv_isub hx hb dX8_sortBy_33 ?_
              obtain ⟨g34, hf⟩ := pf_ckI hf
              refine hm_iald hx hb X w 1 dX8_sortBy_34 rfl g34 ?_
              refine lv_iload_n hx hb dX8_sortBy_35 rfl (lv_at hl 3 rfl) ?_
              refine lv_icmp_le (tgt := 64) hx hb dX8_sortBy_36 (by decide) (fun c36 => ?_) (fun c36 => ?_)
              · have hf := pf_t c36 hf
                exact kJ64 _ _ _ _ _ hf w (lv_sub hl [0, 1, 2, 3, 4] rfl)
              · have hf := pf_e c36 hf
                refine lv_aload_n hx hb dX8_sortBy_39 rfl (lv_at hl 0 rfl) ?_
                refine hm_get cb_X8 hx hb hown X w 0 43 fl_X8_92 dX8_sortBy_40 rfl (by decide) rfl ?_
                refine lv_iload hx hb dX8_sortBy_43 (lv_at hl 4 rfl) ?_
                refine lv_aload_n hx hb dX8_sortBy_45 rfl (lv_at hl 0 rfl) ?_
                refine hm_get cb_X8 hx hb hown X w 0 43 fl_X8_92 dX8_sortBy_46 rfl (by decide) rfl ?_
                refine lv_iload hx hb dX8_sortBy_49 (lv_at hl 4 rfl) ?_
                refine lv_iload_n hx hb dX8_sortBy_51 rfl (lv_at hl 1 rfl) ?_
                refine lv_isub hx hb dX8_sortBy_52 ?_
                obtain ⟨g53, hf⟩ := pf_ckI hf
                refine hm_iald hx hb X w 1 dX8_sortBy_53 rfl g53 ?_
                refine lv_topi (fun x9 ex9 => ?_)
                have hf := pf_nm ex9 hf
                obtain ⟨g54, hf⟩ := pf_ckI hf
                refine hm_iast (ws' := [oc8 h0 r_t t_base t_taped t_at t_faultPlace t_number t_newBits t_newTold t_newDoings t_newThings t_opened t_sum t_heldAll t_onPaper t_turned t_wasConverted t_lastBits t_lastSum t_lastHeld t_lastLeft t_lastCode t_writtenLong t_codeMany t_acts t_done0 t_stoppedAt, ic E (r_t 43) 2000 (upd f8 x7.toNatClampNeg x9)]) hx hb X w 1 dX8_sortBy_54 rfl g54 rfl (fun H locs w => ?_)
                refine lv_iload hx hb dX8_sortBy_55 (lv_at hl 4 rfl) ?_
                refine lv_iload_n hx hb dX8_sortBy_57 rfl (lv_at hl 1 rfl) ?_
                refine lv_isub hx hb dX8_sortBy_58 ?_
                refine lv_topi (fun x10 ex10 => ?_)
                have hf := pf_nm ex10 hf
                refine lv_istore (lv' := [(4, .int x10), (0, .ref h0), (1, .int a1), (2, .int x1), (3, .int x3)]) hx hb dX8_sortBy_59 hl (by decide) rfl (fun ls hl => ?_)
                refine lv_goto (tgt := 20) hx hb dX8_sortBy_61 (by decide) ?_
                exact ih20 _ _ _ _ _ hf w (lv_sub hl [1, 2, 3, 4, 0] rfl)
        exact klp_X8_sortBy_20 FU _ _ _ _ _ hf w (lv_sub hl [2, 3, 4, 1, 0] rfl)
  exact klp_X8_sortBy_2 FU _ _ _ _ _ hf w (lv_sub hl [1, 2, 0] rfl)
set_option maxHeartbeats 8000000 in
set_option maxRecDepth 100000 in
theorem ct_X8_layCodes (l : Launch) (E : hm_E) (sz : Nat) (h0 : Nat) (r_t : Nat → Nat) (t_base t_taped t_at t_faultPlace t_number t_newBits t_newTold t_newDoings t_newThings t_opened t_sum t_heldAll t_onPaper t_turned t_wasConverted t_lastBits t_lastSum t_lastHeld t_lastLeft t_lastCode t_writtenLong t_codeMany t_acts t_done0 t_stoppedAt : Int32) (t_all : Nat → Int32) (t_askedOf : Nat → Int32) (t_codes : Nat → Int32) (t_decided : Nat → Int32) (t_heldBehind : Nat → Int32) (t_sorted : Nat → Int32) (t_wasLate : Nat → Int32) (a1 : Int32) (a2 : Int32) (a3 : Int32) (R : (Nat → Int32) × (Nat → Int32) × (Nat → Int32) × (Nat → Int32) × (Nat → Int32) × Int32 × Int32 × Int32 × (Nat → Int32) × (Nat → Int32) × Int32) (hf : pf_X8_layCodes a1 a2 a3 t_all t_base t_decided t_wasLate t_askedOf t_heldBehind t_sum t_heldAll t_onPaper t_turned t_codes t_sorted = some R) : hm_Mv l E yX8_layCodes cX8_layCodes 5 [] (hm_rr 5 115 0 0) [.ref h0, .int a1, .int a2, .int a3] sz [oc8 h0 r_t t_base t_taped t_at t_faultPlace t_number t_newBits t_newTold t_newDoings t_newThings t_opened t_sum t_heldAll t_onPaper t_turned t_wasConverted t_lastBits t_lastSum t_lastHeld t_lastLeft t_lastCode t_writtenLong t_codeMany t_acts t_done0 t_stoppedAt, ic E (r_t 0) 800 t_all, ic E (r_t 27) 12 t_askedOf, ic E (r_t 42) 2000 t_codes, ic E (r_t 25) 12 t_decided, ic E (r_t 28) 12 t_heldBehind, ic E (r_t 43) 2000 t_sorted, zc E (r_t 26) 12 t_wasLate] (fun _ => [oc8 h0 r_t t_base t_taped t_at t_faultPlace t_number t_newBits t_newTold t_newDoings t_newThings t_opened (R.2.2.2.2.2.1) (R.2.2.2.2.2.2.1) (R.2.2.2.2.2.2.2.1) t_turned t_wasConverted t_lastBits t_lastSum t_lastHeld t_lastLeft t_lastCode t_writtenLong (R.2.2.2.2.2.2.2.2.2.2) t_acts t_done0 t_stoppedAt, ic E (r_t 0) 800 (R.1), ic E (r_t 27) 12 (R.2.2.2.1), ic E (r_t 42) 2000 (R.2.2.2.2.2.2.2.2.1), ic E (r_t 25) 12 (R.2.1), ic E (r_t 28) 12 (R.2.2.2.2.1), ic E (r_t 43) 2000 (R.2.2.2.2.2.2.2.2.2.1), zc E (r_t 26) 12 (R.2.2.1)]) := by
  refine hm_ct_v R (fun u _ => [oc8 h0 r_t t_base t_taped t_at t_faultPlace t_number t_newBits t_newTold t_newDoings t_newThings t_opened (u.2.2.2.2.2.1) (u.2.2.2.2.2.2.1) (u.2.2.2.2.2.2.2.1) t_turned t_wasConverted t_lastBits t_lastSum t_lastHeld t_lastLeft t_lastCode t_writtenLong (u.2.2.2.2.2.2.2.2.2.2) t_acts t_done0 t_stoppedAt, ic E (r_t 0) 800 (u.1), ic E (r_t 27) 12 (u.2.2.2.1), ic E (r_t 42) 2000 (u.2.2.2.2.2.2.2.2.1), ic E (r_t 25) 12 (u.2.1), ic E (r_t 28) 12 (u.2.2.2.2.1), ic E (r_t 43) 2000 (u.2.2.2.2.2.2.2.2.2.1), zc E (r_t 26) 12 (u.2.2.1)]) (by decide) (Nat.le_of_ble_eq_true rfl) ?_
  intro p e s m args below meth c A Q ls H locs hx hb hml hown X hA Y hex hin w hl hQ
  have hl : lv_has ls 5 [(0, .ref h0), (1, .int a1), (2, .int a2), (3, .int a3)] := hl
  unfold pf_X8_layCodes at hf
  refine lv_aload_n hx hb dX8_layCodes_0 rfl (lv_at hl 0 rfl) ?_
  refine lv_iload_n hx hb dX8_layCodes_1 rfl (lv_at hl 2 rfl) ?_
  refine lv_iload_n hx hb dX8_layCodes_2 rfl (lv_at hl 1 rfl) ?_
  refine lv_isub hx hb dX8_layCodes_3 ?_
  refine lv_iload_n hx hb dX8_layCodes_4 rfl (lv_at hl 3 rfl) ?_
  obtain ⟨g5, hf⟩ := pf_ckD hf
  refine lv_idiv hx hb dX8_layCodes_5 g5 ?_
  refine lv_iconst (v := 1) hx hb dX8_layCodes_6 (by decide) ?_
  refine lv_iadd hx hb dX8_layCodes_7 ?_
  refine lv_topi (fun x1 ex1 => ?_)
  have hf := pf_nm ex1 hf
  refine hm_put (ws' := [oc8 h0 r_t t_base t_taped t_at t_faultPlace t_number t_newBits t_newTold t_newDoings t_newThings t_opened t_sum t_heldAll t_onPaper t_turned t_wasConverted t_lastBits t_lastSum t_lastHeld t_lastLeft t_lastCode t_writtenLong x1 t_acts t_done0 t_stoppedAt, ic E (r_t 0) 800 t_all, ic E (r_t 27) 12 t_askedOf, ic E (r_t 42) 2000 t_codes, ic E (r_t 25) 12 t_decided, ic E (r_t 28) 12 t_heldBehind, ic E (r_t 43) 2000 t_sorted, zc E (r_t 26) 12 t_wasLate]) cb_X8 hx hb hown X w 0 44 fl_X8_317 dX8_layCodes_8 rfl (by decide) (Nat.le_of_ble_eq_true rfl) rfl rfl rfl rfl (fun H locs w => ?_)
  refine lv_iconst (v := 0) hx hb dX8_layCodes_11 (by decide) ?_
  refine lv_istore (lv' := [(4, .int 0), (0, .ref h0), (1, .int a1), (2, .int a2), (3, .int a3)]) hx hb dX8_layCodes_12 hl (by decide) rfl (fun ls hl => ?_)
  obtain ⟨J60, hJ60, hf⟩ := pf_jn hf
  have kJ60 : ∀ (f2 : Nat → Int32) (f3 : Nat → Int32) (f4 : Nat → Int32) (f5 : Nat → Int32) (f6 : Nat → Int32) (x7 : Int32) (x8 : Int32) (x9 : Int32) (f10 : Nat → Int32) (f11 : Nat → Int32) (H : Heap) (locs : List Loc) (ls : Array Slot), J60 f2 f3 f4 f5 f6 x7 x8 x9 f10 f11 = some R → hm_W E A s.heap [oc8 h0 r_t t_base t_taped t_at t_faultPlace t_number t_newBits t_newTold t_newDoings t_newThings t_opened x7 x8 x9 t_turned t_wasConverted t_lastBits t_lastSum t_lastHeld t_lastLeft t_lastCode t_writtenLong x1 t_acts t_done0 t_stoppedAt, ic E (r_t 0) 800 f2, ic E (r_t 27) 12 f5, ic E (r_t 42) 2000 f10, ic E (r_t 25) 12 f3, ic E (r_t 28) 12 f6, ic E (r_t 43) 2000 f11, zc E (r_t 26) 12 f4] H locs → lv_has ls 5 [(0, .ref h0)] → W p l e (hm_rr 5 115 0 0) s m args below meth c H locs 0 0 Q (F0 m 60 ls []) := by
    intro f2 f3 f4 f5 f6 x7 x8 x9 f10 f11 H locs ls hf w hl
    have hf := pf_j10 hJ60 hf
    refine lv_sipush (v := 1093) hx hb dX8_layCodes_60 (by decide) ?_
    refine lv_istore (lv' := [(4, .int 1093), (0, .ref h0)]) hx hb dX8_layCodes_63 hl (by decide) rfl (fun ls hl => ?_)
    have klp_X8_layCodes_65 : ∀ (n : Nat) (x12 : Int32) (f13 : Nat → Int32) (H : Heap) (locs : List Loc) (ls : Array Slot), lp_X8_layCodes_65 x1 f2 f3 f4 f5 f6 x7 x8 x9 f10 n x12 f13 = some R → hm_W E A s.heap [oc8 h0 r_t t_base t_taped t_at t_faultPlace t_number t_newBits t_newTold t_newDoings t_newThings t_opened x7 x8 x9 t_turned t_wasConverted t_lastBits t_lastSum t_lastHeld t_lastLeft t_lastCode t_writtenLong x1 t_acts t_done0 t_stoppedAt, ic E (r_t 0) 800 f2, ic E (r_t 27) 12 f5, ic E (r_t 42) 2000 f10, ic E (r_t 25) 12 f3, ic E (r_t 28) 12 f6, ic E (r_t 43) 2000 f13, zc E (r_t 26) 12 f4] H locs → lv_has ls 5 [(0, .ref h0), (4, .int x12)] → W p l e (hm_rr 5 115 0 0) s m args below meth c H locs 0 0 Q (F0 m 65 ls []) := by
      intro n
      induction n with
      | zero =>
        intro x12 f13 H locs ls hf w hl
        exact pf_no hf
      | succ n ih65 =>
        intro x12 f13 H locs ls hf w hl
        rw [lp_X8_layCodes_65] at hf
        refine lv_iload hx hb dX8_layCodes_65 (lv_at hl 1 rfl) ?_
        refine lv_if_le (tgt := 85) hx hb dX8_layCodes_67 (by decide) (fun c67 => ?_) (fun c67 => ?_)
        · have hf := pf_t c67 hf
          exact hQ _ _ _ _ (f2, f3, f4, f5, f6, x7, x8, x9, f10, f13, x1) (fun _ => 0) hf w dX8_layCodes_85
        · have hf := pf_e c67 hf
          refine lv_aload_n hx hb dX8_layCodes_70 rfl (lv_at hl 0 rfl) ?_
          refine lv_iload hx hb dX8_layCodes_71 (lv_at hl 1 rfl) ?_
          obtain ⟨f14, hc73, hf⟩ := pf_bv_1 hf
          refine hm_aft_v (ws' := fun _ => [oc8 h0 r_t t_base t_taped t_at t_faultPlace t_number t_newBits t_newTold t_newDoings t_newThings t_opened x7 x8 x9 t_turned t_wasConverted t_lastBits t_lastSum t_lastHeld t_lastLeft t_lastCode t_writtenLong x1 t_acts t_done0 t_stoppedAt, ic E (r_t 0) 800 f2, ic E (r_t 27) 12 f5, ic E (r_t 42) 2000 f10, ic E (r_t 25) 12 f3, ic E (r_t 28) 12 f6, ic E (r_t 43) 2000 f14, zc E (r_t 26) 12 f4]) (hm_runV (rest := []) hx hb hml hown X hA Y w 0 (ci := 7) (T := TX8) (N := 55) rfl rfl mw_X8_sortBy ml_X8_320 dX8_layCodes_73 hm_ac0 [.int x12] rfl [0, 6] rfl rfl (ct_X8_sortBy l E H.size h0 r_t t_base t_taped t_at t_faultPlace t_number t_newBits t_newTold t_newDoings t_newThings t_opened x7 x8 x9 t_turned t_wasConverted t_lastBits t_lastSum t_lastHeld t_lastLeft t_lastCode t_writtenLong x1 t_acts t_done0 t_stoppedAt f13 x12 f14 hc73) rfl hl.1 ⟨⟨rfl, rfl⟩, ⟨Nat.le_of_ble_eq_true rfl, Nat.le_of_ble_eq_true rfl⟩, ⟨Nat.le_of_ble_eq_true rfl, Nat.le_of_ble_eq_true rfl⟩, Nat.le_of_ble_eq_true rfl⟩) hA w [0, 6] [1, 2, 3, 4, 5, 7] [6, 0, 1, 2, 3, 4, 7, 5] rfl rfl (by decide) (fun _ => rfl) (fun _ H locs w => ?_)
          refine lv_iload hx hb dX8_layCodes_76 (lv_at hl 1 rfl) ?_
          refine lv_iconst (v := 3) hx hb dX8_layCodes_78 (by decide) ?_
          refine lv_idiv hx hb dX8_layCodes_79 (by decide) ?_
          refine lv_topi (fun x15 ex15 => ?_)
          have hf := pf_nm ex15 hf
          refine lv_istore (lv' := [(4, .int x15), (0, .ref h0)]) hx hb dX8_layCodes_80 hl (by decide) rfl (fun ls hl => ?_)
          refine lv_goto (tgt := 65) hx hb dX8_layCodes_82 (by decide) ?_
          exact ih65 _ _ _ _ _ hf w (lv_sub hl [1, 0] rfl)
    exact klp_X8_layCodes_65 FU _ _ _ _ _ hf w (lv_sub hl [1, 0] rfl)
  have klp_X8_layCodes_14 : ∀ (n : Nat) (x16 : Int32) (f17 : Nat → Int32) (f18 : Nat → Int32) (f19 : Nat → Int32) (f20 : Nat → Int32) (f21 : Nat → Int32) (x22 : Int32) (x23 : Int32) (x24 : Int32) (f25 : Nat → Int32) (f26 : Nat → Int32) (H : Heap) (locs : List Loc) (ls : Array Slot), lp_X8_layCodes_14 a1 a3 t_base t_turned x1 J60 n x16 f17 f18 f19 f20 f21 x22 x23 x24 f25 f26 = some R → hm_W E A s.heap [oc8 h0 r_t t_base t_taped t_at t_faultPlace t_number t_newBits t_newTold t_newDoings t_newThings t_opened x22 x23 x24 t_turned t_wasConverted t_lastBits t_lastSum t_lastHeld t_lastLeft t_lastCode t_writtenLong x1 t_acts t_done0 t_stoppedAt, ic E (r_t 0) 800 f17, ic E (r_t 27) 12 f20, ic E (r_t 42) 2000 f25, ic E (r_t 25) 12 f18, ic E (r_t 28) 12 f21, ic E (r_t 43) 2000 f26, zc E (r_t 26) 12 f19] H locs → lv_has ls 5 [(0, .ref h0), (1, .int a1), (3, .int a3), (4, .int x16)] → W p l e (hm_rr 5 115 0 0) s m args below meth c H locs 0 0 Q (F0 m 14 ls []) := by
    intro n
    induction n with
    | zero =>
      intro x16 f17 f18 f19 f20 f21 x22 x23 x24 f25 f26 H locs ls hf w hl
      exact pf_no hf
    | succ n ih14 =>
      intro x16 f17 f18 f19 f20 f21 x22 x23 x24 f25 f26 H locs ls hf w hl
      rw [lp_X8_layCodes_14] at hf
      refine lv_iload hx hb dX8_layCodes_14 (lv_at hl 3 rfl) ?_
      refine lv_aload_n hx hb dX8_layCodes_16 rfl (lv_at hl 0 rfl) ?_
      refine hm_get cb_X8 hx hb hown X w 0 44 fl_X8_317 dX8_layCodes_17 rfl (by decide) rfl ?_
      refine lv_icmp_ge (tgt := 60) hx hb dX8_layCodes_20 (by decide) (fun c20 => ?_) (fun c20 => ?_)
      · have hf := pf_t c20 hf
        exact kJ60 _ _ _ _ _ _ _ _ _ _ _ _ _ hf w (lv_sub hl [0] rfl)
      · have hf := pf_e c20 hf
        refine lv_aload_n hx hb dX8_layCodes_23 rfl (lv_at hl 0 rfl) ?_
        refine hm_get cb_X8 hx hb hown X w 0 42 fl_X8_89 dX8_layCodes_24 rfl (by decide) rfl ?_
        refine lv_iload hx hb dX8_layCodes_27 (lv_at hl 3 rfl) ?_
        refine lv_aload_n hx hb dX8_layCodes_29 rfl (lv_at hl 0 rfl) ?_
        refine lv_iload_n hx hb dX8_layCodes_30 rfl (lv_at hl 1 rfl) ?_
        refine lv_iload_n hx hb dX8_layCodes_31 rfl (lv_at hl 2 rfl) ?_
        refine lv_iload hx hb dX8_layCodes_32 (lv_at hl 3 rfl) ?_
        refine lv_imul hx hb dX8_layCodes_34 ?_
        refine lv_iadd hx hb dX8_layCodes_35 ?_
        obtain ⟨r27, f28, f29, f30, f31, f32, x33, x34, x35, hc36, hf⟩ := pf_bi_8 hf
        refine hm_aft_i (ws' := fun _ => [oc8 h0 r_t t_base t_taped t_at t_faultPlace t_number t_newBits t_newTold t_newDoings t_newThings t_opened x33 x34 x35 t_turned t_wasConverted t_lastBits t_lastSum t_lastHeld t_lastLeft t_lastCode t_writtenLong x1 t_acts t_done0 t_stoppedAt, ic E (r_t 0) 800 f28, ic E (r_t 27) 12 f31, ic E (r_t 42) 2000 f25, ic E (r_t 25) 12 f29, ic E (r_t 28) 12 f32, ic E (r_t 43) 2000 f26, zc E (r_t 26) 12 f30]) (hm_runV (rest := [.int x16, .ref (r_t 42)]) hx hb hml hown X hA Y w 0 (ci := 7) (T := TX8) (N := 55) rfl rfl mw_X8_paperCode ml_X8_308 dX8_layCodes_36 hm_ac0 [.int (a1 + (a3 * x16))] rfl [0, 1, 2, 4, 5, 7] rfl rfl (ct_X8_paperCode l E H.size h0 r_t t_base t_taped t_at t_faultPlace t_number t_newBits t_newTold t_newDoings t_newThings t_opened x22 x23 x24 t_turned t_wasConverted t_lastBits t_lastSum t_lastHeld t_lastLeft t_lastCode t_writtenLong x1 t_acts t_done0 t_stoppedAt f17 f20 f18 f21 f19 (a1 + (a3 * x16)) (r27, f28, f29, f30, f31, f32, x33, x34, x35) hc36) rfl hl.1 ⟨⟨rfl, rfl⟩, ⟨Nat.le_of_ble_eq_true rfl, Nat.le_of_ble_eq_true rfl⟩, ⟨Nat.le_of_ble_eq_true rfl, Nat.le_of_ble_eq_true rfl⟩, Nat.le_of_ble_eq_true rfl⟩) hA w [0, 1, 2, 4, 5, 7] [3, 6] [2, 3, 4, 0, 5, 6, 1, 7] rfl rfl (by decide) (fun _ => rfl) (fun _ H locs w => ?_)
        obtain ⟨g39, hf⟩ := pf_ckI hf
        refine hm_iast (ws' := [oc8 h0 r_t t_base t_taped t_at t_faultPlace t_number t_newBits t_newTold t_newDoings t_newThings t_opened x33 x34 x35 t_turned t_wasConverted t_lastBits t_lastSum t_lastHeld t_lastLeft t_lastCode t_writtenLong x1 t_acts t_done0 t_stoppedAt, ic E (r_t 0) 800 f28, ic E (r_t 27) 12 f31, ic E (r_t 42) 2000 (upd f25 x16.toNatClampNeg r27), ic E (r_t 25) 12 f29, ic E (r_t 28) 12 f32, ic E (r_t 43) 2000 f26, zc E (r_t 26) 12 f30]) hx hb X w 3 dX8_layCodes_39 rfl g39 rfl (fun H locs w => ?_)
        refine lv_aload_n hx hb dX8_layCodes_40 rfl (lv_at hl 0 rfl) ?_
        refine hm_get cb_X8 hx hb hown X w 0 43 fl_X8_92 dX8_layCodes_41 rfl (by decide) rfl ?_
        refine lv_iload hx hb dX8_layCodes_44 (lv_at hl 3 rfl) ?_
        refine lv_aload_n hx hb dX8_layCodes_46 rfl (lv_at hl 0 rfl) ?_
        refine hm_get cb_X8 hx hb hown X w 0 42 fl_X8_89 dX8_layCodes_47 rfl (by decide) rfl ?_
        refine lv_iload hx hb dX8_layCodes_50 (lv_at hl 3 rfl) ?_
        obtain ⟨g52, hf⟩ := pf_ckI hf
        refine hm_iald hx hb X w 3 dX8_layCodes_52 rfl g52 ?_
        refine lv_topi (fun x36 ex36 => ?_)
        have hf := pf_nm ex36 hf
        obtain ⟨g53, hf⟩ := pf_ckI hf
        refine hm_iast (ws' := [oc8 h0 r_t t_base t_taped t_at t_faultPlace t_number t_newBits t_newTold t_newDoings t_newThings t_opened x33 x34 x35 t_turned t_wasConverted t_lastBits t_lastSum t_lastHeld t_lastLeft t_lastCode t_writtenLong x1 t_acts t_done0 t_stoppedAt, ic E (r_t 0) 800 f28, ic E (r_t 27) 12 f31, ic E (r_t 42) 2000 (upd f25 x16.toNatClampNeg r27), ic E (r_t 25) 12 f29, ic E (r_t 28) 12 f32, ic E (r_t 43) 2000 (upd f26 x16.toNatClampNeg x36), zc E (r_t 26) 12 f30]) hx hb X w 6 dX8_layCodes_53 rfl g53 rfl (fun H locs w => ?_)
        obtain ⟨x37, ex37⟩ : ∃ y : Int32, y = (x16 + 1) := ⟨_, rfl⟩
        have hf := pf_nm ex37 hf
        refine lv_iinc (v := x37) (lv' := [(4, .int x37), (0, .ref h0), (1, .int a1), (3, .int a3)]) hx hb dX8_layCodes_54 hl (k := 3) rfl (by rw [ex37]; rfl) (by decide) rfl (fun ls hl => ?_)
        refine lv_goto (tgt := 14) hx hb dX8_layCodes_57 (by decide) ?_
        exact ih14 _ _ _ _ _ _ _ _ _ _ _ _ _ _ hf w (lv_sub hl [1, 2, 3, 0] rfl)
  exact klp_X8_layCodes_14 FU _ _ _ _ _ _ _ _ _ _ _ _ _ _ hf w (lv_sub hl [1, 2, 4, 0] rfl)
set_option maxHeartbeats 8000000 in
set_option maxRecDepth 100000 in
theorem ct_X8_unlikeCodes (l : Launch) (E : hm_E) (sz : Nat) (h0 : Nat) (r_t : Nat → Nat) (t_base t_taped t_at t_faultPlace t_number t_newBits t_newTold t_newDoings t_newThings t_opened t_sum t_heldAll t_onPaper t_turned t_wasConverted t_lastBits t_lastSum t_lastHeld t_lastLeft t_lastCode t_writtenLong t_codeMany t_acts t_done0 t_stoppedAt : Int32) (t_sorted : Nat → Int32) (R : Int32 × Unit) (hf : pf_X8_unlikeCodes t_sorted t_codeMany = some R) : hm_Mi l E yX8_unlikeCodes cX8_unlikeCodes 3 .int [] (hm_rr 0 0 0 0) [.ref h0] sz [oc8 h0 r_t t_base t_taped t_at t_faultPlace t_number t_newBits t_newTold t_newDoings t_newThings t_opened t_sum t_heldAll t_onPaper t_turned t_wasConverted t_lastBits t_lastSum t_lastHeld t_lastLeft t_lastCode t_writtenLong t_codeMany t_acts t_done0 t_stoppedAt, ic E (r_t 43) 2000 t_sorted] R.1 (fun _ => [oc8 h0 r_t t_base t_taped t_at t_faultPlace t_number t_newBits t_newTold t_newDoings t_newThings t_opened t_sum t_heldAll t_onPaper t_turned t_wasConverted t_lastBits t_lastSum t_lastHeld t_lastLeft t_lastCode t_writtenLong t_codeMany t_acts t_done0 t_stoppedAt, ic E (r_t 43) 2000 t_sorted]) := by
  refine hm_ct_i R (fun u qs => [oc8 h0 r_t t_base t_taped t_at t_faultPlace t_number t_newBits t_newTold t_newDoings t_newThings t_opened t_sum t_heldAll t_onPaper t_turned t_wasConverted t_lastBits t_lastSum t_lastHeld t_lastLeft t_lastCode t_writtenLong t_codeMany t_acts t_done0 t_stoppedAt, ic E (r_t 43) 2000 t_sorted]) (by decide) (Nat.le_of_ble_eq_true rfl) (Or.inl rfl) ?_
  intro p e s m args below meth c A Q ls H locs hx hb hml hown X hA Y hex w hl hQ
  have hl : lv_has ls 3 [(0, .ref h0)] := hl
  unfold pf_X8_unlikeCodes at hf
  refine lv_iconst (v := 1) hx hb dX8_unlikeCodes_0 (by decide) ?_
  refine lv_istore_n (lv' := [(1, .int 1), (0, .ref h0)]) hx hb dX8_unlikeCodes_1 rfl hl (by decide) rfl (fun ls hl => ?_)
  refine lv_iconst (v := 1) hx hb dX8_unlikeCodes_2 (by decide) ?_
  refine lv_istore_n (lv' := [(2, .int 1), (1, .int 1), (0, .ref h0)]) hx hb dX8_unlikeCodes_3 rfl hl (by decide) rfl (fun ls hl => ?_)
  have klp_X8_unlikeCodes_4 : ∀ (n : Nat) (x1 : Int32) (x2 : Int32) (H : Heap) (locs : List Loc) (ls : Array Slot), lp_X8_unlikeCodes_4 t_codeMany t_sorted n x1 x2 = some R → hm_W E A s.heap [oc8 h0 r_t t_base t_taped t_at t_faultPlace t_number t_newBits t_newTold t_newDoings t_newThings t_opened t_sum t_heldAll t_onPaper t_turned t_wasConverted t_lastBits t_lastSum t_lastHeld t_lastLeft t_lastCode t_writtenLong t_codeMany t_acts t_done0 t_stoppedAt, ic E (r_t 43) 2000 t_sorted] H locs → lv_has ls 3 [(0, .ref h0), (1, .int x1), (2, .int x2)] → W p l e (hm_rr 0 0 0 0) s m args below meth c H locs 0 0 Q (F0 m 4 ls []) := by
    intro n
    induction n with
    | zero =>
      intro x1 x2 H locs ls hf w hl
      exact pf_no hf
    | succ n ih4 =>
      intro x1 x2 H locs ls hf w hl
      rw [lp_X8_unlikeCodes_4] at hf
      refine lv_iload_n hx hb dX8_unlikeCodes_4 rfl (lv_at hl 2 rfl) ?_
      refine lv_aload_n hx hb dX8_unlikeCodes_5 rfl (lv_at hl 0 rfl) ?_
      refine hm_get cb_X8 hx hb hown X w 0 44 fl_X8_317 dX8_unlikeCodes_6 rfl (by decide) rfl ?_
      refine lv_icmp_ge (tgt := 43) hx hb dX8_unlikeCodes_9 (by decide) (fun c9 => ?_) (fun c9 => ?_)
      · have hf := pf_t c9 hf
        refine lv_iload_n hx hb dX8_unlikeCodes_43 rfl (lv_at hl 1 rfl) ?_
        exact hQ _ _ _ _ _ () (fun _ => 0) hf rfl w dX8_unlikeCodes_44
      · have hf := pf_e c9 hf
        refine lv_iload_n hx hb dX8_unlikeCodes_12 rfl (lv_at hl 1 rfl) ?_
        refine lv_aload_n hx hb dX8_unlikeCodes_13 rfl (lv_at hl 0 rfl) ?_
        refine hm_get cb_X8 hx hb hown X w 0 43 fl_X8_92 dX8_unlikeCodes_14 rfl (by decide) rfl ?_
        refine lv_iload_n hx hb dX8_unlikeCodes_17 rfl (lv_at hl 2 rfl) ?_
        obtain ⟨g18, hf⟩ := pf_ckI hf
        refine hm_iald hx hb X w 1 dX8_unlikeCodes_18 rfl g18 ?_
        refine lv_aload_n hx hb dX8_unlikeCodes_19 rfl (lv_at hl 0 rfl) ?_
        refine hm_get cb_X8 hx hb hown X w 0 43 fl_X8_92 dX8_unlikeCodes_20 rfl (by decide) rfl ?_
        refine lv_iload_n hx hb dX8_unlikeCodes_23 rfl (lv_at hl 2 rfl) ?_
        refine lv_iconst (v := 1) hx hb dX8_unlikeCodes_24 (by decide) ?_
        refine lv_isub hx hb dX8_unlikeCodes_25 ?_
        obtain ⟨g26, hf⟩ := pf_ckI hf
        refine hm_iald hx hb X w 1 dX8_unlikeCodes_26 rfl g26 ?_
        refine lv_icmp_eq (tgt := 34) hx hb dX8_unlikeCodes_27 (by decide) (fun c27 => ?_) (fun c27 => ?_)
        · have hf := pf_t c27 hf
          refine lv_iconst (v := 0) hx hb dX8_unlikeCodes_34 (by decide) ?_
          refine lv_iadd hx hb dX8_unlikeCodes_35 ?_
          refine lv_topi (fun x3 ex3 => ?_)
          have hf := pf_nm ex3 hf
          refine lv_istore_n (lv' := [(1, .int x3), (0, .ref h0), (2, .int x2)]) hx hb dX8_unlikeCodes_36 rfl hl (by decide) rfl (fun ls hl => ?_)
          obtain ⟨x4, ex4⟩ : ∃ y : Int32, y = (x2 + 1) := ⟨_, rfl⟩
          have hf := pf_nm ex4 hf
          refine lv_iinc (v := x4) (lv' := [(2, .int x4), (1, .int x3), (0, .ref h0)]) hx hb dX8_unlikeCodes_37 hl (k := 2) rfl (by rw [ex4]; rfl) (by decide) rfl (fun ls hl => ?_)
          refine lv_goto (tgt := 4) hx hb dX8_unlikeCodes_40 (by decide) ?_
          exact ih4 _ _ _ _ _ hf w (lv_sub hl [2, 1, 0] rfl)
        · have hf := pf_e c27 hf
          refine lv_iconst (v := 1) hx hb dX8_unlikeCodes_30 (by decide) ?_
          refine lv_goto (tgt := 35) hx hb dX8_unlikeCodes_31 (by decide) ?_
          refine lv_iadd hx hb dX8_unlikeCodes_35 ?_
          refine lv_topi (fun x5 ex5 => ?_)
          have hf := pf_nm ex5 hf
          refine lv_istore_n (lv' := [(1, .int x5), (0, .ref h0), (2, .int x2)]) hx hb dX8_unlikeCodes_36 rfl hl (by decide) rfl (fun ls hl => ?_)
          obtain ⟨x6, ex6⟩ : ∃ y : Int32, y = (x2 + 1) := ⟨_, rfl⟩
          have hf := pf_nm ex6 hf
          refine lv_iinc (v := x6) (lv' := [(2, .int x6), (1, .int x5), (0, .ref h0)]) hx hb dX8_unlikeCodes_37 hl (k := 2) rfl (by rw [ex6]; rfl) (by decide) rfl (fun ls hl => ?_)
          refine lv_goto (tgt := 4) hx hb dX8_unlikeCodes_40 (by decide) ?_
          exact ih4 _ _ _ _ _ hf w (lv_sub hl [2, 1, 0] rfl)
  exact klp_X8_unlikeCodes_4 FU _ _ _ _ _ hf w (lv_sub hl [2, 1, 0] rfl)
set_option maxHeartbeats 8000000 in
set_option maxRecDepth 100000 in
theorem ct_X8_firstMissing (l : Launch) (E : hm_E) (sz : Nat) (h0 : Nat) (r_t : Nat → Nat) (t_base t_taped t_at t_faultPlace t_number t_newBits t_newTold t_newDoings t_newThings t_opened t_sum t_heldAll t_onPaper t_turned t_wasConverted t_lastBits t_lastSum t_lastHeld t_lastLeft t_lastCode t_writtenLong t_codeMany t_acts t_done0 t_stoppedAt : Int32) (t_sorted : Nat → Int32) (R : Int32 × Unit) (hf : pf_X8_firstMissing t_sorted t_codeMany = some R) : hm_Mi l E yX8_firstMissing cX8_firstMissing 2 .int [] (hm_rr 0 0 0 0) [.ref h0] sz [oc8 h0 r_t t_base t_taped t_at t_faultPlace t_number t_newBits t_newTold t_newDoings t_newThings t_opened t_sum t_heldAll t_onPaper t_turned t_wasConverted t_lastBits t_lastSum t_lastHeld t_lastLeft t_lastCode t_writtenLong t_codeMany t_acts t_done0 t_stoppedAt, ic E (r_t 43) 2000 t_sorted] R.1 (fun _ => [oc8 h0 r_t t_base t_taped t_at t_faultPlace t_number t_newBits t_newTold t_newDoings t_newThings t_opened t_sum t_heldAll t_onPaper t_turned t_wasConverted t_lastBits t_lastSum t_lastHeld t_lastLeft t_lastCode t_writtenLong t_codeMany t_acts t_done0 t_stoppedAt, ic E (r_t 43) 2000 t_sorted]) := by
  refine hm_ct_i R (fun u qs => [oc8 h0 r_t t_base t_taped t_at t_faultPlace t_number t_newBits t_newTold t_newDoings t_newThings t_opened t_sum t_heldAll t_onPaper t_turned t_wasConverted t_lastBits t_lastSum t_lastHeld t_lastLeft t_lastCode t_writtenLong t_codeMany t_acts t_done0 t_stoppedAt, ic E (r_t 43) 2000 t_sorted]) (by decide) (Nat.le_of_ble_eq_true rfl) (Or.inl rfl) ?_
  intro p e s m args below meth c A Q ls H locs hx hb hml hown X hA Y hex w hl hQ
  have hl : lv_has ls 2 [(0, .ref h0)] := hl
  unfold pf_X8_firstMissing at hf
  refine lv_iconst (v := 1) hx hb dX8_firstMissing_0 (by decide) ?_
  refine lv_istore_n (lv' := [(1, .int 1), (0, .ref h0)]) hx hb dX8_firstMissing_1 rfl hl (by decide) rfl (fun ls hl => ?_)
  obtain ⟨J29, hJ29, hf⟩ := pf_jn hf
  have kJ29 : ∀ (x1 : Int32) (H : Heap) (locs : List Loc) (ls : Array Slot), J29 x1 = some R → hm_W E A s.heap [oc8 h0 r_t t_base t_taped t_at t_faultPlace t_number t_newBits t_newTold t_newDoings t_newThings t_opened t_sum t_heldAll t_onPaper t_turned t_wasConverted t_lastBits t_lastSum t_lastHeld t_lastLeft t_lastCode t_writtenLong t_codeMany t_acts t_done0 t_stoppedAt, ic E (r_t 43) 2000 t_sorted] H locs → lv_has ls 2 [(0, .ref h0), (1, .int x1)] → W p l e (hm_rr 0 0 0 0) s m args below meth c H locs 0 0 Q (F0 m 29 ls []) := by
    intro x1 H locs ls hf w hl
    have hf := pf_j1 hJ29 hf
    refine lv_aload_n hx hb dX8_firstMissing_29 rfl (lv_at hl 0 rfl) ?_
    refine hm_get cb_X8 hx hb hown X w 0 43 fl_X8_92 dX8_firstMissing_30 rfl (by decide) rfl ?_
    refine lv_iload_n hx hb dX8_firstMissing_33 rfl (lv_at hl 1 rfl) ?_
    refine lv_iconst (v := 1) hx hb dX8_firstMissing_34 (by decide) ?_
    refine lv_isub hx hb dX8_firstMissing_35 ?_
    obtain ⟨g36, hf⟩ := pf_ckI hf
    refine hm_iald hx hb X w 1 dX8_firstMissing_36 rfl g36 ?_
    refine lv_iconst (v := 1) hx hb dX8_firstMissing_37 (by decide) ?_
    refine lv_iadd hx hb dX8_firstMissing_38 ?_
    exact hQ _ _ _ _ _ () (fun _ => 0) hf rfl w dX8_firstMissing_39
  have klp_X8_firstMissing_2 : ∀ (n : Nat) (x2 : Int32) (H : Heap) (locs : List Loc) (ls : Array Slot), lp_X8_firstMissing_2 t_codeMany t_sorted J29 n x2 = some R → hm_W E A s.heap [oc8 h0 r_t t_base t_taped t_at t_faultPlace t_number t_newBits t_newTold t_newDoings t_newThings t_opened t_sum t_heldAll t_onPaper t_turned t_wasConverted t_lastBits t_lastSum t_lastHeld t_lastLeft t_lastCode t_writtenLong t_codeMany t_acts t_done0 t_stoppedAt, ic E (r_t 43) 2000 t_sorted] H locs → lv_has ls 2 [(0, .ref h0), (1, .int x2)] → W p l e (hm_rr 0 0 0 0) s m args below meth c H locs 0 0 Q (F0 m 2 ls []) := by
    intro n
    induction n with
    | zero =>
      intro x2 H locs ls hf w hl
      exact pf_no hf
    | succ n ih2 =>
      intro x2 H locs ls hf w hl
      rw [lp_X8_firstMissing_2] at hf
      refine lv_iload_n hx hb dX8_firstMissing_2 rfl (lv_at hl 1 rfl) ?_
      refine lv_aload_n hx hb dX8_firstMissing_3 rfl (lv_at hl 0 rfl) ?_
      refine hm_get cb_X8 hx hb hown X w 0 44 fl_X8_317 dX8_firstMissing_4 rfl (by decide) rfl ?_
      refine lv_icmp_ge (tgt := 46) hx hb dX8_firstMissing_7 (by decide) (fun c7 => ?_) (fun c7 => ?_)
      · have hf := pf_t c7 hf
        refine lv_iconst (v := (-1)) hx hb dX8_firstMissing_46 (by decide) ?_
        exact hQ _ _ _ _ _ () (fun _ => 0) hf rfl w dX8_firstMissing_47
      · have hf := pf_e c7 hf
        refine lv_aload_n hx hb dX8_firstMissing_10 rfl (lv_at hl 0 rfl) ?_
        refine hm_get cb_X8 hx hb hown X w 0 43 fl_X8_92 dX8_firstMissing_11 rfl (by decide) rfl ?_
        refine lv_iload_n hx hb dX8_firstMissing_14 rfl (lv_at hl 1 rfl) ?_
        obtain ⟨g15, hf⟩ := pf_ckI hf
        refine hm_iald hx hb X w 1 dX8_firstMissing_15 rfl g15 ?_
        refine lv_aload_n hx hb dX8_firstMissing_16 rfl (lv_at hl 0 rfl) ?_
        refine hm_get cb_X8 hx hb hown X w 0 43 fl_X8_92 dX8_firstMissing_17 rfl (by decide) rfl ?_
        refine lv_iload_n hx hb dX8_firstMissing_20 rfl (lv_at hl 1 rfl) ?_
        refine lv_iconst (v := 1) hx hb dX8_firstMissing_21 (by decide) ?_
        refine lv_isub hx hb dX8_firstMissing_22 ?_
        obtain ⟨g23, hf⟩ := pf_ckI hf
        refine hm_iald hx hb X w 1 dX8_firstMissing_23 rfl g23 ?_
        refine lv_iconst (v := 1) hx hb dX8_firstMissing_24 (by decide) ?_
        refine lv_iadd hx hb dX8_firstMissing_25 ?_
        refine lv_icmp_le (tgt := 40) hx hb dX8_firstMissing_26 (by decide) (fun c26 => ?_) (fun c26 => ?_)
        · have hf := pf_t c26 hf
          obtain ⟨x3, ex3⟩ : ∃ y : Int32, y = (x2 + 1) := ⟨_, rfl⟩
          have hf := pf_nm ex3 hf
          refine lv_iinc (v := x3) (lv' := [(1, .int x3), (0, .ref h0)]) hx hb dX8_firstMissing_40 hl (k := 1) rfl (by rw [ex3]; rfl) (by decide) rfl (fun ls hl => ?_)
          refine lv_goto (tgt := 2) hx hb dX8_firstMissing_43 (by decide) ?_
          exact ih2 _ _ _ _ hf w (lv_sub hl [1, 0] rfl)
        · have hf := pf_e c26 hf
          exact kJ29 _ _ _ _ hf w (lv_sub hl [0, 1] rfl)
  exact klp_X8_firstMissing_2 FU _ _ _ _ hf w (lv_sub hl [1, 0] rfl)
set_option maxHeartbeats 8000000 in
set_option maxRecDepth 100000 in
theorem ct_X8_falls (l : Launch) (E : hm_E) (sz : Nat) (h0 : Nat) (r_t : Nat → Nat) (t_base t_taped t_at t_faultPlace t_number t_newBits t_newTold t_newDoings t_newThings t_opened t_sum t_heldAll t_onPaper t_turned t_wasConverted t_lastBits t_lastSum t_lastHeld t_lastLeft t_lastCode t_writtenLong t_codeMany t_acts t_done0 t_stoppedAt : Int32) (t_codes : Nat → Int32) (R : Int32 × Unit) (hf : pf_X8_falls t_codes t_codeMany = some R) : hm_Mi l E yX8_falls cX8_falls 3 .int [] (hm_rr 0 0 0 0) [.ref h0] sz [oc8 h0 r_t t_base t_taped t_at t_faultPlace t_number t_newBits t_newTold t_newDoings t_newThings t_opened t_sum t_heldAll t_onPaper t_turned t_wasConverted t_lastBits t_lastSum t_lastHeld t_lastLeft t_lastCode t_writtenLong t_codeMany t_acts t_done0 t_stoppedAt, ic E (r_t 42) 2000 t_codes] R.1 (fun _ => [oc8 h0 r_t t_base t_taped t_at t_faultPlace t_number t_newBits t_newTold t_newDoings t_newThings t_opened t_sum t_heldAll t_onPaper t_turned t_wasConverted t_lastBits t_lastSum t_lastHeld t_lastLeft t_lastCode t_writtenLong t_codeMany t_acts t_done0 t_stoppedAt, ic E (r_t 42) 2000 t_codes]) := by
  refine hm_ct_i R (fun u qs => [oc8 h0 r_t t_base t_taped t_at t_faultPlace t_number t_newBits t_newTold t_newDoings t_newThings t_opened t_sum t_heldAll t_onPaper t_turned t_wasConverted t_lastBits t_lastSum t_lastHeld t_lastLeft t_lastCode t_writtenLong t_codeMany t_acts t_done0 t_stoppedAt, ic E (r_t 42) 2000 t_codes]) (by decide) (Nat.le_of_ble_eq_true rfl) (Or.inl rfl) ?_
  intro p e s m args below meth c A Q ls H locs hx hb hml hown X hA Y hex w hl hQ
  have hl : lv_has ls 3 [(0, .ref h0)] := hl
  unfold pf_X8_falls at hf
  refine lv_iconst (v := 0) hx hb dX8_falls_0 (by decide) ?_
  refine lv_istore_n (lv' := [(1, .int 0), (0, .ref h0)]) hx hb dX8_falls_1 rfl hl (by decide) rfl (fun ls hl => ?_)
  refine lv_iconst (v := 1) hx hb dX8_falls_2 (by decide) ?_
  refine lv_istore_n (lv' := [(2, .int 1), (1, .int 0), (0, .ref h0)]) hx hb dX8_falls_3 rfl hl (by decide) rfl (fun ls hl => ?_)
  have klp_X8_falls_4 : ∀ (n : Nat) (x1 : Int32) (x2 : Int32) (H : Heap) (locs : List Loc) (ls : Array Slot), lp_X8_falls_4 t_codeMany t_codes n x1 x2 = some R → hm_W E A s.heap [oc8 h0 r_t t_base t_taped t_at t_faultPlace t_number t_newBits t_newTold t_newDoings t_newThings t_opened t_sum t_heldAll t_onPaper t_turned t_wasConverted t_lastBits t_lastSum t_lastHeld t_lastLeft t_lastCode t_writtenLong t_codeMany t_acts t_done0 t_stoppedAt, ic E (r_t 42) 2000 t_codes] H locs → lv_has ls 3 [(0, .ref h0), (1, .int x1), (2, .int x2)] → W p l e (hm_rr 0 0 0 0) s m args below meth c H locs 0 0 Q (F0 m 4 ls []) := by
    intro n
    induction n with
    | zero =>
      intro x1 x2 H locs ls hf w hl
      exact pf_no hf
    | succ n ih4 =>
      intro x1 x2 H locs ls hf w hl
      rw [lp_X8_falls_4] at hf
      refine lv_iload_n hx hb dX8_falls_4 rfl (lv_at hl 2 rfl) ?_
      refine lv_aload_n hx hb dX8_falls_5 rfl (lv_at hl 0 rfl) ?_
      refine hm_get cb_X8 hx hb hown X w 0 44 fl_X8_317 dX8_falls_6 rfl (by decide) rfl ?_
      refine lv_icmp_ge (tgt := 43) hx hb dX8_falls_9 (by decide) (fun c9 => ?_) (fun c9 => ?_)
      · have hf := pf_t c9 hf
        refine lv_iload_n hx hb dX8_falls_43 rfl (lv_at hl 1 rfl) ?_
        exact hQ _ _ _ _ _ () (fun _ => 0) hf rfl w dX8_falls_44
      · have hf := pf_e c9 hf
        refine lv_iload_n hx hb dX8_falls_12 rfl (lv_at hl 1 rfl) ?_
        refine lv_aload_n hx hb dX8_falls_13 rfl (lv_at hl 0 rfl) ?_
        refine hm_get cb_X8 hx hb hown X w 0 42 fl_X8_89 dX8_falls_14 rfl (by decide) rfl ?_
        refine lv_iload_n hx hb dX8_falls_17 rfl (lv_at hl 2 rfl) ?_
        obtain ⟨g18, hf⟩ := pf_ckI hf
        refine hm_iald hx hb X w 1 dX8_falls_18 rfl g18 ?_
        refine lv_aload_n hx hb dX8_falls_19 rfl (lv_at hl 0 rfl) ?_
        refine hm_get cb_X8 hx hb hown X w 0 42 fl_X8_89 dX8_falls_20 rfl (by decide) rfl ?_
        refine lv_iload_n hx hb dX8_falls_23 rfl (lv_at hl 2 rfl) ?_
        refine lv_iconst (v := 1) hx hb dX8_falls_24 (by decide) ?_
        refine lv_isub hx hb dX8_falls_25 ?_
        obtain ⟨g26, hf⟩ := pf_ckI hf
        refine hm_iald hx hb X w 1 dX8_falls_26 rfl g26 ?_
        refine lv_icmp_ge (tgt := 34) hx hb dX8_falls_27 (by decide) (fun c27 => ?_) (fun c27 => ?_)
        · have hf := pf_t c27 hf
          refine lv_iconst (v := 0) hx hb dX8_falls_34 (by decide) ?_
          refine lv_iadd hx hb dX8_falls_35 ?_
          refine lv_topi (fun x3 ex3 => ?_)
          have hf := pf_nm ex3 hf
          refine lv_istore_n (lv' := [(1, .int x3), (0, .ref h0), (2, .int x2)]) hx hb dX8_falls_36 rfl hl (by decide) rfl (fun ls hl => ?_)
          obtain ⟨x4, ex4⟩ : ∃ y : Int32, y = (x2 + 1) := ⟨_, rfl⟩
          have hf := pf_nm ex4 hf
          refine lv_iinc (v := x4) (lv' := [(2, .int x4), (1, .int x3), (0, .ref h0)]) hx hb dX8_falls_37 hl (k := 2) rfl (by rw [ex4]; rfl) (by decide) rfl (fun ls hl => ?_)
          refine lv_goto (tgt := 4) hx hb dX8_falls_40 (by decide) ?_
          exact ih4 _ _ _ _ _ hf w (lv_sub hl [2, 1, 0] rfl)
        · have hf := pf_e c27 hf
          refine lv_iconst (v := 1) hx hb dX8_falls_30 (by decide) ?_
          refine lv_goto (tgt := 35) hx hb dX8_falls_31 (by decide) ?_
          refine lv_iadd hx hb dX8_falls_35 ?_
          refine lv_topi (fun x5 ex5 => ?_)
          have hf := pf_nm ex5 hf
          refine lv_istore_n (lv' := [(1, .int x5), (0, .ref h0), (2, .int x2)]) hx hb dX8_falls_36 rfl hl (by decide) rfl (fun ls hl => ?_)
          obtain ⟨x6, ex6⟩ : ∃ y : Int32, y = (x2 + 1) := ⟨_, rfl⟩
          have hf := pf_nm ex6 hf
          refine lv_iinc (v := x6) (lv' := [(2, .int x6), (1, .int x5), (0, .ref h0)]) hx hb dX8_falls_37 hl (k := 2) rfl (by rw [ex6]; rfl) (by decide) rfl (fun ls hl => ?_)
          refine lv_goto (tgt := 4) hx hb dX8_falls_40 (by decide) ?_
          exact ih4 _ _ _ _ _ hf w (lv_sub hl [2, 1, 0] rfl)
  exact klp_X8_falls_4 FU _ _ _ _ _ hf w (lv_sub hl [2, 1, 0] rfl)
set_option maxHeartbeats 8000000 in
set_option maxRecDepth 100000 in
theorem ct_X8_offBy (l : Launch) (E : hm_E) (sz : Nat) (h0 : Nat) (r_t : Nat → Nat) (t_base t_taped t_at t_faultPlace t_number t_newBits t_newTold t_newDoings t_newThings t_opened t_sum t_heldAll t_onPaper t_turned t_wasConverted t_lastBits t_lastSum t_lastHeld t_lastLeft t_lastCode t_writtenLong t_codeMany t_acts t_done0 t_stoppedAt : Int32) (t_all : Nat → Int32) (t_codes : Nat → Int32) (a1 : Int32) (a2 : Int32) (a3 : Int32) (R : Int32 × Unit) (hf : pf_X8_offBy a1 a2 a3 t_all t_base t_codes = some R) : hm_Mi l E yX8_offBy cX8_offBy 5 .int [] (hm_rr 1 21 0 0) [.ref h0, .int a1, .int a2, .int a3] sz [oc8 h0 r_t t_base t_taped t_at t_faultPlace t_number t_newBits t_newTold t_newDoings t_newThings t_opened t_sum t_heldAll t_onPaper t_turned t_wasConverted t_lastBits t_lastSum t_lastHeld t_lastLeft t_lastCode t_writtenLong t_codeMany t_acts t_done0 t_stoppedAt, ic E (r_t 0) 800 t_all, ic E (r_t 42) 2000 t_codes] R.1 (fun _ => [oc8 h0 r_t t_base t_taped t_at t_faultPlace t_number t_newBits t_newTold t_newDoings t_newThings t_opened t_sum t_heldAll t_onPaper t_turned t_wasConverted t_lastBits t_lastSum t_lastHeld t_lastLeft t_lastCode t_writtenLong t_codeMany t_acts t_done0 t_stoppedAt, ic E (r_t 0) 800 t_all, ic E (r_t 42) 2000 t_codes]) := by
  refine hm_ct_i R (fun u qs => [oc8 h0 r_t t_base t_taped t_at t_faultPlace t_number t_newBits t_newTold t_newDoings t_newThings t_opened t_sum t_heldAll t_onPaper t_turned t_wasConverted t_lastBits t_lastSum t_lastHeld t_lastLeft t_lastCode t_writtenLong t_codeMany t_acts t_done0 t_stoppedAt, ic E (r_t 0) 800 t_all, ic E (r_t 42) 2000 t_codes]) (by decide) (Nat.le_of_ble_eq_true rfl) (Or.inl rfl) ?_
  intro p e s m args below meth c A Q ls H locs hx hb hml hown X hA Y hex w hl hQ
  have hl : lv_has ls 5 [(0, .ref h0), (1, .int a1), (2, .int a2), (3, .int a3)] := hl
  unfold pf_X8_offBy at hf
  refine lv_aload_n hx hb dX8_offBy_0 rfl (lv_at hl 0 rfl) ?_
  refine hm_get cb_X8 hx hb hown X w 0 42 fl_X8_89 dX8_offBy_1 rfl (by decide) rfl ?_
  refine lv_iload_n hx hb dX8_offBy_4 rfl (lv_at hl 3 rfl) ?_
  obtain ⟨g5, hf⟩ := pf_ckI hf
  refine hm_iald hx hb X w 2 dX8_offBy_5 rfl g5 ?_
  refine lv_aload_n hx hb dX8_offBy_6 rfl (lv_at hl 0 rfl) ?_
  refine lv_iconst (v := 5) hx hb dX8_offBy_7 (by decide) ?_
  obtain ⟨r1, hc8, hf⟩ := pf_bi_0 hf
  refine hm_aft_i (ws' := fun _ => [oc8 h0 r_t t_base t_taped t_at t_faultPlace t_number t_newBits t_newTold t_newDoings t_newThings t_opened t_sum t_heldAll t_onPaper t_turned t_wasConverted t_lastBits t_lastSum t_lastHeld t_lastLeft t_lastCode t_writtenLong t_codeMany t_acts t_done0 t_stoppedAt, ic E (r_t 0) 800 t_all, ic E (r_t 42) 2000 t_codes]) (hm_runV (rest := [.int (t_codes a3.toNatClampNeg)]) hx hb hml hown X hA Y w 0 (ci := 7) (T := TX8) (N := 55) rfl rfl mw_X8_get ml_X8_221 dX8_offBy_8 hm_ac0 [.int 5] rfl [0, 1] rfl rfl (ct_X8_get l E H.size h0 r_t t_base t_taped t_at t_faultPlace t_number t_newBits t_newTold t_newDoings t_newThings t_opened t_sum t_heldAll t_onPaper t_turned t_wasConverted t_lastBits t_lastSum t_lastHeld t_lastLeft t_lastCode t_writtenLong t_codeMany t_acts t_done0 t_stoppedAt t_all 5 (r1, ()) hc8) rfl hl.1 ⟨⟨rfl, rfl⟩, ⟨Nat.le_of_ble_eq_true rfl, Nat.le_of_ble_eq_true rfl⟩, ⟨Nat.le_of_ble_eq_true rfl, Nat.le_of_ble_eq_true rfl⟩, Nat.le_of_ble_eq_true rfl⟩) hA w [0, 1] [2] [1, 2, 0] rfl rfl (by decide) (fun _ => rfl) (fun _ H locs w => ?_)
  refine lv_imul hx hb dX8_offBy_11 ?_
  refine lv_iload_n hx hb dX8_offBy_12 rfl (lv_at hl 1 rfl) ?_
  refine lv_isub hx hb dX8_offBy_13 ?_
  refine lv_iload_n hx hb dX8_offBy_14 rfl (lv_at hl 2 rfl) ?_
  refine lv_iload_n hx hb dX8_offBy_15 rfl (lv_at hl 3 rfl) ?_
  refine lv_imul hx hb dX8_offBy_16 ?_
  refine lv_isub hx hb dX8_offBy_17 ?_
  refine lv_topi (fun x2 ex2 => ?_)
  have hf := pf_nm ex2 hf
  refine lv_istore (lv' := [(4, .int x2), (0, .ref h0), (1, .int a1), (2, .int a2), (3, .int a3)]) hx hb dX8_offBy_18 hl (by decide) rfl (fun ls hl => ?_)
  refine lv_iload hx hb dX8_offBy_20 (lv_at hl 0 rfl) ?_
  refine lv_if_ge (tgt := 31) hx hb dX8_offBy_22 (by decide) (fun c22 => ?_) (fun c22 => ?_)
  · have hf := pf_t c22 hf
    refine lv_iload hx hb dX8_offBy_31 (lv_at hl 0 rfl) ?_
    exact hQ _ _ _ _ _ () (fun _ => 0) hf rfl w dX8_offBy_33
  · have hf := pf_e c22 hf
    refine lv_iload hx hb dX8_offBy_25 (lv_at hl 0 rfl) ?_
    refine lv_ineg hx hb dX8_offBy_27 ?_
    refine lv_goto (tgt := 33) hx hb dX8_offBy_28 (by decide) ?_
    exact hQ _ _ _ _ _ () (fun _ => 0) hf rfl w dX8_offBy_33
set_option maxHeartbeats 8000000 in
set_option maxRecDepth 100000 in
theorem ct_X8_mostOff (l : Launch) (E : hm_E) (sz : Nat) (h0 : Nat) (r_t : Nat → Nat) (t_base t_taped t_at t_faultPlace t_number t_newBits t_newTold t_newDoings t_newThings t_opened t_sum t_heldAll t_onPaper t_turned t_wasConverted t_lastBits t_lastSum t_lastHeld t_lastLeft t_lastCode t_writtenLong t_codeMany t_acts t_done0 t_stoppedAt : Int32) (t_all : Nat → Int32) (t_codes : Nat → Int32) (a1 : Int32) (a2 : Int32) (R : Int32 × Unit) (hf : pf_X8_mostOff a1 a2 t_all t_base t_codes t_codeMany = some R) : hm_Mi l E yX8_mostOff cX8_mostOff 5 .int [] (hm_rr 2 45 0 0) [.ref h0, .int a1, .int a2] sz [oc8 h0 r_t t_base t_taped t_at t_faultPlace t_number t_newBits t_newTold t_newDoings t_newThings t_opened t_sum t_heldAll t_onPaper t_turned t_wasConverted t_lastBits t_lastSum t_lastHeld t_lastLeft t_lastCode t_writtenLong t_codeMany t_acts t_done0 t_stoppedAt, ic E (r_t 0) 800 t_all, ic E (r_t 42) 2000 t_codes] R.1 (fun _ => [oc8 h0 r_t t_base t_taped t_at t_faultPlace t_number t_newBits t_newTold t_newDoings t_newThings t_opened t_sum t_heldAll t_onPaper t_turned t_wasConverted t_lastBits t_lastSum t_lastHeld t_lastLeft t_lastCode t_writtenLong t_codeMany t_acts t_done0 t_stoppedAt, ic E (r_t 0) 800 t_all, ic E (r_t 42) 2000 t_codes]) := by
  refine hm_ct_i R (fun u qs => [oc8 h0 r_t t_base t_taped t_at t_faultPlace t_number t_newBits t_newTold t_newDoings t_newThings t_opened t_sum t_heldAll t_onPaper t_turned t_wasConverted t_lastBits t_lastSum t_lastHeld t_lastLeft t_lastCode t_writtenLong t_codeMany t_acts t_done0 t_stoppedAt, ic E (r_t 0) 800 t_all, ic E (r_t 42) 2000 t_codes]) (by decide) (Nat.le_of_ble_eq_true rfl) (Or.inl rfl) ?_
  intro p e s m args below meth c A Q ls H locs hx hb hml hown X hA Y hex w hl hQ
  have hl : lv_has ls 5 [(0, .ref h0), (1, .int a1), (2, .int a2)] := hl
  unfold pf_X8_mostOff at hf
  refine lv_iconst (v := 0) hx hb dX8_mostOff_0 (by decide) ?_
  refine lv_istore_n (lv' := [(3, .int 0), (0, .ref h0), (1, .int a1), (2, .int a2)]) hx hb dX8_mostOff_1 rfl hl (by decide) rfl (fun ls hl => ?_)
  refine lv_iconst (v := 1) hx hb dX8_mostOff_2 (by decide) ?_
  refine lv_istore (lv' := [(4, .int 1), (3, .int 0), (0, .ref h0), (1, .int a1), (2, .int a2)]) hx hb dX8_mostOff_3 hl (by decide) rfl (fun ls hl => ?_)
  have klp_X8_mostOff_5 : ∀ (n : Nat) (x1 : Int32) (x2 : Int32) (H : Heap) (locs : List Loc) (ls : Array Slot), lp_X8_mostOff_5 a1 a2 t_base t_codeMany t_all t_codes n x1 x2 = some R → hm_W E A s.heap [oc8 h0 r_t t_base t_taped t_at t_faultPlace t_number t_newBits t_newTold t_newDoings t_newThings t_opened t_sum t_heldAll t_onPaper t_turned t_wasConverted t_lastBits t_lastSum t_lastHeld t_lastLeft t_lastCode t_writtenLong t_codeMany t_acts t_done0 t_stoppedAt, ic E (r_t 0) 800 t_all, ic E (r_t 42) 2000 t_codes] H locs → lv_has ls 5 [(0, .ref h0), (1, .int a1), (2, .int a2), (3, .int x1), (4, .int x2)] → W p l e (hm_rr 2 45 0 0) s m args below meth c H locs 0 0 Q (F0 m 5 ls []) := by
    intro n
    induction n with
    | zero =>
      intro x1 x2 H locs ls hf w hl
      exact pf_no hf
    | succ n ih5 =>
      intro x1 x2 H locs ls hf w hl
      rw [lp_X8_mostOff_5] at hf
      refine lv_iload hx hb dX8_mostOff_5 (lv_at hl 4 rfl) ?_
      refine lv_aload_n hx hb dX8_mostOff_7 rfl (lv_at hl 0 rfl) ?_
      refine hm_get cb_X8 hx hb hown X w 0 44 fl_X8_317 dX8_mostOff_8 rfl (by decide) rfl ?_
      refine lv_icmp_ge (tgt := 45) hx hb dX8_mostOff_11 (by decide) (fun c11 => ?_) (fun c11 => ?_)
      · have hf := pf_t c11 hf
        refine lv_iload_n hx hb dX8_mostOff_45 rfl (lv_at hl 3 rfl) ?_
        exact hQ _ _ _ _ _ () (fun _ => 0) hf rfl w dX8_mostOff_46
      · have hf := pf_e c11 hf
        refine lv_aload_n hx hb dX8_mostOff_14 rfl (lv_at hl 0 rfl) ?_
        refine lv_iload_n hx hb dX8_mostOff_15 rfl (lv_at hl 1 rfl) ?_
        refine lv_iload_n hx hb dX8_mostOff_16 rfl (lv_at hl 2 rfl) ?_
        refine lv_iload hx hb dX8_mostOff_17 (lv_at hl 4 rfl) ?_
        obtain ⟨r3, hc19, hf⟩ := pf_bi_0 hf
        refine hm_aft_i (ws' := fun _ => [oc8 h0 r_t t_base t_taped t_at t_faultPlace t_number t_newBits t_newTold t_newDoings t_newThings t_opened t_sum t_heldAll t_onPaper t_turned t_wasConverted t_lastBits t_lastSum t_lastHeld t_lastLeft t_lastCode t_writtenLong t_codeMany t_acts t_done0 t_stoppedAt, ic E (r_t 0) 800 t_all, ic E (r_t 42) 2000 t_codes]) (hm_runV (rest := []) hx hb hml hown X hA Y w 0 (ci := 7) (T := TX8) (N := 55) rfl rfl mw_X8_offBy ml_X8_323 dX8_mostOff_19 hm_ac0 [.int a1, .int a2, .int x2] rfl [0, 1, 2] rfl rfl (ct_X8_offBy l E H.size h0 r_t t_base t_taped t_at t_faultPlace t_number t_newBits t_newTold t_newDoings t_newThings t_opened t_sum t_heldAll t_onPaper t_turned t_wasConverted t_lastBits t_lastSum t_lastHeld t_lastLeft t_lastCode t_writtenLong t_codeMany t_acts t_done0 t_stoppedAt t_all t_codes a1 a2 x2 (r3, ()) hc19) rfl hl.1 ⟨⟨rfl, rfl⟩, ⟨Nat.le_of_ble_eq_true rfl, Nat.le_of_ble_eq_true rfl⟩, ⟨Nat.le_of_ble_eq_true rfl, Nat.le_of_ble_eq_true rfl⟩, Nat.le_of_ble_eq_true rfl⟩) hA w [0, 1, 2] [] [0, 1, 2] rfl rfl (by decide) (fun _ => rfl) (fun _ H locs w => ?_)
        refine lv_aload_n hx hb dX8_mostOff_22 rfl (lv_at hl 0 rfl) ?_
        refine lv_iload_n hx hb dX8_mostOff_23 rfl (lv_at hl 1 rfl) ?_
        refine lv_iload_n hx hb dX8_mostOff_24 rfl (lv_at hl 2 rfl) ?_
        refine lv_iload_n hx hb dX8_mostOff_25 rfl (lv_at hl 3 rfl) ?_
        obtain ⟨r4, hc26, hf⟩ := pf_bi_0 hf
        refine hm_aft_i (ws' := fun _ => [oc8 h0 r_t t_base t_taped t_at t_faultPlace t_number t_newBits t_newTold t_newDoings t_newThings t_opened t_sum t_heldAll t_onPaper t_turned t_wasConverted t_lastBits t_lastSum t_lastHeld t_lastLeft t_lastCode t_writtenLong t_codeMany t_acts t_done0 t_stoppedAt, ic E (r_t 0) 800 t_all, ic E (r_t 42) 2000 t_codes]) (hm_runV (rest := [.int r3]) hx hb hml hown X hA Y w 0 (ci := 7) (T := TX8) (N := 55) rfl rfl mw_X8_offBy ml_X8_323 dX8_mostOff_26 hm_ac0 [.int a1, .int a2, .int x1] rfl [0, 1, 2] rfl rfl (ct_X8_offBy l E H.size h0 r_t t_base t_taped t_at t_faultPlace t_number t_newBits t_newTold t_newDoings t_newThings t_opened t_sum t_heldAll t_onPaper t_turned t_wasConverted t_lastBits t_lastSum t_lastHeld t_lastLeft t_lastCode t_writtenLong t_codeMany t_acts t_done0 t_stoppedAt t_all t_codes a1 a2 x1 (r4, ()) hc26) rfl hl.1 ⟨⟨rfl, rfl⟩, ⟨Nat.le_of_ble_eq_true rfl, Nat.le_of_ble_eq_true rfl⟩, ⟨Nat.le_of_ble_eq_true rfl, Nat.le_of_ble_eq_true rfl⟩, Nat.le_of_ble_eq_true rfl⟩) hA w [0, 1, 2] [] [0, 1, 2] rfl rfl (by decide) (fun _ => rfl) (fun _ H locs w => ?_)
        refine lv_icmp_le (tgt := 37) hx hb dX8_mostOff_29 (by decide) (fun c29 => ?_) (fun c29 => ?_)
        · have hf := pf_t c29 hf
          refine lv_iload_n hx hb dX8_mostOff_37 rfl (lv_at hl 3 rfl) ?_
          refine lv_istore_n (lv' := [(3, .int x1), (0, .ref h0), (1, .int a1), (2, .int a2), (4, .int x2)]) hx hb dX8_mostOff_38 rfl hl (by decide) rfl (fun ls hl => ?_)
          obtain ⟨x5, ex5⟩ : ∃ y : Int32, y = (x2 + 1) := ⟨_, rfl⟩
          have hf := pf_nm ex5 hf
          refine lv_iinc (v := x5) (lv' := [(4, .int x5), (3, .int x1), (0, .ref h0), (1, .int a1), (2, .int a2)]) hx hb dX8_mostOff_39 hl (k := 4) rfl (by rw [ex5]; rfl) (by decide) rfl (fun ls hl => ?_)
          refine lv_goto (tgt := 5) hx hb dX8_mostOff_42 (by decide) ?_
          exact ih5 _ _ _ _ _ hf w (lv_sub hl [2, 3, 4, 1, 0] rfl)
        · have hf := pf_e c29 hf
          refine lv_iload hx hb dX8_mostOff_32 (lv_at hl 4 rfl) ?_
          refine lv_goto (tgt := 38) hx hb dX8_mostOff_34 (by decide) ?_
          refine lv_istore_n (lv' := [(3, .int x2), (0, .ref h0), (1, .int a1), (2, .int a2), (4, .int x2)]) hx hb dX8_mostOff_38 rfl hl (by decide) rfl (fun ls hl => ?_)
          obtain ⟨x6, ex6⟩ : ∃ y : Int32, y = (x2 + 1) := ⟨_, rfl⟩
          have hf := pf_nm ex6 hf
          refine lv_iinc (v := x6) (lv' := [(4, .int x6), (3, .int x2), (0, .ref h0), (1, .int a1), (2, .int a2)]) hx hb dX8_mostOff_39 hl (k := 4) rfl (by rw [ex6]; rfl) (by decide) rfl (fun ls hl => ?_)
          refine lv_goto (tgt := 5) hx hb dX8_mostOff_42 (by decide) ?_
          exact ih5 _ _ _ _ _ hf w (lv_sub hl [2, 3, 4, 1, 0] rfl)
  exact klp_X8_mostOff_5 FU _ _ _ _ _ hf w (lv_sub hl [2, 3, 4, 1, 0] rfl)
set_option maxHeartbeats 8000000 in
set_option maxRecDepth 100000 in
theorem ct_X8_countOf (l : Launch) (E : hm_E) (sz : Nat) (h0 : Nat) (r_t : Nat → Nat) (t_base t_taped t_at t_faultPlace t_number t_newBits t_newTold t_newDoings t_newThings t_opened t_sum t_heldAll t_onPaper t_turned t_wasConverted t_lastBits t_lastSum t_lastHeld t_lastLeft t_lastCode t_writtenLong t_codeMany t_acts t_done0 t_stoppedAt : Int32) (t_sorted : Nat → Int32) (a1 : Int32) (R : Int32 × Unit) (hf : pf_X8_countOf a1 t_sorted t_codeMany = some R) : hm_Mi l E yX8_countOf cX8_countOf 4 .int [] (hm_rr 0 0 0 0) [.ref h0, .int a1] sz [oc8 h0 r_t t_base t_taped t_at t_faultPlace t_number t_newBits t_newTold t_newDoings t_newThings t_opened t_sum t_heldAll t_onPaper t_turned t_wasConverted t_lastBits t_lastSum t_lastHeld t_lastLeft t_lastCode t_writtenLong t_codeMany t_acts t_done0 t_stoppedAt, ic E (r_t 43) 2000 t_sorted] R.1 (fun _ => [oc8 h0 r_t t_base t_taped t_at t_faultPlace t_number t_newBits t_newTold t_newDoings t_newThings t_opened t_sum t_heldAll t_onPaper t_turned t_wasConverted t_lastBits t_lastSum t_lastHeld t_lastLeft t_lastCode t_writtenLong t_codeMany t_acts t_done0 t_stoppedAt, ic E (r_t 43) 2000 t_sorted]) := by
  refine hm_ct_i R (fun u qs => [oc8 h0 r_t t_base t_taped t_at t_faultPlace t_number t_newBits t_newTold t_newDoings t_newThings t_opened t_sum t_heldAll t_onPaper t_turned t_wasConverted t_lastBits t_lastSum t_lastHeld t_lastLeft t_lastCode t_writtenLong t_codeMany t_acts t_done0 t_stoppedAt, ic E (r_t 43) 2000 t_sorted]) (by decide) (Nat.le_of_ble_eq_true rfl) (Or.inl rfl) ?_
  intro p e s m args below meth c A Q ls H locs hx hb hml hown X hA Y hex w hl hQ
  have hl : lv_has ls 4 [(0, .ref h0), (1, .int a1)] := hl
  unfold pf_X8_countOf at hf
  refine lv_iconst (v := 0) hx hb dX8_countOf_0 (by decide) ?_
  refine lv_istore_n (lv' := [(2, .int 0), (0, .ref h0), (1, .int a1)]) hx hb dX8_countOf_1 rfl hl (by decide) rfl (fun ls hl => ?_)
  refine lv_iconst (v := 0) hx hb dX8_countOf_2 (by decide) ?_
  refine lv_istore_n (lv' := [(3, .int 0), (2, .int 0), (0, .ref h0), (1, .int a1)]) hx hb dX8_countOf_3 rfl hl (by decide) rfl (fun ls hl => ?_)
  have klp_X8_countOf_4 : ∀ (n : Nat) (x1 : Int32) (x2 : Int32) (H : Heap) (locs : List Loc) (ls : Array Slot), lp_X8_countOf_4 a1 t_codeMany t_sorted n x1 x2 = some R → hm_W E A s.heap [oc8 h0 r_t t_base t_taped t_at t_faultPlace t_number t_newBits t_newTold t_newDoings t_newThings t_opened t_sum t_heldAll t_onPaper t_turned t_wasConverted t_lastBits t_lastSum t_lastHeld t_lastLeft t_lastCode t_writtenLong t_codeMany t_acts t_done0 t_stoppedAt, ic E (r_t 43) 2000 t_sorted] H locs → lv_has ls 4 [(0, .ref h0), (1, .int a1), (2, .int x1), (3, .int x2)] → W p l e (hm_rr 0 0 0 0) s m args below meth c H locs 0 0 Q (F0 m 4 ls []) := by
    intro n
    induction n with
    | zero =>
      intro x1 x2 H locs ls hf w hl
      exact pf_no hf
    | succ n ih4 =>
      intro x1 x2 H locs ls hf w hl
      rw [lp_X8_countOf_4] at hf
      refine lv_iload_n hx hb dX8_countOf_4 rfl (lv_at hl 3 rfl) ?_
      refine lv_aload_n hx hb dX8_countOf_5 rfl (lv_at hl 0 rfl) ?_
      refine hm_get cb_X8 hx hb hown X w 0 44 fl_X8_317 dX8_countOf_6 rfl (by decide) rfl ?_
      refine lv_icmp_ge (tgt := 36) hx hb dX8_countOf_9 (by decide) (fun c9 => ?_) (fun c9 => ?_)
      · have hf := pf_t c9 hf
        refine lv_iload_n hx hb dX8_countOf_36 rfl (lv_at hl 2 rfl) ?_
        exact hQ _ _ _ _ _ () (fun _ => 0) hf rfl w dX8_countOf_37
      · have hf := pf_e c9 hf
        refine lv_iload_n hx hb dX8_countOf_12 rfl (lv_at hl 2 rfl) ?_
        refine lv_aload_n hx hb dX8_countOf_13 rfl (lv_at hl 0 rfl) ?_
        refine hm_get cb_X8 hx hb hown X w 0 43 fl_X8_92 dX8_countOf_14 rfl (by decide) rfl ?_
        refine lv_iload_n hx hb dX8_countOf_17 rfl (lv_at hl 3 rfl) ?_
        obtain ⟨g18, hf⟩ := pf_ckI hf
        refine hm_iald hx hb X w 1 dX8_countOf_18 rfl g18 ?_
        refine lv_iload_n hx hb dX8_countOf_19 rfl (lv_at hl 1 rfl) ?_
        refine lv_icmp_ne (tgt := 27) hx hb dX8_countOf_20 (by decide) (fun c20 => ?_) (fun c20 => ?_)
        · have hf := pf_e c20 hf
          refine lv_iconst (v := 0) hx hb dX8_countOf_27 (by decide) ?_
          refine lv_iadd hx hb dX8_countOf_28 ?_
          refine lv_topi (fun x3 ex3 => ?_)
          have hf := pf_nm ex3 hf
          refine lv_istore_n (lv' := [(2, .int x3), (0, .ref h0), (1, .int a1), (3, .int x2)]) hx hb dX8_countOf_29 rfl hl (by decide) rfl (fun ls hl => ?_)
          obtain ⟨x4, ex4⟩ : ∃ y : Int32, y = (x2 + 1) := ⟨_, rfl⟩
          have hf := pf_nm ex4 hf
          refine lv_iinc (v := x4) (lv' := [(3, .int x4), (2, .int x3), (0, .ref h0), (1, .int a1)]) hx hb dX8_countOf_30 hl (k := 3) rfl (by rw [ex4]; rfl) (by decide) rfl (fun ls hl => ?_)
          refine lv_goto (tgt := 4) hx hb dX8_countOf_33 (by decide) ?_
          exact ih4 _ _ _ _ _ hf w (lv_sub hl [2, 3, 1, 0] rfl)
        · have hf := pf_t c20 hf
          refine lv_iconst (v := 1) hx hb dX8_countOf_23 (by decide) ?_
          refine lv_goto (tgt := 28) hx hb dX8_countOf_24 (by decide) ?_
          refine lv_iadd hx hb dX8_countOf_28 ?_
          refine lv_topi (fun x5 ex5 => ?_)
          have hf := pf_nm ex5 hf
          refine lv_istore_n (lv' := [(2, .int x5), (0, .ref h0), (1, .int a1), (3, .int x2)]) hx hb dX8_countOf_29 rfl hl (by decide) rfl (fun ls hl => ?_)
          obtain ⟨x6, ex6⟩ : ∃ y : Int32, y = (x2 + 1) := ⟨_, rfl⟩
          have hf := pf_nm ex6 hf
          refine lv_iinc (v := x6) (lv' := [(3, .int x6), (2, .int x5), (0, .ref h0), (1, .int a1)]) hx hb dX8_countOf_30 hl (k := 3) rfl (by rw [ex6]; rfl) (by decide) rfl (fun ls hl => ?_)
          refine lv_goto (tgt := 4) hx hb dX8_countOf_33 (by decide) ?_
          exact ih4 _ _ _ _ _ hf w (lv_sub hl [2, 3, 1, 0] rfl)
  exact klp_X8_countOf_4 FU _ _ _ _ _ hf w (lv_sub hl [2, 3, 1, 0] rfl)
set_option maxHeartbeats 8000000 in
set_option maxRecDepth 100000 in
theorem ct_X8_mostOften (l : Launch) (E : hm_E) (sz : Nat) (h0 : Nat) (r_t : Nat → Nat) (t_base t_taped t_at t_faultPlace t_number t_newBits t_newTold t_newDoings t_newThings t_opened t_sum t_heldAll t_onPaper t_turned t_wasConverted t_lastBits t_lastSum t_lastHeld t_lastLeft t_lastCode t_writtenLong t_codeMany t_acts t_done0 t_stoppedAt : Int32) (t_sorted : Nat → Int32) (R : Int32 × Unit) (hf : pf_X8_mostOften t_sorted t_codeMany = some R) : hm_Mi l E yX8_mostOften cX8_mostOften 5 .int [] (hm_rr 0 0 0 0) [.ref h0] sz [oc8 h0 r_t t_base t_taped t_at t_faultPlace t_number t_newBits t_newTold t_newDoings t_newThings t_opened t_sum t_heldAll t_onPaper t_turned t_wasConverted t_lastBits t_lastSum t_lastHeld t_lastLeft t_lastCode t_writtenLong t_codeMany t_acts t_done0 t_stoppedAt, ic E (r_t 43) 2000 t_sorted] R.1 (fun _ => [oc8 h0 r_t t_base t_taped t_at t_faultPlace t_number t_newBits t_newTold t_newDoings t_newThings t_opened t_sum t_heldAll t_onPaper t_turned t_wasConverted t_lastBits t_lastSum t_lastHeld t_lastLeft t_lastCode t_writtenLong t_codeMany t_acts t_done0 t_stoppedAt, ic E (r_t 43) 2000 t_sorted]) := by
  refine hm_ct_i R (fun u qs => [oc8 h0 r_t t_base t_taped t_at t_faultPlace t_number t_newBits t_newTold t_newDoings t_newThings t_opened t_sum t_heldAll t_onPaper t_turned t_wasConverted t_lastBits t_lastSum t_lastHeld t_lastLeft t_lastCode t_writtenLong t_codeMany t_acts t_done0 t_stoppedAt, ic E (r_t 43) 2000 t_sorted]) (by decide) (Nat.le_of_ble_eq_true rfl) (Or.inl rfl) ?_
  intro p e s m args below meth c A Q ls H locs hx hb hml hown X hA Y hex w hl hQ
  have hl : lv_has ls 5 [(0, .ref h0)] := hl
  unfold pf_X8_mostOften at hf
  refine lv_aload_n hx hb dX8_mostOften_0 rfl (lv_at hl 0 rfl) ?_
  refine hm_get cb_X8 hx hb hown X w 0 43 fl_X8_92 dX8_mostOften_1 rfl (by decide) rfl ?_
  refine lv_iconst (v := 0) hx hb dX8_mostOften_4 (by decide) ?_
  obtain ⟨g5, hf⟩ := pf_ckI hf
  refine hm_iald hx hb X w 1 dX8_mostOften_5 rfl g5 ?_
  refine lv_topi (fun x1 ex1 => ?_)
  have hf := pf_nm ex1 hf
  refine lv_istore_n (lv' := [(1, .int x1), (0, .ref h0)]) hx hb dX8_mostOften_6 rfl hl (by decide) rfl (fun ls hl => ?_)
  refine lv_iconst (v := 0) hx hb dX8_mostOften_7 (by decide) ?_
  refine lv_istore_n (lv' := [(2, .int 0), (1, .int x1), (0, .ref h0)]) hx hb dX8_mostOften_8 rfl hl (by decide) rfl (fun ls hl => ?_)
  refine lv_iconst (v := 0) hx hb dX8_mostOften_9 (by decide) ?_
  refine lv_istore_n (lv' := [(3, .int 0), (2, .int 0), (1, .int x1), (0, .ref h0)]) hx hb dX8_mostOften_10 rfl hl (by decide) rfl (fun ls hl => ?_)
  refine lv_iconst (v := 0) hx hb dX8_mostOften_11 (by decide) ?_
  refine lv_istore (lv' := [(4, .int 0), (3, .int 0), (2, .int 0), (1, .int x1), (0, .ref h0)]) hx hb dX8_mostOften_12 hl (by decide) rfl (fun ls hl => ?_)
  have klp_X8_mostOften_14 : ∀ (n : Nat) (x2 : Int32) (x3 : Int32) (x4 : Int32) (x5 : Int32) (H : Heap) (locs : List Loc) (ls : Array Slot), lp_X8_mostOften_14 t_codeMany t_sorted n x2 x3 x4 x5 = some R → hm_W E A s.heap [oc8 h0 r_t t_base t_taped t_at t_faultPlace t_number t_newBits t_newTold t_newDoings t_newThings t_opened t_sum t_heldAll t_onPaper t_turned t_wasConverted t_lastBits t_lastSum t_lastHeld t_lastLeft t_lastCode t_writtenLong t_codeMany t_acts t_done0 t_stoppedAt, ic E (r_t 43) 2000 t_sorted] H locs → lv_has ls 5 [(0, .ref h0), (1, .int x2), (2, .int x3), (3, .int x4), (4, .int x5)] → W p l e (hm_rr 0 0 0 0) s m args below meth c H locs 0 0 Q (F0 m 14 ls []) := by
    intro n
    induction n with
    | zero =>
      intro x2 x3 x4 x5 H locs ls hf w hl
      exact pf_no hf
    | succ n ih14 =>
      intro x2 x3 x4 x5 H locs ls hf w hl
      rw [lp_X8_mostOften_14] at hf
      refine lv_iload hx hb dX8_mostOften_14 (lv_at hl 4 rfl) ?_
      refine lv_aload_n hx hb dX8_mostOften_16 rfl (lv_at hl 0 rfl) ?_
      refine hm_get cb_X8 hx hb hown X w 0 44 fl_X8_317 dX8_mostOften_17 rfl (by decide) rfl ?_
      refine lv_icmp_ge (tgt := 79) hx hb dX8_mostOften_20 (by decide) (fun c20 => ?_) (fun c20 => ?_)
      · have hf := pf_t c20 hf
        refine lv_iload_n hx hb dX8_mostOften_79 rfl (lv_at hl 1 rfl) ?_
        exact hQ _ _ _ _ _ () (fun _ => 0) hf rfl w dX8_mostOften_80
      · have hf := pf_e c20 hf
        refine lv_iload hx hb dX8_mostOften_23 (lv_at hl 4 rfl) ?_
        obtain ⟨J54, hJ54, hf⟩ := pf_jn hf
        have kJ54 : ∀ (x6 : Int32) (H : Heap) (locs : List Loc) (ls : Array Slot), J54 x6 = some R → hm_W E A s.heap [oc8 h0 r_t t_base t_taped t_at t_faultPlace t_number t_newBits t_newTold t_newDoings t_newThings t_opened t_sum t_heldAll t_onPaper t_turned t_wasConverted t_lastBits t_lastSum t_lastHeld t_lastLeft t_lastCode t_writtenLong t_codeMany t_acts t_done0 t_stoppedAt, ic E (r_t 43) 2000 t_sorted] H locs → lv_has ls 5 [(0, .ref h0), (1, .int x2), (2, .int x3), (4, .int x5)] → W p l e (hm_rr 0 0 0 0) s m args below meth c H locs 0 0 Q (F0 m 54 ls [.int x6]) := by
          intro x6 H locs ls hf w hl
          have hf := pf_j1 hJ54 hf
          refine lv_istore_n (lv' := [(3, .int x6), (0, .ref h0), (1, .int x2), (2, .int x3), (4, .int x5)]) hx hb dX8_mostOften_54 rfl hl (by decide) rfl (fun ls hl => ?_)
          refine lv_iload_n hx hb dX8_mostOften_55 rfl (lv_at hl 0 rfl) ?_
          refine lv_iload_n hx hb dX8_mostOften_56 rfl (lv_at hl 3 rfl) ?_
          refine lv_icmp_gt (tgt := 63) hx hb dX8_mostOften_57 (by decide) (fun c57 => ?_) (fun c57 => ?_)
          · have hf := pf_t c57 hf
            refine lv_iload_n hx hb dX8_mostOften_63 rfl (lv_at hl 0 rfl) ?_
            refine lv_istore_n (lv' := [(2, .int x6), (3, .int x6), (0, .ref h0), (1, .int x2), (4, .int x5)]) hx hb dX8_mostOften_64 rfl hl (by decide) rfl (fun ls hl => ?_)
            refine lv_aload_n hx hb dX8_mostOften_65 rfl (lv_at hl 2 rfl) ?_
            refine hm_get cb_X8 hx hb hown X w 0 43 fl_X8_92 dX8_mostOften_66 rfl (by decide) rfl ?_
            refine lv_iload hx hb dX8_mostOften_69 (lv_at hl 4 rfl) ?_
            obtain ⟨g71, hf⟩ := pf_ckI hf
            refine hm_iald hx hb X w 1 dX8_mostOften_71 rfl g71 ?_
            refine lv_topi (fun x7 ex7 => ?_)
            have hf := pf_nm ex7 hf
            refine lv_istore_n (lv' := [(1, .int x7), (2, .int x6), (3, .int x6), (0, .ref h0), (4, .int x5)]) hx hb dX8_mostOften_72 rfl hl (by decide) rfl (fun ls hl => ?_)
            obtain ⟨x8, ex8⟩ : ∃ y : Int32, y = (x5 + 1) := ⟨_, rfl⟩
            have hf := pf_nm ex8 hf
            refine lv_iinc (v := x8) (lv' := [(4, .int x8), (1, .int x7), (2, .int x6), (3, .int x6), (0, .ref h0)]) hx hb dX8_mostOften_73 hl (k := 4) rfl (by rw [ex8]; rfl) (by decide) rfl (fun ls hl => ?_)
            refine lv_goto (tgt := 14) hx hb dX8_mostOften_76 (by decide) ?_
            exact ih14 _ _ _ _ _ _ _ hf w (lv_sub hl [4, 1, 2, 3, 0] rfl)
          · have hf := pf_e c57 hf
            refine lv_goto (tgt := 73) hx hb dX8_mostOften_60 (by decide) ?_
            obtain ⟨x9, ex9⟩ : ∃ y : Int32, y = (x5 + 1) := ⟨_, rfl⟩
            have hf := pf_nm ex9 hf
            refine lv_iinc (v := x9) (lv' := [(4, .int x9), (3, .int x6), (0, .ref h0), (1, .int x2), (2, .int x3)]) hx hb dX8_mostOften_73 hl (k := 4) rfl (by rw [ex9]; rfl) (by decide) rfl (fun ls hl => ?_)
            refine lv_goto (tgt := 14) hx hb dX8_mostOften_76 (by decide) ?_
            exact ih14 _ _ _ _ _ _ _ hf w (lv_sub hl [2, 3, 4, 1, 0] rfl)
        obtain ⟨J53, hJ53, hf⟩ := pf_jn hf
        have kJ53 : ∀ (H : Heap) (locs : List Loc) (ls : Array Slot), J53 = some R → hm_W E A s.heap [oc8 h0 r_t t_base t_taped t_at t_faultPlace t_number t_newBits t_newTold t_newDoings t_newThings t_opened t_sum t_heldAll t_onPaper t_turned t_wasConverted t_lastBits t_lastSum t_lastHeld t_lastLeft t_lastCode t_writtenLong t_codeMany t_acts t_done0 t_stoppedAt, ic E (r_t 43) 2000 t_sorted] H locs → lv_has ls 5 [(0, .ref h0), (1, .int x2), (2, .int x3), (4, .int x5)] → W p l e (hm_rr 0 0 0 0) s m args below meth c H locs 0 0 Q (F0 m 53 ls []) := by
          intro H locs ls hf w hl
          have hf := pf_j0 hJ53 hf
          refine lv_iconst (v := 1) hx hb dX8_mostOften_53 (by decide) ?_
          exact kJ54 _ _ _ _ hf w (lv_sub hl [0, 1, 2, 3] rfl)
        refine lv_if_le (tgt := 53) hx hb dX8_mostOften_25 (by decide) (fun c25 => ?_) (fun c25 => ?_)
        · have hf := pf_t c25 hf
          exact kJ53 _ _ _ hf w (lv_sub hl [0, 1, 2, 4] rfl)
        · have hf := pf_e c25 hf
          refine lv_aload_n hx hb dX8_mostOften_28 rfl (lv_at hl 0 rfl) ?_
          refine hm_get cb_X8 hx hb hown X w 0 43 fl_X8_92 dX8_mostOften_29 rfl (by decide) rfl ?_
          refine lv_iload hx hb dX8_mostOften_32 (lv_at hl 4 rfl) ?_
          obtain ⟨g34, hf⟩ := pf_ckI hf
          refine hm_iald hx hb X w 1 dX8_mostOften_34 rfl g34 ?_
          refine lv_aload_n hx hb dX8_mostOften_35 rfl (lv_at hl 0 rfl) ?_
          refine hm_get cb_X8 hx hb hown X w 0 43 fl_X8_92 dX8_mostOften_36 rfl (by decide) rfl ?_
          refine lv_iload hx hb dX8_mostOften_39 (lv_at hl 4 rfl) ?_
          refine lv_iconst (v := 1) hx hb dX8_mostOften_41 (by decide) ?_
          refine lv_isub hx hb dX8_mostOften_42 ?_
          obtain ⟨g43, hf⟩ := pf_ckI hf
          refine hm_iald hx hb X w 1 dX8_mostOften_43 rfl g43 ?_
          refine lv_icmp_ne (tgt := 53) hx hb dX8_mostOften_44 (by decide) (fun c44 => ?_) (fun c44 => ?_)
          · have hf := pf_e c44 hf
            exact kJ53 _ _ _ hf w (lv_sub hl [0, 1, 2, 4] rfl)
          · have hf := pf_t c44 hf
            refine lv_iload_n hx hb dX8_mostOften_47 rfl (lv_at hl 3 rfl) ?_
            refine lv_iconst (v := 1) hx hb dX8_mostOften_48 (by decide) ?_
            refine lv_iadd hx hb dX8_mostOften_49 ?_
            refine lv_goto (tgt := 54) hx hb dX8_mostOften_50 (by decide) ?_
            exact kJ54 _ _ _ _ hf w (lv_sub hl [0, 1, 2, 4] rfl)
  exact klp_X8_mostOften_14 FU _ _ _ _ _ _ _ hf w (lv_sub hl [4, 3, 2, 1, 0] rfl)
set_option maxHeartbeats 8000000 in
set_option maxRecDepth 100000 in
theorem ct_X8_ofHistogram (l : Launch) (E : hm_E) (sz : Nat) (h0 : Nat) (r_t : Nat → Nat) (t_base t_taped t_at t_faultPlace t_number t_newBits t_newTold t_newDoings t_newThings t_opened t_sum t_heldAll t_onPaper t_turned t_wasConverted t_lastBits t_lastSum t_lastHeld t_lastLeft t_lastCode t_writtenLong t_codeMany t_acts t_done0 t_stoppedAt : Int32) (t_all : Nat → Int32) (t_codes : Nat → Int32) (t_sorted : Nat → Int32) (a1 : Int32) (a2 : Int32) (a3 : Int32) (R : Int32 × Unit) (hf : pf_X8_ofHistogram a1 a2 a3 t_all t_base t_codes t_sorted t_codeMany = some R) : hm_Mi l E yX8_ofHistogram cX8_ofHistogram 4 .int [] (hm_rr 3 69 0 0) [.ref h0, .int a1, .int a2, .int a3] sz [oc8 h0 r_t t_base t_taped t_at t_faultPlace t_number t_newBits t_newTold t_newDoings t_newThings t_opened t_sum t_heldAll t_onPaper t_turned t_wasConverted t_lastBits t_lastSum t_lastHeld t_lastLeft t_lastCode t_writtenLong t_codeMany t_acts t_done0 t_stoppedAt, ic E (r_t 0) 800 t_all, ic E (r_t 42) 2000 t_codes, ic E (r_t 43) 2000 t_sorted] R.1 (fun _ => [oc8 h0 r_t t_base t_taped t_at t_faultPlace t_number t_newBits t_newTold t_newDoings t_newThings t_opened t_sum t_heldAll t_onPaper t_turned t_wasConverted t_lastBits t_lastSum t_lastHeld t_lastLeft t_lastCode t_writtenLong t_codeMany t_acts t_done0 t_stoppedAt, ic E (r_t 0) 800 t_all, ic E (r_t 42) 2000 t_codes, ic E (r_t 43) 2000 t_sorted]) := by
  refine hm_ct_i R (fun u qs => [oc8 h0 r_t t_base t_taped t_at t_faultPlace t_number t_newBits t_newTold t_newDoings t_newThings t_opened t_sum t_heldAll t_onPaper t_turned t_wasConverted t_lastBits t_lastSum t_lastHeld t_lastLeft t_lastCode t_writtenLong t_codeMany t_acts t_done0 t_stoppedAt, ic E (r_t 0) 800 t_all, ic E (r_t 42) 2000 t_codes, ic E (r_t 43) 2000 t_sorted]) (by decide) (Nat.le_of_ble_eq_true rfl) (Or.inl rfl) ?_
  intro p e s m args below meth c A Q ls H locs hx hb hml hown X hA Y hex w hl hQ
  have hl : lv_has ls 4 [(0, .ref h0), (1, .int a1), (2, .int a2), (3, .int a3)] := hl
  unfold pf_X8_ofHistogram at hf
  refine lv_iload_n hx hb dX8_ofHistogram_0 rfl (lv_at hl 3 rfl) ?_
  by_cases c1_0 : a3 = 0
  · have hf := pf_t c1_0 hf
    refine lv_tableIn (off := 51) (tgt := 52) hx hb dX8_ofHistogram_1 (by rw [c1_0]; decide) (by rw [c1_0]; decide) (by rw [c1_0]; rfl) (by decide) ?_
    refine lv_aload_n hx hb dX8_ofHistogram_52 rfl (lv_at hl 0 rfl) ?_
    obtain ⟨r1, hc53, hf⟩ := pf_bi_0 hf
    refine hm_aft_i (ws' := fun _ => [oc8 h0 r_t t_base t_taped t_at t_faultPlace t_number t_newBits t_newTold t_newDoings t_newThings t_opened t_sum t_heldAll t_onPaper t_turned t_wasConverted t_lastBits t_lastSum t_lastHeld t_lastLeft t_lastCode t_writtenLong t_codeMany t_acts t_done0 t_stoppedAt, ic E (r_t 0) 800 t_all, ic E (r_t 42) 2000 t_codes, ic E (r_t 43) 2000 t_sorted]) (hm_runV (rest := []) hx hb hml hown X hA Y w 0 (ci := 7) (T := TX8) (N := 55) rfl rfl mw_X8_unlikeCodes ml_X8_326 dX8_ofHistogram_53 hm_ac0 [] rfl [0, 3] rfl rfl (ct_X8_unlikeCodes l E H.size h0 r_t t_base t_taped t_at t_faultPlace t_number t_newBits t_newTold t_newDoings t_newThings t_opened t_sum t_heldAll t_onPaper t_turned t_wasConverted t_lastBits t_lastSum t_lastHeld t_lastLeft t_lastCode t_writtenLong t_codeMany t_acts t_done0 t_stoppedAt t_sorted (r1, ()) hc53) rfl hl.1 ⟨⟨rfl, rfl⟩, ⟨Nat.le_of_ble_eq_true rfl, Nat.le_of_ble_eq_true rfl⟩, ⟨Nat.le_of_ble_eq_true rfl, Nat.le_of_ble_eq_true rfl⟩, Nat.le_of_ble_eq_true rfl⟩) hA w [0, 3] [1, 2] [2, 0, 1, 3] rfl rfl (by decide) (fun _ => rfl) (fun _ H locs w => ?_)
    exact hQ _ _ _ _ _ () (fun _ => 0) hf rfl w dX8_ofHistogram_56
  · have hf := pf_e c1_0 hf
    by_cases c1_1 : a3 = 1
    · have hf := pf_t c1_1 hf
      refine lv_tableIn (off := 56) (tgt := 57) hx hb dX8_ofHistogram_1 (by rw [c1_1]; decide) (by rw [c1_1]; decide) (by rw [c1_1]; rfl) (by decide) ?_
      refine lv_aload_n hx hb dX8_ofHistogram_57 rfl (lv_at hl 0 rfl) ?_
      refine hm_get cb_X8 hx hb hown X w 0 43 fl_X8_92 dX8_ofHistogram_58 rfl (by decide) rfl ?_
      refine lv_aload_n hx hb dX8_ofHistogram_61 rfl (lv_at hl 0 rfl) ?_
      refine hm_get cb_X8 hx hb hown X w 0 44 fl_X8_317 dX8_ofHistogram_62 rfl (by decide) rfl ?_
      refine lv_iconst (v := 1) hx hb dX8_ofHistogram_65 (by decide) ?_
      refine lv_isub hx hb dX8_ofHistogram_66 ?_
      obtain ⟨g67, hf⟩ := pf_ckI hf
      refine hm_iald hx hb X w 3 dX8_ofHistogram_67 rfl g67 ?_
      refine lv_aload_n hx hb dX8_ofHistogram_68 rfl (lv_at hl 0 rfl) ?_
      refine hm_get cb_X8 hx hb hown X w 0 43 fl_X8_92 dX8_ofHistogram_69 rfl (by decide) rfl ?_
      refine lv_iconst (v := 0) hx hb dX8_ofHistogram_72 (by decide) ?_
      obtain ⟨g73, hf⟩ := pf_ckI hf
      refine hm_iald hx hb X w 3 dX8_ofHistogram_73 rfl g73 ?_
      refine lv_isub hx hb dX8_ofHistogram_74 ?_
      refine lv_iconst (v := 1) hx hb dX8_ofHistogram_75 (by decide) ?_
      refine lv_iadd hx hb dX8_ofHistogram_76 ?_
      refine lv_aload_n hx hb dX8_ofHistogram_77 rfl (lv_at hl 0 rfl) ?_
      obtain ⟨r2, hc78, hf⟩ := pf_bi_0 hf
      refine hm_aft_i (ws' := fun _ => [oc8 h0 r_t t_base t_taped t_at t_faultPlace t_number t_newBits t_newTold t_newDoings t_newThings t_opened t_sum t_heldAll t_onPaper t_turned t_wasConverted t_lastBits t_lastSum t_lastHeld t_lastLeft t_lastCode t_writtenLong t_codeMany t_acts t_done0 t_stoppedAt, ic E (r_t 0) 800 t_all, ic E (r_t 42) 2000 t_codes, ic E (r_t 43) 2000 t_sorted]) (hm_runV (rest := [.int (((t_sorted (t_codeMany - 1).toNatClampNeg) - (t_sorted (0 : Int32).toNatClampNeg)) + 1)]) hx hb hml hown X hA Y w 0 (ci := 7) (T := TX8) (N := 55) rfl rfl mw_X8_unlikeCodes ml_X8_326 dX8_ofHistogram_78 hm_ac0 [] rfl [0, 3] rfl rfl (ct_X8_unlikeCodes l E H.size h0 r_t t_base t_taped t_at t_faultPlace t_number t_newBits t_newTold t_newDoings t_newThings t_opened t_sum t_heldAll t_onPaper t_turned t_wasConverted t_lastBits t_lastSum t_lastHeld t_lastLeft t_lastCode t_writtenLong t_codeMany t_acts t_done0 t_stoppedAt t_sorted (r2, ()) hc78) rfl hl.1 ⟨⟨rfl, rfl⟩, ⟨Nat.le_of_ble_eq_true rfl, Nat.le_of_ble_eq_true rfl⟩, ⟨Nat.le_of_ble_eq_true rfl, Nat.le_of_ble_eq_true rfl⟩, Nat.le_of_ble_eq_true rfl⟩) hA w [0, 3] [1, 2] [2, 0, 1, 3] rfl rfl (by decide) (fun _ => rfl) (fun _ H locs w => ?_)
      refine lv_isub hx hb dX8_ofHistogram_81 ?_
      exact hQ _ _ _ _ _ () (fun _ => 0) hf rfl w dX8_ofHistogram_82
    · have hf := pf_e c1_1 hf
      by_cases c1_2 : a3 = 2
      · have hf := pf_t c1_2 hf
        refine lv_tableIn (off := 82) (tgt := 83) hx hb dX8_ofHistogram_1 (by rw [c1_2]; decide) (by rw [c1_2]; decide) (by rw [c1_2]; rfl) (by decide) ?_
        refine lv_aload_n hx hb dX8_ofHistogram_83 rfl (lv_at hl 0 rfl) ?_
        obtain ⟨r3, hc84, hf⟩ := pf_bi_0 hf
        refine hm_aft_i (ws' := fun _ => [oc8 h0 r_t t_base t_taped t_at t_faultPlace t_number t_newBits t_newTold t_newDoings t_newThings t_opened t_sum t_heldAll t_onPaper t_turned t_wasConverted t_lastBits t_lastSum t_lastHeld t_lastLeft t_lastCode t_writtenLong t_codeMany t_acts t_done0 t_stoppedAt, ic E (r_t 0) 800 t_all, ic E (r_t 42) 2000 t_codes, ic E (r_t 43) 2000 t_sorted]) (hm_runV (rest := []) hx hb hml hown X hA Y w 0 (ci := 7) (T := TX8) (N := 55) rfl rfl mw_X8_falls ml_X8_329 dX8_ofHistogram_84 hm_ac0 [] rfl [0, 2] rfl rfl (ct_X8_falls l E H.size h0 r_t t_base t_taped t_at t_faultPlace t_number t_newBits t_newTold t_newDoings t_newThings t_opened t_sum t_heldAll t_onPaper t_turned t_wasConverted t_lastBits t_lastSum t_lastHeld t_lastLeft t_lastCode t_writtenLong t_codeMany t_acts t_done0 t_stoppedAt t_codes (r3, ()) hc84) rfl hl.1 ⟨⟨rfl, rfl⟩, ⟨Nat.le_of_ble_eq_true rfl, Nat.le_of_ble_eq_true rfl⟩, ⟨Nat.le_of_ble_eq_true rfl, Nat.le_of_ble_eq_true rfl⟩, Nat.le_of_ble_eq_true rfl⟩) hA w [0, 2] [1, 3] [2, 0, 3, 1] rfl rfl (by decide) (fun _ => rfl) (fun _ H locs w => ?_)
        exact hQ _ _ _ _ _ () (fun _ => 0) hf rfl w dX8_ofHistogram_87
      · have hf := pf_e c1_2 hf
        by_cases c1_3 : a3 = 3
        · have hf := pf_t c1_3 hf
          refine lv_tableIn (off := 87) (tgt := 88) hx hb dX8_ofHistogram_1 (by rw [c1_3]; decide) (by rw [c1_3]; decide) (by rw [c1_3]; rfl) (by decide) ?_
          refine lv_aload_n hx hb dX8_ofHistogram_88 rfl (lv_at hl 0 rfl) ?_
          refine lv_iload_n hx hb dX8_ofHistogram_89 rfl (lv_at hl 1 rfl) ?_
          refine lv_iload_n hx hb dX8_ofHistogram_90 rfl (lv_at hl 2 rfl) ?_
          refine lv_aload_n hx hb dX8_ofHistogram_91 rfl (lv_at hl 0 rfl) ?_
          refine lv_iload_n hx hb dX8_ofHistogram_92 rfl (lv_at hl 1 rfl) ?_
          refine lv_iload_n hx hb dX8_ofHistogram_93 rfl (lv_at hl 2 rfl) ?_
          obtain ⟨r4, hc94, hf⟩ := pf_bi_0 hf
          refine hm_aft_i (ws' := fun _ => [oc8 h0 r_t t_base t_taped t_at t_faultPlace t_number t_newBits t_newTold t_newDoings t_newThings t_opened t_sum t_heldAll t_onPaper t_turned t_wasConverted t_lastBits t_lastSum t_lastHeld t_lastLeft t_lastCode t_writtenLong t_codeMany t_acts t_done0 t_stoppedAt, ic E (r_t 0) 800 t_all, ic E (r_t 42) 2000 t_codes, ic E (r_t 43) 2000 t_sorted]) (hm_runV (rest := [.int a2, .int a1, .ref h0]) hx hb hml hown X hA Y w 0 (ci := 7) (T := TX8) (N := 55) rfl rfl mw_X8_mostOff ml_X8_332 dX8_ofHistogram_94 hm_ac0 [.int a1, .int a2] rfl [0, 1, 2] rfl rfl (ct_X8_mostOff l E H.size h0 r_t t_base t_taped t_at t_faultPlace t_number t_newBits t_newTold t_newDoings t_newThings t_opened t_sum t_heldAll t_onPaper t_turned t_wasConverted t_lastBits t_lastSum t_lastHeld t_lastLeft t_lastCode t_writtenLong t_codeMany t_acts t_done0 t_stoppedAt t_all t_codes a1 a2 (r4, ()) hc94) rfl hl.1 ⟨⟨rfl, rfl⟩, ⟨Nat.le_of_ble_eq_true rfl, Nat.le_of_ble_eq_true rfl⟩, ⟨Nat.le_of_ble_eq_true rfl, Nat.le_of_ble_eq_true rfl⟩, Nat.le_of_ble_eq_true rfl⟩) hA w [0, 1, 2] [3] [1, 2, 3, 0] rfl rfl (by decide) (fun _ => rfl) (fun _ H locs w => ?_)
          obtain ⟨r5, hc97, hf⟩ := pf_bi_0 hf
          refine hm_aft_i (ws' := fun _ => [oc8 h0 r_t t_base t_taped t_at t_faultPlace t_number t_newBits t_newTold t_newDoings t_newThings t_opened t_sum t_heldAll t_onPaper t_turned t_wasConverted t_lastBits t_lastSum t_lastHeld t_lastLeft t_lastCode t_writtenLong t_codeMany t_acts t_done0 t_stoppedAt, ic E (r_t 0) 800 t_all, ic E (r_t 42) 2000 t_codes, ic E (r_t 43) 2000 t_sorted]) (hm_runV (rest := []) hx hb hml hown X hA Y w 0 (ci := 7) (T := TX8) (N := 55) rfl rfl mw_X8_offBy ml_X8_323 dX8_ofHistogram_97 hm_ac0 [.int a1, .int a2, .int r4] rfl [0, 1, 2] rfl rfl (ct_X8_offBy l E H.size h0 r_t t_base t_taped t_at t_faultPlace t_number t_newBits t_newTold t_newDoings t_newThings t_opened t_sum t_heldAll t_onPaper t_turned t_wasConverted t_lastBits t_lastSum t_lastHeld t_lastLeft t_lastCode t_writtenLong t_codeMany t_acts t_done0 t_stoppedAt t_all t_codes a1 a2 r4 (r5, ()) hc97) rfl hl.1 ⟨⟨rfl, rfl⟩, ⟨Nat.le_of_ble_eq_true rfl, Nat.le_of_ble_eq_true rfl⟩, ⟨Nat.le_of_ble_eq_true rfl, Nat.le_of_ble_eq_true rfl⟩, Nat.le_of_ble_eq_true rfl⟩) hA w [0, 1, 2] [3] [1, 2, 3, 0] rfl rfl (by decide) (fun _ => rfl) (fun _ H locs w => ?_)
          exact hQ _ _ _ _ _ () (fun _ => 0) hf rfl w dX8_ofHistogram_100
        · have hf := pf_e c1_3 hf
          by_cases c1_4 : a3 = 4
          · have hf := pf_t c1_4 hf
            refine lv_tableIn (off := 100) (tgt := 101) hx hb dX8_ofHistogram_1 (by rw [c1_4]; decide) (by rw [c1_4]; decide) (by rw [c1_4]; rfl) (by decide) ?_
            refine lv_iload_n hx hb dX8_ofHistogram_101 rfl (lv_at hl 1 rfl) ?_
            refine lv_iload_n hx hb dX8_ofHistogram_102 rfl (lv_at hl 2 rfl) ?_
            refine lv_aload_n hx hb dX8_ofHistogram_103 rfl (lv_at hl 0 rfl) ?_
            refine lv_iload_n hx hb dX8_ofHistogram_104 rfl (lv_at hl 1 rfl) ?_
            refine lv_iload_n hx hb dX8_ofHistogram_105 rfl (lv_at hl 2 rfl) ?_
            obtain ⟨r6, hc106, hf⟩ := pf_bi_0 hf
            refine hm_aft_i (ws' := fun _ => [oc8 h0 r_t t_base t_taped t_at t_faultPlace t_number t_newBits t_newTold t_newDoings t_newThings t_opened t_sum t_heldAll t_onPaper t_turned t_wasConverted t_lastBits t_lastSum t_lastHeld t_lastLeft t_lastCode t_writtenLong t_codeMany t_acts t_done0 t_stoppedAt, ic E (r_t 0) 800 t_all, ic E (r_t 42) 2000 t_codes, ic E (r_t 43) 2000 t_sorted]) (hm_runV (rest := [.int a2, .int a1]) hx hb hml hown X hA Y w 0 (ci := 7) (T := TX8) (N := 55) rfl rfl mw_X8_mostOff ml_X8_332 dX8_ofHistogram_106 hm_ac0 [.int a1, .int a2] rfl [0, 1, 2] rfl rfl (ct_X8_mostOff l E H.size h0 r_t t_base t_taped t_at t_faultPlace t_number t_newBits t_newTold t_newDoings t_newThings t_opened t_sum t_heldAll t_onPaper t_turned t_wasConverted t_lastBits t_lastSum t_lastHeld t_lastLeft t_lastCode t_writtenLong t_codeMany t_acts t_done0 t_stoppedAt t_all t_codes a1 a2 (r6, ()) hc106) rfl hl.1 ⟨⟨rfl, rfl⟩, ⟨Nat.le_of_ble_eq_true rfl, Nat.le_of_ble_eq_true rfl⟩, ⟨Nat.le_of_ble_eq_true rfl, Nat.le_of_ble_eq_true rfl⟩, Nat.le_of_ble_eq_true rfl⟩) hA w [0, 1, 2] [3] [1, 2, 3, 0] rfl rfl (by decide) (fun _ => rfl) (fun _ H locs w => ?_)
            refine lv_imul hx hb dX8_ofHistogram_109 ?_
            refine lv_iadd hx hb dX8_ofHistogram_110 ?_
            exact hQ _ _ _ _ _ () (fun _ => 0) hf rfl w dX8_ofHistogram_111
          · have hf := pf_e c1_4 hf
            by_cases c1_5 : a3 = 5
            · have hf := pf_t c1_5 hf
              refine lv_tableIn (off := 111) (tgt := 112) hx hb dX8_ofHistogram_1 (by rw [c1_5]; decide) (by rw [c1_5]; decide) (by rw [c1_5]; rfl) (by decide) ?_
              refine lv_aload_n hx hb dX8_ofHistogram_112 rfl (lv_at hl 0 rfl) ?_
              obtain ⟨r7, hc113, hf⟩ := pf_bi_0 hf
              refine hm_aft_i (ws' := fun _ => [oc8 h0 r_t t_base t_taped t_at t_faultPlace t_number t_newBits t_newTold t_newDoings t_newThings t_opened t_sum t_heldAll t_onPaper t_turned t_wasConverted t_lastBits t_lastSum t_lastHeld t_lastLeft t_lastCode t_writtenLong t_codeMany t_acts t_done0 t_stoppedAt, ic E (r_t 0) 800 t_all, ic E (r_t 42) 2000 t_codes, ic E (r_t 43) 2000 t_sorted]) (hm_runV (rest := []) hx hb hml hown X hA Y w 0 (ci := 7) (T := TX8) (N := 55) rfl rfl mw_X8_mostOften ml_X8_335 dX8_ofHistogram_113 hm_ac0 [] rfl [0, 3] rfl rfl (ct_X8_mostOften l E H.size h0 r_t t_base t_taped t_at t_faultPlace t_number t_newBits t_newTold t_newDoings t_newThings t_opened t_sum t_heldAll t_onPaper t_turned t_wasConverted t_lastBits t_lastSum t_lastHeld t_lastLeft t_lastCode t_writtenLong t_codeMany t_acts t_done0 t_stoppedAt t_sorted (r7, ()) hc113) rfl hl.1 ⟨⟨rfl, rfl⟩, ⟨Nat.le_of_ble_eq_true rfl, Nat.le_of_ble_eq_true rfl⟩, ⟨Nat.le_of_ble_eq_true rfl, Nat.le_of_ble_eq_true rfl⟩, Nat.le_of_ble_eq_true rfl⟩) hA w [0, 3] [1, 2] [2, 0, 1, 3] rfl rfl (by decide) (fun _ => rfl) (fun _ H locs w => ?_)
              exact hQ _ _ _ _ _ () (fun _ => 0) hf rfl w dX8_ofHistogram_116
            · have hf := pf_e c1_5 hf
              by_cases c1_6 : a3 = 6
              · have hf := pf_t c1_6 hf
                refine lv_tableIn (off := 116) (tgt := 117) hx hb dX8_ofHistogram_1 (by rw [c1_6]; decide) (by rw [c1_6]; decide) (by rw [c1_6]; rfl) (by decide) ?_
                refine lv_aload_n hx hb dX8_ofHistogram_117 rfl (lv_at hl 0 rfl) ?_
                refine lv_aload_n hx hb dX8_ofHistogram_118 rfl (lv_at hl 0 rfl) ?_
                obtain ⟨r8, hc119, hf⟩ := pf_bi_0 hf
                refine hm_aft_i (ws' := fun _ => [oc8 h0 r_t t_base t_taped t_at t_faultPlace t_number t_newBits t_newTold t_newDoings t_newThings t_opened t_sum t_heldAll t_onPaper t_turned t_wasConverted t_lastBits t_lastSum t_lastHeld t_lastLeft t_lastCode t_writtenLong t_codeMany t_acts t_done0 t_stoppedAt, ic E (r_t 0) 800 t_all, ic E (r_t 42) 2000 t_codes, ic E (r_t 43) 2000 t_sorted]) (hm_runV (rest := [.ref h0]) hx hb hml hown X hA Y w 0 (ci := 7) (T := TX8) (N := 55) rfl rfl mw_X8_mostOften ml_X8_335 dX8_ofHistogram_119 hm_ac0 [] rfl [0, 3] rfl rfl (ct_X8_mostOften l E H.size h0 r_t t_base t_taped t_at t_faultPlace t_number t_newBits t_newTold t_newDoings t_newThings t_opened t_sum t_heldAll t_onPaper t_turned t_wasConverted t_lastBits t_lastSum t_lastHeld t_lastLeft t_lastCode t_writtenLong t_codeMany t_acts t_done0 t_stoppedAt t_sorted (r8, ()) hc119) rfl hl.1 ⟨⟨rfl, rfl⟩, ⟨Nat.le_of_ble_eq_true rfl, Nat.le_of_ble_eq_true rfl⟩, ⟨Nat.le_of_ble_eq_true rfl, Nat.le_of_ble_eq_true rfl⟩, Nat.le_of_ble_eq_true rfl⟩) hA w [0, 3] [1, 2] [2, 0, 1, 3] rfl rfl (by decide) (fun _ => rfl) (fun _ H locs w => ?_)
                obtain ⟨r9, hc122, hf⟩ := pf_bi_0 hf
                refine hm_aft_i (ws' := fun _ => [oc8 h0 r_t t_base t_taped t_at t_faultPlace t_number t_newBits t_newTold t_newDoings t_newThings t_opened t_sum t_heldAll t_onPaper t_turned t_wasConverted t_lastBits t_lastSum t_lastHeld t_lastLeft t_lastCode t_writtenLong t_codeMany t_acts t_done0 t_stoppedAt, ic E (r_t 0) 800 t_all, ic E (r_t 42) 2000 t_codes, ic E (r_t 43) 2000 t_sorted]) (hm_runV (rest := []) hx hb hml hown X hA Y w 0 (ci := 7) (T := TX8) (N := 55) rfl rfl mw_X8_countOf ml_X8_338 dX8_ofHistogram_122 hm_ac0 [.int r8] rfl [0, 3] rfl rfl (ct_X8_countOf l E H.size h0 r_t t_base t_taped t_at t_faultPlace t_number t_newBits t_newTold t_newDoings t_newThings t_opened t_sum t_heldAll t_onPaper t_turned t_wasConverted t_lastBits t_lastSum t_lastHeld t_lastLeft t_lastCode t_writtenLong t_codeMany t_acts t_done0 t_stoppedAt t_sorted r8 (r9, ()) hc122) rfl hl.1 ⟨⟨rfl, rfl⟩, ⟨Nat.le_of_ble_eq_true rfl, Nat.le_of_ble_eq_true rfl⟩, ⟨Nat.le_of_ble_eq_true rfl, Nat.le_of_ble_eq_true rfl⟩, Nat.le_of_ble_eq_true rfl⟩) hA w [0, 3] [1, 2] [2, 0, 1, 3] rfl rfl (by decide) (fun _ => rfl) (fun _ H locs w => ?_)
                exact hQ _ _ _ _ _ () (fun _ => 0) hf rfl w dX8_ofHistogram_125
              · have hf := pf_e c1_6 hf
                by_cases c1_7 : a3 = 7
                · have hf := pf_t c1_7 hf
                  refine lv_tableIn (off := 125) (tgt := 126) hx hb dX8_ofHistogram_1 (by rw [c1_7]; decide) (by rw [c1_7]; decide) (by rw [c1_7]; rfl) (by decide) ?_
                  refine lv_aload_n hx hb dX8_ofHistogram_126 rfl (lv_at hl 0 rfl) ?_
                  refine hm_get cb_X8 hx hb hown X w 0 43 fl_X8_92 dX8_ofHistogram_127 rfl (by decide) rfl ?_
                  refine lv_iconst (v := 0) hx hb dX8_ofHistogram_130 (by decide) ?_
                  obtain ⟨g131, hf⟩ := pf_ckI hf
                  refine hm_iald hx hb X w 3 dX8_ofHistogram_131 rfl g131 ?_
                  exact hQ _ _ _ _ _ () (fun _ => 0) hf rfl w dX8_ofHistogram_132
                · have hf := pf_e c1_7 hf
                  by_cases c1_8 : a3 = 8
                  · have hf := pf_t c1_8 hf
                    refine lv_tableIn (off := 132) (tgt := 133) hx hb dX8_ofHistogram_1 (by rw [c1_8]; decide) (by rw [c1_8]; decide) (by rw [c1_8]; rfl) (by decide) ?_
                    refine lv_aload_n hx hb dX8_ofHistogram_133 rfl (lv_at hl 0 rfl) ?_
                    refine hm_get cb_X8 hx hb hown X w 0 43 fl_X8_92 dX8_ofHistogram_134 rfl (by decide) rfl ?_
                    refine lv_aload_n hx hb dX8_ofHistogram_137 rfl (lv_at hl 0 rfl) ?_
                    refine hm_get cb_X8 hx hb hown X w 0 44 fl_X8_317 dX8_ofHistogram_138 rfl (by decide) rfl ?_
                    refine lv_iconst (v := 1) hx hb dX8_ofHistogram_141 (by decide) ?_
                    refine lv_isub hx hb dX8_ofHistogram_142 ?_
                    obtain ⟨g143, hf⟩ := pf_ckI hf
                    refine hm_iald hx hb X w 3 dX8_ofHistogram_143 rfl g143 ?_
                    exact hQ _ _ _ _ _ () (fun _ => 0) hf rfl w dX8_ofHistogram_144
                  · have hf := pf_e c1_8 hf
                    refine lv_tableOut (tgt := 145) hx hb dX8_ofHistogram_1 (hm_out (fun k h1 h2 => by have u := And.intro h1 h2; have v0 := hm_ti c1_0; rw [show (0 : Int32).toInt = 0 from by decide] at v0; have v1 := hm_ti c1_1; rw [show (1 : Int32).toInt = 1 from by decide] at v1; have v2 := hm_ti c1_2; rw [show (2 : Int32).toInt = 2 from by decide] at v2; have v3 := hm_ti c1_3; rw [show (3 : Int32).toInt = 3 from by decide] at v3; have v4 := hm_ti c1_4; rw [show (4 : Int32).toInt = 4 from by decide] at v4; have v5 := hm_ti c1_5; rw [show (5 : Int32).toInt = 5 from by decide] at v5; have v6 := hm_ti c1_6; rw [show (6 : Int32).toInt = 6 from by decide] at v6; have v7 := hm_ti c1_7; rw [show (7 : Int32).toInt = 7 from by decide] at v7; have v8 := hm_ti c1_8; rw [show (8 : Int32).toInt = 8 from by decide] at v8; omega)) (by decide) ?_
                    refine lv_aload_n hx hb dX8_ofHistogram_145 rfl (lv_at hl 0 rfl) ?_
                    obtain ⟨r10, hc146, hf⟩ := pf_bi_0 hf
                    refine hm_aft_i (ws' := fun _ => [oc8 h0 r_t t_base t_taped t_at t_faultPlace t_number t_newBits t_newTold t_newDoings t_newThings t_opened t_sum t_heldAll t_onPaper t_turned t_wasConverted t_lastBits t_lastSum t_lastHeld t_lastLeft t_lastCode t_writtenLong t_codeMany t_acts t_done0 t_stoppedAt, ic E (r_t 0) 800 t_all, ic E (r_t 42) 2000 t_codes, ic E (r_t 43) 2000 t_sorted]) (hm_runV (rest := []) hx hb hml hown X hA Y w 0 (ci := 7) (T := TX8) (N := 55) rfl rfl mw_X8_firstMissing ml_X8_341 dX8_ofHistogram_146 hm_ac0 [] rfl [0, 3] rfl rfl (ct_X8_firstMissing l E H.size h0 r_t t_base t_taped t_at t_faultPlace t_number t_newBits t_newTold t_newDoings t_newThings t_opened t_sum t_heldAll t_onPaper t_turned t_wasConverted t_lastBits t_lastSum t_lastHeld t_lastLeft t_lastCode t_writtenLong t_codeMany t_acts t_done0 t_stoppedAt t_sorted (r10, ()) hc146) rfl hl.1 ⟨⟨rfl, rfl⟩, ⟨Nat.le_of_ble_eq_true rfl, Nat.le_of_ble_eq_true rfl⟩, ⟨Nat.le_of_ble_eq_true rfl, Nat.le_of_ble_eq_true rfl⟩, Nat.le_of_ble_eq_true rfl⟩) hA w [0, 3] [1, 2] [2, 0, 1, 3] rfl rfl (by decide) (fun _ => rfl) (fun _ H locs w => ?_)
                    exact hQ _ _ _ _ _ () (fun _ => 0) hf rfl w dX8_ofHistogram_149
set_option maxHeartbeats 8000000 in
set_option maxRecDepth 100000 in
theorem ct_X8_histogram (l : Launch) (E : hm_E) (sz : Nat) (h0 : Nat) (r_t : Nat → Nat) (t_base t_taped t_at t_faultPlace t_number t_newBits t_newTold t_newDoings t_newThings t_opened t_sum t_heldAll t_onPaper t_turned t_wasConverted t_lastBits t_lastSum t_lastHeld t_lastLeft t_lastCode t_writtenLong t_codeMany t_acts t_done0 t_stoppedAt : Int32) (t_all : Nat → Int32) (t_askedOf : Nat → Int32) (t_codes : Nat → Int32) (t_decided : Nat → Int32) (t_heldBehind : Nat → Int32) (t_sorted : Nat → Int32) (t_wasLate : Nat → Int32) (a1 : Int32) (a2 : Int32) (a3 : Int32) (a4 : Int32) (R : Int32 × (Nat → Int32) × (Nat → Int32) × (Nat → Int32) × (Nat → Int32) × (Nat → Int32) × Int32 × Int32 × Int32 × (Nat → Int32) × (Nat → Int32) × Int32) (hf : pf_X8_histogram a1 a2 a3 a4 t_all t_base t_decided t_wasLate t_askedOf t_heldBehind t_sum t_heldAll t_onPaper t_turned t_codes t_sorted t_codeMany = some R) : hm_Mi l E yX8_histogram cX8_histogram 5 .int [] (hm_rr 6 139 0 0) [.ref h0, .int a1, .int a2, .int a3, .int a4] sz [oc8 h0 r_t t_base t_taped t_at t_faultPlace t_number t_newBits t_newTold t_newDoings t_newThings t_opened t_sum t_heldAll t_onPaper t_turned t_wasConverted t_lastBits t_lastSum t_lastHeld t_lastLeft t_lastCode t_writtenLong t_codeMany t_acts t_done0 t_stoppedAt, ic E (r_t 0) 800 t_all, ic E (r_t 27) 12 t_askedOf, ic E (r_t 42) 2000 t_codes, ic E (r_t 25) 12 t_decided, ic E (r_t 28) 12 t_heldBehind, ic E (r_t 43) 2000 t_sorted, zc E (r_t 26) 12 t_wasLate] R.1 (fun _ => [oc8 h0 r_t t_base t_taped t_at t_faultPlace t_number t_newBits t_newTold t_newDoings t_newThings t_opened (R.2.2.2.2.2.2.1) (R.2.2.2.2.2.2.2.1) (R.2.2.2.2.2.2.2.2.1) t_turned t_wasConverted t_lastBits t_lastSum t_lastHeld t_lastLeft t_lastCode t_writtenLong (R.2.2.2.2.2.2.2.2.2.2.2) t_acts t_done0 t_stoppedAt, ic E (r_t 0) 800 (R.2.1), ic E (r_t 27) 12 (R.2.2.2.2.1), ic E (r_t 42) 2000 (R.2.2.2.2.2.2.2.2.2.1), ic E (r_t 25) 12 (R.2.2.1), ic E (r_t 28) 12 (R.2.2.2.2.2.1), ic E (r_t 43) 2000 (R.2.2.2.2.2.2.2.2.2.2.1), zc E (r_t 26) 12 (R.2.2.2.1)]) := by
  refine hm_ct_i R (fun u qs => [oc8 h0 r_t t_base t_taped t_at t_faultPlace t_number t_newBits t_newTold t_newDoings t_newThings t_opened (u.2.2.2.2.2.1) (u.2.2.2.2.2.2.1) (u.2.2.2.2.2.2.2.1) t_turned t_wasConverted t_lastBits t_lastSum t_lastHeld t_lastLeft t_lastCode t_writtenLong (u.2.2.2.2.2.2.2.2.2.2) t_acts t_done0 t_stoppedAt, ic E (r_t 0) 800 (u.1), ic E (r_t 27) 12 (u.2.2.2.1), ic E (r_t 42) 2000 (u.2.2.2.2.2.2.2.2.1), ic E (r_t 25) 12 (u.2.1), ic E (r_t 28) 12 (u.2.2.2.2.1), ic E (r_t 43) 2000 (u.2.2.2.2.2.2.2.2.2.1), zc E (r_t 26) 12 (u.2.2.1)]) (by decide) (Nat.le_of_ble_eq_true rfl) (Or.inl rfl) ?_
  intro p e s m args below meth c A Q ls H locs hx hb hml hown X hA Y hex w hl hQ
  have hl : lv_has ls 5 [(0, .ref h0), (1, .int a1), (2, .int a2), (3, .int a3), (4, .int a4)] := hl
  unfold pf_X8_histogram at hf
  refine lv_aload_n hx hb dX8_histogram_0 rfl (lv_at hl 0 rfl) ?_
  refine lv_iconst (v := 0) hx hb dX8_histogram_1 (by decide) ?_
  obtain ⟨r1, hc2, hf⟩ := pf_bi_0 hf
  refine hm_aft_i (ws' := fun _ => [oc8 h0 r_t t_base t_taped t_at t_faultPlace t_number t_newBits t_newTold t_newDoings t_newThings t_opened t_sum t_heldAll t_onPaper t_turned t_wasConverted t_lastBits t_lastSum t_lastHeld t_lastLeft t_lastCode t_writtenLong t_codeMany t_acts t_done0 t_stoppedAt, ic E (r_t 0) 800 t_all, ic E (r_t 27) 12 t_askedOf, ic E (r_t 42) 2000 t_codes, ic E (r_t 25) 12 t_decided, ic E (r_t 28) 12 t_heldBehind, ic E (r_t 43) 2000 t_sorted, zc E (r_t 26) 12 t_wasLate]) (hm_runV (rest := []) hx hb hml hown X hA Y w 0 (ci := 7) (T := TX8) (N := 55) rfl rfl mw_X8_get ml_X8_221 dX8_histogram_2 hm_ac0 [.int 0] rfl [0, 1] rfl rfl (ct_X8_get l E H.size h0 r_t t_base t_taped t_at t_faultPlace t_number t_newBits t_newTold t_newDoings t_newThings t_opened t_sum t_heldAll t_onPaper t_turned t_wasConverted t_lastBits t_lastSum t_lastHeld t_lastLeft t_lastCode t_writtenLong t_codeMany t_acts t_done0 t_stoppedAt t_all 0 (r1, ()) hc2) rfl hl.1 ⟨⟨rfl, rfl⟩, ⟨Nat.le_of_ble_eq_true rfl, Nat.le_of_ble_eq_true rfl⟩, ⟨Nat.le_of_ble_eq_true rfl, Nat.le_of_ble_eq_true rfl⟩, Nat.le_of_ble_eq_true rfl⟩) hA w [0, 1] [2, 3, 4, 5, 6, 7] [6, 7, 0, 1, 2, 3, 4, 5] rfl rfl (by decide) (fun _ => rfl) (fun _ H locs w => ?_)
  refine lv_if_eq (tgt := 28) hx hb dX8_histogram_5 (by decide) (fun c5 => ?_) (fun c5 => ?_)
  · have hf := pf_t c5 hf
    refine lv_ldcw (v := (-1000000)) hx hb hown (X.use ck_X8_283 rfl) dX8_histogram_28 ?_
    exact hQ _ _ _ _ _ (t_all, t_decided, t_wasLate, t_askedOf, t_heldBehind, t_sum, t_heldAll, t_onPaper, t_codes, t_sorted, t_codeMany) (fun _ => 0) hf rfl w dX8_histogram_31
  · have hf := pf_e c5 hf
    refine lv_iload_n hx hb dX8_histogram_8 rfl (lv_at hl 1 rfl) ?_
    refine lv_iload_n hx hb dX8_histogram_9 rfl (lv_at hl 2 rfl) ?_
    refine lv_iload_n hx hb dX8_histogram_10 rfl (lv_at hl 3 rfl) ?_
    obtain ⟨r2, hc11, hf⟩ := pf_bi_0 hf
    refine hm_aft_i (ws' := fun _ => [oc8 h0 r_t t_base t_taped t_at t_faultPlace t_number t_newBits t_newTold t_newDoings t_newThings t_opened t_sum t_heldAll t_onPaper t_turned t_wasConverted t_lastBits t_lastSum t_lastHeld t_lastLeft t_lastCode t_writtenLong t_codeMany t_acts t_done0 t_stoppedAt, ic E (r_t 0) 800 t_all, ic E (r_t 27) 12 t_askedOf, ic E (r_t 42) 2000 t_codes, ic E (r_t 25) 12 t_decided, ic E (r_t 28) 12 t_heldBehind, ic E (r_t 43) 2000 t_sorted, zc E (r_t 26) 12 t_wasLate]) (hm_runS (rest := []) hx hb hml hown X hA Y w mw_X8_isRow ml_X8_344 dX8_histogram_11 hm_ac0 [.int a1, .int a2, .int a3] rfl [] rfl rfl (ct_X8_isRow l E H.size a1 a2 a3 (r2, ()) hc11) rfl hl.1 ⟨⟨rfl, rfl⟩, ⟨Nat.le_of_ble_eq_true rfl, Nat.le_of_ble_eq_true rfl⟩, ⟨Nat.le_of_ble_eq_true rfl, Nat.le_of_ble_eq_true rfl⟩, Nat.le_of_ble_eq_true rfl⟩) hA w [] [0, 1, 2, 3, 4, 5, 6, 7] [0, 1, 2, 3, 4, 5, 6, 7] rfl rfl (by decide) (fun _ => rfl) (fun _ H locs w => ?_)
    refine lv_if_eq (tgt := 28) hx hb dX8_histogram_14 (by decide) (fun c14 => ?_) (fun c14 => ?_)
    · have hf := pf_t c14 hf
      refine lv_ldcw (v := (-1000000)) hx hb hown (X.use ck_X8_283 rfl) dX8_histogram_28 ?_
      exact hQ _ _ _ _ _ (t_all, t_decided, t_wasLate, t_askedOf, t_heldBehind, t_sum, t_heldAll, t_onPaper, t_codes, t_sorted, t_codeMany) (fun _ => 0) hf rfl w dX8_histogram_31
    · have hf := pf_e c14 hf
      refine lv_iload hx hb dX8_histogram_17 (lv_at hl 4 rfl) ?_
      refine lv_iconst (v := 0) hx hb dX8_histogram_19 (by decide) ?_
      refine lv_bipush (v := 9) hx hb dX8_histogram_20 (by decide) ?_
      obtain ⟨r3, hc22, hf⟩ := pf_bi_0 hf
      refine hm_aft_i (ws' := fun _ => [oc8 h0 r_t t_base t_taped t_at t_faultPlace t_number t_newBits t_newTold t_newDoings t_newThings t_opened t_sum t_heldAll t_onPaper t_turned t_wasConverted t_lastBits t_lastSum t_lastHeld t_lastLeft t_lastCode t_writtenLong t_codeMany t_acts t_done0 t_stoppedAt, ic E (r_t 0) 800 t_all, ic E (r_t 27) 12 t_askedOf, ic E (r_t 42) 2000 t_codes, ic E (r_t 25) 12 t_decided, ic E (r_t 28) 12 t_heldBehind, ic E (r_t 43) 2000 t_sorted, zc E (r_t 26) 12 t_wasLate]) (hm_runS (rest := []) hx hb hml hown X hA Y w mw_X8_isIn ml_X8_129 dX8_histogram_22 hm_ac0 [.int a4, .int 0, .int 9] rfl [] rfl rfl (ct_X8_isIn l E H.size a4 0 9 (r3, ()) hc22) rfl hl.1 ⟨⟨rfl, rfl⟩, ⟨Nat.le_of_ble_eq_true rfl, Nat.le_of_ble_eq_true rfl⟩, ⟨Nat.le_of_ble_eq_true rfl, Nat.le_of_ble_eq_true rfl⟩, Nat.le_of_ble_eq_true rfl⟩) hA w [] [0, 1, 2, 3, 4, 5, 6, 7] [0, 1, 2, 3, 4, 5, 6, 7] rfl rfl (by decide) (fun _ => rfl) (fun _ H locs w => ?_)
      refine lv_if_ne (tgt := 32) hx hb dX8_histogram_25 (by decide) (fun c25 => ?_) (fun c25 => ?_)
      · have hf := pf_e c25 hf
        refine lv_aload_n hx hb dX8_histogram_32 rfl (lv_at hl 0 rfl) ?_
        refine lv_iload_n hx hb dX8_histogram_33 rfl (lv_at hl 1 rfl) ?_
        refine lv_iload_n hx hb dX8_histogram_34 rfl (lv_at hl 2 rfl) ?_
        refine lv_iload_n hx hb dX8_histogram_35 rfl (lv_at hl 3 rfl) ?_
        obtain ⟨f4, f5, f6, f7, f8, x9, x10, x11, f12, f13, x14, hc36, hf⟩ := pf_bv_11 hf
        refine hm_aft_v (ws' := fun _ => [oc8 h0 r_t t_base t_taped t_at t_faultPlace t_number t_newBits t_newTold t_newDoings t_newThings t_opened x9 x10 x11 t_turned t_wasConverted t_lastBits t_lastSum t_lastHeld t_lastLeft t_lastCode t_writtenLong x14 t_acts t_done0 t_stoppedAt, ic E (r_t 0) 800 f4, ic E (r_t 27) 12 f7, ic E (r_t 42) 2000 f12, ic E (r_t 25) 12 f5, ic E (r_t 28) 12 f8, ic E (r_t 43) 2000 f13, zc E (r_t 26) 12 f6]) (hm_runV (rest := []) hx hb hml hown X hA Y w 0 (ci := 7) (T := TX8) (N := 55) rfl rfl mw_X8_layCodes ml_X8_347 dX8_histogram_36 hm_ac0 [.int a1, .int a2, .int a3] rfl [0, 1, 2, 3, 4, 5, 6, 7] rfl rfl (ct_X8_layCodes l E H.size h0 r_t t_base t_taped t_at t_faultPlace t_number t_newBits t_newTold t_newDoings t_newThings t_opened t_sum t_heldAll t_onPaper t_turned t_wasConverted t_lastBits t_lastSum t_lastHeld t_lastLeft t_lastCode t_writtenLong t_codeMany t_acts t_done0 t_stoppedAt t_all t_askedOf t_codes t_decided t_heldBehind t_sorted t_wasLate a1 a2 a3 (f4, f5, f6, f7, f8, x9, x10, x11, f12, f13, x14) hc36) rfl hl.1 ⟨⟨rfl, rfl⟩, ⟨Nat.le_of_ble_eq_true rfl, Nat.le_of_ble_eq_true rfl⟩, ⟨Nat.le_of_ble_eq_true rfl, Nat.le_of_ble_eq_true rfl⟩, Nat.le_of_ble_eq_true rfl⟩) hA w [0, 1, 2, 3, 4, 5, 6, 7] [] [0, 1, 2, 3, 4, 5, 6, 7] rfl rfl (by decide) (fun _ => rfl) (fun _ H locs w => ?_)
        refine lv_aload_n hx hb dX8_histogram_39 rfl (lv_at hl 0 rfl) ?_
        refine lv_iload_n hx hb dX8_histogram_40 rfl (lv_at hl 1 rfl) ?_
        refine lv_iload_n hx hb dX8_histogram_41 rfl (lv_at hl 3 rfl) ?_
        refine lv_iload hx hb dX8_histogram_42 (lv_at hl 4 rfl) ?_
        obtain ⟨r15, hc44, hf⟩ := pf_bi_0 hf
        refine hm_aft_i (ws' := fun _ => [oc8 h0 r_t t_base t_taped t_at t_faultPlace t_number t_newBits t_newTold t_newDoings t_newThings t_opened x9 x10 x11 t_turned t_wasConverted t_lastBits t_lastSum t_lastHeld t_lastLeft t_lastCode t_writtenLong x14 t_acts t_done0 t_stoppedAt, ic E (r_t 0) 800 f4, ic E (r_t 27) 12 f7, ic E (r_t 42) 2000 f12, ic E (r_t 25) 12 f5, ic E (r_t 28) 12 f8, ic E (r_t 43) 2000 f13, zc E (r_t 26) 12 f6]) (hm_runV (rest := []) hx hb hml hown X hA Y w 0 (ci := 7) (T := TX8) (N := 55) rfl rfl mw_X8_ofHistogram ml_X8_350 dX8_histogram_44 hm_ac0 [.int a1, .int a3, .int a4] rfl [0, 1, 3, 6] rfl rfl (ct_X8_ofHistogram l E H.size h0 r_t t_base t_taped t_at t_faultPlace t_number t_newBits t_newTold t_newDoings t_newThings t_opened x9 x10 x11 t_turned t_wasConverted t_lastBits t_lastSum t_lastHeld t_lastLeft t_lastCode t_writtenLong x14 t_acts t_done0 t_stoppedAt f4 f12 f13 a1 a3 a4 (r15, ()) hc44) rfl hl.1 ⟨⟨rfl, rfl⟩, ⟨Nat.le_of_ble_eq_true rfl, Nat.le_of_ble_eq_true rfl⟩, ⟨Nat.le_of_ble_eq_true rfl, Nat.le_of_ble_eq_true rfl⟩, Nat.le_of_ble_eq_true rfl⟩) hA w [0, 1, 3, 6] [2, 4, 5, 7] [4, 5, 0, 6, 1, 2, 7, 3] rfl rfl (by decide) (fun _ => rfl) (fun _ H locs w => ?_)
        exact hQ _ _ _ _ _ (f4, f5, f6, f7, f8, x9, x10, x11, f12, f13, x14) (fun _ => 0) hf rfl w dX8_histogram_47
      · have hf := pf_t c25 hf
        refine lv_ldcw (v := (-1000000)) hx hb hown (X.use ck_X8_283 rfl) dX8_histogram_28 ?_
        exact hQ _ _ _ _ _ (t_all, t_decided, t_wasLate, t_askedOf, t_heldBehind, t_sum, t_heldAll, t_onPaper, t_codes, t_sorted, t_codeMany) (fun _ => 0) hf rfl w dX8_histogram_31