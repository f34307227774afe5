set_option maxHeartbeats 8000000 in
set_option maxRecDepth 100000 in
theorem ct_X8_often (l : Launch) (E : hm_E) (sz : Nat) (h0 : Nat) (r_t : Nat → Nat) (t_base t_taped t_at t_faultPlace t_number t_newBits t_newTold t_newDoings t_newThings t_opened t_sum t_heldAll t_onPaper t_turned t_wasConverted t_lastBits t_lastSum t_lastHeld t_lastLeft t_lastCode t_writtenLong t_codeMany t_acts t_done0 t_stoppedAt : Int32) (t_all : Nat → Int32) (t_askedOf : Nat → Int32) (t_codes : Nat → Int32) (t_decided : Nat → Int32) (t_heldBehind : Nat → Int32) (t_sorted : Nat → Int32) (t_wasLate : Nat → Int32) (a1 : Int32) (a2 : Int32) (a3 : Int32) (a4 : Int32) (R : Int32 × (Nat → Int32) × (Nat → Int32) × (Nat → Int32) × (Nat → Int32) × (Nat → Int32) × Int32 × Int32 × Int32 × (Nat → Int32) × (Nat → Int32) × Int32) (hf : pf_X8_often a1 a2 a3 a4 t_all t_base t_decided t_wasLate t_askedOf t_heldBehind t_sum t_heldAll t_onPaper t_turned t_codes t_sorted t_codeMany = some R) : hm_Mi l E yX8_often cX8_often 5 .int [] (hm_rr 6 139 0 0) [.ref h0, .int a1, .int a2, .int a3, .int a4] sz [oc8 h0 r_t t_base t_taped t_at t_faultPlace t_number t_newBits t_newTold t_newDoings t_newThings t_opened t_sum t_heldAll t_onPaper t_turned t_wasConverted t_lastBits t_lastSum t_lastHeld t_lastLeft t_lastCode t_writtenLong t_codeMany t_acts t_done0 t_stoppedAt, ic E (r_t 0) 800 t_all, ic E (r_t 27) 12 t_askedOf, ic E (r_t 42) 2000 t_codes, ic E (r_t 25) 12 t_decided, ic E (r_t 28) 12 t_heldBehind, ic E (r_t 43) 2000 t_sorted, zc E (r_t 26) 12 t_wasLate] R.1 (fun _ => [oc8 h0 r_t t_base t_taped t_at t_faultPlace t_number t_newBits t_newTold t_newDoings t_newThings t_opened (R.2.2.2.2.2.2.1) (R.2.2.2.2.2.2.2.1) (R.2.2.2.2.2.2.2.2.1) t_turned t_wasConverted t_lastBits t_lastSum t_lastHeld t_lastLeft t_lastCode t_writtenLong (R.2.2.2.2.2.2.2.2.2.2.2) t_acts t_done0 t_stoppedAt, ic E (r_t 0) 800 (R.2.1), ic E (r_t 27) 12 (R.2.2.2.2.1), ic E (r_t 42) 2000 (R.2.2.2.2.2.2.2.2.2.1), ic E (r_t 25) 12 (R.2.2.1), ic E (r_t 28) 12 (R.2.2.2.2.2.1), ic E (r_t 43) 2000 (R.2.2.2.2.2.2.2.2.2.2.1), zc E (r_t 26) 12 (R.2.2.2.1)]) := by
  refine hm_ct_i R (fun u qs => [oc8 h0 r_t t_base t_taped t_at t_faultPlace t_number t_newBits t_newTold t_newDoings t_newThings t_opened (u.2.2.2.2.2.1) (u.2.2.2.2.2.2.1) (u.2.2.2.2.2.2.2.1) t_turned t_wasConverted t_lastBits t_lastSum t_lastHeld t_lastLeft t_lastCode t_writtenLong (u.2.2.2.2.2.2.2.2.2.2) t_acts t_done0 t_stoppedAt, ic E (r_t 0) 800 (u.1), ic E (r_t 27) 12 (u.2.2.2.1), ic E (r_t 42) 2000 (u.2.2.2.2.2.2.2.2.1), ic E (r_t 25) 12 (u.2.1), ic E (r_t 28) 12 (u.2.2.2.2.1), ic E (r_t 43) 2000 (u.2.2.2.2.2.2.2.2.2.1), zc E (r_t 26) 12 (u.2.2.1)]) (by decide) (Nat.le_of_ble_eq_true rfl) (Or.inl rfl) ?_
  intro p e s m args below meth c A Q ls H locs hx hb hml hown X hA Y hex w hl hQ
  have hl : lv_has ls 5 [(0, .ref h0), (1, .int a1), (2, .int a2), (3, .int a3), (4, .int a4)] := hl
  unfold pf_X8_often at hf
  refine lv_aload_n hx hb dX8_often_0 rfl (lv_at hl 0 rfl) ?_
  refine lv_iconst (v := 0) hx hb dX8_often_1 (by decide) ?_
  obtain ⟨r1, hc2, hf⟩ := pf_bi_0 hf
  refine hm_aft_i (ws' := fun _ => [oc8 h0 r_t t_base t_taped t_at t_faultPlace t_number t_newBits t_newTold t_newDoings t_newThings t_opened t_sum t_heldAll t_onPaper t_turned t_wasConverted t_lastBits t_lastSum t_lastHeld t_lastLeft t_lastCode t_writtenLong t_codeMany t_acts t_done0 t_stoppedAt, ic E (r_t 0) 800 t_all, ic E (r_t 27) 12 t_askedOf, ic E (r_t 42) 2000 t_codes, ic E (r_t 25) 12 t_decided, ic E (r_t 28) 12 t_heldBehind, ic E (r_t 43) 2000 t_sorted, zc E (r_t 26) 12 t_wasLate]) (hm_runV (rest := []) hx hb hml hown X hA Y w 0 (ci := 7) (T := TX8) (N := 55) rfl rfl mw_X8_get ml_X8_221 dX8_often_2 hm_ac0 [.int 0] rfl [0, 1] rfl rfl (ct_X8_get l E H.size h0 r_t t_base t_taped t_at t_faultPlace t_number t_newBits t_newTold t_newDoings t_newThings t_opened t_sum t_heldAll t_onPaper t_turned t_wasConverted t_lastBits t_lastSum t_lastHeld t_lastLeft t_lastCode t_writtenLong t_codeMany t_acts t_done0 t_stoppedAt t_all 0 (r1, ()) hc2) rfl hl.1 ⟨⟨rfl, rfl⟩, ⟨Nat.le_of_ble_eq_true rfl, Nat.le_of_ble_eq_true rfl⟩, ⟨Nat.le_of_ble_eq_true rfl, Nat.le_of_ble_eq_true rfl⟩, Nat.le_of_ble_eq_true rfl⟩) hA w [0, 1] [2, 3, 4, 5, 6, 7] [6, 7, 0, 1, 2, 3, 4, 5] rfl rfl (by decide) (fun _ => rfl) (fun _ H locs w => ?_)
  refine lv_if_eq (tgt := 17) hx hb dX8_often_5 (by decide) (fun c5 => ?_) (fun c5 => ?_)
  · have hf := pf_t c5 hf
    refine lv_iconst (v := (-1)) hx hb dX8_often_17 (by decide) ?_
    exact hQ _ _ _ _ _ (t_all, t_decided, t_wasLate, t_askedOf, t_heldBehind, t_sum, t_heldAll, t_onPaper, t_codes, t_sorted, t_codeMany) (fun _ => 0) hf rfl w dX8_often_18
  · have hf := pf_e c5 hf
    refine lv_iload_n hx hb dX8_often_8 rfl (lv_at hl 1 rfl) ?_
    refine lv_iload_n hx hb dX8_often_9 rfl (lv_at hl 2 rfl) ?_
    refine lv_iload_n hx hb dX8_often_10 rfl (lv_at hl 3 rfl) ?_
    obtain ⟨r2, hc11, hf⟩ := pf_bi_0 hf
    refine hm_aft_i (ws' := fun _ => [oc8 h0 r_t t_base t_taped t_at t_faultPlace t_number t_newBits t_newTold t_newDoings t_newThings t_opened t_sum t_heldAll t_onPaper t_turned t_wasConverted t_lastBits t_lastSum t_lastHeld t_lastLeft t_lastCode t_writtenLong t_codeMany t_acts t_done0 t_stoppedAt, ic E (r_t 0) 800 t_all, ic E (r_t 27) 12 t_askedOf, ic E (r_t 42) 2000 t_codes, ic E (r_t 25) 12 t_decided, ic E (r_t 28) 12 t_heldBehind, ic E (r_t 43) 2000 t_sorted, zc E (r_t 26) 12 t_wasLate]) (hm_runS (rest := []) hx hb hml hown X hA Y w mw_X8_isRow ml_X8_344 dX8_often_11 hm_ac0 [.int a1, .int a2, .int a3] rfl [] rfl rfl (ct_X8_isRow l E H.size a1 a2 a3 (r2, ()) hc11) rfl hl.1 ⟨⟨rfl, rfl⟩, ⟨Nat.le_of_ble_eq_true rfl, Nat.le_of_ble_eq_true rfl⟩, ⟨Nat.le_of_ble_eq_true rfl, Nat.le_of_ble_eq_true rfl⟩, Nat.le_of_ble_eq_true rfl⟩) hA w [] [0, 1, 2, 3, 4, 5, 6, 7] [0, 1, 2, 3, 4, 5, 6, 7] rfl rfl (by decide) (fun _ => rfl) (fun _ H locs w => ?_)
    refine lv_if_ne (tgt := 19) hx hb dX8_often_14 (by decide) (fun c14 => ?_) (fun c14 => ?_)
    · have hf := pf_e c14 hf
      refine lv_aload_n hx hb dX8_often_19 rfl (lv_at hl 0 rfl) ?_
      refine lv_iload_n hx hb dX8_often_20 rfl (lv_at hl 1 rfl) ?_
      refine lv_iload_n hx hb dX8_often_21 rfl (lv_at hl 2 rfl) ?_
      refine lv_iload_n hx hb dX8_often_22 rfl (lv_at hl 3 rfl) ?_
      obtain ⟨f3, f4, f5, f6, f7, x8, x9, x10, f11, f12, x13, hc23, hf⟩ := pf_bv_11 hf
      refine hm_aft_v (ws' := fun _ => [oc8 h0 r_t t_base t_taped t_at t_faultPlace t_number t_newBits t_newTold t_newDoings t_newThings t_opened x8 x9 x10 t_turned t_wasConverted t_lastBits t_lastSum t_lastHeld t_lastLeft t_lastCode t_writtenLong x13 t_acts t_done0 t_stoppedAt, ic E (r_t 0) 800 f3, ic E (r_t 27) 12 f6, ic E (r_t 42) 2000 f11, ic E (r_t 25) 12 f4, ic E (r_t 28) 12 f7, ic E (r_t 43) 2000 f12, zc E (r_t 26) 12 f5]) (hm_runV (rest := []) hx hb hml hown X hA Y w 0 (ci := 7) (T := TX8) (N := 55) rfl rfl mw_X8_layCodes ml_X8_347 dX8_often_23 hm_ac0 [.int a1, .int a2, .int a3] rfl [0, 1, 2, 3, 4, 5, 6, 7] rfl rfl (ct_X8_layCodes l E H.size h0 r_t t_base t_taped t_at t_faultPlace t_number t_newBits t_newTold t_newDoings t_newThings t_opened t_sum t_heldAll t_onPaper t_turned t_wasConverted t_lastBits t_lastSum t_lastHeld t_lastLeft t_lastCode t_writtenLong t_codeMany t_acts t_done0 t_stoppedAt t_all t_askedOf t_codes t_decided t_heldBehind t_sorted t_wasLate a1 a2 a3 (f3, f4, f5, f6, f7, x8, x9, x10, f11, f12, x13) hc23) rfl hl.1 ⟨⟨rfl, rfl⟩, ⟨Nat.le_of_ble_eq_true rfl, Nat.le_of_ble_eq_true rfl⟩, ⟨Nat.le_of_ble_eq_true rfl, Nat.le_of_ble_eq_true rfl⟩, Nat.le_of_ble_eq_true rfl⟩) hA w [0, 1, 2, 3, 4, 5, 6, 7] [] [0, 1, 2, 3, 4, 5, 6, 7] rfl rfl (by decide) (fun _ => rfl) (fun _ H locs w => ?_)
      refine lv_aload_n hx hb dX8_often_26 rfl (lv_at hl 0 rfl) ?_
      refine lv_iload hx hb dX8_often_27 (lv_at hl 4 rfl) ?_
      obtain ⟨r14, hc29, hf⟩ := pf_bi_0 hf
      refine hm_aft_i (ws' := fun _ => [oc8 h0 r_t t_base t_taped t_at t_faultPlace t_number t_newBits t_newTold t_newDoings t_newThings t_opened x8 x9 x10 t_turned t_wasConverted t_lastBits t_lastSum t_lastHeld t_lastLeft t_lastCode t_writtenLong x13 t_acts t_done0 t_stoppedAt, ic E (r_t 0) 800 f3, ic E (r_t 27) 12 f6, ic E (r_t 42) 2000 f11, ic E (r_t 25) 12 f4, ic E (r_t 28) 12 f7, ic E (r_t 43) 2000 f12, zc E (r_t 26) 12 f5]) (hm_runV (rest := []) hx hb hml hown X hA Y w 0 (ci := 7) (T := TX8) (N := 55) rfl rfl mw_X8_countOf ml_X8_338 dX8_often_29 hm_ac0 [.int a4] rfl [0, 6] rfl rfl (ct_X8_countOf l E H.size h0 r_t t_base t_taped t_at t_faultPlace t_number t_newBits t_newTold t_newDoings t_newThings t_opened x8 x9 x10 t_turned t_wasConverted t_lastBits t_lastSum t_lastHeld t_lastLeft t_lastCode t_writtenLong x13 t_acts t_done0 t_stoppedAt f12 a4 (r14, ()) hc29) rfl hl.1 ⟨⟨rfl, rfl⟩, ⟨Nat.le_of_ble_eq_true rfl, Nat.le_of_ble_eq_true rfl⟩, ⟨Nat.le_of_ble_eq_true rfl, Nat.le_of_ble_eq_true rfl⟩, Nat.le_of_ble_eq_true rfl⟩) hA w [0, 6] [1, 2, 3, 4, 5, 7] [6, 0, 1, 2, 3, 4, 7, 5] rfl rfl (by decide) (fun _ => rfl) (fun _ H locs w => ?_)
      exact hQ _ _ _ _ _ (f3, f4, f5, f6, f7, x8, x9, x10, f11, f12, x13) (fun _ => 0) hf rfl w dX8_often_32
    · have hf := pf_t c14 hf
      refine lv_iconst (v := (-1)) hx hb dX8_often_17 (by decide) ?_
      exact hQ _ _ _ _ _ (t_all, t_decided, t_wasLate, t_askedOf, t_heldBehind, t_sum, t_heldAll, t_onPaper, t_codes, t_sorted, t_codeMany) (fun _ => 0) hf rfl w dX8_often_18
set_option maxHeartbeats 8000000 in
set_option maxRecDepth 100000 in
theorem ct_X8_first (l : Launch) (E : hm_E) (sz : Nat) (h0 : Nat) (r_t : Nat → Nat) (t_base t_taped t_at t_faultPlace t_number t_newBits t_newTold t_newDoings t_newThings t_opened t_sum t_heldAll t_onPaper t_turned t_wasConverted t_lastBits t_lastSum t_lastHeld t_lastLeft t_lastCode t_writtenLong t_codeMany t_acts t_done0 t_stoppedAt : Int32) (t_all : Nat → Int32) (t_askedOf : Nat → Int32) (t_decided : Nat → Int32) (t_heldBehind : Nat → Int32) (t_wasLate : Nat → Int32) (a1 : Int32) (a2 : Int32) (a3 : Int32) (R : Int32 × (Nat → Int32) × (Nat → Int32) × (Nat → Int32) × (Nat → Int32) × (Nat → Int32) × Int32 × Int32 × Int32) (hf : pf_X8_first a1 a2 a3 t_all t_base t_decided t_wasLate t_askedOf t_heldBehind t_sum t_heldAll t_onPaper t_turned = some R) : hm_Mi l E yX8_first cX8_first 5 .int [] (hm_rr 5 115 0 0) [.ref h0, .int a1, .int a2, .int a3] sz [oc8 h0 r_t t_base t_taped t_at t_faultPlace t_number t_newBits t_newTold t_newDoings t_newThings t_opened t_sum t_heldAll t_onPaper t_turned t_wasConverted t_lastBits t_lastSum t_lastHeld t_lastLeft t_lastCode t_writtenLong t_codeMany t_acts t_done0 t_stoppedAt, ic E (r_t 0) 800 t_all, ic E (r_t 27) 12 t_askedOf, ic E (r_t 25) 12 t_decided, ic E (r_t 28) 12 t_heldBehind, zc E (r_t 26) 12 t_wasLate] R.1 (fun _ => [oc8 h0 r_t t_base t_taped t_at t_faultPlace t_number t_newBits t_newTold t_newDoings t_newThings t_opened (R.2.2.2.2.2.2.1) (R.2.2.2.2.2.2.2.1) (R.2.2.2.2.2.2.2.2) t_turned t_wasConverted t_lastBits t_lastSum t_lastHeld t_lastLeft t_lastCode t_writtenLong t_codeMany t_acts t_done0 t_stoppedAt, ic E (r_t 0) 800 (R.2.1), ic E (r_t 27) 12 (R.2.2.2.2.1), ic E (r_t 25) 12 (R.2.2.1), ic E (r_t 28) 12 (R.2.2.2.2.2.1), zc E (r_t 26) 12 (R.2.2.2.1)]) := by
  refine hm_ct_i R (fun u qs => [oc8 h0 r_t t_base t_taped t_at t_faultPlace t_number t_newBits t_newTold t_newDoings t_newThings t_opened (u.2.2.2.2.2.1) (u.2.2.2.2.2.2.1) (u.2.2.2.2.2.2.2) t_turned t_wasConverted t_lastBits t_lastSum t_lastHeld t_lastLeft t_lastCode t_writtenLong t_codeMany t_acts t_done0 t_stoppedAt, ic E (r_t 0) 800 (u.1), ic E (r_t 27) 12 (u.2.2.2.1), ic E (r_t 25) 12 (u.2.1), ic E (r_t 28) 12 (u.2.2.2.2.1), zc E (r_t 26) 12 (u.2.2.1)]) (by decide) (Nat.le_of_ble_eq_true rfl) (Or.inl rfl) ?_
  intro p e s m args below meth c A Q ls H locs hx hb hml hown X hA Y hex w hl hQ
  have hl : lv_has ls 5 [(0, .ref h0), (1, .int a1), (2, .int a2), (3, .int a3)] := hl
  unfold pf_X8_first at hf
  refine lv_aload_n hx hb dX8_first_0 rfl (lv_at hl 0 rfl) ?_
  refine lv_iconst (v := 0) hx hb dX8_first_1 (by decide) ?_
  obtain ⟨r1, hc2, hf⟩ := pf_bi_0 hf
  refine hm_aft_i (ws' := fun _ => [oc8 h0 r_t t_base t_taped t_at t_faultPlace t_number t_newBits t_newTold t_newDoings t_newThings t_opened t_sum t_heldAll t_onPaper t_turned t_wasConverted t_lastBits t_lastSum t_lastHeld t_lastLeft t_lastCode t_writtenLong t_codeMany t_acts t_done0 t_stoppedAt, ic E (r_t 0) 800 t_all, ic E (r_t 27) 12 t_askedOf, ic E (r_t 25) 12 t_decided, ic E (r_t 28) 12 t_heldBehind, zc E (r_t 26) 12 t_wasLate]) (hm_runV (rest := []) hx hb hml hown X hA Y w 0 (ci := 7) (T := TX8) (N := 55) rfl rfl mw_X8_get ml_X8_221 dX8_first_2 hm_ac0 [.int 0] rfl [0, 1] rfl rfl (ct_X8_get l E H.size h0 r_t t_base t_taped t_at t_faultPlace t_number t_newBits t_newTold t_newDoings t_newThings t_opened t_sum t_heldAll t_onPaper t_turned t_wasConverted t_lastBits t_lastSum t_lastHeld t_lastLeft t_lastCode t_writtenLong t_codeMany t_acts t_done0 t_stoppedAt t_all 0 (r1, ()) hc2) rfl hl.1 ⟨⟨rfl, rfl⟩, ⟨Nat.le_of_ble_eq_true rfl, Nat.le_of_ble_eq_true rfl⟩, ⟨Nat.le_of_ble_eq_true rfl, Nat.le_of_ble_eq_true rfl⟩, Nat.le_of_ble_eq_true rfl⟩) hA w [0, 1] [2, 3, 4, 5] [4, 5, 0, 1, 2, 3] rfl rfl (by decide) (fun _ => rfl) (fun _ H locs w => ?_)
  refine lv_if_eq (tgt := 17) hx hb dX8_first_5 (by decide) (fun c5 => ?_) (fun c5 => ?_)
  · have hf := pf_t c5 hf
    refine lv_ldcw (v := (-1000000)) hx hb hown (X.use ck_X8_283 rfl) dX8_first_17 ?_
    exact hQ _ _ _ _ _ (t_all, t_decided, t_wasLate, t_askedOf, t_heldBehind, t_sum, t_heldAll, t_onPaper) (fun _ => 0) hf rfl w dX8_first_20
  · have hf := pf_e c5 hf
    refine lv_iload_n hx hb dX8_first_8 rfl (lv_at hl 1 rfl) ?_
    refine lv_iload_n hx hb dX8_first_9 rfl (lv_at hl 2 rfl) ?_
    refine lv_iconst (v := 1) hx hb dX8_first_10 (by decide) ?_
    obtain ⟨r2, hc11, hf⟩ := pf_bi_0 hf
    refine hm_aft_i (ws' := fun _ => [oc8 h0 r_t t_base t_taped t_at t_faultPlace t_number t_newBits t_newTold t_newDoings t_newThings t_opened t_sum t_heldAll t_onPaper t_turned t_wasConverted t_lastBits t_lastSum t_lastHeld t_lastLeft t_lastCode t_writtenLong t_codeMany t_acts t_done0 t_stoppedAt, ic E (r_t 0) 800 t_all, ic E (r_t 27) 12 t_askedOf, ic E (r_t 25) 12 t_decided, ic E (r_t 28) 12 t_heldBehind, zc E (r_t 26) 12 t_wasLate]) (hm_runS (rest := []) hx hb hml hown X hA Y w mw_X8_isRow ml_X8_344 dX8_first_11 hm_ac0 [.int a1, .int a2, .int 1] rfl [] rfl rfl (ct_X8_isRow l E H.size a1 a2 1 (r2, ()) hc11) rfl hl.1 ⟨⟨rfl, rfl⟩, ⟨Nat.le_of_ble_eq_true rfl, Nat.le_of_ble_eq_true rfl⟩, ⟨Nat.le_of_ble_eq_true rfl, Nat.le_of_ble_eq_true rfl⟩, Nat.le_of_ble_eq_true rfl⟩) hA w [] [0, 1, 2, 3, 4, 5] [0, 1, 2, 3, 4, 5] rfl rfl (by decide) (fun _ => rfl) (fun _ H locs w => ?_)
    refine lv_if_ne (tgt := 21) hx hb dX8_first_14 (by decide) (fun c14 => ?_) (fun c14 => ?_)
    · have hf := pf_e c14 hf
      refine lv_iload_n hx hb dX8_first_21 rfl (lv_at hl 1 rfl) ?_
      refine lv_istore (lv' := [(4, .int a1), (0, .ref h0), (1, .int a1), (2, .int a2), (3, .int a3)]) hx hb dX8_first_22 hl (by decide) rfl (fun ls hl => ?_)
      have klp_X8_first_24 : ∀ (n : Nat) (x3 : Int32) (f4 : Nat → Int32) (f5 : Nat → Int32) (f6 : Nat → Int32) (f7 : Nat → Int32) (f8 : Nat → Int32) (x9 : Int32) (x10 : Int32) (x11 : Int32) (H : Heap) (locs : List Loc) (ls : Array Slot), lp_X8_first_24 a2 a3 t_base t_turned n x3 f4 f5 f6 f7 f8 x9 x10 x11 = some R → hm_W E A s.heap [oc8 h0 r_t t_base t_taped t_at t_faultPlace t_number t_newBits t_newTold t_newDoings t_newThings t_opened x9 x10 x11 t_turned t_wasConverted t_lastBits t_lastSum t_lastHeld t_lastLeft t_lastCode t_writtenLong t_codeMany t_acts t_done0 t_stoppedAt, ic E (r_t 0) 800 f4, ic E (r_t 27) 12 f7, ic E (r_t 25) 12 f5, ic E (r_t 28) 12 f8, zc E (r_t 26) 12 f6] H locs → lv_has ls 5 [(0, .ref h0), (2, .int a2), (3, .int a3), (4, .int x3)] → W p l e (hm_rr 5 115 0 0) s m args below meth c H locs 0 0 Q (F0 m 24 ls []) := by
        intro n
        induction n with
        | zero =>
          intro x3 f4 f5 f6 f7 f8 x9 x10 x11 H locs ls hf w hl
          exact pf_no hf
        | succ n ih24 =>
          intro x3 f4 f5 f6 f7 f8 x9 x10 x11 H locs ls hf w hl
          rw [lp_X8_first_24] at hf
          refine lv_iload hx hb dX8_first_24 (lv_at hl 3 rfl) ?_
          refine lv_iload_n hx hb dX8_first_26 rfl (lv_at hl 1 rfl) ?_
          refine lv_icmp_gt (tgt := 49) hx hb dX8_first_27 (by decide) (fun c27 => ?_) (fun c27 => ?_)
          · have hf := pf_t c27 hf
            refine lv_ldcw (v := (-1000000)) hx hb hown (X.use ck_X8_283 rfl) dX8_first_49 ?_
            exact hQ _ _ _ _ _ (f4, f5, f6, f7, f8, x9, x10, x11) (fun _ => 0) hf rfl w dX8_first_52
          · have hf := pf_e c27 hf
            refine lv_aload_n hx hb dX8_first_30 rfl (lv_at hl 0 rfl) ?_
            refine lv_iload hx hb dX8_first_31 (lv_at hl 3 rfl) ?_
            obtain ⟨r12, f13, f14, f15, f16, f17, x18, x19, x20, hc33, hf⟩ := pf_bi_8 hf
            refine hm_aft_i (ws' := fun _ => [oc8 h0 r_t t_base t_taped t_at t_faultPlace t_number t_newBits t_newTold t_newDoings t_newThings t_opened x18 x19 x20 t_turned t_wasConverted t_lastBits t_lastSum t_lastHeld t_lastLeft t_lastCode t_writtenLong t_codeMany t_acts t_done0 t_stoppedAt, ic E (r_t 0) 800 f13, ic E (r_t 27) 12 f16, ic E (r_t 25) 12 f14, ic E (r_t 28) 12 f17, zc E (r_t 26) 12 f15]) (hm_runV (rest := []) hx hb hml hown X hA Y w 0 (ci := 7) (T := TX8) (N := 55) rfl rfl mw_X8_paperCode ml_X8_308 dX8_first_33 hm_ac0 [.int x3] rfl [0, 1, 2, 3, 4, 5] rfl rfl (ct_X8_paperCode l E H.size h0 r_t t_base t_taped t_at t_faultPlace t_number t_newBits t_newTold t_newDoings t_newThings t_opened x9 x10 x11 t_turned t_wasConverted t_lastBits t_lastSum t_lastHeld t_lastLeft t_lastCode t_writtenLong t_codeMany t_acts t_done0 t_stoppedAt f4 f7 f5 f8 f6 x3 (r12, f13, f14, f15, f16, f17, x18, x19, x20) hc33) rfl hl.1 ⟨⟨rfl, rfl⟩, ⟨Nat.le_of_ble_eq_true rfl, Nat.le_of_ble_eq_true rfl⟩, ⟨Nat.le_of_ble_eq_true rfl, Nat.le_of_ble_eq_true rfl⟩, Nat.le_of_ble_eq_true rfl⟩) hA w [0, 1, 2, 3, 4, 5] [] [0, 1, 2, 3, 4, 5] rfl rfl (by decide) (fun _ => rfl) (fun _ H locs w => ?_)
            refine lv_iload_n hx hb dX8_first_36 rfl (lv_at hl 2 rfl) ?_
            refine lv_icmp_lt (tgt := 43) hx hb dX8_first_37 (by decide) (fun c37 => ?_) (fun c37 => ?_)
            · have hf := pf_t c37 hf
              obtain ⟨x21, ex21⟩ : ∃ y : Int32, y = (x3 + 1) := ⟨_, rfl⟩
              have hf := pf_nm ex21 hf
              refine lv_iinc (v := x21) (lv' := [(4, .int x21), (0, .ref h0), (2, .int a2), (3, .int a3)]) hx hb dX8_first_43 hl (k := 3) rfl (by rw [ex21]; rfl) (by decide) rfl (fun ls hl => ?_)
              refine lv_goto (tgt := 24) hx hb dX8_first_46 (by decide) ?_
              exact ih24 _ _ _ _ _ _ _ _ _ _ _ _ hf w (lv_sub hl [1, 2, 3, 0] rfl)
            · have hf := pf_e c37 hf
              refine lv_iload hx hb dX8_first_40 (lv_at hl 3 rfl) ?_
              exact hQ _ _ _ _ _ (f13, f14, f15, f16, f17, x18, x19, x20) (fun _ => 0) hf rfl w dX8_first_42
      exact klp_X8_first_24 FU _ _ _ _ _ _ _ _ _ _ _ _ hf w (lv_sub hl [1, 3, 4, 0] rfl)
    · have hf := pf_t c14 hf
      refine lv_ldcw (v := (-1000000)) hx hb hown (X.use ck_X8_283 rfl) dX8_first_17 ?_
      exact hQ _ _ _ _ _ (t_all, t_decided, t_wasLate, t_askedOf, t_heldBehind, t_sum, t_heldAll, t_onPaper) (fun _ => 0) hf rfl w dX8_first_20
set_option maxHeartbeats 8000000 in
set_option maxRecDepth 100000 in
theorem ct_X8_allSizes (l : Launch) (E : hm_E) (sz : Nat) (h0 : Nat) (r_t : Nat → Nat) (t_base t_taped t_at t_faultPlace t_number t_newBits t_newTold t_newDoings t_newThings t_opened t_sum t_heldAll t_onPaper t_turned t_wasConverted t_lastBits t_lastSum t_lastHeld t_lastLeft t_lastCode t_writtenLong t_codeMany t_acts t_done0 t_stoppedAt : Int32) (t_all : Nat → Int32) (R : Int32 × Unit) (hf : pf_X8_allSizes t_all t_base = some R) : hm_Mi l E yX8_allSizes cX8_allSizes 1 .int [] (hm_rr 2 45 0 0) [.ref h0] sz [oc8 h0 r_t t_base t_taped t_at t_faultPlace t_number t_newBits t_newTold t_newDoings t_newThings t_opened t_sum t_heldAll t_onPaper t_turned t_wasConverted t_lastBits t_lastSum t_lastHeld t_lastLeft t_lastCode t_writtenLong t_codeMany t_acts t_done0 t_stoppedAt, ic E (r_t 0) 800 t_all] R.1 (fun _ => [oc8 h0 r_t t_base t_taped t_at t_faultPlace t_number t_newBits t_newTold t_newDoings t_newThings t_opened t_sum t_heldAll t_onPaper t_turned t_wasConverted t_lastBits t_lastSum t_lastHeld t_lastLeft t_lastCode t_writtenLong t_codeMany t_acts t_done0 t_stoppedAt, ic E (r_t 0) 800 t_all]) := by
  refine hm_ct_i R (fun u qs => [oc8 h0 r_t t_base t_taped t_at t_faultPlace t_number t_newBits t_newTold t_newDoings t_newThings t_opened t_sum t_heldAll t_onPaper t_turned t_wasConverted t_lastBits t_lastSum t_lastHeld t_lastLeft t_lastCode t_writtenLong t_codeMany t_acts t_done0 t_stoppedAt, ic E (r_t 0) 800 t_all]) (by decide) (Nat.le_of_ble_eq_true rfl) (Or.inl rfl) ?_
  intro p e s m args below meth c A Q ls H locs hx hb hml hown X hA Y hex w hl hQ
  have hl : lv_has ls 1 [(0, .ref h0)] := hl
  unfold pf_X8_allSizes at hf
  refine lv_aload_n hx hb dX8_allSizes_0 rfl (lv_at hl 0 rfl) ?_
  refine lv_bipush (v := 9) hx hb dX8_allSizes_1 (by decide) ?_
  refine lv_aload_n hx hb dX8_allSizes_3 rfl (lv_at hl 0 rfl) ?_
  refine lv_iconst (v := 0) hx hb dX8_allSizes_4 (by decide) ?_
  obtain ⟨r1, hc5, hf⟩ := pf_bi_0 hf
  refine hm_aft_i (ws' := fun _ => [oc8 h0 r_t t_base t_taped t_at t_faultPlace t_number t_newBits t_newTold t_newDoings t_newThings t_opened t_sum t_heldAll t_onPaper t_turned t_wasConverted t_lastBits t_lastSum t_lastHeld t_lastLeft t_lastCode t_writtenLong t_codeMany t_acts t_done0 t_stoppedAt, ic E (r_t 0) 800 t_all]) (hm_runV (rest := [.int 9, .ref h0]) hx hb hml hown X hA Y w 0 (ci := 7) (T := TX8) (N := 55) rfl rfl mw_X8_get ml_X8_221 dX8_allSizes_5 hm_ac0 [.int 0] rfl [0, 1] rfl rfl (ct_X8_get l E H.size h0 r_t t_base t_taped t_at t_faultPlace t_number t_newBits t_newTold t_newDoings t_newThings t_opened t_sum t_heldAll t_onPaper t_turned t_wasConverted t_lastBits t_lastSum t_lastHeld t_lastLeft t_lastCode t_writtenLong t_codeMany t_acts t_done0 t_stoppedAt t_all 0 (r1, ()) hc5) rfl hl.1 ⟨⟨rfl, rfl⟩, ⟨Nat.le_of_ble_eq_true rfl, Nat.le_of_ble_eq_true rfl⟩, ⟨Nat.le_of_ble_eq_true rfl, Nat.le_of_ble_eq_true rfl⟩, Nat.le_of_ble_eq_true rfl⟩) hA w [0, 1] [] [0, 1] rfl rfl (by decide) (fun _ => rfl) (fun _ H locs w => ?_)
  obtain ⟨r2, hc8, hf⟩ := pf_bi_0 hf
  refine hm_aft_i (ws' := fun _ => [oc8 h0 r_t t_base t_taped t_at t_faultPlace t_number t_newBits t_newTold t_newDoings t_newThings t_opened t_sum t_heldAll t_onPaper t_turned t_wasConverted t_lastBits t_lastSum t_lastHeld t_lastLeft t_lastCode t_writtenLong t_codeMany t_acts t_done0 t_stoppedAt, ic E (r_t 0) 800 t_all]) (hm_runV (rest := []) hx hb hml hown X hA Y w 0 (ci := 7) (T := TX8) (N := 55) rfl rfl mw_X8_sumOf ml_X8_244 dX8_allSizes_8 hm_ac0 [.int 9, .int r1] rfl [0, 1] rfl rfl (ct_X8_sumOf l E H.size h0 r_t t_base t_taped t_at t_faultPlace t_number t_newBits t_newTold t_newDoings t_newThings t_opened t_sum t_heldAll t_onPaper t_turned t_wasConverted t_lastBits t_lastSum t_lastHeld t_lastLeft t_lastCode t_writtenLong t_codeMany t_acts t_done0 t_stoppedAt t_all 9 r1 (r2, ()) hc8) rfl hl.1 ⟨⟨rfl, rfl⟩, ⟨Nat.le_of_ble_eq_true rfl, Nat.le_of_ble_eq_true rfl⟩, ⟨Nat.le_of_ble_eq_true rfl, Nat.le_of_ble_eq_true rfl⟩, Nat.le_of_ble_eq_true rfl⟩) hA w [0, 1] [] [0, 1] rfl rfl (by decide) (fun _ => rfl) (fun _ H locs w => ?_)
  exact hQ _ _ _ _ _ () (fun _ => 0) hf rfl w dX8_allSizes_11
set_option maxHeartbeats 8000000 in
set_option maxRecDepth 100000 in
theorem ct_X8_isShortRow (l : Launch) (E : hm_E) (sz : Nat) (h0 : Nat) (r_t : Nat → Nat) (t_base t_taped t_at t_faultPlace t_number t_newBits t_newTold t_newDoings t_newThings t_opened t_sum t_heldAll t_onPaper t_turned t_wasConverted t_lastBits t_lastSum t_lastHeld t_lastLeft t_lastCode t_writtenLong t_codeMany t_acts t_done0 t_stoppedAt : Int32) (t_all : Nat → Int32) (R : Int32 × Unit) (hf : pf_X8_isShortRow t_all t_base = some R) : hm_Mi l E yX8_isShortRow cX8_isShortRow 1 .boolean [] (hm_rr 3 65 0 0) [.ref h0] sz [oc8 h0 r_t t_base t_taped t_at t_faultPlace t_number t_newBits t_newTold t_newDoings t_newThings t_opened t_sum t_heldAll t_onPaper t_turned t_wasConverted t_lastBits t_lastSum t_lastHeld t_lastLeft t_lastCode t_writtenLong t_codeMany t_acts t_done0 t_stoppedAt, ic E (r_t 0) 800 t_all] R.1 (fun _ => [oc8 h0 r_t t_base t_taped t_at t_faultPlace t_number t_newBits t_newTold t_newDoings t_newThings t_opened t_sum t_heldAll t_onPaper t_turned t_wasConverted t_lastBits t_lastSum t_lastHeld t_lastLeft t_lastCode t_writtenLong t_codeMany t_acts t_done0 t_stoppedAt, ic E (r_t 0) 800 t_all]) := by
  refine hm_ct_i R (fun u qs => [oc8 h0 r_t t_base t_taped t_at t_faultPlace t_number t_newBits t_newTold t_newDoings t_newThings t_opened t_sum t_heldAll t_onPaper t_turned t_wasConverted t_lastBits t_lastSum t_lastHeld t_lastLeft t_lastCode t_writtenLong t_codeMany t_acts t_done0 t_stoppedAt, ic E (r_t 0) 800 t_all]) (by decide) (Nat.le_of_ble_eq_true rfl) (Or.inr rfl) ?_
  intro p e s m args below meth c A Q ls H locs hx hb hml hown X hA Y hex w hl hQ
  have hl : lv_has ls 1 [(0, .ref h0)] := hl
  unfold pf_X8_isShortRow at hf
  refine lv_aload_n hx hb dX8_isShortRow_0 rfl (lv_at hl 0 rfl) ?_
  refine lv_iconst (v := 0) hx hb dX8_isShortRow_1 (by decide) ?_
  obtain ⟨r1, hc2, hf⟩ := pf_bi_0 hf
  refine hm_aft_i (ws' := fun _ => [oc8 h0 r_t t_base t_taped t_at t_faultPlace t_number t_newBits t_newTold t_newDoings t_newThings t_opened t_sum t_heldAll t_onPaper t_turned t_wasConverted t_lastBits t_lastSum t_lastHeld t_lastLeft t_lastCode t_writtenLong t_codeMany t_acts t_done0 t_stoppedAt, ic E (r_t 0) 800 t_all]) (hm_runV (rest := []) hx hb hml hown X hA Y w 0 (ci := 7) (T := TX8) (N := 55) rfl rfl mw_X8_get ml_X8_221 dX8_isShortRow_2 hm_ac0 [.int 0] rfl [0, 1] rfl rfl (ct_X8_get l E H.size h0 r_t t_base t_taped t_at t_faultPlace t_number t_newBits t_newTold t_newDoings t_newThings t_opened t_sum t_heldAll t_onPaper t_turned t_wasConverted t_lastBits t_lastSum t_lastHeld t_lastLeft t_lastCode t_writtenLong t_codeMany t_acts t_done0 t_stoppedAt t_all 0 (r1, ()) hc2) rfl hl.1 ⟨⟨rfl, rfl⟩, ⟨Nat.le_of_ble_eq_true rfl, Nat.le_of_ble_eq_true rfl⟩, ⟨Nat.le_of_ble_eq_true rfl, Nat.le_of_ble_eq_true rfl⟩, Nat.le_of_ble_eq_true rfl⟩) hA w [0, 1] [] [0, 1] rfl rfl (by decide) (fun _ => rfl) (fun _ H locs w => ?_)
  refine lv_if_le (tgt := 28) hx hb dX8_isShortRow_5 (by decide) (fun c5 => ?_) (fun c5 => ?_)
  · have hf := pf_t c5 hf
    refine lv_iconst (v := 0) hx hb dX8_isShortRow_28 (by decide) ?_
    exact hQ _ _ _ _ _ () (fun _ => 0) hf rfl w dX8_isShortRow_29
  · have hf := pf_e c5 hf
    refine lv_aload_n hx hb dX8_isShortRow_8 rfl (lv_at hl 0 rfl) ?_
    obtain ⟨r2, hc9, hf⟩ := pf_bi_0 hf
    refine hm_aft_i (ws' := fun _ => [oc8 h0 r_t t_base t_taped t_at t_faultPlace t_number t_newBits t_newTold t_newDoings t_newThings t_opened t_sum t_heldAll t_onPaper t_turned t_wasConverted t_lastBits t_lastSum t_lastHeld t_lastLeft t_lastCode t_writtenLong t_codeMany t_acts t_done0 t_stoppedAt, ic E (r_t 0) 800 t_all]) (hm_runV (rest := []) hx hb hml hown X hA Y w 0 (ci := 7) (T := TX8) (N := 55) rfl rfl mw_X8_allSizes ml_X8_353 dX8_isShortRow_9 hm_ac0 [] rfl [0, 1] rfl rfl (ct_X8_allSizes l E H.size h0 r_t t_base t_taped t_at t_faultPlace t_number t_newBits t_newTold t_newDoings t_newThings t_opened t_sum t_heldAll t_onPaper t_turned t_wasConverted t_lastBits t_lastSum t_lastHeld t_lastLeft t_lastCode t_writtenLong t_codeMany t_acts t_done0 t_stoppedAt t_all (r2, ()) hc9) rfl hl.1 ⟨⟨rfl, rfl⟩, ⟨Nat.le_of_ble_eq_true rfl, Nat.le_of_ble_eq_true rfl⟩, ⟨Nat.le_of_ble_eq_true rfl, Nat.le_of_ble_eq_true rfl⟩, Nat.le_of_ble_eq_true rfl⟩) hA w [0, 1] [] [0, 1] rfl rfl (by decide) (fun _ => rfl) (fun _ H locs w => ?_)
    refine lv_aload_n hx hb dX8_isShortRow_12 rfl (lv_at hl 0 rfl) ?_
    refine lv_iconst (v := 5) hx hb dX8_isShortRow_13 (by decide) ?_
    obtain ⟨r3, hc14, hf⟩ := pf_bi_0 hf
    refine hm_aft_i (ws' := fun _ => [oc8 h0 r_t t_base t_taped t_at t_faultPlace t_number t_newBits t_newTold t_newDoings t_newThings t_opened t_sum t_heldAll t_onPaper t_turned t_wasConverted t_lastBits t_lastSum t_lastHeld t_lastLeft t_lastCode t_writtenLong t_codeMany t_acts t_done0 t_stoppedAt, ic E (r_t 0) 800 t_all]) (hm_runV (rest := [.int r2]) hx hb hml hown X hA Y w 0 (ci := 7) (T := TX8) (N := 55) rfl rfl mw_X8_get ml_X8_221 dX8_isShortRow_14 hm_ac0 [.int 5] rfl [0, 1] rfl rfl (ct_X8_get l E H.size h0 r_t t_base t_taped t_at t_faultPlace t_number t_newBits t_newTold t_newDoings t_newThings t_opened t_sum t_heldAll t_onPaper t_turned t_wasConverted t_lastBits t_lastSum t_lastHeld t_lastLeft t_lastCode t_writtenLong t_codeMany t_acts t_done0 t_stoppedAt t_all 5 (r3, ()) hc14) rfl hl.1 ⟨⟨rfl, rfl⟩, ⟨Nat.le_of_ble_eq_true rfl, Nat.le_of_ble_eq_true rfl⟩, ⟨Nat.le_of_ble_eq_true rfl, Nat.le_of_ble_eq_true rfl⟩, Nat.le_of_ble_eq_true rfl⟩) hA w [0, 1] [] [0, 1] rfl rfl (by decide) (fun _ => rfl) (fun _ H locs w => ?_)
    obtain ⟨g17, hf⟩ := pf_ckD hf
    refine lv_idiv hx hb dX8_isShortRow_17 g17 ?_
    refine lv_sipush (v := 2000) hx hb dX8_isShortRow_18 (by decide) ?_
    refine lv_icmp_ge (tgt := 28) hx hb dX8_isShortRow_21 (by decide) (fun c21 => ?_) (fun c21 => ?_)
    · have hf := pf_t c21 hf
      refine lv_iconst (v := 0) hx hb dX8_isShortRow_28 (by decide) ?_
      exact hQ _ _ _ _ _ () (fun _ => 0) hf rfl w dX8_isShortRow_29
    · have hf := pf_e c21 hf
      refine lv_iconst (v := 1) hx hb dX8_isShortRow_24 (by decide) ?_
      refine lv_goto (tgt := 29) hx hb dX8_isShortRow_25 (by decide) ?_
      exact hQ _ _ _ _ _ () (fun _ => 0) hf rfl w dX8_isShortRow_29
set_option maxHeartbeats 8000000 in
set_option maxRecDepth 100000 in
theorem ct_X8_isMissing (l : Launch) (E : hm_E) (sz : Nat) (h0 : Nat) (r_t : Nat → Nat) (t_base t_taped t_at t_faultPlace t_number t_newBits t_newTold t_newDoings t_newThings t_opened t_sum t_heldAll t_onPaper t_turned t_wasConverted t_lastBits t_lastSum t_lastHeld t_lastLeft t_lastCode t_writtenLong t_codeMany t_acts t_done0 t_stoppedAt : Int32) (t_all : Nat → Int32) (t_askedOf : Nat → Int32) (t_codes : Nat → Int32) (t_decided : Nat → Int32) (t_heldBehind : Nat → Int32) (t_sorted : Nat → Int32) (t_wasLate : Nat → Int32) (R : Int32 × (Nat → Int32) × (Nat → Int32) × (Nat → Int32) × (Nat → Int32) × (Nat → Int32) × Int32 × Int32 × Int32 × (Nat → Int32) × (Nat → Int32) × Int32) (hf : pf_X8_isMissing t_all t_base t_decided t_wasLate t_askedOf t_heldBehind t_sum t_heldAll t_onPaper t_turned t_codes t_sorted = some R) : hm_Mi l E yX8_isMissing cX8_isMissing 1 .boolean [] (hm_rr 6 139 0 0) [.ref h0] sz [oc8 h0 r_t t_base t_taped t_at t_faultPlace t_number t_newBits t_newTold t_newDoings t_newThings t_opened t_sum t_heldAll t_onPaper t_turned t_wasConverted t_lastBits t_lastSum t_lastHeld t_lastLeft t_lastCode t_writtenLong t_codeMany t_acts t_done0 t_stoppedAt, ic E (r_t 0) 800 t_all, ic E (r_t 27) 12 t_askedOf, ic E (r_t 42) 2000 t_codes, ic E (r_t 25) 12 t_decided, ic E (r_t 28) 12 t_heldBehind, ic E (r_t 43) 2000 t_sorted, zc E (r_t 26) 12 t_wasLate] R.1 (fun _ => [oc8 h0 r_t t_base t_taped t_at t_faultPlace t_number t_newBits t_newTold t_newDoings t_newThings t_opened (R.2.2.2.2.2.2.1) (R.2.2.2.2.2.2.2.1) (R.2.2.2.2.2.2.2.2.1) t_turned t_wasConverted t_lastBits t_lastSum t_lastHeld t_lastLeft t_lastCode t_writtenLong (R.2.2.2.2.2.2.2.2.2.2.2) t_acts t_done0 t_stoppedAt, ic E (r_t 0) 800 (R.2.1), ic E (r_t 27) 12 (R.2.2.2.2.1), ic E (r_t 42) 2000 (R.2.2.2.2.2.2.2.2.2.1), ic E (r_t 25) 12 (R.2.2.1), ic E (r_t 28) 12 (R.2.2.2.2.2.1), ic E (r_t 43) 2000 (R.2.2.2.2.2.2.2.2.2.2.1), zc E (r_t 26) 12 (R.2.2.2.1)]) := by
  refine hm_ct_i R (fun u qs => [oc8 h0 r_t t_base t_taped t_at t_faultPlace t_number t_newBits t_newTold t_newDoings t_newThings t_opened (u.2.2.2.2.2.1) (u.2.2.2.2.2.2.1) (u.2.2.2.2.2.2.2.1) t_turned t_wasConverted t_lastBits t_lastSum t_lastHeld t_lastLeft t_lastCode t_writtenLong (u.2.2.2.2.2.2.2.2.2.2) t_acts t_done0 t_stoppedAt, ic E (r_t 0) 800 (u.1), ic E (r_t 27) 12 (u.2.2.2.1), ic E (r_t 42) 2000 (u.2.2.2.2.2.2.2.2.1), ic E (r_t 25) 12 (u.2.1), ic E (r_t 28) 12 (u.2.2.2.2.1), ic E (r_t 43) 2000 (u.2.2.2.2.2.2.2.2.2.1), zc E (r_t 26) 12 (u.2.2.1)]) (by decide) (Nat.le_of_ble_eq_true rfl) (Or.inr rfl) ?_
  intro p e s m args below meth c A Q ls H locs hx hb hml hown X hA Y hex w hl hQ
  have hl : lv_has ls 1 [(0, .ref h0)] := hl
  unfold pf_X8_isMissing at hf
  refine lv_aload_n hx hb dX8_isMissing_0 rfl (lv_at hl 0 rfl) ?_
  refine lv_iconst (v := 0) hx hb dX8_isMissing_1 (by decide) ?_
  refine lv_aload_n hx hb dX8_isMissing_2 rfl (lv_at hl 0 rfl) ?_
  obtain ⟨r1, hc3, hf⟩ := pf_bi_0 hf
  refine hm_aft_i (ws' := fun _ => [oc8 h0 r_t t_base t_taped t_at t_faultPlace t_number t_newBits t_newTold t_newDoings t_newThings t_opened t_sum t_heldAll t_onPaper t_turned t_wasConverted t_lastBits t_lastSum t_lastHeld t_lastLeft t_lastCode t_writtenLong t_codeMany t_acts t_done0 t_stoppedAt, ic E (r_t 0) 800 t_all, ic E (r_t 27) 12 t_askedOf, ic E (r_t 42) 2000 t_codes, ic E (r_t 25) 12 t_decided, ic E (r_t 28) 12 t_heldBehind, ic E (r_t 43) 2000 t_sorted, zc E (r_t 26) 12 t_wasLate]) (hm_runV (rest := [.int 0, .ref h0]) hx hb hml hown X hA Y w 0 (ci := 7) (T := TX8) (N := 55) rfl rfl mw_X8_allSizes ml_X8_353 dX8_isMissing_3 hm_ac0 [] rfl [0, 1] rfl rfl (ct_X8_allSizes l E H.size h0 r_t t_base t_taped t_at t_faultPlace t_number t_newBits t_newTold t_newDoings t_newThings t_opened t_sum t_heldAll t_onPaper t_turned t_wasConverted t_lastBits t_lastSum t_lastHeld t_lastLeft t_lastCode t_writtenLong t_codeMany t_acts t_done0 t_stoppedAt t_all (r1, ()) hc3) rfl hl.1 ⟨⟨rfl, rfl⟩, ⟨Nat.le_of_ble_eq_true rfl, Nat.le_of_ble_eq_true rfl⟩, ⟨Nat.le_of_ble_eq_true rfl, Nat.le_of_ble_eq_true rfl⟩, Nat.le_of_ble_eq_true rfl⟩) hA w [0, 1] [2, 3, 4, 5, 6, 7] [6, 7, 0, 1, 2, 3, 4, 5] rfl rfl (by decide) (fun _ => rfl) (fun _ H locs w => ?_)
  refine lv_aload_n hx hb dX8_isMissing_6 rfl (lv_at hl 0 rfl) ?_
  refine lv_iconst (v := 5) hx hb dX8_isMissing_7 (by decide) ?_
  obtain ⟨r2, hc8, hf⟩ := pf_bi_0 hf
  refine hm_aft_i (ws' := fun _ => [oc8 h0 r_t t_base t_taped t_at t_faultPlace t_number t_newBits t_newTold t_newDoings t_newThings t_opened t_sum t_heldAll t_onPaper t_turned t_wasConverted t_lastBits t_lastSum t_lastHeld t_lastLeft t_lastCode t_writtenLong t_codeMany t_acts t_done0 t_stoppedAt, ic E (r_t 0) 800 t_all, ic E (r_t 27) 12 t_askedOf, ic E (r_t 42) 2000 t_codes, ic E (r_t 25) 12 t_decided, ic E (r_t 28) 12 t_heldBehind, ic E (r_t 43) 2000 t_sorted, zc E (r_t 26) 12 t_wasLate]) (hm_runV (rest := [.int r1, .int 0, .ref h0]) hx hb hml hown X hA Y w 0 (ci := 7) (T := TX8) (N := 55) rfl rfl mw_X8_get ml_X8_221 dX8_isMissing_8 hm_ac0 [.int 5] rfl [0, 1] rfl rfl (ct_X8_get l E H.size h0 r_t t_base t_taped t_at t_faultPlace t_number t_newBits t_newTold t_newDoings t_newThings t_opened t_sum t_heldAll t_onPaper t_turned t_wasConverted t_lastBits t_lastSum t_lastHeld t_lastLeft t_lastCode t_writtenLong t_codeMany t_acts t_done0 t_stoppedAt t_all 5 (r2, ()) hc8) rfl hl.1 ⟨⟨rfl, rfl⟩, ⟨Nat.le_of_ble_eq_true rfl, Nat.le_of_ble_eq_true rfl⟩, ⟨Nat.le_of_ble_eq_true rfl, Nat.le_of_ble_eq_true rfl⟩, Nat.le_of_ble_eq_true rfl⟩) hA w [0, 1] [2, 3, 4, 5, 6, 7] [6, 7, 0, 1, 2, 3, 4, 5] rfl rfl (by decide) (fun _ => rfl) (fun _ H locs w => ?_)
  obtain ⟨f3, f4, f5, f6, f7, x8, x9, x10, f11, f12, x13, hc11, hf⟩ := pf_bv_11 hf
  refine hm_aft_v (ws' := fun _ => [oc8 h0 r_t t_base t_taped t_at t_faultPlace t_number t_newBits t_newTold t_newDoings t_newThings t_opened x8 x9 x10 t_turned t_wasConverted t_lastBits t_lastSum t_lastHeld t_lastLeft t_lastCode t_writtenLong x13 t_acts t_done0 t_stoppedAt, ic E (r_t 0) 800 f3, ic E (r_t 27) 12 f6, ic E (r_t 42) 2000 f11, ic E (r_t 25) 12 f4, ic E (r_t 28) 12 f7, ic E (r_t 43) 2000 f12, zc E (r_t 26) 12 f5]) (hm_runV (rest := []) hx hb hml hown X hA Y w 0 (ci := 7) (T := TX8) (N := 55) rfl rfl mw_X8_layCodes ml_X8_347 dX8_isMissing_11 hm_ac0 [.int 0, .int r1, .int r2] rfl [0, 1, 2, 3, 4, 5, 6, 7] rfl rfl (ct_X8_layCodes l E H.size h0 r_t t_base t_taped t_at t_faultPlace t_number t_newBits t_newTold t_newDoings t_newThings t_opened t_sum t_heldAll t_onPaper t_turned t_wasConverted t_lastBits t_lastSum t_lastHeld t_lastLeft t_lastCode t_writtenLong t_codeMany t_acts t_done0 t_stoppedAt t_all t_askedOf t_codes t_decided t_heldBehind t_sorted t_wasLate 0 r1 r2 (f3, f4, f5, f6, f7, x8, x9, x10, f11, f12, x13) hc11) rfl hl.1 ⟨⟨rfl, rfl⟩, ⟨Nat.le_of_ble_eq_true rfl, Nat.le_of_ble_eq_true rfl⟩, ⟨Nat.le_of_ble_eq_true rfl, Nat.le_of_ble_eq_true rfl⟩, Nat.le_of_ble_eq_true rfl⟩) hA w [0, 1, 2, 3, 4, 5, 6, 7] [] [0, 1, 2, 3, 4, 5, 6, 7] rfl rfl (by decide) (fun _ => rfl) (fun _ H locs w => ?_)
  refine lv_aload_n hx hb dX8_isMissing_14 rfl (lv_at hl 0 rfl) ?_
  obtain ⟨r14, hc15, hf⟩ := pf_bi_0 hf
  refine hm_aft_i (ws' := fun _ => [oc8 h0 r_t t_base t_taped t_at t_faultPlace t_number t_newBits t_newTold t_newDoings t_newThings t_opened x8 x9 x10 t_turned t_wasConverted t_lastBits t_lastSum t_lastHeld t_lastLeft t_lastCode t_writtenLong x13 t_acts t_done0 t_stoppedAt, ic E (r_t 0) 800 f3, ic E (r_t 27) 12 f6, ic E (r_t 42) 2000 f11, ic E (r_t 25) 12 f4, ic E (r_t 28) 12 f7, ic E (r_t 43) 2000 f12, zc E (r_t 26) 12 f5]) (hm_runV (rest := []) hx hb hml hown X hA Y w 0 (ci := 7) (T := TX8) (N := 55) rfl rfl mw_X8_firstMissing ml_X8_341 dX8_isMissing_15 hm_ac0 [] rfl [0, 6] rfl rfl (ct_X8_firstMissing l E H.size h0 r_t t_base t_taped t_at t_faultPlace t_number t_newBits t_newTold t_newDoings t_newThings t_opened x8 x9 x10 t_turned t_wasConverted t_lastBits t_lastSum t_lastHeld t_lastLeft t_lastCode t_writtenLong x13 t_acts t_done0 t_stoppedAt f12 (r14, ()) hc15) rfl hl.1 ⟨⟨rfl, rfl⟩, ⟨Nat.le_of_ble_eq_true rfl, Nat.le_of_ble_eq_true rfl⟩, ⟨Nat.le_of_ble_eq_true rfl, Nat.le_of_ble_eq_true rfl⟩, Nat.le_of_ble_eq_true rfl⟩) hA w [0, 6] [1, 2, 3, 4, 5, 7] [6, 0, 1, 2, 3, 4, 7, 5] rfl rfl (by decide) (fun _ => rfl) (fun _ H locs w => ?_)
  refine lv_iconst (v := (-1)) hx hb dX8_isMissing_18 (by decide) ?_
  refine lv_icmp_eq (tgt := 26) hx hb dX8_isMissing_19 (by decide) (fun c19 => ?_) (fun c19 => ?_)
  · have hf := pf_t c19 hf
    refine lv_iconst (v := 0) hx hb dX8_isMissing_26 (by decide) ?_
    exact hQ _ _ _ _ _ (f3, f4, f5, f6, f7, x8, x9, x10, f11, f12, x13) (fun _ => 0) hf rfl w dX8_isMissing_27
  · have hf := pf_e c19 hf
    refine lv_iconst (v := 1) hx hb dX8_isMissing_22 (by decide) ?_
    refine lv_goto (tgt := 27) hx hb dX8_isMissing_23 (by decide) ?_
    exact hQ _ _ _ _ _ (f3, f4, f5, f6, f7, x8, x9, x10, f11, f12, x13) (fun _ => 0) hf rfl w dX8_isMissing_27
set_option maxHeartbeats 8000000 in
set_option maxRecDepth 100000 in
theorem ct_X8_layOne (l : Launch) (E : hm_E) (sz : Nat) (h0 : Nat) (r_t : Nat → Nat) (t_base t_taped t_at t_faultPlace t_number t_newBits t_newTold t_newDoings t_newThings t_opened t_sum t_heldAll t_onPaper t_turned t_wasConverted t_lastBits t_lastSum t_lastHeld t_lastLeft t_lastCode t_writtenLong t_codeMany t_acts t_done0 t_stoppedAt : Int32) (t_all : Nat → Int32) (a1 : Int32) (R : (Nat → Int32)) (hf : pf_X8_layOne a1 t_all t_base = some R) : hm_Mv l E yX8_layOne cX8_layOne 4 [] (hm_rr 2 43 0 0) [.ref h0, .int a1] sz [oc8 h0 r_t t_base t_taped t_at t_faultPlace t_number t_newBits t_newTold t_newDoings t_newThings t_opened t_sum t_heldAll t_onPaper t_turned t_wasConverted t_lastBits t_lastSum t_lastHeld t_lastLeft t_lastCode t_writtenLong t_codeMany t_acts t_done0 t_stoppedAt, ic E (r_t 0) 800 t_all] (fun _ => [oc8 h0 r_t t_base t_taped t_at t_faultPlace t_number t_newBits t_newTold t_newDoings t_newThings t_opened t_sum t_heldAll t_onPaper t_turned t_wasConverted t_lastBits t_lastSum t_lastHeld t_lastLeft t_lastCode t_writtenLong t_codeMany t_acts t_done0 t_stoppedAt, ic E (r_t 0) 800 R]) := by
  refine hm_ct_v R (fun u _ => [oc8 h0 r_t t_base t_taped t_at t_faultPlace t_number t_newBits t_newTold t_newDoings t_newThings t_opened t_sum t_heldAll t_onPaper t_turned t_wasConverted t_lastBits t_lastSum t_lastHeld t_lastLeft t_lastCode t_writtenLong t_codeMany t_acts t_done0 t_stoppedAt, ic E (r_t 0) 800 u]) (by decide) (Nat.le_of_ble_eq_true rfl) ?_
  intro p e s m args below meth c A Q ls H locs hx hb hml hown X hA Y hex hin w hl hQ
  have hl : lv_has ls 4 [(0, .ref h0), (1, .int a1)] := hl
  unfold pf_X8_layOne at hf
  refine lv_iconst (v := 0) hx hb dX8_layOne_0 (by decide) ?_
  refine lv_istore_n (lv' := [(2, .int 0), (0, .ref h0), (1, .int a1)]) hx hb dX8_layOne_1 rfl hl (by decide) rfl (fun ls hl => ?_)
  have klp_X8_layOne_2 : ∀ (n : Nat) (x1 : Int32) (f2 : Nat → Int32) (H : Heap) (locs : List Loc) (ls : Array Slot), lp_X8_layOne_2 a1 t_base n x1 f2 = some R → hm_W E A s.heap [oc8 h0 r_t t_base t_taped t_at t_faultPlace t_number t_newBits t_newTold t_newDoings t_newThings t_opened t_sum t_heldAll t_onPaper t_turned t_wasConverted t_lastBits t_lastSum t_lastHeld t_lastLeft t_lastCode t_writtenLong t_codeMany t_acts t_done0 t_stoppedAt, ic E (r_t 0) 800 f2] H locs → lv_has ls 4 [(0, .ref h0), (1, .int a1), (2, .int x1)] → W p l e (hm_rr 2 43 0 0) s m args below meth c H locs 0 0 Q (F0 m 2 ls []) := by
    intro n
    induction n with
    | zero =>
      intro x1 f2 H locs ls hf w hl
      exact pf_no hf
    | succ n ih2 =>
      intro x1 f2 H locs ls hf w hl
      rw [lp_X8_layOne_2] at hf
      refine lv_iload_n hx hb dX8_layOne_2 rfl (lv_at hl 2 rfl) ?_
      refine lv_aload_n hx hb dX8_layOne_3 rfl (lv_at hl 0 rfl) ?_
      refine lv_iconst (v := 0) hx hb dX8_layOne_4 (by decide) ?_
      obtain ⟨r3, hc5, hf⟩ := pf_bi_0 hf
      refine hm_aft_i (ws' := fun _ => [oc8 h0 r_t t_base t_taped t_at t_faultPlace t_number t_newBits t_newTold t_newDoings t_newThings t_opened t_sum t_heldAll t_onPaper t_turned t_wasConverted t_lastBits t_lastSum t_lastHeld t_lastLeft t_lastCode t_writtenLong t_codeMany t_acts t_done0 t_stoppedAt, ic E (r_t 0) 800 f2]) (hm_runV (rest := [.int x1]) hx hb hml hown X hA Y w 0 (ci := 7) (T := TX8) (N := 55) rfl rfl mw_X8_get ml_X8_221 dX8_layOne_5 hm_ac0 [.int 0] rfl [0, 1] rfl rfl (ct_X8_get l E H.size h0 r_t t_base t_taped t_at t_faultPlace t_number t_newBits t_newTold t_newDoings t_newThings t_opened t_sum t_heldAll t_onPaper t_turned t_wasConverted t_lastBits t_lastSum t_lastHeld t_lastLeft t_lastCode t_writtenLong t_codeMany t_acts t_done0 t_stoppedAt f2 0 (r3, ()) hc5) rfl hl.1 ⟨⟨rfl, rfl⟩, ⟨Nat.le_of_ble_eq_true rfl, Nat.le_of_ble_eq_true rfl⟩, ⟨Nat.le_of_ble_eq_true rfl, Nat.le_of_ble_eq_true rfl⟩, Nat.le_of_ble_eq_true rfl⟩) hA w [0, 1] [] [0, 1] rfl rfl (by decide) (fun _ => rfl) (fun _ H locs w => ?_)
      refine lv_icmp_ge (tgt := 90) hx hb dX8_layOne_8 (by decide) (fun c8 => ?_) (fun c8 => ?_)
      · have hf := pf_t c8 hf
        exact hQ _ _ _ _ f2 (fun _ => 0) hf w dX8_layOne_90
      · have hf := pf_e c8 hf
        refine lv_aload_n hx hb dX8_layOne_11 rfl (lv_at hl 0 rfl) ?_
        refine lv_iconst (v := 2) hx hb dX8_layOne_12 (by decide) ?_
        refine lv_iload_n hx hb dX8_layOne_13 rfl (lv_at hl 1 rfl) ?_
        refine lv_imul hx hb dX8_layOne_14 ?_
        refine lv_iconst (v := 1) hx hb dX8_layOne_15 (by decide) ?_
        refine lv_iadd hx hb dX8_layOne_16 ?_
        obtain ⟨r4, f5, hc17, hf⟩ := pf_bi_1 hf
        refine hm_aft_i (ws' := fun _ => [oc8 h0 r_t t_base t_taped t_at t_faultPlace t_number t_newBits t_newTold t_newDoings t_newThings t_opened t_sum t_heldAll t_onPaper t_turned t_wasConverted t_lastBits t_lastSum t_lastHeld t_lastLeft t_lastCode t_writtenLong t_codeMany t_acts t_done0 t_stoppedAt, ic E (r_t 0) 800 f5]) (hm_runV (rest := []) hx hb hml hown X hA Y w 0 (ci := 7) (T := TX8) (N := 55) rfl rfl mw_X8_draw ml_X8_261 dX8_layOne_17 hm_ac0 [.int ((2 * a1) + 1)] rfl [0, 1] rfl rfl (ct_X8_draw l E H.size h0 r_t t_base t_taped t_at t_faultPlace t_number t_newBits t_newTold t_newDoings t_newThings t_opened t_sum t_heldAll t_onPaper t_turned t_wasConverted t_lastBits t_lastSum t_lastHeld t_lastLeft t_lastCode t_writtenLong t_codeMany t_acts t_done0 t_stoppedAt f2 ((2 * a1) + 1) (r4, f5) hc17) rfl hl.1 ⟨⟨rfl, rfl⟩, ⟨Nat.le_of_ble_eq_true rfl, Nat.le_of_ble_eq_true rfl⟩, ⟨Nat.le_of_ble_eq_true rfl, Nat.le_of_ble_eq_true rfl⟩, Nat.le_of_ble_eq_true rfl⟩) hA w [0, 1] [] [0, 1] rfl rfl (by decide) (fun _ => rfl) (fun _ H locs w => ?_)
        refine lv_iload_n hx hb dX8_layOne_20 rfl (lv_at hl 1 rfl) ?_
        refine lv_isub hx hb dX8_layOne_21 ?_
        refine lv_topi (fun x6 ex6 => ?_)
        have hf := pf_nm ex6 hf
        refine lv_istore_n (lv' := [(3, .int x6), (0, .ref h0), (1, .int a1), (2, .int x1)]) hx hb dX8_layOne_22 rfl hl (by decide) rfl (fun ls hl => ?_)
        refine lv_aload_n hx hb dX8_layOne_23 rfl (lv_at hl 1 rfl) ?_
        refine lv_bipush (v := 21) hx hb dX8_layOne_24 (by decide) ?_
        refine lv_iload_n hx hb dX8_layOne_26 rfl (lv_at hl 3 rfl) ?_
        refine lv_iadd hx hb dX8_layOne_27 ?_
        refine lv_iload_n hx hb dX8_layOne_28 rfl (lv_at hl 0 rfl) ?_
        refine lv_iconst (v := 1) hx hb dX8_layOne_29 (by decide) ?_
        refine lv_aload_n hx hb dX8_layOne_30 rfl (lv_at hl 1 rfl) ?_
        refine lv_bipush (v := 9) hx hb dX8_layOne_31 (by decide) ?_
        refine lv_iload_n hx hb dX8_layOne_33 rfl (lv_at hl 3 rfl) ?_
        refine lv_iadd hx hb dX8_layOne_34 ?_
        obtain ⟨r7, hc35, hf⟩ := pf_bi_0 hf
        refine hm_aft_i (ws' := fun _ => [oc8 h0 r_t t_base t_taped t_at t_faultPlace t_number t_newBits t_newTold t_newDoings t_newThings t_opened t_sum t_heldAll t_onPaper t_turned t_wasConverted t_lastBits t_lastSum t_lastHeld t_lastLeft t_lastCode t_writtenLong t_codeMany t_acts t_done0 t_stoppedAt, ic E (r_t 0) 800 f5]) (hm_runV (rest := [.int 1, .int x6, .int (21 + x1), .ref h0]) hx hb hml hown X hA Y w 0 (ci := 7) (T := TX8) (N := 55) rfl rfl mw_X8_get ml_X8_221 dX8_layOne_35 hm_ac0 [.int (9 + x1)] rfl [0, 1] rfl rfl (ct_X8_get l E H.size h0 r_t t_base t_taped t_at t_faultPlace t_number t_newBits t_newTold t_newDoings t_newThings t_opened t_sum t_heldAll t_onPaper t_turned t_wasConverted t_lastBits t_lastSum t_lastHeld t_lastLeft t_lastCode t_writtenLong t_codeMany t_acts t_done0 t_stoppedAt f5 (9 + x1) (r7, ()) hc35) rfl hl.1 ⟨⟨rfl, rfl⟩, ⟨Nat.le_of_ble_eq_true rfl, Nat.le_of_ble_eq_true rfl⟩, ⟨Nat.le_of_ble_eq_true rfl, Nat.le_of_ble_eq_true rfl⟩, Nat.le_of_ble_eq_true rfl⟩) hA w [0, 1] [] [0, 1] rfl rfl (by decide) (fun _ => rfl) (fun _ H locs w => ?_)
        refine lv_isub hx hb dX8_layOne_38 ?_
        obtain ⟨J56, hJ56, hf⟩ := pf_jn hf
        have kJ56 : ∀ (x8 : Int32) (H : Heap) (locs : List Loc) (ls : Array Slot), J56 x8 = some R → hm_W E A s.heap [oc8 h0 r_t t_base t_taped t_at t_faultPlace t_number t_newBits t_newTold t_newDoings t_newThings t_opened t_sum t_heldAll t_onPaper t_turned t_wasConverted t_lastBits t_lastSum t_lastHeld t_lastLeft t_lastCode t_writtenLong t_codeMany t_acts t_done0 t_stoppedAt, ic E (r_t 0) 800 f5] H locs → lv_has ls 4 [(0, .ref h0), (1, .int a1), (2, .int x1)] → W p l e (hm_rr 2 43 0 0) s m args below meth c H locs 0 0 Q (F0 m 56 ls [.int x8, .int (21 + x1), .ref h0]) := by
          intro x8 H locs ls hf w hl
          have hf := pf_j1 hJ56 hf
          obtain ⟨f9, hc56, hf⟩ := pf_bv_1 hf
          refine hm_aft_v (ws' := fun _ => [oc8 h0 r_t t_base t_taped t_at t_faultPlace t_number t_newBits t_newTold t_newDoings t_newThings t_opened t_sum t_heldAll t_onPaper t_turned t_wasConverted t_lastBits t_lastSum t_lastHeld t_lastLeft t_lastCode t_writtenLong t_codeMany t_acts t_done0 t_stoppedAt, ic E (r_t 0) 800 f9]) (hm_runV (rest := []) hx hb hml hown X hA Y w 0 (ci := 7) (T := TX8) (N := 55) rfl rfl mw_X8_put ml_X8_119 dX8_layOne_56 hm_ac0 [.int (21 + x1), .int x8] rfl [0, 1] rfl rfl (ct_X8_put l E H.size h0 r_t t_base t_taped t_at t_faultPlace t_number t_newBits t_newTold t_newDoings t_newThings t_opened t_sum t_heldAll t_onPaper t_turned t_wasConverted t_lastBits t_lastSum t_lastHeld t_lastLeft t_lastCode t_writtenLong t_codeMany t_acts t_done0 t_stoppedAt f5 (21 + x1) x8 f9 hc56) rfl hl.1 ⟨⟨rfl, rfl⟩, ⟨Nat.le_of_ble_eq_true rfl, Nat.le_of_ble_eq_true rfl⟩, ⟨Nat.le_of_ble_eq_true rfl, Nat.le_of_ble_eq_true rfl⟩, Nat.le_of_ble_eq_true rfl⟩) hA w [0, 1] [] [0, 1] rfl rfl (by decide) (fun _ => rfl) (fun _ H locs w => ?_)
          refine lv_aload_n hx hb dX8_layOne_59 rfl (lv_at hl 0 rfl) ?_
          refine lv_bipush (v := 33) hx hb dX8_layOne_60 (by decide) ?_
          refine lv_iload_n hx hb dX8_layOne_62 rfl (lv_at hl 2 rfl) ?_
          refine lv_iadd hx hb dX8_layOne_63 ?_
          refine lv_aload_n hx hb dX8_layOne_64 rfl (lv_at hl 0 rfl) ?_
          refine lv_bipush (v := 9) hx hb dX8_layOne_65 (by decide) ?_
          refine lv_iload_n hx hb dX8_layOne_67 rfl (lv_at hl 2 rfl) ?_
          refine lv_iadd hx hb dX8_layOne_68 ?_
          obtain ⟨r10, hc69, hf⟩ := pf_bi_0 hf
          refine hm_aft_i (ws' := fun _ => [oc8 h0 r_t t_base t_taped t_at t_faultPlace t_number t_newBits t_newTold t_newDoings t_newThings t_opened t_sum t_heldAll t_onPaper t_turned t_wasConverted t_lastBits t_lastSum t_lastHeld t_lastLeft t_lastCode t_writtenLong t_codeMany t_acts t_done0 t_stoppedAt, ic E (r_t 0) 800 f9]) (hm_runV (rest := [.int (33 + x1), .ref h0]) hx hb hml hown X hA Y w 0 (ci := 7) (T := TX8) (N := 55) rfl rfl mw_X8_get ml_X8_221 dX8_layOne_69 hm_ac0 [.int (9 + x1)] rfl [0, 1] rfl rfl (ct_X8_get l E H.size h0 r_t t_base t_taped t_at t_faultPlace t_number t_newBits t_newTold t_newDoings t_newThings t_opened t_sum t_heldAll t_onPaper t_turned t_wasConverted t_lastBits t_lastSum t_lastHeld t_lastLeft t_lastCode t_writtenLong t_codeMany t_acts t_done0 t_stoppedAt f9 (9 + x1) (r10, ()) hc69) rfl hl.1 ⟨⟨rfl, rfl⟩, ⟨Nat.le_of_ble_eq_true rfl, Nat.le_of_ble_eq_true rfl⟩, ⟨Nat.le_of_ble_eq_true rfl, Nat.le_of_ble_eq_true rfl⟩, Nat.le_of_ble_eq_true rfl⟩) hA w [0, 1] [] [0, 1] rfl rfl (by decide) (fun _ => rfl) (fun _ H locs w => ?_)
          obtain ⟨f11, hc72, hf⟩ := pf_bv_1 hf
          refine hm_aft_v (ws' := fun _ => [oc8 h0 r_t t_base t_taped t_at t_faultPlace t_number t_newBits t_newTold t_newDoings t_newThings t_opened t_sum t_heldAll t_onPaper t_turned t_wasConverted t_lastBits t_lastSum t_lastHeld t_lastLeft t_lastCode t_writtenLong t_codeMany t_acts t_done0 t_stoppedAt, ic E (r_t 0) 800 f11]) (hm_runV (rest := []) hx hb hml hown X hA Y w 0 (ci := 7) (T := TX8) (N := 55) rfl rfl mw_X8_put ml_X8_119 dX8_layOne_72 hm_ac0 [.int (33 + x1), .int r10] rfl [0, 1] rfl rfl (ct_X8_put l E H.size h0 r_t t_base t_taped t_at t_faultPlace t_number t_newBits t_newTold t_newDoings t_newThings t_opened t_sum t_heldAll t_onPaper t_turned t_wasConverted t_lastBits t_lastSum t_lastHeld t_lastLeft t_lastCode t_writtenLong t_codeMany t_acts t_done0 t_stoppedAt f9 (33 + x1) r10 f11 hc72) rfl hl.1 ⟨⟨rfl, rfl⟩, ⟨Nat.le_of_ble_eq_true rfl, Nat.le_of_ble_eq_true rfl⟩, ⟨Nat.le_of_ble_eq_true rfl, Nat.le_of_ble_eq_true rfl⟩, Nat.le_of_ble_eq_true rfl⟩) hA w [0, 1] [] [0, 1] rfl rfl (by decide) (fun _ => rfl) (fun _ H locs w => ?_)
          refine lv_aload_n hx hb dX8_layOne_75 rfl (lv_at hl 0 rfl) ?_
          refine lv_bipush (v := 45) hx hb dX8_layOne_76 (by decide) ?_
          refine lv_iload_n hx hb dX8_layOne_78 rfl (lv_at hl 2 rfl) ?_
          refine lv_iadd hx hb dX8_layOne_79 ?_
          refine lv_iconst (v := (-1)) hx hb dX8_layOne_80 (by decide) ?_
          obtain ⟨f12, hc81, hf⟩ := pf_bv_1 hf
          refine hm_aft_v (ws' := fun _ => [oc8 h0 r_t t_base t_taped t_at t_faultPlace t_number t_newBits t_newTold t_newDoings t_newThings t_opened t_sum t_heldAll t_onPaper t_turned t_wasConverted t_lastBits t_lastSum t_lastHeld t_lastLeft t_lastCode t_writtenLong t_codeMany t_acts t_done0 t_stoppedAt, ic E (r_t 0) 800 f12]) (hm_runV (rest := []) hx hb hml hown X hA Y w 0 (ci := 7) (T := TX8) (N := 55) rfl rfl mw_X8_put ml_X8_119 dX8_layOne_81 hm_ac0 [.int (45 + x1), .int (-1)] rfl [0, 1] rfl rfl (ct_X8_put l E H.size h0 r_t t_base t_taped t_at t_faultPlace t_number t_newBits t_newTold t_newDoings t_newThings t_opened t_sum t_heldAll t_onPaper t_turned t_wasConverted t_lastBits t_lastSum t_lastHeld t_lastLeft t_lastCode t_writtenLong t_codeMany t_acts t_done0 t_stoppedAt f11 (45 + x1) (-1) f12 hc81) rfl hl.1 ⟨⟨rfl, rfl⟩, ⟨Nat.le_of_ble_eq_true rfl, Nat.le_of_ble_eq_true rfl⟩, ⟨Nat.le_of_ble_eq_true rfl, Nat.le_of_ble_eq_true rfl⟩, Nat.le_of_ble_eq_true rfl⟩) hA w [0, 1] [] [0, 1] rfl rfl (by decide) (fun _ => rfl) (fun _ H locs w => ?_)
          obtain ⟨x13, ex13⟩ : ∃ y : Int32, y = (x1 + 1) := ⟨_, rfl⟩
          have hf := pf_nm ex13 hf
          refine lv_iinc (v := x13) (lv' := [(2, .int x13), (0, .ref h0), (1, .int a1)]) hx hb dX8_layOne_84 hl (k := 2) rfl (by rw [ex13]; rfl) (by decide) rfl (fun ls hl => ?_)
          refine lv_goto (tgt := 2) hx hb dX8_layOne_87 (by decide) ?_
          exact ih2 _ _ _ _ _ hf w (lv_sub hl [1, 2, 0] rfl)
        refine lv_icmp_ge (tgt := 55) hx hb dX8_layOne_39 (by decide) (fun c39 => ?_) (fun c39 => ?_)
        · have hf := pf_t c39 hf
          refine lv_iload_n hx hb dX8_layOne_55 rfl (lv_at hl 0 rfl) ?_
          exact kJ56 _ _ _ _ hf w (lv_sub hl [1, 2, 3] rfl)
        · have hf := pf_e c39 hf
          refine lv_iconst (v := 1) hx hb dX8_layOne_42 (by decide) ?_
          refine lv_aload_n hx hb dX8_layOne_43 rfl (lv_at hl 1 rfl) ?_
          refine lv_bipush (v := 9) hx hb dX8_layOne_44 (by decide) ?_
          refine lv_iload_n hx hb dX8_layOne_46 rfl (lv_at hl 3 rfl) ?_
          refine lv_iadd hx hb dX8_layOne_47 ?_
          obtain ⟨r14, hc48, hf⟩ := pf_bi_0 hf
          refine hm_aft_i (ws' := fun _ => [oc8 h0 r_t t_base t_taped t_at t_faultPlace t_number t_newBits t_newTold t_newDoings t_newThings t_opened t_sum t_heldAll t_onPaper t_turned t_wasConverted t_lastBits t_lastSum t_lastHeld t_lastLeft t_lastCode t_writtenLong t_codeMany t_acts t_done0 t_stoppedAt, ic E (r_t 0) 800 f5]) (hm_runV (rest := [.int 1, .int (21 + x1), .ref h0]) hx hb hml hown X hA Y w 0 (ci := 7) (T := TX8) (N := 55) rfl rfl mw_X8_get ml_X8_221 dX8_layOne_48 hm_ac0 [.int (9 + x1)] rfl [0, 1] rfl rfl (ct_X8_get l E H.size h0 r_t t_base t_taped t_at t_faultPlace t_number t_newBits t_newTold t_newDoings t_newThings t_opened t_sum t_heldAll t_onPaper t_turned t_wasConverted t_lastBits t_lastSum t_lastHeld t_lastLeft t_lastCode t_writtenLong t_codeMany t_acts t_done0 t_stoppedAt f5 (9 + x1) (r14, ()) hc48) rfl hl.1 ⟨⟨rfl, rfl⟩, ⟨Nat.le_of_ble_eq_true rfl, Nat.le_of_ble_eq_true rfl⟩, ⟨Nat.le_of_ble_eq_true rfl, Nat.le_of_ble_eq_true rfl⟩, Nat.le_of_ble_eq_true rfl⟩) hA w [0, 1] [] [0, 1] rfl rfl (by decide) (fun _ => rfl) (fun _ H locs w => ?_)
          refine lv_isub hx hb dX8_layOne_51 ?_
          refine lv_goto (tgt := 56) hx hb dX8_layOne_52 (by decide) ?_
          exact kJ56 _ _ _ _ hf w (lv_sub hl [1, 2, 3] rfl)
  exact klp_X8_layOne_2 FU _ _ _ _ _ hf w (lv_sub hl [1, 2, 0] rfl)
set_option maxHeartbeats 8000000 in
set_option maxRecDepth 100000 in
theorem ct_X8_crowd (l : Launch) (E : hm_E) (sz : Nat) (h0 : Nat) (r_t : Nat → Nat) (t_base t_taped t_at t_faultPlace t_number t_newBits t_newTold t_newDoings t_newThings t_opened t_sum t_heldAll t_onPaper t_turned t_wasConverted t_lastBits t_lastSum t_lastHeld t_lastLeft t_lastCode t_writtenLong t_codeMany t_acts t_done0 t_stoppedAt : Int32) (t_all : Nat → Int32) (t_askedOf : Nat → Int32) (t_codes : Nat → Int32) (t_decided : Nat → Int32) (t_heldBehind : Nat → Int32) (t_sorted : Nat → Int32) (t_wasLate : Nat → Int32) (a1 : Int32) (a2 : Int32) (a3 : Int32) (a4 : Int32) (a5 : Int32) (R : Int32 × (Nat → Int32) × Int32 × (Nat → Int32) × (Nat → Int32) × (Nat → Int32) × (Nat → Int32) × Int32 × Int32 × Int32 × (Nat → Int32) × (Nat → Int32) × Int32) (hf : pf_X8_crowd a1 a2 a3 a4 a5 t_all t_base t_decided t_wasLate t_askedOf t_heldBehind t_sum t_heldAll t_onPaper t_turned t_codes t_sorted t_codeMany = some R) : hm_Mi l E yX8_crowd cX8_crowd 10 .int [] (hm_rr 7 159 0 0) [.ref h0, .int a1, .int a2, .int a3, .int a4, .int a5] sz [oc8 h0 r_t t_base t_taped t_at t_faultPlace t_number t_newBits t_newTold t_newDoings t_newThings t_opened t_sum t_heldAll t_onPaper t_turned t_wasConverted t_lastBits t_lastSum t_lastHeld t_lastLeft t_lastCode t_writtenLong t_codeMany t_acts t_done0 t_stoppedAt, ic E (r_t 0) 800 t_all, ic E (r_t 27) 12 t_askedOf, ic E (r_t 42) 2000 t_codes, ic E (r_t 25) 12 t_decided, ic E (r_t 28) 12 t_heldBehind, ic E (r_t 43) 2000 t_sorted, zc E (r_t 26) 12 t_wasLate] R.1 (fun _ => [oc8 h0 r_t (R.2.2.1) t_taped t_at t_faultPlace t_number t_newBits t_newTold t_newDoings t_newThings t_opened (R.2.2.2.2.2.2.2.1) (R.2.2.2.2.2.2.2.2.1) (R.2.2.2.2.2.2.2.2.2.1) t_turned t_wasConverted t_lastBits t_lastSum t_lastHeld t_lastLeft t_lastCode t_writtenLong (R.2.2.2.2.2.2.2.2.2.2.2.2) t_acts t_done0 t_stoppedAt, ic E (r_t 0) 800 (R.2.1), ic E (r_t 27) 12 (R.2.2.2.2.2.1), ic E (r_t 42) 2000 (R.2.2.2.2.2.2.2.2.2.2.1), ic E (r_t 25) 12 (R.2.2.2.1), ic E (r_t 28) 12 (R.2.2.2.2.2.2.1), ic E (r_t 43) 2000 (R.2.2.2.2.2.2.2.2.2.2.2.1), zc E (r_t 26) 12 (R.2.2.2.2.1)]) := by
  refine hm_ct_i R (fun u qs => [oc8 h0 r_t (u.2.1) t_taped t_at t_faultPlace t_number t_newBits t_newTold t_newDoings t_newThings t_opened (u.2.2.2.2.2.2.1) (u.2.2.2.2.2.2.2.1) (u.2.2.2.2.2.2.2.2.1) t_turned t_wasConverted t_lastBits t_lastSum t_lastHeld t_lastLeft t_lastCode t_writtenLong (u.2.2.2.2.2.2.2.2.2.2.2) t_acts t_done0 t_stoppedAt, ic E (r_t 0) 800 (u.1), ic E (r_t 27) 12 (u.2.2.2.2.1), ic E (r_t 42) 2000 (u.2.2.2.2.2.2.2.2.2.1), ic E (r_t 25) 12 (u.2.2.1), ic E (r_t 28) 12 (u.2.2.2.2.2.1), ic E (r_t 43) 2000 (u.2.2.2.2.2.2.2.2.2.2.1), zc E (r_t 26) 12 (u.2.2.2.1)]) (by decide) (Nat.le_of_ble_eq_true rfl) (Or.inl rfl) ?_
  intro p e s m args below meth c A Q ls H locs hx hb hml hown X hA Y hex w hl hQ
  have hl : lv_has ls 10 [(0, .ref h0), (1, .int a1), (2, .int a2), (3, .int a3), (4, .int a4), (5, .int a5)] := hl
  unfold pf_X8_crowd at hf
  refine lv_aload_n hx hb dX8_crowd_0 rfl (lv_at hl 0 rfl) ?_
  obtain ⟨r1, hc1, hf⟩ := pf_bi_0 hf
  refine hm_aft_i (ws' := fun _ => [oc8 h0 r_t t_base t_taped t_at t_faultPlace t_number t_newBits t_newTold t_newDoings t_newThings t_opened t_sum t_heldAll t_onPaper t_turned t_wasConverted t_lastBits t_lastSum t_lastHeld t_lastLeft t_lastCode t_writtenLong t_codeMany t_acts t_done0 t_stoppedAt, ic E (r_t 0) 800 t_all, ic E (r_t 27) 12 t_askedOf, ic E (r_t 42) 2000 t_codes, ic E (r_t 25) 12 t_decided, ic E (r_t 28) 12 t_heldBehind, ic E (r_t 43) 2000 t_sorted, zc E (r_t 26) 12 t_wasLate]) (hm_runV (rest := []) hx hb hml hown X hA Y w 0 (ci := 7) (T := TX8) (N := 55) rfl rfl mw_X8_isShortRow ml_X8_356 dX8_crowd_1 hm_ac0 [] rfl [0, 1] rfl rfl (ct_X8_isShortRow l E H.size h0 r_t t_base t_taped t_at t_faultPlace t_number t_newBits t_newTold t_newDoings t_newThings t_opened t_sum t_heldAll t_onPaper t_turned t_wasConverted t_lastBits t_lastSum t_lastHeld t_lastLeft t_lastCode t_writtenLong t_codeMany t_acts t_done0 t_stoppedAt t_all (r1, ()) hc1) rfl hl.1 ⟨⟨rfl, rfl⟩, ⟨Nat.le_of_ble_eq_true rfl, Nat.le_of_ble_eq_true rfl⟩, ⟨Nat.le_of_ble_eq_true rfl, Nat.le_of_ble_eq_true rfl⟩, Nat.le_of_ble_eq_true rfl⟩) hA w [0, 1] [2, 3, 4, 5, 6, 7] [6, 7, 0, 1, 2, 3, 4, 5] rfl rfl (by decide) (fun _ => rfl) (fun _ H locs w => ?_)
  refine lv_if_eq (tgt := 51) hx hb dX8_crowd_4 (by decide) (fun c4 => ?_) (fun c4 => ?_)
  · have hf := pf_t c4 hf
    refine lv_iconst (v := (-1)) hx hb dX8_crowd_51 (by decide) ?_
    exact hQ _ _ _ _ _ (t_all, t_base, t_decided, t_wasLate, t_askedOf, t_heldBehind, t_sum, t_heldAll, t_onPaper, t_codes, t_sorted, t_codeMany) (fun _ => 0) hf rfl w dX8_crowd_52
  · have hf := pf_e c4 hf
    refine lv_iload_n hx hb dX8_crowd_7 rfl (lv_at hl 2 rfl) ?_
    refine lv_iconst (v := 1) hx hb dX8_crowd_8 (by decide) ?_
    refine lv_bipush (v := 20) hx hb dX8_crowd_9 (by decide) ?_
    obtain ⟨r2, hc11, hf⟩ := pf_bi_0 hf
    refine hm_aft_i (ws' := fun _ => [oc8 h0 r_t t_base t_taped t_at t_faultPlace t_number t_newBits t_newTold t_newDoings t_newThings t_opened t_sum t_heldAll t_onPaper t_turned t_wasConverted t_lastBits t_lastSum t_lastHeld t_lastLeft t_lastCode t_writtenLong t_codeMany t_acts t_done0 t_stoppedAt, ic E (r_t 0) 800 t_all, ic E (r_t 27) 12 t_askedOf, ic E (r_t 42) 2000 t_codes, ic E (r_t 25) 12 t_decided, ic E (r_t 28) 12 t_heldBehind, ic E (r_t 43) 2000 t_sorted, zc E (r_t 26) 12 t_wasLate]) (hm_runS (rest := []) hx hb hml hown X hA Y w mw_X8_isIn ml_X8_129 dX8_crowd_11 hm_ac0 [.int a2, .int 1, .int 20] rfl [] rfl rfl (ct_X8_isIn l E H.size a2 1 20 (r2, ()) hc11) rfl hl.1 ⟨⟨rfl, rfl⟩, ⟨Nat.le_of_ble_eq_true rfl, Nat.le_of_ble_eq_true rfl⟩, ⟨Nat.le_of_ble_eq_true rfl, Nat.le_of_ble_eq_true rfl⟩, Nat.le_of_ble_eq_true rfl⟩) hA w [] [0, 1, 2, 3, 4, 5, 6, 7] [0, 1, 2, 3, 4, 5, 6, 7] rfl rfl (by decide) (fun _ => rfl) (fun _ H locs w => ?_)
    refine lv_if_eq (tgt := 51) hx hb dX8_crowd_14 (by decide) (fun c14 => ?_) (fun c14 => ?_)
    · have hf := pf_t c14 hf
      refine lv_iconst (v := (-1)) hx hb dX8_crowd_51 (by decide) ?_
      exact hQ _ _ _ _ _ (t_all, t_base, t_decided, t_wasLate, t_askedOf, t_heldBehind, t_sum, t_heldAll, t_onPaper, t_codes, t_sorted, t_codeMany) (fun _ => 0) hf rfl w dX8_crowd_52
    · have hf := pf_e c14 hf
      refine lv_iload_n hx hb dX8_crowd_17 rfl (lv_at hl 3 rfl) ?_
      refine lv_iconst (v := 0) hx hb dX8_crowd_18 (by decide) ?_
      refine lv_bipush (v := 99) hx hb dX8_crowd_19 (by decide) ?_
      obtain ⟨r3, hc21, hf⟩ := pf_bi_0 hf
      refine hm_aft_i (ws' := fun _ => [oc8 h0 r_t t_base t_taped t_at t_faultPlace t_number t_newBits t_newTold t_newDoings t_newThings t_opened t_sum t_heldAll t_onPaper t_turned t_wasConverted t_lastBits t_lastSum t_lastHeld t_lastLeft t_lastCode t_writtenLong t_codeMany t_acts t_done0 t_stoppedAt, ic E (r_t 0) 800 t_all, ic E (r_t 27) 12 t_askedOf, ic E (r_t 42) 2000 t_codes, ic E (r_t 25) 12 t_decided, ic E (r_t 28) 12 t_heldBehind, ic E (r_t 43) 2000 t_sorted, zc E (r_t 26) 12 t_wasLate]) (hm_runS (rest := []) hx hb hml hown X hA Y w mw_X8_isIn ml_X8_129 dX8_crowd_21 hm_ac0 [.int a3, .int 0, .int 99] rfl [] rfl rfl (ct_X8_isIn l E H.size a3 0 99 (r3, ()) hc21) rfl hl.1 ⟨⟨rfl, rfl⟩, ⟨Nat.le_of_ble_eq_true rfl, Nat.le_of_ble_eq_true rfl⟩, ⟨Nat.le_of_ble_eq_true rfl, Nat.le_of_ble_eq_true rfl⟩, Nat.le_of_ble_eq_true rfl⟩) hA w [] [0, 1, 2, 3, 4, 5, 6, 7] [0, 1, 2, 3, 4, 5, 6, 7] rfl rfl (by decide) (fun _ => rfl) (fun _ H locs w => ?_)
      refine lv_if_eq (tgt := 51) hx hb dX8_crowd_24 (by decide) (fun c24 => ?_) (fun c24 => ?_)
      · have hf := pf_t c24 hf
        refine lv_iconst (v := (-1)) hx hb dX8_crowd_51 (by decide) ?_
        exact hQ _ _ _ _ _ (t_all, t_base, t_decided, t_wasLate, t_askedOf, t_heldBehind, t_sum, t_heldAll, t_onPaper, t_codes, t_sorted, t_codeMany) (fun _ => 0) hf rfl w dX8_crowd_52
      · have hf := pf_e c24 hf
        refine lv_iload hx hb dX8_crowd_27 (lv_at hl 4 rfl) ?_
        refine lv_iconst (v := 1) hx hb dX8_crowd_29 (by decide) ?_
        refine lv_aload_n hx hb dX8_crowd_30 rfl (lv_at hl 0 rfl) ?_
        refine lv_iconst (v := 0) hx hb dX8_crowd_31 (by decide) ?_
        obtain ⟨r4, hc32, hf⟩ := pf_bi_0 hf
        refine hm_aft_i (ws' := fun _ => [oc8 h0 r_t t_base t_taped t_at t_faultPlace t_number t_newBits t_newTold t_newDoings t_newThings t_opened t_sum t_heldAll t_onPaper t_turned t_wasConverted t_lastBits t_lastSum t_lastHeld t_lastLeft t_lastCode t_writtenLong t_codeMany t_acts t_done0 t_stoppedAt, ic E (r_t 0) 800 t_all, ic E (r_t 27) 12 t_askedOf, ic E (r_t 42) 2000 t_codes, ic E (r_t 25) 12 t_decided, ic E (r_t 28) 12 t_heldBehind, ic E (r_t 43) 2000 t_sorted, zc E (r_t 26) 12 t_wasLate]) (hm_runV (rest := [.int 1, .int a4]) hx hb hml hown X hA Y w 0 (ci := 7) (T := TX8) (N := 55) rfl rfl mw_X8_get ml_X8_221 dX8_crowd_32 hm_ac0 [.int 0] rfl [0, 1] rfl rfl (ct_X8_get l E H.size h0 r_t t_base t_taped t_at t_faultPlace t_number t_newBits t_newTold t_newDoings t_newThings t_opened t_sum t_heldAll t_onPaper t_turned t_wasConverted t_lastBits t_lastSum t_lastHeld t_lastLeft t_lastCode t_writtenLong t_codeMany t_acts t_done0 t_stoppedAt t_all 0 (r4, ()) hc32) rfl hl.1 ⟨⟨rfl, rfl⟩, ⟨Nat.le_of_ble_eq_true rfl, Nat.le_of_ble_eq_true rfl⟩, ⟨Nat.le_of_ble_eq_true rfl, Nat.le_of_ble_eq_true rfl⟩, Nat.le_of_ble_eq_true rfl⟩) hA w [0, 1] [2, 3, 4, 5, 6, 7] [6, 7, 0, 1, 2, 3, 4, 5] rfl rfl (by decide) (fun _ => rfl) (fun _ H locs w => ?_)
        obtain ⟨r5, hc35, hf⟩ := pf_bi_0 hf
        refine hm_aft_i (ws' := fun _ => [oc8 h0 r_t t_base t_taped t_at t_faultPlace t_number t_newBits t_newTold t_newDoings t_newThings t_opened t_sum t_heldAll t_onPaper t_turned t_wasConverted t_lastBits t_lastSum t_lastHeld t_lastLeft t_lastCode t_writtenLong t_codeMany t_acts t_done0 t_stoppedAt, ic E (r_t 0) 800 t_all, ic E (r_t 27) 12 t_askedOf, ic E (r_t 42) 2000 t_codes, ic E (r_t 25) 12 t_decided, ic E (r_t 28) 12 t_heldBehind, ic E (r_t 43) 2000 t_sorted, zc E (r_t 26) 12 t_wasLate]) (hm_runS (rest := []) hx hb hml hown X hA Y w mw_X8_isIn ml_X8_129 dX8_crowd_35 hm_ac0 [.int a4, .int 1, .int r4] rfl [] rfl rfl (ct_X8_isIn l E H.size a4 1 r4 (r5, ()) hc35) rfl hl.1 ⟨⟨rfl, rfl⟩, ⟨Nat.le_of_ble_eq_true rfl, Nat.le_of_ble_eq_true rfl⟩, ⟨Nat.le_of_ble_eq_true rfl, Nat.le_of_ble_eq_true rfl⟩, Nat.le_of_ble_eq_true rfl⟩) hA w [] [0, 1, 2, 3, 4, 5, 6, 7] [0, 1, 2, 3, 4, 5, 6, 7] rfl rfl (by decide) (fun _ => rfl) (fun _ H locs w => ?_)
        refine lv_if_eq (tgt := 51) hx hb dX8_crowd_38 (by decide) (fun c38 => ?_) (fun c38 => ?_)
        · have hf := pf_t c38 hf
          refine lv_iconst (v := (-1)) hx hb dX8_crowd_51 (by decide) ?_
          exact hQ _ _ _ _ _ (t_all, t_base, t_decided, t_wasLate, t_askedOf, t_heldBehind, t_sum, t_heldAll, t_onPaper, t_codes, t_sorted, t_codeMany) (fun _ => 0) hf rfl w dX8_crowd_52
        · have hf := pf_e c38 hf
          refine lv_iload hx hb dX8_crowd_41 (lv_at hl 5 rfl) ?_
          refine lv_iconst (v := 0) hx hb dX8_crowd_43 (by decide) ?_
          refine lv_iconst (v := 2) hx hb dX8_crowd_44 (by decide) ?_
          obtain ⟨r6, hc45, hf⟩ := pf_bi_0 hf
          refine hm_aft_i (ws' := fun _ => [oc8 h0 r_t t_base t_taped t_at t_faultPlace t_number t_newBits t_newTold t_newDoings t_newThings t_opened t_sum t_heldAll t_onPaper t_turned t_wasConverted t_lastBits t_lastSum t_lastHeld t_lastLeft t_lastCode t_writtenLong t_codeMany t_acts t_done0 t_stoppedAt, ic E (r_t 0) 800 t_all, ic E (r_t 27) 12 t_askedOf, ic E (r_t 42) 2000 t_codes, ic E (r_t 25) 12 t_decided, ic E (r_t 28) 12 t_heldBehind, ic E (r_t 43) 2000 t_sorted, zc E (r_t 26) 12 t_wasLate]) (hm_runS (rest := []) hx hb hml hown X hA Y w mw_X8_isIn ml_X8_129 dX8_crowd_45 hm_ac0 [.int a5, .int 0, .int 2] rfl [] rfl rfl (ct_X8_isIn l E H.size a5 0 2 (r6, ()) hc45) rfl hl.1 ⟨⟨rfl, rfl⟩, ⟨Nat.le_of_ble_eq_true rfl, Nat.le_of_ble_eq_true rfl⟩, ⟨Nat.le_of_ble_eq_true rfl, Nat.le_of_ble_eq_true rfl⟩, Nat.le_of_ble_eq_true rfl⟩) hA w [] [0, 1, 2, 3, 4, 5, 6, 7] [0, 1, 2, 3, 4, 5, 6, 7] rfl rfl (by decide) (fun _ => rfl) (fun _ H locs w => ?_)
          refine lv_if_ne (tgt := 53) hx hb dX8_crowd_48 (by decide) (fun c48 => ?_) (fun c48 => ?_)
          · have hf := pf_e c48 hf
            refine lv_aload_n hx hb dX8_crowd_53 rfl (lv_at hl 0 rfl) ?_
            obtain ⟨f7, x8, hc54, hf⟩ := pf_bv_2 hf
            refine hm_aft_v (ws' := fun _ => [oc8 h0 r_t x8 t_taped t_at t_faultPlace t_number t_newBits t_newTold t_newDoings t_newThings t_opened t_sum t_heldAll t_onPaper t_turned t_wasConverted t_lastBits t_lastSum t_lastHeld t_lastLeft t_lastCode t_writtenLong t_codeMany t_acts t_done0 t_stoppedAt, ic E (r_t 0) 800 f7, ic E (r_t 27) 12 t_askedOf, ic E (r_t 42) 2000 t_codes, ic E (r_t 25) 12 t_decided, ic E (r_t 28) 12 t_heldBehind, ic E (r_t 43) 2000 t_sorted, zc E (r_t 26) 12 t_wasLate]) (hm_runV (rest := []) hx hb hml hown X hA Y w 0 (ci := 7) (T := TX8) (N := 55) rfl rfl mw_X8_goAside ml_X8_359 dX8_crowd_54 hm_ac0 [] rfl [0, 1] rfl rfl (ct_X8_goAside l E H.size h0 r_t t_base t_taped t_at t_faultPlace t_number t_newBits t_newTold t_newDoings t_newThings t_opened t_sum t_heldAll t_onPaper t_turned t_wasConverted t_lastBits t_lastSum t_lastHeld t_lastLeft t_lastCode t_writtenLong t_codeMany t_acts t_done0 t_stoppedAt t_all (f7, x8) hc54) rfl hl.1 ⟨⟨rfl, rfl⟩, ⟨Nat.le_of_ble_eq_true rfl, Nat.le_of_ble_eq_true rfl⟩, ⟨Nat.le_of_ble_eq_true rfl, Nat.le_of_ble_eq_true rfl⟩, Nat.le_of_ble_eq_true rfl⟩) hA w [0, 1] [2, 3, 4, 5, 6, 7] [6, 7, 0, 1, 2, 3, 4, 5] rfl rfl (by decide) (fun _ => rfl) (fun _ H locs w => ?_)
            refine lv_aload_n hx hb dX8_crowd_57 rfl (lv_at hl 0 rfl) ?_
            refine lv_bipush (v := 6) hx hb dX8_crowd_58 (by decide) ?_
            refine lv_iload_n hx hb dX8_crowd_60 rfl (lv_at hl 1 rfl) ?_
            obtain ⟨f9, hc61, hf⟩ := pf_bv_1 hf
            refine hm_aft_v (ws' := fun _ => [oc8 h0 r_t x8 t_taped t_at t_faultPlace t_number t_newBits t_newTold t_newDoings t_newThings t_opened t_sum t_heldAll t_onPaper t_turned t_wasConverted t_lastBits t_lastSum t_lastHeld t_lastLeft t_lastCode t_writtenLong t_codeMany t_acts t_done0 t_stoppedAt, ic E (r_t 0) 800 f9, ic E (r_t 27) 12 t_askedOf, ic E (r_t 42) 2000 t_codes, ic E (r_t 25) 12 t_decided, ic E (r_t 28) 12 t_heldBehind, ic E (r_t 43) 2000 t_sorted, zc E (r_t 26) 12 t_wasLate]) (hm_runV (rest := []) hx hb hml hown X hA Y w 0 (ci := 7) (T := TX8) (N := 55) rfl rfl mw_X8_put ml_X8_119 dX8_crowd_61 hm_ac0 [.int 6, .int a1] rfl [0, 1] rfl rfl (ct_X8_put l E H.size h0 r_t x8 t_taped t_at t_faultPlace t_number t_newBits t_newTold t_newDoings t_newThings t_opened t_sum t_heldAll t_onPaper t_turned t_wasConverted t_lastBits t_lastSum t_lastHeld t_lastLeft t_lastCode t_writtenLong t_codeMany t_acts t_done0 t_stoppedAt f7 6 a1 f9 hc61) rfl hl.1 ⟨⟨rfl, rfl⟩, ⟨Nat.le_of_ble_eq_true rfl, Nat.le_of_ble_eq_true rfl⟩, ⟨Nat.le_of_ble_eq_true rfl, Nat.le_of_ble_eq_true rfl⟩, Nat.le_of_ble_eq_true rfl⟩) hA w [0, 1] [2, 3, 4, 5, 6, 7] [6, 7, 0, 1, 2, 3, 4, 5] rfl rfl (by decide) (fun _ => rfl) (fun _ H locs w => ?_)
            refine lv_iconst (v := 0) hx hb dX8_crowd_64 (by decide) ?_
            refine lv_istore (lv' := [(6, .int 0), (0, .ref h0), (1, .int a1), (2, .int a2), (3, .int a3), (4, .int a4), (5, .int a5)]) hx hb dX8_crowd_65 hl (by decide) rfl (fun ls hl => ?_)
            refine lv_iconst (v := 0) hx hb dX8_crowd_67 (by decide) ?_
            refine lv_istore (lv' := [(7, .int 0), (6, .int 0), (0, .ref h0), (1, .int a1), (2, .int a2), (3, .int a3), (4, .int a4), (5, .int a5)]) hx hb dX8_crowd_68 hl (by decide) rfl (fun ls hl => ?_)
            have klp_X8_crowd_70 : ∀ (n : Nat) (x10 : Int32) (x11 : Int32) (f12 : Nat → Int32) (f13 : Nat → Int32) (f14 : Nat → Int32) (f15 : Nat → Int32) (f16 : Nat → Int32) (x17 : Int32) (x18 : Int32) (x19 : Int32) (f20 : Nat → Int32) (f21 : Nat → Int32) (x22 : Int32) (H : Heap) (locs : List Loc) (ls : Array Slot), lp_X8_crowd_70 a2 a3 a4 a5 t_turned x8 n x10 x11 f12 f13 f14 f15 f16 x17 x18 x19 f20 f21 x22 = some R → hm_W E A s.heap [oc8 h0 r_t x8 t_taped t_at t_faultPlace t_number t_newBits t_newTold t_newDoings t_newThings t_opened x17 x18 x19 t_turned t_wasConverted t_lastBits t_lastSum t_lastHeld t_lastLeft t_lastCode t_writtenLong x22 t_acts t_done0 t_stoppedAt, ic E (r_t 0) 800 f12, ic E (r_t 27) 12 f15, ic E (r_t 42) 2000 f20, ic E (r_t 25) 12 f13, ic E (r_t 28) 12 f16, ic E (r_t 43) 2000 f21, zc E (r_t 26) 12 f14] H locs → lv_has ls 10 [(0, .ref h0), (2, .int a2), (3, .int a3), (4, .int a4), (5, .int a5), (6, .int x10), (7, .int x11)] → W p l e (hm_rr 7 159 0 0) s m args below meth c H locs 0 0 Q (F0 m 70 ls []) := by
              intro n
              induction n with
              | zero =>
                intro x10 x11 f12 f13 f14 f15 f16 x17 x18 x19 f20 f21 x22 H locs ls hf w hl
                exact pf_no hf
              | succ n ih70 =>
                intro x10 x11 f12 f13 f14 f15 f16 x17 x18 x19 f20 f21 x22 H locs ls hf w hl
                rw [lp_X8_crowd_70] at hf
                refine lv_iload hx hb dX8_crowd_70 (lv_at hl 6 rfl) ?_
                refine lv_iload_n hx hb dX8_crowd_72 rfl (lv_at hl 1 rfl) ?_
                refine lv_icmp_ge (tgt := 168) hx hb dX8_crowd_73 (by decide) (fun c73 => ?_) (fun c73 => ?_)
                · have hf := pf_t c73 hf
                  refine lv_aload_n hx hb dX8_crowd_168 rfl (lv_at hl 0 rfl) ?_
                  obtain ⟨x23, hc169, hf⟩ := pf_bv_1 hf
                  refine hm_aft_v (ws' := fun _ => [oc8 h0 r_t x23 t_taped t_at t_faultPlace t_number t_newBits t_newTold t_newDoings t_newThings t_opened x17 x18 x19 t_turned t_wasConverted t_lastBits t_lastSum t_lastHeld t_lastLeft t_lastCode t_writtenLong x22 t_acts t_done0 t_stoppedAt, ic E (r_t 0) 800 f12, ic E (r_t 27) 12 f15, ic E (r_t 42) 2000 f20, ic E (r_t 25) 12 f13, ic E (r_t 28) 12 f16, ic E (r_t 43) 2000 f21, zc E (r_t 26) 12 f14]) (hm_runV (rest := []) hx hb hml hown X hA Y w 0 (ci := 7) (T := TX8) (N := 55) rfl rfl mw_X8_comeBack ml_X8_371 dX8_crowd_169 hm_ac0 [] rfl [0] rfl rfl (ct_X8_comeBack l E H.size h0 r_t x8 t_taped t_at t_faultPlace t_number t_newBits t_newTold t_newDoings t_newThings t_opened x17 x18 x19 t_turned t_wasConverted t_lastBits t_lastSum t_lastHeld t_lastLeft t_lastCode t_writtenLong x22 t_acts t_done0 t_stoppedAt x23 hc169) rfl hl.1 ⟨⟨rfl, rfl⟩, ⟨Nat.le_of_ble_eq_true rfl, Nat.le_of_ble_eq_true rfl⟩, ⟨Nat.le_of_ble_eq_true rfl, Nat.le_of_ble_eq_true rfl⟩, Nat.le_of_ble_eq_true rfl⟩) hA w [0] [1, 2, 3, 4, 5, 6, 7] [7, 0, 1, 2, 3, 4, 5, 6] rfl rfl (by decide) (fun _ => rfl) (fun _ H locs w => ?_)
                  refine lv_iload hx hb dX8_crowd_172 (lv_at hl 5 rfl) ?_
                  exact hQ _ _ _ _ _ (f12, x23, f13, f14, f15, f16, x17, x18, x19, f20, f21, x22) (fun _ => 0) hf rfl w dX8_crowd_174
                · have hf := pf_e c73 hf
                  refine lv_aload_n hx hb dX8_crowd_76 rfl (lv_at hl 0 rfl) ?_
                  refine lv_iload_n hx hb dX8_crowd_77 rfl (lv_at hl 2 rfl) ?_
                  obtain ⟨f24, hc78, hf⟩ := pf_bv_1 hf
                  refine hm_aft_v (ws' := fun _ => [oc8 h0 r_t x8 t_taped t_at t_faultPlace t_number t_newBits t_newTold t_newDoings t_newThings t_opened x17 x18 x19 t_turned t_wasConverted t_lastBits t_lastSum t_lastHeld t_lastLeft t_lastCode t_writtenLong x22 t_acts t_done0 t_stoppedAt, ic E (r_t 0) 800 f24, ic E (r_t 27) 12 f15, ic E (r_t 42) 2000 f20, ic E (r_t 25) 12 f13, ic E (r_t 28) 12 f16, ic E (r_t 43) 2000 f21, zc E (r_t 26) 12 f14]) (hm_runV (rest := []) hx hb hml hown X hA Y w 0 (ci := 7) (T := TX8) (N := 55) rfl rfl mw_X8_layOne ml_X8_362 dX8_crowd_78 hm_ac0 [.int a3] rfl [0, 1] rfl rfl (ct_X8_layOne l E H.size h0 r_t x8 t_taped t_at t_faultPlace t_number t_newBits t_newTold t_newDoings t_newThings t_opened x17 x18 x19 t_turned t_wasConverted t_lastBits t_lastSum t_lastHeld t_lastLeft t_lastCode t_writtenLong x22 t_acts t_done0 t_stoppedAt f12 a3 f24 hc78) rfl hl.1 ⟨⟨rfl, rfl⟩, ⟨Nat.le_of_ble_eq_true rfl, Nat.le_of_ble_eq_true rfl⟩, ⟨Nat.le_of_ble_eq_true rfl, Nat.le_of_ble_eq_true rfl⟩, Nat.le_of_ble_eq_true rfl⟩) hA w [0, 1] [2, 3, 4, 5, 6, 7] [6, 7, 0, 1, 2, 3, 4, 5] rfl rfl (by decide) (fun _ => rfl) (fun _ H locs w => ?_)
                  refine lv_aload_n hx hb dX8_crowd_81 rfl (lv_at hl 0 rfl) ?_
                  obtain ⟨r25, f26, f27, f28, f29, f30, x31, x32, x33, f34, f35, x36, hc82, hf⟩ := pf_bi_11 hf
                  refine hm_aft_i (ws' := fun _ => [oc8 h0 r_t x8 t_taped t_at t_faultPlace t_number t_newBits t_newTold t_newDoings t_newThings t_opened x31 x32 x33 t_turned t_wasConverted t_lastBits t_lastSum t_lastHeld t_lastLeft t_lastCode t_writtenLong x36 t_acts t_done0 t_stoppedAt, ic E (r_t 0) 800 f26, ic E (r_t 27) 12 f29, ic E (r_t 42) 2000 f34, ic E (r_t 25) 12 f27, ic E (r_t 28) 12 f30, ic E (r_t 43) 2000 f35, zc E (r_t 26) 12 f28]) (hm_runV (rest := []) hx hb hml hown X hA Y w 0 (ci := 7) (T := TX8) (N := 55) rfl rfl mw_X8_isMissing ml_X8_365 dX8_crowd_82 hm_ac0 [] rfl [0, 1, 2, 3, 4, 5, 6, 7] rfl rfl (ct_X8_isMissing l E H.size h0 r_t x8 t_taped t_at t_faultPlace t_number t_newBits t_newTold t_newDoings t_newThings t_opened x17 x18 x19 t_turned t_wasConverted t_lastBits t_lastSum t_lastHeld t_lastLeft t_lastCode t_writtenLong x22 t_acts t_done0 t_stoppedAt f24 f15 f20 f13 f16 f21 f14 (r25, f26, f27, f28, f29, f30, x31, x32, x33, f34, f35, x36) hc82) rfl hl.1 ⟨⟨rfl, rfl⟩, ⟨Nat.le_of_ble_eq_true rfl, Nat.le_of_ble_eq_true rfl⟩, ⟨Nat.le_of_ble_eq_true rfl, Nat.le_of_ble_eq_true rfl⟩, Nat.le_of_ble_eq_true rfl⟩) hA w [0, 1, 2, 3, 4, 5, 6, 7] [] [0, 1, 2, 3, 4, 5, 6, 7] rfl rfl (by decide) (fun _ => rfl) (fun _ H locs w => ?_)
                  obtain ⟨J93, hJ93, hf⟩ := pf_jn hf
                  have kJ93 : ∀ (x37 : Int32) (H : Heap) (locs : List Loc) (ls : Array Slot), J93 x37 = some R → hm_W E A s.heap [oc8 h0 r_t x8 t_taped t_at t_faultPlace t_number t_newBits t_newTold t_newDoings t_newThings t_opened x31 x32 x33 t_turned t_wasConverted t_lastBits t_lastSum t_lastHeld t_lastLeft t_lastCode t_writtenLong x36 t_acts t_done0 t_stoppedAt, ic E (r_t 0) 800 f26, ic E (r_t 27) 12 f29, ic E (r_t 42) 2000 f34, ic E (r_t 25) 12 f27, ic E (r_t 28) 12 f30, ic E (r_t 43) 2000 f35, zc E (r_t 26) 12 f28] H locs → lv_has ls 10 [(0, .ref h0), (2, .int a2), (3, .int a3), (4, .int a4), (5, .int a5), (6, .int x10), (7, .int x11)] → W p l e (hm_rr 7 159 0 0) s m args below meth c H locs 0 0 Q (F0 m 93 ls [.int x37]) := by
                    intro x37 H locs ls hf w hl
                    have hf := pf_j1 hJ93 hf
                    refine lv_istore (lv' := [(8, .int x37), (0, .ref h0), (2, .int a2), (3, .int a3), (4, .int a4), (5, .int a5), (6, .int x10), (7, .int x11)]) hx hb dX8_crowd_93 hl (by decide) rfl (fun ls hl => ?_)
                    refine lv_aload_n hx hb dX8_crowd_95 rfl (lv_at hl 1 rfl) ?_
                    refine lv_iload hx hb dX8_crowd_96 (lv_at hl 4 rfl) ?_
                    obtain ⟨f38, f39, f40, f41, f42, x43, x44, x45, hc98, hf⟩ := pf_bv_8 hf
                    refine hm_aft_v (ws' := fun _ => [oc8 h0 r_t x8 t_taped t_at t_faultPlace t_number t_newBits t_newTold t_newDoings t_newThings t_opened x43 x44 x45 t_turned t_wasConverted t_lastBits t_lastSum t_lastHeld t_lastLeft t_lastCode t_writtenLong x36 t_acts t_done0 t_stoppedAt, ic E (r_t 0) 800 f38, ic E (r_t 27) 12 f41, ic E (r_t 42) 2000 f34, ic E (r_t 25) 12 f39, ic E (r_t 28) 12 f42, ic E (r_t 43) 2000 f35, zc E (r_t 26) 12 f40]) (hm_runV (rest := []) hx hb hml hown X hA Y w 0 (ci := 7) (T := TX8) (N := 55) rfl rfl mw_X8_learnOnPaper ml_X8_368 dX8_crowd_98 hm_ac0 [.int a4] rfl [0, 1, 2, 4, 5, 7] rfl rfl (ct_X8_learnOnPaper l E H.size h0 r_t x8 t_taped t_at t_faultPlace t_number t_newBits t_newTold t_newDoings t_newThings t_opened x31 x32 x33 t_turned t_wasConverted t_lastBits t_lastSum t_lastHeld t_lastLeft t_lastCode t_writtenLong x36 t_acts t_done0 t_stoppedAt f26 f29 f27 f30 f28 a4 (f38, f39, f40, f41, f42, x43, x44, x45) hc98) rfl hl.1 ⟨⟨rfl, rfl⟩, ⟨Nat.le_of_ble_eq_true rfl, Nat.le_of_ble_eq_true rfl⟩, ⟨Nat.le_of_ble_eq_true rfl, Nat.le_of_ble_eq_true rfl⟩, Nat.le_of_ble_eq_true rfl⟩) hA w [0, 1, 2, 4, 5, 7] [3, 6] [2, 3, 4, 0, 5, 6, 1, 7] rfl rfl (by decide) (fun _ => rfl) (fun _ H locs w => ?_)
                    refine lv_aload_n hx hb dX8_crowd_101 rfl (lv_at hl 1 rfl) ?_
                    obtain ⟨r46, f47, f48, f49, f50, f51, x52, x53, x54, f55, f56, x57, hc102, hf⟩ := pf_bi_11 hf
                    refine hm_aft_i (ws' := fun _ => [oc8 h0 r_t x8 t_taped t_at t_faultPlace t_number t_newBits t_newTold t_newDoings t_newThings t_opened x52 x53 x54 t_turned t_wasConverted t_lastBits t_lastSum t_lastHeld t_lastLeft t_lastCode t_writtenLong x57 t_acts t_done0 t_stoppedAt, ic E (r_t 0) 800 f47, ic E (r_t 27) 12 f50, ic E (r_t 42) 2000 f55, ic E (r_t 25) 12 f48, ic E (r_t 28) 12 f51, ic E (r_t 43) 2000 f56, zc E (r_t 26) 12 f49]) (hm_runV (rest := []) hx hb hml hown X hA Y w 0 (ci := 7) (T := TX8) (N := 55) rfl rfl mw_X8_isMissing ml_X8_365 dX8_crowd_102 hm_ac0 [] rfl [0, 1, 2, 3, 4, 5, 6, 7] rfl rfl (ct_X8_isMissing l E H.size h0 r_t x8 t_taped t_at t_faultPlace t_number t_newBits t_newTold t_newDoings t_newThings t_opened x43 x44 x45 t_turned t_wasConverted t_lastBits t_lastSum t_lastHeld t_lastLeft t_lastCode t_writtenLong x36 t_acts t_done0 t_stoppedAt f38 f41 f34 f39 f42 f35 f40 (r46, f47, f48, f49, f50, f51, x52, x53, x54, f55, f56, x57) hc102) rfl hl.1 ⟨⟨rfl, rfl⟩, ⟨Nat.le_of_ble_eq_true rfl, Nat.le_of_ble_eq_true rfl⟩, ⟨Nat.le_of_ble_eq_true rfl, Nat.le_of_ble_eq_true rfl⟩, Nat.le_of_ble_eq_true rfl⟩) hA w [0, 1, 2, 3, 4, 5, 6, 7] [] [0, 1, 2, 3, 4, 5, 6, 7] rfl rfl (by decide) (fun _ => rfl) (fun _ H locs w => ?_)
                    obtain ⟨J113, hJ113, hf⟩ := pf_jn hf
                    have kJ113 : ∀ (x58 : Int32) (H : Heap) (locs : List Loc) (ls : Array Slot), J113 x58 = some R → hm_W E A s.heap [oc8 h0 r_t x8 t_taped t_at t_faultPlace t_number t_newBits t_newTold t_newDoings t_newThings t_opened x52 x53 x54 t_turned t_wasConverted t_lastBits t_lastSum t_lastHeld t_lastLeft t_lastCode t_writtenLong x57 t_acts t_done0 t_stoppedAt, ic E (r_t 0) 800 f47, ic E (r_t 27) 12 f50, ic E (r_t 42) 2000 f55, ic E (r_t 25) 12 f48, ic E (r_t 28) 12 f51, ic E (r_t 43) 2000 f56, zc E (r_t 26) 12 f49] H locs → lv_has ls 10 [(0, .ref h0), (2, .int a2), (3, .int a3), (4, .int a4), (5, .int a5), (6, .int x10), (7, .int x11), (8, .int x37)] → W p l e (hm_rr 7 159 0 0) s m args below meth c H locs 0 0 Q (F0 m 113 ls [.int x58]) := by
                      intro x58 H locs ls hf w hl
                      have hf := pf_j1 hJ113 hf
                      refine lv_istore (lv' := [(9, .int x58), (0, .ref h0), (2, .int a2), (3, .int a3), (4, .int a4), (5, .int a5), (6, .int x10), (7, .int x11), (8, .int x37)]) hx hb dX8_crowd_113 hl (by decide) rfl (fun ls hl => ?_)
                      refine lv_iload hx hb dX8_crowd_115 (lv_at hl 6 rfl) ?_
                      refine lv_iload hx hb dX8_crowd_117 (lv_at hl 5 rfl) ?_
                      refine lv_if_ne (tgt := 130) hx hb dX8_crowd_119 (by decide) (fun c119 => ?_) (fun c119 => ?_)
                      · have hf := pf_e c119 hf
                        refine lv_iload hx hb dX8_crowd_130 (lv_at hl 5 rfl) ?_
                        refine lv_iconst (v := 1) hx hb dX8_crowd_132 (by decide) ?_
                        refine lv_icmp_ne (tgt := 144) hx hb dX8_crowd_133 (by decide) (fun c133 => ?_) (fun c133 => ?_)
                        · have hf := pf_e c133 hf
                          refine lv_iload hx hb dX8_crowd_144 (lv_at hl 0 rfl) ?_
                          refine lv_if_eq (tgt := 158) hx hb dX8_crowd_146 (by decide) (fun c146 => ?_) (fun c146 => ?_)
                          · have hf := pf_t c146 hf
                            refine lv_iconst (v := 0) hx hb dX8_crowd_158 (by decide) ?_
                            refine lv_iadd hx hb dX8_crowd_159 ?_
                            refine lv_topi (fun x59 ex59 => ?_)
                            have hf := pf_nm ex59 hf
                            refine lv_istore (lv' := [(6, .int x59), (9, .int x58), (0, .ref h0), (2, .int a2), (3, .int a3), (4, .int a4), (5, .int a5), (7, .int x11), (8, .int x37)]) hx hb dX8_crowd_160 hl (by decide) rfl (fun ls hl => ?_)
                            obtain ⟨x60, ex60⟩ : ∃ y : Int32, y = (x11 + 1) := ⟨_, rfl⟩
                            have hf := pf_nm ex60 hf
                            refine lv_iinc (v := x60) (lv' := [(7, .int x60), (6, .int x59), (9, .int x58), (0, .ref h0), (2, .int a2), (3, .int a3), (4, .int a4), (5, .int a5), (8, .int x37)]) hx hb dX8_crowd_162 hl (k := 7) rfl (by rw [ex60]; rfl) (by decide) rfl (fun ls hl => ?_)
                            refine lv_goto (tgt := 70) hx hb dX8_crowd_165 (by decide) ?_
                            exact ih70 _ _ _ _ _ _ _ _ _ _ _ _ _ _ _ _ hf w (lv_sub hl [3, 4, 5, 6, 7, 1, 0] rfl)
                          · have hf := pf_e c146 hf
                            refine lv_iload hx hb dX8_crowd_149 (lv_at hl 8 rfl) ?_
                            refine lv_if_ne (tgt := 158) hx hb dX8_crowd_151 (by decide) (fun c151 => ?_) (fun c151 => ?_)
                            · have hf := pf_e c151 hf
                              refine lv_iconst (v := 0) hx hb dX8_crowd_158 (by decide) ?_
                              refine lv_iadd hx hb dX8_crowd_159 ?_
                              refine lv_topi (fun x61 ex61 => ?_)
                              have hf := pf_nm ex61 hf
                              refine lv_istore (lv' := [(6, .int x61), (9, .int x58), (0, .ref h0), (2, .int a2), (3, .int a3), (4, .int a4), (5, .int a5), (7, .int x11), (8, .int x37)]) hx hb dX8_crowd_160 hl (by decide) rfl (fun ls hl => ?_)
                              obtain ⟨x62, ex62⟩ : ∃ y : Int32, y = (x11 + 1) := ⟨_, rfl⟩
                              have hf := pf_nm ex62 hf
                              refine lv_iinc (v := x62) (lv' := [(7, .int x62), (6, .int x61), (9, .int x58), (0, .ref h0), (2, .int a2), (3, .int a3), (4, .int a4), (5, .int a5), (8, .int x37)]) hx hb dX8_crowd_162 hl (k := 7) rfl (by rw [ex62]; rfl) (by decide) rfl (fun ls hl => ?_)
                              refine lv_goto (tgt := 70) hx hb dX8_crowd_165 (by decide) ?_
                              exact ih70 _ _ _ _ _ _ _ _ _ _ _ _ _ _ _ _ hf w (lv_sub hl [3, 4, 5, 6, 7, 1, 0] rfl)
                            · have hf := pf_t c151 hf
                              refine lv_iconst (v := 1) hx hb dX8_crowd_154 (by decide) ?_
                              refine lv_goto (tgt := 159) hx hb dX8_crowd_155 (by decide) ?_
                              refine lv_iadd hx hb dX8_crowd_159 ?_
                              refine lv_topi (fun x63 ex63 => ?_)
                              have hf := pf_nm ex63 hf
                              refine lv_istore (lv' := [(6, .int x63), (9, .int x58), (0, .ref h0), (2, .int a2), (3, .int a3), (4, .int a4), (5, .int a5), (7, .int x11), (8, .int x37)]) hx hb dX8_crowd_160 hl (by decide) rfl (fun ls hl => ?_)
                              obtain ⟨x64, ex64⟩ : ∃ y : Int32, y = (x11 + 1) := ⟨_, rfl⟩
                              have hf := pf_nm ex64 hf
                              refine lv_iinc (v := x64) (lv' := [(7, .int x64), (6, .int x63), (9, .int x58), (0, .ref h0), (2, .int a2), (3, .int a3), (4, .int a4), (5, .int a5), (8, .int x37)]) hx hb dX8_crowd_162 hl (k := 7) rfl (by rw [ex64]; rfl) (by decide) rfl (fun ls hl => ?_)
                              refine lv_goto (tgt := 70) hx hb dX8_crowd_165 (by decide) ?_
                              exact ih70 _ _ _ _ _ _ _ _ _ _ _ _ _ _ _ _ hf w (lv_sub hl [3, 4, 5, 6, 7, 1, 0] rfl)
                        · have hf := pf_t c133 hf
                          refine lv_iload hx hb dX8_crowd_136 (lv_at hl 0 rfl) ?_
                          refine lv_if_eq (tgt := 158) hx hb dX8_crowd_138 (by decide) (fun c138 => ?_) (fun c138 => ?_)
                          · have hf := pf_t c138 hf
                            refine lv_iconst (v := 0) hx hb dX8_crowd_158 (by decide) ?_
                            refine lv_iadd hx hb dX8_crowd_159 ?_
                            refine lv_topi (fun x65 ex65 => ?_)
                            have hf := pf_nm ex65 hf
                            refine lv_istore (lv' := [(6, .int x65), (9, .int x58), (0, .ref h0), (2, .int a2), (3, .int a3), (4, .int a4), (5, .int a5), (7, .int x11), (8, .int x37)]) hx hb dX8_crowd_160 hl (by decide) rfl (fun ls hl => ?_)
                            obtain ⟨x66, ex66⟩ : ∃ y : Int32, y = (x11 + 1) := ⟨_, rfl⟩
                            have hf := pf_nm ex66 hf
                            refine lv_iinc (v := x66) (lv' := [(7, .int x66), (6, .int x65), (9, .int x58), (0, .ref h0), (2, .int a2), (3, .int a3), (4, .int a4), (5, .int a5), (8, .int x37)]) hx hb dX8_crowd_162 hl (k := 7) rfl (by rw [ex66]; rfl) (by decide) rfl (fun ls hl => ?_)
                            refine lv_goto (tgt := 70) hx hb dX8_crowd_165 (by decide) ?_
                            exact ih70 _ _ _ _ _ _ _ _ _ _ _ _ _ _ _ _ hf w (lv_sub hl [3, 4, 5, 6, 7, 1, 0] rfl)
                          · have hf := pf_e c138 hf
                            refine lv_goto (tgt := 154) hx hb dX8_crowd_141 (by decide) ?_
                            refine lv_iconst (v := 1) hx hb dX8_crowd_154 (by decide) ?_
                            refine lv_goto (tgt := 159) hx hb dX8_crowd_155 (by decide) ?_
                            refine lv_iadd hx hb dX8_crowd_159 ?_
                            refine lv_topi (fun x67 ex67 => ?_)
                            have hf := pf_nm ex67 hf
                            refine lv_istore (lv' := [(6, .int x67), (9, .int x58), (0, .ref h0), (2, .int a2), (3, .int a3), (4, .int a4), (5, .int a5), (7, .int x11), (8, .int x37)]) hx hb dX8_crowd_160 hl (by decide) rfl (fun ls hl => ?_)
                            obtain ⟨x68, ex68⟩ : ∃ y : Int32, y = (x11 + 1) := ⟨_, rfl⟩
                            have hf := pf_nm ex68 hf
                            refine lv_iinc (v := x68) (lv' := [(7, .int x68), (6, .int x67), (9, .int x58), (0, .ref h0), (2, .int a2), (3, .int a3), (4, .int a4), (5, .int a5), (8, .int x37)]) hx hb dX8_crowd_162 hl (k := 7) rfl (by rw [ex68]; rfl) (by decide) rfl (fun ls hl => ?_)
                            refine lv_goto (tgt := 70) hx hb dX8_crowd_165 (by decide) ?_
                            exact ih70 _ _ _ _ _ _ _ _ _ _ _ _ _ _ _ _ hf w (lv_sub hl [3, 4, 5, 6, 7, 1, 0] rfl)
                      · have hf := pf_t c119 hf
                        refine lv_iload hx hb dX8_crowd_122 (lv_at hl 8 rfl) ?_
                        refine lv_if_eq (tgt := 158) hx hb dX8_crowd_124 (by decide) (fun c124 => ?_) (fun c124 => ?_)
                        · have hf := pf_t c124 hf
                          refine lv_iconst (v := 0) hx hb dX8_crowd_158 (by decide) ?_
                          refine lv_iadd hx hb dX8_crowd_159 ?_
                          refine lv_topi (fun x69 ex69 => ?_)
                          have hf := pf_nm ex69 hf
                          refine lv_istore (lv' := [(6, .int x69), (9, .int x58), (0, .ref h0), (2, .int a2), (3, .int a3), (4, .int a4), (5, .int a5), (7, .int x11), (8, .int x37)]) hx hb dX8_crowd_160 hl (by decide) rfl (fun ls hl => ?_)
                          obtain ⟨x70, ex70⟩ : ∃ y : Int32, y = (x11 + 1) := ⟨_, rfl⟩
                          have hf := pf_nm ex70 hf
                          refine lv_iinc (v := x70) (lv' := [(7, .int x70), (6, .int x69), (9, .int x58), (0, .ref h0), (2, .int a2), (3, .int a3), (4, .int a4), (5, .int a5), (8, .int x37)]) hx hb dX8_crowd_162 hl (k := 7) rfl (by rw [ex70]; rfl) (by decide) rfl (fun ls hl => ?_)
                          refine lv_goto (tgt := 70) hx hb dX8_crowd_165 (by decide) ?_
                          exact ih70 _ _ _ _ _ _ _ _ _ _ _ _ _ _ _ _ hf w (lv_sub hl [3, 4, 5, 6, 7, 1, 0] rfl)
                        · have hf := pf_e c124 hf
                          refine lv_goto (tgt := 154) hx hb dX8_crowd_127 (by decide) ?_
                          refine lv_iconst (v := 1) hx hb dX8_crowd_154 (by decide) ?_
                          refine lv_goto (tgt := 159) hx hb dX8_crowd_155 (by decide) ?_
                          refine lv_iadd hx hb dX8_crowd_159 ?_
                          refine lv_topi (fun x71 ex71 => ?_)
                          have hf := pf_nm ex71 hf
                          refine lv_istore (lv' := [(6, .int x71), (9, .int x58), (0, .ref h0), (2, .int a2), (3, .int a3), (4, .int a4), (5, .int a5), (7, .int x11), (8, .int x37)]) hx hb dX8_crowd_160 hl (by decide) rfl (fun ls hl => ?_)
                          obtain ⟨x72, ex72⟩ : ∃ y : Int32, y = (x11 + 1) := ⟨_, rfl⟩
                          have hf := pf_nm ex72 hf
                          refine lv_iinc (v := x72) (lv' := [(7, .int x72), (6, .int x71), (9, .int x58), (0, .ref h0), (2, .int a2), (3, .int a3), (4, .int a4), (5, .int a5), (8, .int x37)]) hx hb dX8_crowd_162 hl (k := 7) rfl (by rw [ex72]; rfl) (by decide) rfl (fun ls hl => ?_)
                          refine lv_goto (tgt := 70) hx hb dX8_crowd_165 (by decide) ?_
                          exact ih70 _ _ _ _ _ _ _ _ _ _ _ _ _ _ _ _ hf w (lv_sub hl [3, 4, 5, 6, 7, 1, 0] rfl)
                    refine lv_if_ne (tgt := 112) hx hb dX8_crowd_105 (by decide) (fun c105 => ?_) (fun c105 => ?_)
                    · have hf := pf_e c105 hf
                      refine lv_iconst (v := 0) hx hb dX8_crowd_112 (by decide) ?_
                      exact kJ113 _ _ _ _ hf w (lv_sub hl [1, 2, 3, 4, 5, 6, 7, 0] rfl)
                    · have hf := pf_t c105 hf
                      refine lv_iconst (v := 1) hx hb dX8_crowd_108 (by decide) ?_
                      refine lv_goto (tgt := 113) hx hb dX8_crowd_109 (by decide) ?_
                      exact kJ113 _ _ _ _ hf w (lv_sub hl [1, 2, 3, 4, 5, 6, 7, 0] rfl)
                  refine lv_if_ne (tgt := 92) hx hb dX8_crowd_85 (by decide) (fun c85 => ?_) (fun c85 => ?_)
                  · have hf := pf_e c85 hf
                    refine lv_iconst (v := 0) hx hb dX8_crowd_92 (by decide) ?_
                    exact kJ93 _ _ _ _ hf w (lv_sub hl [0, 1, 2, 3, 4, 5, 6] rfl)
                  · have hf := pf_t c85 hf
                    refine lv_iconst (v := 1) hx hb dX8_crowd_88 (by decide) ?_
                    refine lv_goto (tgt := 93) hx hb dX8_crowd_89 (by decide) ?_
                    exact kJ93 _ _ _ _ hf w (lv_sub hl [0, 1, 2, 3, 4, 5, 6] rfl)
            exact klp_X8_crowd_70 FU _ _ _ _ _ _ _ _ _ _ _ _ _ _ _ _ hf w (lv_sub hl [2, 4, 5, 6, 7, 1, 0] rfl)
          · have hf := pf_t c48 hf
            refine lv_iconst (v := (-1)) hx hb dX8_crowd_51 (by decide) ?_
            exact hQ _ _ _ _ _ (t_all, t_base, t_decided, t_wasLate, t_askedOf, t_heldBehind, t_sum, t_heldAll, t_onPaper, t_codes, t_sorted, t_codeMany) (fun _ => 0) hf rfl w dX8_crowd_52
set_option maxHeartbeats 8000000 in
set_option maxRecDepth 100000 in
theorem ct_X8_layDrawn (l : Launch) (E : hm_E) (sz : Nat) (h0 : Nat) (r_t : Nat → Nat) (t_base t_taped t_at t_faultPlace t_number t_newBits t_newTold t_newDoings t_newThings t_opened t_sum t_heldAll t_onPaper t_turned t_wasConverted t_lastBits t_lastSum t_lastHeld t_lastLeft t_lastCode t_writtenLong t_codeMany t_acts t_done0 t_stoppedAt : Int32) (t_drawnSize : Nat → Int32) (a1 : Int32) (a2 : Int32) (R : Int32 × (Nat → Int32)) (hf : pf_X8_layDrawn a1 a2 t_drawnSize = some R) : hm_Mi l E yX8_layDrawn cX8_layDrawn 5 .int [] (hm_rr 0 0 0 0) [.ref h0, .int a1, .int a2] sz [oc8 h0 r_t t_base t_taped t_at t_faultPlace t_number t_newBits t_newTold t_newDoings t_newThings t_opened t_sum t_heldAll t_onPaper t_turned t_wasConverted t_lastBits t_lastSum t_lastHeld t_lastLeft t_lastCode t_writtenLong t_codeMany t_acts t_done0 t_stoppedAt, ic E (r_t 45) 12 t_drawnSize] R.1 (fun _ => [oc8 h0 r_t t_base t_taped t_at t_faultPlace t_number t_newBits t_newTold t_newDoings t_newThings t_opened t_sum t_heldAll t_onPaper t_turned t_wasConverted t_lastBits t_lastSum t_lastHeld t_lastLeft t_lastCode t_writtenLong t_codeMany t_acts t_done0 t_stoppedAt, ic E (r_t 45) 12 R.2]) := by
  refine hm_ct_i R (fun u qs => [oc8 h0 r_t t_base t_taped t_at t_faultPlace t_number t_newBits t_newTold t_newDoings t_newThings t_opened t_sum t_heldAll t_onPaper t_turned t_wasConverted t_lastBits t_lastSum t_lastHeld t_lastLeft t_lastCode t_writtenLong t_codeMany t_acts t_done0 t_stoppedAt, ic E (r_t 45) 12 u]) (by decide) (Nat.le_of_ble_eq_true rfl) (Or.inl rfl) ?_
  intro p e s m args below meth c A Q ls H locs hx hb hml hown X hA Y hex w hl hQ
  have hl : lv_has ls 5 [(0, .ref h0), (1, .int a1), (2, .int a2)] := hl
  unfold pf_X8_layDrawn at hf
  refine lv_iconst (v := 0) hx hb dX8_layDrawn_0 (by decide) ?_
  refine lv_istore_n (lv' := [(3, .int 0), (0, .ref h0), (1, .int a1), (2, .int a2)]) hx hb dX8_layDrawn_1 rfl hl (by decide) rfl (fun ls hl => ?_)
  refine lv_iconst (v := 0) hx hb dX8_layDrawn_2 (by decide) ?_
  refine lv_istore (lv' := [(4, .int 0), (3, .int 0), (0, .ref h0), (1, .int a1), (2, .int a2)]) hx hb dX8_layDrawn_3 hl (by decide) rfl (fun ls hl => ?_)
  have klp_X8_layDrawn_5 : ∀ (n : Nat) (x1 : Int32) (x2 : Int32) (f3 : Nat → Int32) (H : Heap) (locs : List Loc) (ls : Array Slot), lp_X8_layDrawn_5 a1 a2 n x1 x2 f3 = some R → hm_W E A s.heap [oc8 h0 r_t t_base t_taped t_at t_faultPlace t_number t_newBits t_newTold t_newDoings t_newThings t_opened t_sum t_heldAll t_onPaper t_turned t_wasConverted t_lastBits t_lastSum t_lastHeld t_lastLeft t_lastCode t_writtenLong t_codeMany t_acts t_done0 t_stoppedAt, ic E (r_t 45) 12 f3] H locs → lv_has ls 5 [(0, .ref h0), (1, .int a1), (2, .int a2), (3, .int x1), (4, .int x2)] → W p l e (hm_rr 0 0 0 0) s m args below meth c H locs 0 0 Q (F0 m 5 ls []) := by
    intro n
    induction n with
    | zero =>
      intro x1 x2 f3 H locs ls hf w hl
      exact pf_no hf
    | succ n ih5 =>
      intro x1 x2 f3 H locs ls hf w hl
      rw [lp_X8_layDrawn_5] at hf
      refine lv_iload hx hb dX8_layDrawn_5 (lv_at hl 4 rfl) ?_
      refine lv_iload_n hx hb dX8_layDrawn_7 rfl (lv_at hl 1 rfl) ?_
      refine lv_icmp_ge (tgt := 42) hx hb dX8_layDrawn_8 (by decide) (fun c8 => ?_) (fun c8 => ?_)
      · have hf := pf_t c8 hf
        refine lv_iload_n hx hb dX8_layDrawn_42 rfl (lv_at hl 3 rfl) ?_
        exact hQ _ _ _ _ _ f3 (fun _ => 0) hf rfl w dX8_layDrawn_43
      · have hf := pf_e c8 hf
        refine lv_aload_n hx hb dX8_layDrawn_11 rfl (lv_at hl 0 rfl) ?_
        refine hm_get cb_X8 hx hb hown X w 0 45 fl_X8_95 dX8_layDrawn_12 rfl (by decide) rfl ?_
        refine lv_iload hx hb dX8_layDrawn_15 (lv_at hl 4 rfl) ?_
        refine lv_iconst (v := 1) hx hb dX8_layDrawn_17 (by decide) ?_
        refine lv_iload_n hx hb dX8_layDrawn_18 rfl (lv_at hl 2 rfl) ?_
        refine lv_iload_n hx hb dX8_layDrawn_19 rfl (lv_at hl 3 rfl) ?_
        refine lv_imul hx hb dX8_layDrawn_20 ?_
        refine lv_bipush (v := 100) hx hb dX8_layDrawn_21 (by decide) ?_
        refine lv_idiv hx hb dX8_layDrawn_23 (by decide) ?_
        refine lv_iadd hx hb dX8_layDrawn_24 ?_
        refine lv_topi (fun x4 ex4 => ?_)
        have hf := pf_nm ex4 hf
        obtain ⟨g25, hf⟩ := pf_ckI hf
        refine hm_iast (ws' := [oc8 h0 r_t t_base t_taped t_at t_faultPlace t_number t_newBits t_newTold t_newDoings t_newThings t_opened t_sum t_heldAll t_onPaper t_turned t_wasConverted t_lastBits t_lastSum t_lastHeld t_lastLeft t_lastCode t_writtenLong t_codeMany t_acts t_done0 t_stoppedAt, ic E (r_t 45) 12 (upd f3 x2.toNatClampNeg x4)]) hx hb X w 1 dX8_layDrawn_25 rfl g25 rfl (fun H locs w => ?_)
        refine lv_iload_n hx hb dX8_layDrawn_26 rfl (lv_at hl 3 rfl) ?_
        refine lv_aload_n hx hb dX8_layDrawn_27 rfl (lv_at hl 0 rfl) ?_
        refine hm_get cb_X8 hx hb hown X w 0 45 fl_X8_95 dX8_layDrawn_28 rfl (by decide) rfl ?_
        refine lv_iload hx hb dX8_layDrawn_31 (lv_at hl 4 rfl) ?_
        obtain ⟨g33, hf⟩ := pf_ckI hf
        refine hm_iald hx hb X w 1 dX8_layDrawn_33 rfl g33 ?_
        refine lv_iadd hx hb dX8_layDrawn_34 ?_
        refine lv_topi (fun x5 ex5 => ?_)
        have hf := pf_nm ex5 hf
        refine lv_istore_n (lv' := [(3, .int x5), (0, .ref h0), (1, .int a1), (2, .int a2), (4, .int x2)]) hx hb dX8_layDrawn_35 rfl hl (by decide) rfl (fun ls hl => ?_)
        obtain ⟨x6, ex6⟩ : ∃ y : Int32, y = (x2 + 1) := ⟨_, rfl⟩
        have hf := pf_nm ex6 hf
        refine lv_iinc (v := x6) (lv' := [(4, .int x6), (3, .int x5), (0, .ref h0), (1, .int a1), (2, .int a2)]) hx hb dX8_layDrawn_36 hl (k := 4) rfl (by rw [ex6]; rfl) (by decide) rfl (fun ls hl => ?_)
        refine lv_goto (tgt := 5) hx hb dX8_layDrawn_39 (by decide) ?_
        exact ih5 _ _ _ _ _ _ hf w (lv_sub hl [2, 3, 4, 1, 0] rfl)
  exact klp_X8_layDrawn_5 FU _ _ _ _ _ _ hf w (lv_sub hl [2, 3, 4, 1, 0] rfl)
set_option maxHeartbeats 8000000 in
set_option maxRecDepth 100000 in
theorem ct_X8_isWide (l : Launch) (E : hm_E) (sz : Nat) (a0 : Int32) (R : Int32 × Unit) (hf : pf_X8_isWide a0 = some R) : hm_Mi l E yX8_isWide cX8_isWide 1 .boolean [] (hm_rr 1 22 0 0) [.int a0] sz [] R.1 (fun _ => []) := by
  refine hm_ct_i R (fun u qs => []) (by decide) (Nat.le_of_ble_eq_true rfl) (Or.inr rfl) ?_
  intro p e s m args below meth c A Q ls H locs hx hb hml hown X hA Y hex w hl hQ
  have hl : lv_has ls 1 [(0, .int a0)] := hl
  unfold pf_X8_isWide at hf
  refine lv_iload_n hx hb dX8_isWide_0 rfl (lv_at hl 0 rfl) ?_
  refine lv_iconst (v := 2) hx hb dX8_isWide_1 (by decide) ?_
  refine lv_bipush (v := 12) hx hb dX8_isWide_2 (by decide) ?_
  obtain ⟨r1, hc4, hf⟩ := pf_bi_0 hf
  refine hm_aft_i (ws' := fun _ => []) (hm_runS (rest := []) hx hb hml hown X hA Y w mw_X8_isIn ml_X8_129 dX8_isWide_4 hm_ac0 [.int a0, .int 2, .int 12] rfl [] rfl rfl (ct_X8_isIn l E H.size a0 2 12 (r1, ()) hc4) rfl hl.1 ⟨⟨rfl, rfl⟩, ⟨Nat.le_of_ble_eq_true rfl, Nat.le_of_ble_eq_true rfl⟩, ⟨Nat.le_of_ble_eq_true rfl, Nat.le_of_ble_eq_true rfl⟩, Nat.le_of_ble_eq_true rfl⟩) hA w [] [] [] rfl rfl (by decide) (fun _ => rfl) (fun _ H locs w => ?_)
  obtain ⟨g7, hf⟩ := pf_ckZ hf
  exact hQ _ _ _ _ _ () (fun _ => 0) hf (hm_z g7) w dX8_isWide_7
set_option maxHeartbeats 8000000 in
set_option maxRecDepth 100000 in
theorem ct_X8_isPart (l : Launch) (E : hm_E) (sz : Nat) (a0 : Int32) (R : Int32 × Unit) (hf : pf_X8_isPart a0 = some R) : hm_Mi l E yX8_isPart cX8_isPart 1 .boolean [] (hm_rr 1 22 0 0) [.int a0] sz [] R.1 (fun _ => []) := by
  refine hm_ct_i R (fun u qs => []) (by decide) (Nat.le_of_ble_eq_true rfl) (Or.inr rfl) ?_
  intro p e s m args below meth c A Q ls H locs hx hb hml hown X hA Y hex w hl hQ
  have hl : lv_has ls 1 [(0, .int a0)] := hl
  unfold pf_X8_isPart at hf
  refine lv_iload_n hx hb dX8_isPart_0 rfl (lv_at hl 0 rfl) ?_
  refine lv_iconst (v := 0) hx hb dX8_isPart_1 (by decide) ?_
  refine lv_bipush (v := 100) hx hb dX8_isPart_2 (by decide) ?_
  obtain ⟨r1, hc4, hf⟩ := pf_bi_0 hf
  refine hm_aft_i (ws' := fun _ => []) (hm_runS (rest := []) hx hb hml hown X hA Y w mw_X8_isIn ml_X8_129 dX8_isPart_4 hm_ac0 [.int a0, .int 0, .int 100] rfl [] rfl rfl (ct_X8_isIn l E H.size a0 0 100 (r1, ()) hc4) rfl hl.1 ⟨⟨rfl, rfl⟩, ⟨Nat.le_of_ble_eq_true rfl, Nat.le_of_ble_eq_true rfl⟩, ⟨Nat.le_of_ble_eq_true rfl, Nat.le_of_ble_eq_true rfl⟩, Nat.le_of_ble_eq_true rfl⟩) hA w [] [] [] rfl rfl (by decide) (fun _ => rfl) (fun _ H locs w => ?_)
  obtain ⟨g7, hf⟩ := pf_ckZ hf
  exact hQ _ _ _ _ _ () (fun _ => 0) hf (hm_z g7) w dX8_isPart_7
set_option maxHeartbeats 8000000 in
set_option maxRecDepth 100000 in
theorem ct_X8_isReach (l : Launch) (E : hm_E) (sz : Nat) (a0 : Int32) (R : Int32 × Unit) (hf : pf_X8_isReach a0 = some R) : hm_Mi l E yX8_isReach cX8_isReach 1 .boolean [] (hm_rr 1 22 0 0) [.int a0] sz [] R.1 (fun _ => []) := by
  refine hm_ct_i R (fun u qs => []) (by decide) (Nat.le_of_ble_eq_true rfl) (Or.inr rfl) ?_
  intro p e s m args below meth c A Q ls H locs hx hb hml hown X hA Y hex w hl hQ
  have hl : lv_has ls 1 [(0, .int a0)] := hl
  unfold pf_X8_isReach at hf
  refine lv_iload_n hx hb dX8_isReach_0 rfl (lv_at hl 0 rfl) ?_
  refine lv_iconst (v := 1) hx hb dX8_isReach_1 (by decide) ?_
  refine lv_sipush (v := 4095) hx hb dX8_isReach_2 (by decide) ?_
  obtain ⟨r1, hc5, hf⟩ := pf_bi_0 hf
  refine hm_aft_i (ws' := fun _ => []) (hm_runS (rest := []) hx hb hml hown X hA Y w mw_X8_isIn ml_X8_129 dX8_isReach_5 hm_ac0 [.int a0, .int 1, .int 4095] rfl [] rfl rfl (ct_X8_isIn l E H.size a0 1 4095 (r1, ()) hc5) rfl hl.1 ⟨⟨rfl, rfl⟩, ⟨Nat.le_of_ble_eq_true rfl, Nat.le_of_ble_eq_true rfl⟩, ⟨Nat.le_of_ble_eq_true rfl, Nat.le_of_ble_eq_true rfl⟩, Nat.le_of_ble_eq_true rfl⟩) hA w [] [] [] rfl rfl (by decide) (fun _ => rfl) (fun _ H locs w => ?_)
  obtain ⟨g8, hf⟩ := pf_ckZ hf
  exact hQ _ _ _ _ _ () (fun _ => 0) hf (hm_z g8) w dX8_isReach_8
set_option maxHeartbeats 8000000 in
set_option maxRecDepth 100000 in
theorem ct_X8_drawn (l : Launch) (E : hm_E) (sz : Nat) (h0 : Nat) (r_t : Nat → Nat) (t_base t_taped t_at t_faultPlace t_number t_newBits t_newTold t_newDoings t_newThings t_opened t_sum t_heldAll t_onPaper t_turned t_wasConverted t_lastBits t_lastSum t_lastHeld t_lastLeft t_lastCode t_writtenLong t_codeMany t_acts t_done0 t_stoppedAt : Int32) (t_drawnSize : Nat → Int32) (a1 : Int32) (a2 : Int32) (a3 : Int32) (a4 : Int32) (R : Int32 × (Nat → Int32)) (hf : pf_X8_drawn a1 a2 a3 a4 t_drawnSize = some R) : hm_Mi l E yX8_drawn cX8_drawn 6 .int [] (hm_rr 2 42 0 0) [.ref h0, .int a1, .int a2, .int a3, .int a4] sz [oc8 h0 r_t t_base t_taped t_at t_faultPlace t_number t_newBits t_newTold t_newDoings t_newThings t_opened t_sum t_heldAll t_onPaper t_turned t_wasConverted t_lastBits t_lastSum t_lastHeld t_lastLeft t_lastCode t_writtenLong t_codeMany t_acts t_done0 t_stoppedAt, ic E (r_t 45) 12 t_drawnSize] R.1 (fun _ => [oc8 h0 r_t t_base t_taped t_at t_faultPlace t_number t_newBits t_newTold t_newDoings t_newThings t_opened t_sum t_heldAll t_onPaper t_turned t_wasConverted t_lastBits t_lastSum t_lastHeld t_lastLeft t_lastCode t_writtenLong t_codeMany t_acts t_done0 t_stoppedAt, ic E (r_t 45) 12 R.2]) := by
  refine hm_ct_i R (fun u qs => [oc8 h0 r_t t_base t_taped t_at t_faultPlace t_number t_newBits t_newTold t_newDoings t_newThings t_opened t_sum t_heldAll t_onPaper t_turned t_wasConverted t_lastBits t_lastSum t_lastHeld t_lastLeft t_lastCode t_writtenLong t_codeMany t_acts t_done0 t_stoppedAt, ic E (r_t 45) 12 u]) (by decide) (Nat.le_of_ble_eq_true rfl) (Or.inl rfl) ?_
  intro p e s m args below meth c A Q ls H locs hx hb hml hown X hA Y hex w hl hQ
  have hl : lv_has ls 6 [(0, .ref h0), (1, .int a1), (2, .int a2), (3, .int a3), (4, .int a4)] := hl
  unfold pf_X8_drawn at hf
  refine lv_iload_n hx hb dX8_drawn_0 rfl (lv_at hl 1 rfl) ?_
  obtain ⟨r1, hc1, hf⟩ := pf_bi_0 hf
  refine hm_aft_i (ws' := fun _ => [oc8 h0 r_t t_base t_taped t_at t_faultPlace t_number t_newBits t_newTold t_newDoings t_newThings t_opened t_sum t_heldAll t_onPaper t_turned t_wasConverted t_lastBits t_lastSum t_lastHeld t_lastLeft t_lastCode t_writtenLong t_codeMany t_acts t_done0 t_stoppedAt, ic E (r_t 45) 12 t_drawnSize]) (hm_runS (rest := []) hx hb hml hown X hA Y w mw_X8_isWide ml_X8_374 dX8_drawn_1 hm_ac0 [.int a1] rfl [] rfl rfl (ct_X8_isWide l E H.size a1 (r1, ()) hc1) rfl hl.1 ⟨⟨rfl, rfl⟩, ⟨Nat.le_of_ble_eq_true rfl, Nat.le_of_ble_eq_true rfl⟩, ⟨Nat.le_of_ble_eq_true rfl, Nat.le_of_ble_eq_true rfl⟩, Nat.le_of_ble_eq_true rfl⟩) hA w [] [0, 1] [0, 1] rfl rfl (by decide) (fun _ => rfl) (fun _ H locs w => ?_)
  refine lv_if_eq (tgt := 36) hx hb dX8_drawn_4 (by decide) (fun c4 => ?_) (fun c4 => ?_)
  · have hf := pf_t c4 hf
    refine lv_iconst (v := (-1)) hx hb dX8_drawn_36 (by decide) ?_
    exact hQ _ _ _ _ _ t_drawnSize (fun _ => 0) hf rfl w dX8_drawn_37
  · have hf := pf_e c4 hf
    refine lv_iload_n hx hb dX8_drawn_7 rfl (lv_at hl 2 rfl) ?_
    obtain ⟨r2, hc8, hf⟩ := pf_bi_0 hf
    refine hm_aft_i (ws' := fun _ => [oc8 h0 r_t t_base t_taped t_at t_faultPlace t_number t_newBits t_newTold t_newDoings t_newThings t_opened t_sum t_heldAll t_onPaper t_turned t_wasConverted t_lastBits t_lastSum t_lastHeld t_lastLeft t_lastCode t_writtenLong t_codeMany t_acts t_done0 t_stoppedAt, ic E (r_t 45) 12 t_drawnSize]) (hm_runS (rest := []) hx hb hml hown X hA Y w mw_X8_isPart ml_X8_377 dX8_drawn_8 hm_ac0 [.int a2] rfl [] rfl rfl (ct_X8_isPart l E H.size a2 (r2, ()) hc8) rfl hl.1 ⟨⟨rfl, rfl⟩, ⟨Nat.le_of_ble_eq_true rfl, Nat.le_of_ble_eq_true rfl⟩, ⟨Nat.le_of_ble_eq_true rfl, Nat.le_of_ble_eq_true rfl⟩, Nat.le_of_ble_eq_true rfl⟩) hA w [] [0, 1] [0, 1] rfl rfl (by decide) (fun _ => rfl) (fun _ H locs w => ?_)
    refine lv_if_eq (tgt := 36) hx hb dX8_drawn_11 (by decide) (fun c11 => ?_) (fun c11 => ?_)
    · have hf := pf_t c11 hf
      refine lv_iconst (v := (-1)) hx hb dX8_drawn_36 (by decide) ?_
      exact hQ _ _ _ _ _ t_drawnSize (fun _ => 0) hf rfl w dX8_drawn_37
    · have hf := pf_e c11 hf
      refine lv_iload hx hb dX8_drawn_14 (lv_at hl 4 rfl) ?_
      refine lv_iconst (v := 1) hx hb dX8_drawn_16 (by decide) ?_
      obtain ⟨J38, hJ38, hf⟩ := pf_jn hf
      have kJ38 : ∀ (H : Heap) (locs : List Loc) (ls : Array Slot), J38 = some R → hm_W E A s.heap [oc8 h0 r_t t_base t_taped t_at t_faultPlace t_number t_newBits t_newTold t_newDoings t_newThings t_opened t_sum t_heldAll t_onPaper t_turned t_wasConverted t_lastBits t_lastSum t_lastHeld t_lastLeft t_lastCode t_writtenLong t_codeMany t_acts t_done0 t_stoppedAt, ic E (r_t 45) 12 t_drawnSize] H locs → lv_has ls 6 [(0, .ref h0), (1, .int a1), (2, .int a2), (3, .int a3), (4, .int a4)] → W p l e (hm_rr 2 42 0 0) s m args below meth c H locs 0 0 Q (F0 m 38 ls []) := by
        intro H locs ls hf w hl
        have hf := pf_j0 hJ38 hf
        refine lv_aload_n hx hb dX8_drawn_38 rfl (lv_at hl 0 rfl) ?_
        refine lv_iload_n hx hb dX8_drawn_39 rfl (lv_at hl 1 rfl) ?_
        refine lv_iload_n hx hb dX8_drawn_40 rfl (lv_at hl 2 rfl) ?_
        obtain ⟨r3, f4, hc41, hf⟩ := pf_bi_1 hf
        refine hm_aft_i (ws' := fun _ => [oc8 h0 r_t t_base t_taped t_at t_faultPlace t_number t_newBits t_newTold t_newDoings t_newThings t_opened t_sum t_heldAll t_onPaper t_turned t_wasConverted t_lastBits t_lastSum t_lastHeld t_lastLeft t_lastCode t_writtenLong t_codeMany t_acts t_done0 t_stoppedAt, ic E (r_t 45) 12 f4]) (hm_runV (rest := []) hx hb hml hown X hA Y w 0 (ci := 7) (T := TX8) (N := 55) rfl rfl mw_X8_layDrawn ml_X8_380 dX8_drawn_41 hm_ac0 [.int a1, .int a2] rfl [0, 1] rfl rfl (ct_X8_layDrawn l E H.size h0 r_t t_base t_taped t_at t_faultPlace t_number t_newBits t_newTold t_newDoings t_newThings t_opened t_sum t_heldAll t_onPaper t_turned t_wasConverted t_lastBits t_lastSum t_lastHeld t_lastLeft t_lastCode t_writtenLong t_codeMany t_acts t_done0 t_stoppedAt t_drawnSize a1 a2 (r3, f4) hc41) rfl hl.1 ⟨⟨rfl, rfl⟩, ⟨Nat.le_of_ble_eq_true rfl, Nat.le_of_ble_eq_true rfl⟩, ⟨Nat.le_of_ble_eq_true rfl, Nat.le_of_ble_eq_true rfl⟩, Nat.le_of_ble_eq_true rfl⟩) hA w [0, 1] [] [0, 1] rfl rfl (by decide) (fun _ => rfl) (fun _ H locs w => ?_)
        refine lv_istore (lv' := [(5, .int r3), (0, .ref h0), (1, .int a1), (2, .int a2), (3, .int a3), (4, .int a4)]) hx hb dX8_drawn_44 hl (by decide) rfl (fun ls hl => ?_)
        refine lv_iload hx hb dX8_drawn_46 (lv_at hl 5 rfl) ?_
        refine lv_iconst (v := 1) hx hb dX8_drawn_48 (by decide) ?_
        refine lv_icmp_ne (tgt := 57) hx hb dX8_drawn_49 (by decide) (fun c49 => ?_) (fun c49 => ?_)
        · have hf := pf_e c49 hf
          refine lv_aload_n hx hb dX8_drawn_57 rfl (lv_at hl 1 rfl) ?_
          refine hm_get cb_X8 hx hb hown X w 0 45 fl_X8_95 dX8_drawn_58 rfl (by decide) rfl ?_
          refine lv_iload_n hx hb dX8_drawn_61 rfl (lv_at hl 4 rfl) ?_
          obtain ⟨g62, hf⟩ := pf_ckI hf
          refine hm_iald hx hb X w 1 dX8_drawn_62 rfl g62 ?_
          exact hQ _ _ _ _ _ f4 (fun _ => 0) hf rfl w dX8_drawn_63
        · have hf := pf_t c49 hf
          refine lv_iload hx hb dX8_drawn_52 (lv_at hl 0 rfl) ?_
          refine lv_goto (tgt := 63) hx hb dX8_drawn_54 (by decide) ?_
          exact hQ _ _ _ _ _ f4 (fun _ => 0) hf rfl w dX8_drawn_63
      refine lv_icmp_eq (tgt := 38) hx hb dX8_drawn_17 (by decide) (fun c17 => ?_) (fun c17 => ?_)
      · have hf := pf_t c17 hf
        exact kJ38 _ _ _ hf w (lv_sub hl [0, 1, 2, 3, 4] rfl)
      · have hf := pf_e c17 hf
        refine lv_iload hx hb dX8_drawn_20 (lv_at hl 4 rfl) ?_
        refine lv_if_ne (tgt := 36) hx hb dX8_drawn_22 (by decide) (fun c22 => ?_) (fun c22 => ?_)
        · have hf := pf_e c22 hf
          refine lv_iconst (v := (-1)) hx hb dX8_drawn_36 (by decide) ?_
          exact hQ _ _ _ _ _ t_drawnSize (fun _ => 0) hf rfl w dX8_drawn_37
        · have hf := pf_t c22 hf
          refine lv_iload_n hx hb dX8_drawn_25 rfl (lv_at hl 3 rfl) ?_
          refine lv_iconst (v := 0) hx hb dX8_drawn_26 (by decide) ?_
          refine lv_iload_n hx hb dX8_drawn_27 rfl (lv_at hl 1 rfl) ?_
          refine lv_iconst (v := 1) hx hb dX8_drawn_28 (by decide) ?_
          refine lv_isub hx hb dX8_drawn_29 ?_
          obtain ⟨r5, hc30, hf⟩ := pf_bi_0 hf
          refine hm_aft_i (ws' := fun _ => [oc8 h0 r_t t_base t_taped t_at t_faultPlace t_number t_newBits t_newTold t_newDoings t_newThings t_opened t_sum t_heldAll t_onPaper t_turned t_wasConverted t_lastBits t_lastSum t_lastHeld t_lastLeft t_lastCode t_writtenLong t_codeMany t_acts t_done0 t_stoppedAt, ic E (r_t 45) 12 t_drawnSize]) (hm_runS (rest := []) hx hb hml hown X hA Y w mw_X8_isIn ml_X8_129 dX8_drawn_30 hm_ac0 [.int a3, .int 0, .int (a1 - 1)] rfl [] rfl rfl (ct_X8_isIn l E H.size a3 0 (a1 - 1) (r5, ()) hc30) rfl hl.1 ⟨⟨rfl, rfl⟩, ⟨Nat.le_of_ble_eq_true rfl, Nat.le_of_ble_eq_true rfl⟩, ⟨Nat.le_of_ble_eq_true rfl, Nat.le_of_ble_eq_true rfl⟩, Nat.le_of_ble_eq_true rfl⟩) hA w [] [0, 1] [0, 1] rfl rfl (by decide) (fun _ => rfl) (fun _ H locs w => ?_)
          refine lv_if_ne (tgt := 38) hx hb dX8_drawn_33 (by decide) (fun c33 => ?_) (fun c33 => ?_)
          · have hf := pf_e c33 hf
            exact kJ38 _ _ _ hf w (lv_sub hl [0, 1, 2, 3, 4] rfl)
          · have hf := pf_t c33 hf
            refine lv_iconst (v := (-1)) hx hb dX8_drawn_36 (by decide) ?_
            exact hQ _ _ _ _ _ t_drawnSize (fun _ => 0) hf rfl w dX8_drawn_37
set_option maxHeartbeats 8000000 in
set_option maxRecDepth 100000 in
theorem ct_X8_fewest (l : Launch) (E : hm_E) (sz : Nat) (h0 : Nat) (r_t : Nat → Nat) (t_base t_taped t_at t_faultPlace t_number t_newBits t_newTold t_newDoings t_newThings t_opened t_sum t_heldAll t_onPaper t_turned t_wasConverted t_lastBits t_lastSum t_lastHeld t_lastLeft t_lastCode t_writtenLong t_codeMany t_acts t_done0 t_stoppedAt : Int32) (t_drawnSize : Nat → Int32) (a1 : Int32) (a2 : Int32) (R : Int32 × (Nat → Int32)) (hf : pf_X8_fewest a1 a2 t_drawnSize = some R) : hm_Mi l E yX8_fewest cX8_fewest 4 .int [] (hm_rr 2 42 0 0) [.ref h0, .int a1, .int a2] sz [oc8 h0 r_t t_base t_taped t_at t_faultPlace t_number t_newBits t_newTold t_newDoings t_newThings t_opened t_sum t_heldAll t_onPaper t_turned t_wasConverted t_lastBits t_lastSum t_lastHeld t_lastLeft t_lastCode t_writtenLong t_codeMany t_acts t_done0 t_stoppedAt, ic E (r_t 45) 12 t_drawnSize] R.1 (fun _ => [oc8 h0 r_t t_base t_taped t_at t_faultPlace t_number t_newBits t_newTold t_newDoings t_newThings t_opened t_sum t_heldAll t_onPaper t_turned t_wasConverted t_lastBits t_lastSum t_lastHeld t_lastLeft t_lastCode t_writtenLong t_codeMany t_acts t_done0 t_stoppedAt, ic E (r_t 45) 12 R.2]) := by
  refine hm_ct_i R (fun u qs => [oc8 h0 r_t t_base t_taped t_at t_faultPlace t_number t_newBits t_newTold t_newDoings t_newThings t_opened t_sum t_heldAll t_onPaper t_turned t_wasConverted t_lastBits t_lastSum t_lastHeld t_lastLeft t_lastCode t_writtenLong t_codeMany t_acts t_done0 t_stoppedAt, ic E (r_t 45) 12 u]) (by decide) (Nat.le_of_ble_eq_true rfl) (Or.inl rfl) ?_
  intro p e s m args below meth c A Q ls H locs hx hb hml hown X hA Y hex w hl hQ
  have hl : lv_has ls 4 [(0, .ref h0), (1, .int a1), (2, .int a2)] := hl
  unfold pf_X8_fewest at hf
  refine lv_iload_n hx hb dX8_fewest_0 rfl (lv_at hl 1 rfl) ?_
  obtain ⟨r1, hc1, hf⟩ := pf_bi_0 hf
  refine hm_aft_i (ws' := fun _ => [oc8 h0 r_t t_base t_taped t_at t_faultPlace t_number t_newBits t_newTold t_newDoings t_newThings t_opened t_sum t_heldAll t_onPaper t_turned t_wasConverted t_lastBits t_lastSum t_lastHeld t_lastLeft t_lastCode t_writtenLong t_codeMany t_acts t_done0 t_stoppedAt, ic E (r_t 45) 12 t_drawnSize]) (hm_runS (rest := []) hx hb hml hown X hA Y w mw_X8_isPart ml_X8_377 dX8_fewest_1 hm_ac0 [.int a1] rfl [] rfl rfl (ct_X8_isPart l E H.size a1 (r1, ()) hc1) rfl hl.1 ⟨⟨rfl, rfl⟩, ⟨Nat.le_of_ble_eq_true rfl, Nat.le_of_ble_eq_true rfl⟩, ⟨Nat.le_of_ble_eq_true rfl, Nat.le_of_ble_eq_true rfl⟩, Nat.le_of_ble_eq_true rfl⟩) hA w [] [0, 1] [0, 1] rfl rfl (by decide) (fun _ => rfl) (fun _ H locs w => ?_)
  refine lv_if_eq (tgt := 14) hx hb dX8_fewest_4 (by decide) (fun c4 => ?_) (fun c4 => ?_)
  · have hf := pf_t c4 hf
    refine lv_iconst (v := (-1)) hx hb dX8_fewest_14 (by decide) ?_
    exact hQ _ _ _ _ _ t_drawnSize (fun _ => 0) hf rfl w dX8_fewest_15
  · have hf := pf_e c4 hf
    refine lv_iload_n hx hb dX8_fewest_7 rfl (lv_at hl 2 rfl) ?_
    obtain ⟨r2, hc8, hf⟩ := pf_bi_0 hf
    refine hm_aft_i (ws' := fun _ => [oc8 h0 r_t t_base t_taped t_at t_faultPlace t_number t_newBits t_newTold t_newDoings t_newThings t_opened t_sum t_heldAll t_onPaper t_turned t_wasConverted t_lastBits t_lastSum t_lastHeld t_lastLeft t_lastCode t_writtenLong t_codeMany t_acts t_done0 t_stoppedAt, ic E (r_t 45) 12 t_drawnSize]) (hm_runS (rest := []) hx hb hml hown X hA Y w mw_X8_isReach ml_X8_383 dX8_fewest_8 hm_ac0 [.int a2] rfl [] rfl rfl (ct_X8_isReach l E H.size a2 (r2, ()) hc8) rfl hl.1 ⟨⟨rfl, rfl⟩, ⟨Nat.le_of_ble_eq_true rfl, Nat.le_of_ble_eq_true rfl⟩, ⟨Nat.le_of_ble_eq_true rfl, Nat.le_of_ble_eq_true rfl⟩, Nat.le_of_ble_eq_true rfl⟩) hA w [] [0, 1] [0, 1] rfl rfl (by decide) (fun _ => rfl) (fun _ H locs w => ?_)
    refine lv_if_ne (tgt := 16) hx hb dX8_fewest_11 (by decide) (fun c11 => ?_) (fun c11 => ?_)
    · have hf := pf_e c11 hf
      refine lv_iconst (v := 2) hx hb dX8_fewest_16 (by decide) ?_
      refine lv_istore_n (lv' := [(3, .int 2), (0, .ref h0), (1, .int a1), (2, .int a2)]) hx hb dX8_fewest_17 rfl hl (by decide) rfl (fun ls hl => ?_)
      have klp_X8_fewest_18 : ∀ (n : Nat) (x3 : Int32) (f4 : Nat → Int32) (H : Heap) (locs : List Loc) (ls : Array Slot), lp_X8_fewest_18 a1 a2 n x3 f4 = some R → hm_W E A s.heap [oc8 h0 r_t t_base t_taped t_at t_faultPlace t_number t_newBits t_newTold t_newDoings t_newThings t_opened t_sum t_heldAll t_onPaper t_turned t_wasConverted t_lastBits t_lastSum t_lastHeld t_lastLeft t_lastCode t_writtenLong t_codeMany t_acts t_done0 t_stoppedAt, ic E (r_t 45) 12 f4] H locs → lv_has ls 4 [(0, .ref h0), (1, .int a1), (2, .int a2), (3, .int x3)] → W p l e (hm_rr 2 42 0 0) s m args below meth c H locs 0 0 Q (F0 m 18 ls []) := by
        intro n
        induction n with
        | zero =>
          intro x3 f4 H locs ls hf w hl
          exact pf_no hf
        | succ n ih18 =>
          intro x3 f4 H locs ls hf w hl
          rw [lp_X8_fewest_18] at hf
          refine lv_iload_n hx hb dX8_fewest_18 rfl (lv_at hl 3 rfl) ?_
          refine lv_bipush (v := 12) hx hb dX8_fewest_19 (by decide) ?_
          refine lv_icmp_gt (tgt := 42) hx hb dX8_fewest_21 (by decide) (fun c21 => ?_) (fun c21 => ?_)
          · have hf := pf_t c21 hf
            refine lv_iconst (v := (-1)) hx hb dX8_fewest_42 (by decide) ?_
            exact hQ _ _ _ _ _ f4 (fun _ => 0) hf rfl w dX8_fewest_43
          · have hf := pf_e c21 hf
            refine lv_aload_n hx hb dX8_fewest_24 rfl (lv_at hl 0 rfl) ?_
            refine lv_iload_n hx hb dX8_fewest_25 rfl (lv_at hl 3 rfl) ?_
            refine lv_iload_n hx hb dX8_fewest_26 rfl (lv_at hl 1 rfl) ?_
            obtain ⟨r5, f6, hc27, hf⟩ := pf_bi_1 hf
            refine hm_aft_i (ws' := fun _ => [oc8 h0 r_t t_base t_taped t_at t_faultPlace t_number t_newBits t_newTold t_newDoings t_newThings t_opened t_sum t_heldAll t_onPaper t_turned t_wasConverted t_lastBits t_lastSum t_lastHeld t_lastLeft t_lastCode t_writtenLong t_codeMany t_acts t_done0 t_stoppedAt, ic E (r_t 45) 12 f6]) (hm_runV (rest := []) hx hb hml hown X hA Y w 0 (ci := 7) (T := TX8) (N := 55) rfl rfl mw_X8_layDrawn ml_X8_380 dX8_fewest_27 hm_ac0 [.int x3, .int a1] rfl [0, 1] rfl rfl (ct_X8_layDrawn l E H.size h0 r_t t_base t_taped t_at t_faultPlace t_number t_newBits t_newTold t_newDoings t_newThings t_opened t_sum t_heldAll t_onPaper t_turned t_wasConverted t_lastBits t_lastSum t_lastHeld t_lastLeft t_lastCode t_writtenLong t_codeMany t_acts t_done0 t_stoppedAt f4 x3 a1 (r5, f6) hc27) rfl hl.1 ⟨⟨rfl, rfl⟩, ⟨Nat.le_of_ble_eq_true rfl, Nat.le_of_ble_eq_true rfl⟩, ⟨Nat.le_of_ble_eq_true rfl, Nat.le_of_ble_eq_true rfl⟩, Nat.le_of_ble_eq_true rfl⟩) hA w [0, 1] [] [0, 1] rfl rfl (by decide) (fun _ => rfl) (fun _ H locs w => ?_)
            refine lv_iload_n hx hb dX8_fewest_30 rfl (lv_at hl 2 rfl) ?_
            refine lv_icmp_lt (tgt := 36) hx hb dX8_fewest_31 (by decide) (fun c31 => ?_) (fun c31 => ?_)
            · have hf := pf_t c31 hf
              obtain ⟨x7, ex7⟩ : ∃ y : Int32, y = (x3 + 1) := ⟨_, rfl⟩
              have hf := pf_nm ex7 hf
              refine lv_iinc (v := x7) (lv' := [(3, .int x7), (0, .ref h0), (1, .int a1), (2, .int a2)]) hx hb dX8_fewest_36 hl (k := 3) rfl (by rw [ex7]; rfl) (by decide) rfl (fun ls hl => ?_)
              refine lv_goto (tgt := 18) hx hb dX8_fewest_39 (by decide) ?_
              exact ih18 _ _ _ _ _ hf w (lv_sub hl [1, 2, 3, 0] rfl)
            · have hf := pf_e c31 hf
              refine lv_iload_n hx hb dX8_fewest_34 rfl (lv_at hl 3 rfl) ?_
              exact hQ _ _ _ _ _ f6 (fun _ => 0) hf rfl w dX8_fewest_35
      exact klp_X8_fewest_18 FU _ _ _ _ _ hf w (lv_sub hl [1, 2, 3, 0] rfl)
    · have hf := pf_t c11 hf
      refine lv_iconst (v := (-1)) hx hb dX8_fewest_14 (by decide) ?_
      exact hQ _ _ _ _ _ t_drawnSize (fun _ => 0) hf rfl w dX8_fewest_15
set_option maxHeartbeats 8000000 in
set_option maxRecDepth 100000 in
theorem ct_X8_loosest (l : Launch) (E : hm_E) (sz : Nat) (h0 : Nat) (r_t : Nat → Nat) (t_base t_taped t_at t_faultPlace t_number t_newBits t_newTold t_newDoings t_newThings t_opened t_sum t_heldAll t_onPaper t_turned t_wasConverted t_lastBits t_lastSum t_lastHeld t_lastLeft t_lastCode t_writtenLong t_codeMany t_acts t_done0 t_stoppedAt : Int32) (t_drawnSize : Nat → Int32) (a1 : Int32) (a2 : Int32) (R : Int32 × (Nat → Int32)) (hf : pf_X8_loosest a1 a2 t_drawnSize = some R) : hm_Mi l E yX8_loosest cX8_loosest 4 .int [] (hm_rr 2 42 0 0) [.ref h0, .int a1, .int a2] sz [oc8 h0 r_t t_base t_taped t_at t_faultPlace t_number t_newBits t_newTold t_newDoings t_newThings t_opened t_sum t_heldAll t_onPaper t_turned t_wasConverted t_lastBits t_lastSum t_lastHeld t_lastLeft t_lastCode t_writtenLong t_codeMany t_acts t_done0 t_stoppedAt, ic E (r_t 45) 12 t_drawnSize] R.1 (fun _ => [oc8 h0 r_t t_base t_taped t_at t_faultPlace t_number t_newBits t_newTold t_newDoings t_newThings t_opened t_sum t_heldAll t_onPaper t_turned t_wasConverted t_lastBits t_lastSum t_lastHeld t_lastLeft t_lastCode t_writtenLong t_codeMany t_acts t_done0 t_stoppedAt, ic E (r_t 45) 12 R.2]) := by
  refine hm_ct_i R (fun u qs => [oc8 h0 r_t t_base t_taped t_at t_faultPlace t_number t_newBits t_newTold t_newDoings t_newThings t_opened t_sum t_heldAll t_onPaper t_turned t_wasConverted t_lastBits t_lastSum t_lastHeld t_lastLeft t_lastCode t_writtenLong t_codeMany t_acts t_done0 t_stoppedAt, ic E (r_t 45) 12 u]) (by decide) (Nat.le_of_ble_eq_true rfl) (Or.inl rfl) ?_
  intro p e s m args below meth c A Q ls H locs hx hb hml hown X hA Y hex w hl hQ
  have hl : lv_has ls 4 [(0, .ref h0), (1, .int a1), (2, .int a2)] := hl
  unfold pf_X8_loosest at hf
  refine lv_iload_n hx hb dX8_loosest_0 rfl (lv_at hl 1 rfl) ?_
  obtain ⟨r1, hc1, hf⟩ := pf_bi_0 hf
  refine hm_aft_i (ws' := fun _ => [oc8 h0 r_t t_base t_taped t_at t_faultPlace t_number t_newBits t_newTold t_newDoings t_newThings t_opened t_sum t_heldAll t_onPaper t_turned t_wasConverted t_lastBits t_lastSum t_lastHeld t_lastLeft t_lastCode t_writtenLong t_codeMany t_acts t_done0 t_stoppedAt, ic E (r_t 45) 12 t_drawnSize]) (hm_runS (rest := []) hx hb hml hown X hA Y w mw_X8_isWide ml_X8_374 dX8_loosest_1 hm_ac0 [.int a1] rfl [] rfl rfl (ct_X8_isWide l E H.size a1 (r1, ()) hc1) rfl hl.1 ⟨⟨rfl, rfl⟩, ⟨Nat.le_of_ble_eq_true rfl, Nat.le_of_ble_eq_true rfl⟩, ⟨Nat.le_of_ble_eq_true rfl, Nat.le_of_ble_eq_true rfl⟩, Nat.le_of_ble_eq_true rfl⟩) hA w [] [0, 1] [0, 1] rfl rfl (by decide) (fun _ => rfl) (fun _ H locs w => ?_)
  refine lv_if_eq (tgt := 14) hx hb dX8_loosest_4 (by decide) (fun c4 => ?_) (fun c4 => ?_)
  · have hf := pf_t c4 hf
    refine lv_iconst (v := (-1)) hx hb dX8_loosest_14 (by decide) ?_
    exact hQ _ _ _ _ _ t_drawnSize (fun _ => 0) hf rfl w dX8_loosest_15
  · have hf := pf_e c4 hf
    refine lv_iload_n hx hb dX8_loosest_7 rfl (lv_at hl 2 rfl) ?_
    obtain ⟨r2, hc8, hf⟩ := pf_bi_0 hf
    refine hm_aft_i (ws' := fun _ => [oc8 h0 r_t t_base t_taped t_at t_faultPlace t_number t_newBits t_newTold t_newDoings t_newThings t_opened t_sum t_heldAll t_onPaper t_turned t_wasConverted t_lastBits t_lastSum t_lastHeld t_lastLeft t_lastCode t_writtenLong t_codeMany t_acts t_done0 t_stoppedAt, ic E (r_t 45) 12 t_drawnSize]) (hm_runS (rest := []) hx hb hml hown X hA Y w mw_X8_isReach ml_X8_383 dX8_loosest_8 hm_ac0 [.int a2] rfl [] rfl rfl (ct_X8_isReach l E H.size a2 (r2, ()) hc8) rfl hl.1 ⟨⟨rfl, rfl⟩, ⟨Nat.le_of_ble_eq_true rfl, Nat.le_of_ble_eq_true rfl⟩, ⟨Nat.le_of_ble_eq_true rfl, Nat.le_of_ble_eq_true rfl⟩, Nat.le_of_ble_eq_true rfl⟩) hA w [] [0, 1] [0, 1] rfl rfl (by decide) (fun _ => rfl) (fun _ H locs w => ?_)
    refine lv_if_ne (tgt := 16) hx hb dX8_loosest_11 (by decide) (fun c11 => ?_) (fun c11 => ?_)
    · have hf := pf_e c11 hf
      refine lv_iconst (v := 0) hx hb dX8_loosest_16 (by decide) ?_
      refine lv_istore_n (lv' := [(3, .int 0), (0, .ref h0), (1, .int a1), (2, .int a2)]) hx hb dX8_loosest_17 rfl hl (by decide) rfl (fun ls hl => ?_)
      have klp_X8_loosest_18 : ∀ (n : Nat) (x3 : Int32) (f4 : Nat → Int32) (H : Heap) (locs : List Loc) (ls : Array Slot), lp_X8_loosest_18 a1 a2 n x3 f4 = some R → hm_W E A s.heap [oc8 h0 r_t t_base t_taped t_at t_faultPlace t_number t_newBits t_newTold t_newDoings t_newThings t_opened t_sum t_heldAll t_onPaper t_turned t_wasConverted t_lastBits t_lastSum t_lastHeld t_lastLeft t_lastCode t_writtenLong t_codeMany t_acts t_done0 t_stoppedAt, ic E (r_t 45) 12 f4] H locs → lv_has ls 4 [(0, .ref h0), (1, .int a1), (2, .int a2), (3, .int x3)] → W p l e (hm_rr 2 42 0 0) s m args below meth c H locs 0 0 Q (F0 m 18 ls []) := by
        intro n
        induction n with
        | zero =>
          intro x3 f4 H locs ls hf w hl
          exact pf_no hf
        | succ n ih18 =>
          intro x3 f4 H locs ls hf w hl
          rw [lp_X8_loosest_18] at hf
          refine lv_iload_n hx hb dX8_loosest_18 rfl (lv_at hl 3 rfl) ?_
          refine lv_bipush (v := 100) hx hb dX8_loosest_19 (by decide) ?_
          refine lv_icmp_gt (tgt := 42) hx hb dX8_loosest_21 (by decide) (fun c21 => ?_) (fun c21 => ?_)
          · have hf := pf_t c21 hf
            refine lv_iconst (v := (-1)) hx hb dX8_loosest_42 (by decide) ?_
            exact hQ _ _ _ _ _ f4 (fun _ => 0) hf rfl w dX8_loosest_43
          · have hf := pf_e c21 hf
            refine lv_aload_n hx hb dX8_loosest_24 rfl (lv_at hl 0 rfl) ?_
            refine lv_iload_n hx hb dX8_loosest_25 rfl (lv_at hl 1 rfl) ?_
            refine lv_iload_n hx hb dX8_loosest_26 rfl (lv_at hl 3 rfl) ?_
            obtain ⟨r5, f6, hc27, hf⟩ := pf_bi_1 hf
            refine hm_aft_i (ws' := fun _ => [oc8 h0 r_t t_base t_taped t_at t_faultPlace t_number t_newBits t_newTold t_newDoings t_newThings t_opened t_sum t_heldAll t_onPaper t_turned t_wasConverted t_lastBits t_lastSum t_lastHeld t_lastLeft t_lastCode t_writtenLong t_codeMany t_acts t_done0 t_stoppedAt, ic E (r_t 45) 12 f6]) (hm_runV (rest := []) hx hb hml hown X hA Y w 0 (ci := 7) (T := TX8) (N := 55) rfl rfl mw_X8_layDrawn ml_X8_380 dX8_loosest_27 hm_ac0 [.int a1, .int x3] rfl [0, 1] rfl rfl (ct_X8_layDrawn l E H.size h0 r_t t_base t_taped t_at t_faultPlace t_number t_newBits t_newTold t_newDoings t_newThings t_opened t_sum t_heldAll t_onPaper t_turned t_wasConverted t_lastBits t_lastSum t_lastHeld t_lastLeft t_lastCode t_writtenLong t_codeMany t_acts t_done0 t_stoppedAt f4 a1 x3 (r5, f6) hc27) rfl hl.1 ⟨⟨rfl, rfl⟩, ⟨Nat.le_of_ble_eq_true rfl, Nat.le_of_ble_eq_true rfl⟩, ⟨Nat.le_of_ble_eq_true rfl, Nat.le_of_ble_eq_true rfl⟩, Nat.le_of_ble_eq_true rfl⟩) hA w [0, 1] [] [0, 1] rfl rfl (by decide) (fun _ => rfl) (fun _ H locs w => ?_)
            refine lv_iload_n hx hb dX8_loosest_30 rfl (lv_at hl 2 rfl) ?_
            refine lv_icmp_lt (tgt := 36) hx hb dX8_loosest_31 (by decide) (fun c31 => ?_) (fun c31 => ?_)
            · have hf := pf_t c31 hf
              obtain ⟨x7, ex7⟩ : ∃ y : Int32, y = (x3 + 1) := ⟨_, rfl⟩
              have hf := pf_nm ex7 hf
              refine lv_iinc (v := x7) (lv' := [(3, .int x7), (0, .ref h0), (1, .int a1), (2, .int a2)]) hx hb dX8_loosest_36 hl (k := 3) rfl (by rw [ex7]; rfl) (by decide) rfl (fun ls hl => ?_)
              refine lv_goto (tgt := 18) hx hb dX8_loosest_39 (by decide) ?_
              exact ih18 _ _ _ _ _ hf w (lv_sub hl [1, 2, 3, 0] rfl)
            · have hf := pf_e c31 hf
              refine lv_iload_n hx hb dX8_loosest_34 rfl (lv_at hl 3 rfl) ?_
              exact hQ _ _ _ _ _ f6 (fun _ => 0) hf rfl w dX8_loosest_35
      exact klp_X8_loosest_18 FU _ _ _ _ _ hf w (lv_sub hl [1, 2, 3, 0] rfl)
    · have hf := pf_t c11 hf
      refine lv_iconst (v := (-1)) hx hb dX8_loosest_14 (by decide) ?_
      exact hQ _ _ _ _ _ t_drawnSize (fun _ => 0) hf rfl w dX8_loosest_15
set_option maxHeartbeats 8000000 in
set_option maxRecDepth 100000 in
theorem ct_X8_draw_ (l : Launch) (E : hm_E) (sz : Nat) (h0 : Nat) (r_t : Nat → Nat) (t_base t_taped t_at t_faultPlace t_number t_newBits t_newTold t_newDoings t_newThings t_opened t_sum t_heldAll t_onPaper t_turned t_wasConverted t_lastBits t_lastSum t_lastHeld t_lastLeft t_lastCode t_writtenLong t_codeMany t_acts t_done0 t_stoppedAt : Int32) (t_all : Nat → Int32) (t_drawnSize : Nat → Int32) (a1 : Int32) (a2 : Int32) (R : Int32 × (Nat → Int32) × Int32 × (Nat → Int32)) (hf : pf_X8_draw_ a1 a2 t_all t_base t_wasConverted t_drawnSize = some R) : hm_Mi l E yX8_draw_ cX8_draw_ 5 .boolean [] (hm_rr 2 45 0 0) [.ref h0, .int a1, .int a2] sz [oc8 h0 r_t t_base t_taped t_at t_faultPlace t_number t_newBits t_newTold t_newDoings t_newThings t_opened t_sum t_heldAll t_onPaper t_turned t_wasConverted t_lastBits t_lastSum t_lastHeld t_lastLeft t_lastCode t_writtenLong t_codeMany t_acts t_done0 t_stoppedAt, ic E (r_t 0) 800 t_all, ic E (r_t 45) 12 t_drawnSize] R.1 (fun _ => [oc8 h0 r_t t_base t_taped t_at t_faultPlace t_number t_newBits t_newTold t_newDoings t_newThings t_opened t_sum t_heldAll t_onPaper t_turned (R.2.2.1) t_lastBits t_lastSum t_lastHeld t_lastLeft t_lastCode t_writtenLong t_codeMany t_acts t_done0 t_stoppedAt, ic E (r_t 0) 800 (R.2.1), ic E (r_t 45) 12 (R.2.2.2)]) := by
  refine hm_ct_i R (fun u qs => [oc8 h0 r_t t_base t_taped t_at t_faultPlace t_number t_newBits t_newTold t_newDoings t_newThings t_opened t_sum t_heldAll t_onPaper t_turned (u.2.1) t_lastBits t_lastSum t_lastHeld t_lastLeft t_lastCode t_writtenLong t_codeMany t_acts t_done0 t_stoppedAt, ic E (r_t 0) 800 (u.1), ic E (r_t 45) 12 (u.2.2)]) (by decide) (Nat.le_of_ble_eq_true rfl) (Or.inr rfl) ?_
  intro p e s m args below meth c A Q ls H locs hx hb hml hown X hA Y hex w hl hQ
  have hl : lv_has ls 5 [(0, .ref h0), (1, .int a1), (2, .int a2)] := hl
  unfold pf_X8_draw_ at hf
  refine lv_iload_n hx hb dX8_draw__0 rfl (lv_at hl 1 rfl) ?_
  obtain ⟨r1, hc1, hf⟩ := pf_bi_0 hf
  refine hm_aft_i (ws' := fun _ => [oc8 h0 r_t t_base t_taped t_at t_faultPlace t_number t_newBits t_newTold t_newDoings t_newThings t_opened t_sum t_heldAll t_onPaper t_turned t_wasConverted t_lastBits t_lastSum t_lastHeld t_lastLeft t_lastCode t_writtenLong t_codeMany t_acts t_done0 t_stoppedAt, ic E (r_t 0) 800 t_all, ic E (r_t 45) 12 t_drawnSize]) (hm_runS (rest := []) hx hb hml hown X hA Y w mw_X8_isWide ml_X8_374 dX8_draw__1 hm_ac0 [.int a1] rfl [] rfl rfl (ct_X8_isWide l E H.size a1 (r1, ()) hc1) rfl hl.1 ⟨⟨rfl, rfl⟩, ⟨Nat.le_of_ble_eq_true rfl, Nat.le_of_ble_eq_true rfl⟩, ⟨Nat.le_of_ble_eq_true rfl, Nat.le_of_ble_eq_true rfl⟩, Nat.le_of_ble_eq_true rfl⟩) hA w [] [0, 1, 2] [0, 1, 2] rfl rfl (by decide) (fun _ => rfl) (fun _ H locs w => ?_)
  refine lv_if_eq (tgt := 14) hx hb dX8_draw__4 (by decide) (fun c4 => ?_) (fun c4 => ?_)
  · have hf := pf_t c4 hf
    refine lv_iconst (v := 0) hx hb dX8_draw__14 (by decide) ?_
    exact hQ _ _ _ _ _ (t_all, t_wasConverted, t_drawnSize) (fun _ => 0) hf rfl w dX8_draw__15
  · have hf := pf_e c4 hf
    refine lv_iload_n hx hb dX8_draw__7 rfl (lv_at hl 2 rfl) ?_
    obtain ⟨r2, hc8, hf⟩ := pf_bi_0 hf
    refine hm_aft_i (ws' := fun _ => [oc8 h0 r_t t_base t_taped t_at t_faultPlace t_number t_newBits t_newTold t_newDoings t_newThings t_opened t_sum t_heldAll t_onPaper t_turned t_wasConverted t_lastBits t_lastSum t_lastHeld t_lastLeft t_lastCode t_writtenLong t_codeMany t_acts t_done0 t_stoppedAt, ic E (r_t 0) 800 t_all, ic E (r_t 45) 12 t_drawnSize]) (hm_runS (rest := []) hx hb hml hown X hA Y w mw_X8_isPart ml_X8_377 dX8_draw__8 hm_ac0 [.int a2] rfl [] rfl rfl (ct_X8_isPart l E H.size a2 (r2, ()) hc8) rfl hl.1 ⟨⟨rfl, rfl⟩, ⟨Nat.le_of_ble_eq_true rfl, Nat.le_of_ble_eq_true rfl⟩, ⟨Nat.le_of_ble_eq_true rfl, Nat.le_of_ble_eq_true rfl⟩, Nat.le_of_ble_eq_true rfl⟩) hA w [] [0, 1, 2] [0, 1, 2] rfl rfl (by decide) (fun _ => rfl) (fun _ H locs w => ?_)
    refine lv_if_ne (tgt := 16) hx hb dX8_draw__11 (by decide) (fun c11 => ?_) (fun c11 => ?_)
    · have hf := pf_e c11 hf
      refine lv_aload_n hx hb dX8_draw__16 rfl (lv_at hl 0 rfl) ?_
      refine lv_iload_n hx hb dX8_draw__17 rfl (lv_at hl 1 rfl) ?_
      refine lv_iload_n hx hb dX8_draw__18 rfl (lv_at hl 2 rfl) ?_
      obtain ⟨r3, f4, hc19, hf⟩ := pf_bi_1 hf
      refine hm_aft_i (ws' := fun _ => [oc8 h0 r_t t_base t_taped t_at t_faultPlace t_number t_newBits t_newTold t_newDoings t_newThings t_opened t_sum t_heldAll t_onPaper t_turned t_wasConverted t_lastBits t_lastSum t_lastHeld t_lastLeft t_lastCode t_writtenLong t_codeMany t_acts t_done0 t_stoppedAt, ic E (r_t 0) 800 t_all, ic E (r_t 45) 12 f4]) (hm_runV (rest := []) hx hb hml hown X hA Y w 0 (ci := 7) (T := TX8) (N := 55) rfl rfl mw_X8_layDrawn ml_X8_380 dX8_draw__19 hm_ac0 [.int a1, .int a2] rfl [0, 2] rfl rfl (ct_X8_layDrawn l E H.size h0 r_t t_base t_taped t_at t_faultPlace t_number t_newBits t_newTold t_newDoings t_newThings t_opened t_sum t_heldAll t_onPaper t_turned t_wasConverted t_lastBits t_lastSum t_lastHeld t_lastLeft t_lastCode t_writtenLong t_codeMany t_acts t_done0 t_stoppedAt t_drawnSize a1 a2 (r3, f4) hc19) rfl hl.1 ⟨⟨rfl, rfl⟩, ⟨Nat.le_of_ble_eq_true rfl, Nat.le_of_ble_eq_true rfl⟩, ⟨Nat.le_of_ble_eq_true rfl, Nat.le_of_ble_eq_true rfl⟩, Nat.le_of_ble_eq_true rfl⟩) hA w [0, 2] [1] [1, 0, 2] rfl rfl (by decide) (fun _ => rfl) (fun _ H locs w => ?_)
      refine lv_istore_n (lv' := [(3, .int r3), (0, .ref h0), (1, .int a1), (2, .int a2)]) hx hb dX8_draw__22 rfl hl (by decide) rfl (fun ls hl => ?_)
      refine lv_aload_n hx hb dX8_draw__23 rfl (lv_at hl 1 rfl) ?_
      refine lv_iconst (v := 0) hx hb dX8_draw__24 (by decide) ?_
      refine lv_iload_n hx hb dX8_draw__25 rfl (lv_at hl 2 rfl) ?_
      obtain ⟨f5, hc26, hf⟩ := pf_bv_1 hf
      refine hm_aft_v (ws' := fun _ => [oc8 h0 r_t t_base t_taped t_at t_faultPlace t_number t_newBits t_newTold t_newDoings t_newThings t_opened t_sum t_heldAll t_onPaper t_turned t_wasConverted t_lastBits t_lastSum t_lastHeld t_lastLeft t_lastCode t_writtenLong t_codeMany t_acts t_done0 t_stoppedAt, ic E (r_t 0) 800 f5, ic E (r_t 45) 12 f4]) (hm_runV (rest := []) hx hb hml hown X hA Y w 0 (ci := 7) (T := TX8) (N := 55) rfl rfl mw_X8_put ml_X8_119 dX8_draw__26 hm_ac0 [.int 0, .int a1] rfl [0, 1] rfl rfl (ct_X8_put l E H.size h0 r_t t_base t_taped t_at t_faultPlace t_number t_newBits t_newTold t_newDoings t_newThings t_opened t_sum t_heldAll t_onPaper t_turned t_wasConverted t_lastBits t_lastSum t_lastHeld t_lastLeft t_lastCode t_writtenLong t_codeMany t_acts t_done0 t_stoppedAt t_all 0 a1 f5 hc26) rfl hl.1 ⟨⟨rfl, rfl⟩, ⟨Nat.le_of_ble_eq_true rfl, Nat.le_of_ble_eq_true rfl⟩, ⟨Nat.le_of_ble_eq_true rfl, Nat.le_of_ble_eq_true rfl⟩, Nat.le_of_ble_eq_true rfl⟩) hA w [0, 1] [2] [1, 2, 0] rfl rfl (by decide) (fun _ => rfl) (fun _ H locs w => ?_)
      refine lv_iconst (v := 0) hx hb dX8_draw__29 (by decide) ?_
      refine lv_istore (lv' := [(4, .int 0), (3, .int r3), (0, .ref h0), (1, .int a1), (2, .int a2)]) hx hb dX8_draw__30 hl (by decide) rfl (fun ls hl => ?_)
      obtain ⟨J58, hJ58, hf⟩ := pf_jn hf
      have kJ58 : ∀ (f6 : Nat → Int32) (H : Heap) (locs : List Loc) (ls : Array Slot), J58 f6 = some R → hm_W E A s.heap [oc8 h0 r_t t_base t_taped t_at t_faultPlace t_number t_newBits t_newTold t_newDoings t_newThings t_opened t_sum t_heldAll t_onPaper t_turned t_wasConverted t_lastBits t_lastSum t_lastHeld t_lastLeft t_lastCode t_writtenLong t_codeMany t_acts t_done0 t_stoppedAt, ic E (r_t 0) 800 f6, ic E (r_t 45) 12 f4] H locs → lv_has ls 5 [(0, .ref h0)] → W p l e (hm_rr 2 45 0 0) s m args below meth c H locs 0 0 Q (F0 m 58 ls []) := by
        intro f6 H locs ls hf w hl
        have hf := pf_j1 hJ58 hf
        refine lv_aload_n hx hb dX8_draw__58 rfl (lv_at hl 0 rfl) ?_
        refine lv_bipush (v := 57) hx hb dX8_draw__59 (by decide) ?_
        refine lv_iconst (v := 0) hx hb dX8_draw__61 (by decide) ?_
        obtain ⟨f7, hc62, hf⟩ := pf_bv_1 hf
        refine hm_aft_v (ws' := fun _ => [oc8 h0 r_t t_base t_taped t_at t_faultPlace t_number t_newBits t_newTold t_newDoings t_newThings t_opened t_sum t_heldAll t_onPaper t_turned t_wasConverted t_lastBits t_lastSum t_lastHeld t_lastLeft t_lastCode t_writtenLong t_codeMany t_acts t_done0 t_stoppedAt, ic E (r_t 0) 800 f7, ic E (r_t 45) 12 f4]) (hm_runV (rest := []) hx hb hml hown X hA Y w 0 (ci := 7) (T := TX8) (N := 55) rfl rfl mw_X8_put ml_X8_119 dX8_draw__62 hm_ac0 [.int 57, .int 0] rfl [0, 1] rfl rfl (ct_X8_put l E H.size h0 r_t t_base t_taped t_at t_faultPlace t_number t_newBits t_newTold t_newDoings t_newThings t_opened t_sum t_heldAll t_onPaper t_turned t_wasConverted t_lastBits t_lastSum t_lastHeld t_lastLeft t_lastCode t_writtenLong t_codeMany t_acts t_done0 t_stoppedAt f6 57 0 f7 hc62) rfl hl.1 ⟨⟨rfl, rfl⟩, ⟨Nat.le_of_ble_eq_true rfl, Nat.le_of_ble_eq_true rfl⟩, ⟨Nat.le_of_ble_eq_true rfl, Nat.le_of_ble_eq_true rfl⟩, Nat.le_of_ble_eq_true rfl⟩) hA w [0, 1] [2] [1, 2, 0] rfl rfl (by decide) (fun _ => rfl) (fun _ H locs w => ?_)
        refine lv_aload_n hx hb dX8_draw__65 rfl (lv_at hl 0 rfl) ?_
        refine lv_iconst (v := 0) hx hb dX8_draw__66 (by decide) ?_
        refine hm_put (ws' := [oc8 h0 r_t t_base t_taped t_at t_faultPlace t_number t_newBits t_newTold t_newDoings t_newThings t_opened t_sum t_heldAll t_onPaper t_turned 0 t_lastBits t_lastSum t_lastHeld t_lastLeft t_lastCode t_writtenLong t_codeMany t_acts t_done0 t_stoppedAt, ic E (r_t 0) 800 f7, ic E (r_t 45) 12 f4]) cb_X8 hx hb hown X w 0 33 fl_X8_181 dX8_draw__67 rfl (by decide) (Nat.le_of_ble_eq_true rfl) rfl rfl rfl rfl (fun H locs w => ?_)
        refine lv_iconst (v := 1) hx hb dX8_draw__70 (by decide) ?_
        exact hQ _ _ _ _ _ (f7, 0, f4) (fun _ => 0) hf rfl w dX8_draw__71
      have klp_X8_draw__32 : ∀ (n : Nat) (x8 : Int32) (f9 : Nat → Int32) (H : Heap) (locs : List Loc) (ls : Array Slot), lp_X8_draw__32 a1 t_base f4 J58 n x8 f9 = some R → hm_W E A s.heap [oc8 h0 r_t t_base t_taped t_at t_faultPlace t_number t_newBits t_newTold t_newDoings t_newThings t_opened t_sum t_heldAll t_onPaper t_turned t_wasConverted t_lastBits t_lastSum t_lastHeld t_lastLeft t_lastCode t_writtenLong t_codeMany t_acts t_done0 t_stoppedAt, ic E (r_t 0) 800 f9, ic E (r_t 45) 12 f4] H locs → lv_has ls 5 [(0, .ref h0), (1, .int a1), (4, .int x8)] → W p l e (hm_rr 2 45 0 0) s m args below meth c H locs 0 0 Q (F0 m 32 ls []) := by
        intro n
        induction n with
        | zero =>
          intro x8 f9 H locs ls hf w hl
          exact pf_no hf
        | succ n ih32 =>
          intro x8 f9 H locs ls hf w hl
          rw [lp_X8_draw__32] at hf
          refine lv_iload hx hb dX8_draw__32 (lv_at hl 2 rfl) ?_
          refine lv_iload_n hx hb dX8_draw__34 rfl (lv_at hl 1 rfl) ?_
          refine lv_icmp_ge (tgt := 58) hx hb dX8_draw__35 (by decide) (fun c35 => ?_) (fun c35 => ?_)
          · have hf := pf_t c35 hf
            exact kJ58 _ _ _ _ hf w (lv_sub hl [0] rfl)
          · have hf := pf_e c35 hf
            refine lv_aload_n hx hb dX8_draw__38 rfl (lv_at hl 0 rfl) ?_
            refine lv_iload hx hb dX8_draw__39 (lv_at hl 2 rfl) ?_
            refine lv_aload_n hx hb dX8_draw__41 rfl (lv_at hl 0 rfl) ?_
            refine hm_get cb_X8 hx hb hown X w 0 45 fl_X8_95 dX8_draw__42 rfl (by decide) rfl ?_
            refine lv_iload hx hb dX8_draw__45 (lv_at hl 2 rfl) ?_
            obtain ⟨g47, hf⟩ := pf_ckI hf
            refine hm_iald hx hb X w 2 dX8_draw__47 rfl g47 ?_
            refine lv_iconst (v := 0) hx hb dX8_draw__48 (by decide) ?_
            obtain ⟨f10, hc49, hf⟩ := pf_bv_1 hf
            refine hm_aft_v (ws' := fun _ => [oc8 h0 r_t t_base t_taped t_at t_faultPlace t_number t_newBits t_newTold t_newDoings t_newThings t_opened t_sum t_heldAll t_onPaper t_turned t_wasConverted t_lastBits t_lastSum t_lastHeld t_lastLeft t_lastCode t_writtenLong t_codeMany t_acts t_done0 t_stoppedAt, ic E (r_t 0) 800 f10, ic E (r_t 45) 12 f4]) (hm_runV (rest := []) hx hb hml hown X hA Y w 0 (ci := 7) (T := TX8) (N := 55) rfl rfl mw_X8_layBit ml_X8_177 dX8_draw__49 hm_ac0 [.int x8, .int (f4 x8.toNatClampNeg), .int 0] rfl [0, 1] rfl rfl (ct_X8_layBit l E H.size h0 r_t t_base t_taped t_at t_faultPlace t_number t_newBits t_newTold t_newDoings t_newThings t_opened t_sum t_heldAll t_onPaper t_turned t_wasConverted t_lastBits t_lastSum t_lastHeld t_lastLeft t_lastCode t_writtenLong t_codeMany t_acts t_done0 t_stoppedAt f9 x8 (f4 x8.toNatClampNeg) 0 f10 hc49) rfl hl.1 ⟨⟨rfl, rfl⟩, ⟨Nat.le_of_ble_eq_true rfl, Nat.le_of_ble_eq_true rfl⟩, ⟨Nat.le_of_ble_eq_true rfl, Nat.le_of_ble_eq_true rfl⟩, Nat.le_of_ble_eq_true rfl⟩) hA w [0, 1] [2] [1, 2, 0] rfl rfl (by decide) (fun _ => rfl) (fun _ H locs w => ?_)
            obtain ⟨x11, ex11⟩ : ∃ y : Int32, y = (x8 + 1) := ⟨_, rfl⟩
            have hf := pf_nm ex11 hf
            refine lv_iinc (v := x11) (lv' := [(4, .int x11), (0, .ref h0), (1, .int a1)]) hx hb dX8_draw__52 hl (k := 2) rfl (by rw [ex11]; rfl) (by decide) rfl (fun ls hl => ?_)
            refine lv_goto (tgt := 32) hx hb dX8_draw__55 (by decide) ?_
            exact ih32 _ _ _ _ _ hf w (lv_sub hl [1, 2, 0] rfl)
      exact klp_X8_draw__32 FU _ _ _ _ _ hf w (lv_sub hl [2, 3, 0] rfl)
    · have hf := pf_t c11 hf
      refine lv_iconst (v := 0) hx hb dX8_draw__14 (by decide) ?_
      exact hQ _ _ _ _ _ (t_all, t_wasConverted, t_drawnSize) (fun _ => 0) hf rfl w dX8_draw__15
set_option maxHeartbeats 8000000 in
set_option maxRecDepth 100000 in
theorem ct_X8_due (l : Launch) (E : hm_E) (sz : Nat) (h0 : Nat) (r_t : Nat → Nat) (t_base t_taped t_at t_faultPlace t_number t_newBits t_newTold t_newDoings t_newThings t_opened t_sum t_heldAll t_onPaper t_turned t_wasConverted t_lastBits t_lastSum t_lastHeld t_lastLeft t_lastCode t_writtenLong t_codeMany t_acts t_done0 t_stoppedAt : Int32) (t_all : Nat → Int32) (t_askedOf : Nat → Int32) (t_codes : Nat → Int32) (t_decided : Nat → Int32) (t_heldBehind : Nat → Int32) (t_nextOff : Nat → Int32) (t_pile : Nat → Int32) (t_sorted : Nat → Int32) (t_wasLate : Nat → Int32) (a1 : Int32) (a2 : Int32) (R : Int32 × (Nat → Int32) × Int32 × (Nat → Int32) × (Nat → Int32) × (Nat → Int32) × (Nat → Int32) × (Nat → Int32) × (Nat → Int32) × Int32 × Int32 × Int32 × (Nat → Int32) × (Nat → Int32) × Int32) (hf : pf_X8_due a1 a2 t_all t_base t_pile t_nextOff t_decided t_wasLate t_askedOf t_heldBehind t_sum t_heldAll t_onPaper t_turned t_codes t_sorted t_codeMany = some R) : hm_Mi l E yX8_due cX8_due 6 .int [] (hm_rr 6 139 0 0) [.ref h0, .int a1, .int a2] sz [oc8 h0 r_t t_base t_taped t_at t_faultPlace t_number t_newBits t_newTold t_newDoings t_newThings t_opened t_sum t_heldAll t_onPaper t_turned t_wasConverted t_lastBits t_lastSum t_lastHeld t_lastLeft t_lastCode t_writtenLong t_codeMany t_acts t_done0 t_stoppedAt, ic E (r_t 0) 800 t_all, ic E (r_t 27) 12 t_askedOf, ic E (r_t 42) 2000 t_codes, ic E (r_t 25) 12 t_decided, ic E (r_t 28) 12 t_heldBehind, ic E (r_t 24) 12 t_nextOff, ic E (r_t 23) 90 t_pile, ic E (r_t 43) 2000 t_sorted, zc E (r_t 26) 12 t_wasLate] R.1 (fun _ => [oc8 h0 r_t (R.2.2.1) t_taped t_at t_faultPlace t_number t_newBits t_newTold t_newDoings t_newThings t_opened (R.2.2.2.2.2.2.2.2.2.1) (R.2.2.2.2.2.2.2.2.2.2.1) (R.2.2.2.2.2.2.2.2.2.2.2.1) t_turned t_wasConverted t_lastBits t_lastSum t_lastHeld t_lastLeft t_lastCode t_writtenLong (R.2.2.2.2.2.2.2.2.2.2.2.2.2.2) t_acts t_done0 t_stoppedAt, ic E (r_t 0) 800 (R.2.1), ic E (r_t 27) 12 (R.2.2.2.2.2.2.2.1), ic E (r_t 42) 2000 (R.2.2.2.2.2.2.2.2.2.2.2.2.1), ic E (r_t 25) 12 (R.2.2.2.2.2.1), ic E (r_t 28) 12 (R.2.2.2.2.2.2.2.2.1), ic E (r_t 24) 12 (R.2.2.2.2.1), ic E (r_t 23) 90 (R.2.2.2.1), ic E (r_t 43) 2000 (R.2.2.2.2.2.2.2.2.2.2.2.2.2.1), zc E (r_t 26) 12 (R.2.2.2.2.2.2.1)]) := by
  refine hm_ct_i R (fun u qs => [oc8 h0 r_t (u.2.1) t_taped t_at t_faultPlace t_number t_newBits t_newTold t_newDoings t_newThings t_opened (u.2.2.2.2.2.2.2.2.1) (u.2.2.2.2.2.2.2.2.2.1) (u.2.2.2.2.2.2.2.2.2.2.1) t_turned t_wasConverted t_lastBits t_lastSum t_lastHeld t_lastLeft t_lastCode t_writtenLong (u.2.2.2.2.2.2.2.2.2.2.2.2.2) t_acts t_done0 t_stoppedAt, ic E (r_t 0) 800 (u.1), ic E (r_t 27) 12 (u.2.2.2.2.2.2.1), ic E (r_t 42) 2000 (u.2.2.2.2.2.2.2.2.2.2.2.1), ic E (r_t 25) 12 (u.2.2.2.2.1), ic E (r_t 28) 12 (u.2.2.2.2.2.2.2.1), ic E (r_t 24) 12 (u.2.2.2.1), ic E (r_t 23) 90 (u.2.2.1), ic E (r_t 43) 2000 (u.2.2.2.2.2.2.2.2.2.2.2.2.1), zc E (r_t 26) 12 (u.2.2.2.2.2.1)]) (by decide) (Nat.le_of_ble_eq_true rfl) (Or.inl rfl) ?_
  intro p e s m args below meth c A Q ls H locs hx hb hml hown X hA Y hex w hl hQ
  have hl : lv_has ls 6 [(0, .ref h0), (1, .int a1), (2, .int a2)] := hl
  unfold pf_X8_due at hf
  refine lv_aload_n hx hb dX8_due_0 rfl (lv_at hl 0 rfl) ?_
  refine lv_iconst (v := 0) hx hb dX8_due_1 (by decide) ?_
  obtain ⟨r1, hc2, hf⟩ := pf_bi_0 hf
  refine hm_aft_i (ws' := fun _ => [oc8 h0 r_t t_base t_taped t_at t_faultPlace t_number t_newBits t_newTold t_newDoings t_newThings t_opened t_sum t_heldAll t_onPaper t_turned t_wasConverted t_lastBits t_lastSum t_lastHeld t_lastLeft t_lastCode t_writtenLong t_codeMany t_acts t_done0 t_stoppedAt, ic E (r_t 0) 800 t_all, ic E (r_t 27) 12 t_askedOf, ic E (r_t 42) 2000 t_codes, ic E (r_t 25) 12 t_decided, ic E (r_t 28) 12 t_heldBehind, ic E (r_t 24) 12 t_nextOff, ic E (r_t 23) 90 t_pile, ic E (r_t 43) 2000 t_sorted, zc E (r_t 26) 12 t_wasLate]) (hm_runV (rest := []) hx hb hml hown X hA Y w 0 (ci := 7) (T := TX8) (N := 55) rfl rfl mw_X8_get ml_X8_221 dX8_due_2 hm_ac0 [.int 0] rfl [0, 1] rfl rfl (ct_X8_get l E H.size h0 r_t t_base t_taped t_at t_faultPlace t_number t_newBits t_newTold t_newDoings t_newThings t_opened t_sum t_heldAll t_onPaper t_turned t_wasConverted t_lastBits t_lastSum t_lastHeld t_lastLeft t_lastCode t_writtenLong t_codeMany t_acts t_done0 t_stoppedAt t_all 0 (r1, ()) hc2) rfl hl.1 ⟨⟨rfl, rfl⟩, ⟨Nat.le_of_ble_eq_true rfl, Nat.le_of_ble_eq_true rfl⟩, ⟨Nat.le_of_ble_eq_true rfl, Nat.le_of_ble_eq_true rfl⟩, Nat.le_of_ble_eq_true rfl⟩) hA w [0, 1] [2, 3, 4, 5, 6, 7, 8, 9] [8, 9, 0, 1, 2, 3, 4, 5, 6, 7] rfl rfl (by decide) (fun _ => rfl) (fun _ H locs w => ?_)
  refine lv_if_eq (tgt := 29) hx hb dX8_due_5 (by decide) (fun c5 => ?_) (fun c5 => ?_)
  · have hf := pf_t c5 hf
    refine lv_bipush (v := (-2)) hx hb dX8_due_29 (by decide) ?_
    exact hQ _ _ _ _ _ (t_all, t_base, t_pile, t_nextOff, t_decided, t_wasLate, t_askedOf, t_heldBehind, t_sum, t_heldAll, t_onPaper, t_codes, t_sorted, t_codeMany) (fun _ => 0) hf rfl w dX8_due_31
  · have hf := pf_e c5 hf
    refine lv_iload_n hx hb dX8_due_8 rfl (lv_at hl 1 rfl) ?_
    refine lv_if_lt (tgt := 29) hx hb dX8_due_9 (by decide) (fun c9 => ?_) (fun c9 => ?_)
    · have hf := pf_t c9 hf
      refine lv_bipush (v := (-2)) hx hb dX8_due_29 (by decide) ?_
      exact hQ _ _ _ _ _ (t_all, t_base, t_pile, t_nextOff, t_decided, t_wasLate, t_askedOf, t_heldBehind, t_sum, t_heldAll, t_onPaper, t_codes, t_sorted, t_codeMany) (fun _ => 0) hf rfl w dX8_due_31
    · have hf := pf_e c9 hf
      refine lv_iload_n hx hb dX8_due_12 rfl (lv_at hl 2 rfl) ?_
      refine lv_if_lt (tgt := 29) hx hb dX8_due_13 (by decide) (fun c13 => ?_) (fun c13 => ?_)
      · have hf := pf_t c13 hf
        refine lv_bipush (v := (-2)) hx hb dX8_due_29 (by decide) ?_
        exact hQ _ _ _ _ _ (t_all, t_base, t_pile, t_nextOff, t_decided, t_wasLate, t_askedOf, t_heldBehind, t_sum, t_heldAll, t_onPaper, t_codes, t_sorted, t_codeMany) (fun _ => 0) hf rfl w dX8_due_31
      · have hf := pf_e c13 hf
        refine lv_iconst (v := 0) hx hb dX8_due_16 (by decide) ?_
        refine lv_iload_n hx hb dX8_due_17 rfl (lv_at hl 2 rfl) ?_
        refine lv_aload_n hx hb dX8_due_18 rfl (lv_at hl 0 rfl) ?_
        refine lv_iconst (v := 5) hx hb dX8_due_19 (by decide) ?_
        obtain ⟨r2, hc20, hf⟩ := pf_bi_0 hf
        refine hm_aft_i (ws' := fun _ => [oc8 h0 r_t t_base t_taped t_at t_faultPlace t_number t_newBits t_newTold t_newDoings t_newThings t_opened t_sum t_heldAll t_onPaper t_turned t_wasConverted t_lastBits t_lastSum t_lastHeld t_lastLeft t_lastCode t_writtenLong t_codeMany t_acts t_done0 t_stoppedAt, ic E (r_t 0) 800 t_all, ic E (r_t 27) 12 t_askedOf, ic E (r_t 42) 2000 t_codes, ic E (r_t 25) 12 t_decided, ic E (r_t 28) 12 t_heldBehind, ic E (r_t 24) 12 t_nextOff, ic E (r_t 23) 90 t_pile, ic E (r_t 43) 2000 t_sorted, zc E (r_t 26) 12 t_wasLate]) (hm_runV (rest := [.int a2, .int 0]) hx hb hml hown X hA Y w 0 (ci := 7) (T := TX8) (N := 55) rfl rfl mw_X8_get ml_X8_221 dX8_due_20 hm_ac0 [.int 5] rfl [0, 1] rfl rfl (ct_X8_get l E H.size h0 r_t t_base t_taped t_at t_faultPlace t_number t_newBits t_newTold t_newDoings t_newThings t_opened t_sum t_heldAll t_onPaper t_turned t_wasConverted t_lastBits t_lastSum t_lastHeld t_lastLeft t_lastCode t_writtenLong t_codeMany t_acts t_done0 t_stoppedAt t_all 5 (r2, ()) hc20) rfl hl.1 ⟨⟨rfl, rfl⟩, ⟨Nat.le_of_ble_eq_true rfl, Nat.le_of_ble_eq_true rfl⟩, ⟨Nat.le_of_ble_eq_true rfl, Nat.le_of_ble_eq_true rfl⟩, Nat.le_of_ble_eq_true rfl⟩) hA w [0, 1] [2, 3, 4, 5, 6, 7, 8, 9] [8, 9, 0, 1, 2, 3, 4, 5, 6, 7] rfl rfl (by decide) (fun _ => rfl) (fun _ H locs w => ?_)
        obtain ⟨r3, hc23, hf⟩ := pf_bi_0 hf
        refine hm_aft_i (ws' := fun _ => [oc8 h0 r_t t_base t_taped t_at t_faultPlace t_number t_newBits t_newTold t_newDoings t_newThings t_opened t_sum t_heldAll t_onPaper t_turned t_wasConverted t_lastBits t_lastSum t_lastHeld t_lastLeft t_lastCode t_writtenLong t_codeMany t_acts t_done0 t_stoppedAt, ic E (r_t 0) 800 t_all, ic E (r_t 27) 12 t_askedOf, ic E (r_t 42) 2000 t_codes, ic E (r_t 25) 12 t_decided, ic E (r_t 28) 12 t_heldBehind, ic E (r_t 24) 12 t_nextOff, ic E (r_t 23) 90 t_pile, ic E (r_t 43) 2000 t_sorted, zc E (r_t 26) 12 t_wasLate]) (hm_runS (rest := []) hx hb hml hown X hA Y w mw_X8_isRow ml_X8_344 dX8_due_23 hm_ac0 [.int 0, .int a2, .int r2] rfl [] rfl rfl (ct_X8_isRow l E H.size 0 a2 r2 (r3, ()) hc23) rfl hl.1 ⟨⟨rfl, rfl⟩, ⟨Nat.le_of_ble_eq_true rfl, Nat.le_of_ble_eq_true rfl⟩, ⟨Nat.le_of_ble_eq_true rfl, Nat.le_of_ble_eq_true rfl⟩, Nat.le_of_ble_eq_true rfl⟩) hA w [] [0, 1, 2, 3, 4, 5, 6, 7, 8, 9] [0, 1, 2, 3, 4, 5, 6, 7, 8, 9] rfl rfl (by decide) (fun _ => rfl) (fun _ H locs w => ?_)
        refine lv_if_ne (tgt := 32) hx hb dX8_due_26 (by decide) (fun c26 => ?_) (fun c26 => ?_)
        · have hf := pf_e c26 hf
          refine lv_aload_n hx hb dX8_due_32 rfl (lv_at hl 0 rfl) ?_
          obtain ⟨f4, x5, hc33, hf⟩ := pf_bv_2 hf
          refine hm_aft_v (ws' := fun _ => [oc8 h0 r_t x5 t_taped t_at t_faultPlace t_number t_newBits t_newTold t_newDoings t_newThings t_opened t_sum t_heldAll t_onPaper t_turned t_wasConverted t_lastBits t_lastSum t_lastHeld t_lastLeft t_lastCode t_writtenLong t_codeMany t_acts t_done0 t_stoppedAt, ic E (r_t 0) 800 f4, ic E (r_t 27) 12 t_askedOf, ic E (r_t 42) 2000 t_codes, ic E (r_t 25) 12 t_decided, ic E (r_t 28) 12 t_heldBehind, ic E (r_t 24) 12 t_nextOff, ic E (r_t 23) 90 t_pile, ic E (r_t 43) 2000 t_sorted, zc E (r_t 26) 12 t_wasLate]) (hm_runV (rest := []) hx hb hml hown X hA Y w 0 (ci := 7) (T := TX8) (N := 55) rfl rfl mw_X8_goAside ml_X8_359 dX8_due_33 hm_ac0 [] rfl [0, 1] rfl rfl (ct_X8_goAside l E H.size h0 r_t t_base t_taped t_at t_faultPlace t_number t_newBits t_newTold t_newDoings t_newThings t_opened t_sum t_heldAll t_onPaper t_turned t_wasConverted t_lastBits t_lastSum t_lastHeld t_lastLeft t_lastCode t_writtenLong t_codeMany t_acts t_done0 t_stoppedAt t_all (f4, x5) hc33) rfl hl.1 ⟨⟨rfl, rfl⟩, ⟨Nat.le_of_ble_eq_true rfl, Nat.le_of_ble_eq_true rfl⟩, ⟨Nat.le_of_ble_eq_true rfl, Nat.le_of_ble_eq_true rfl⟩, Nat.le_of_ble_eq_true rfl⟩) hA w [0, 1] [2, 3, 4, 5, 6, 7, 8, 9] [8, 9, 0, 1, 2, 3, 4, 5, 6, 7] rfl rfl (by decide) (fun _ => rfl) (fun _ H locs w => ?_)
          refine lv_iconst (v := (-1)) hx hb dX8_due_36 (by decide) ?_
          refine lv_istore_n (lv' := [(3, .int (-1)), (0, .ref h0), (1, .int a1), (2, .int a2)]) hx hb dX8_due_37 rfl hl (by decide) rfl (fun ls hl => ?_)
          refine lv_iconst (v := 0) hx hb dX8_due_38 (by decide) ?_
          refine lv_istore (lv' := [(4, .int 0), (3, .int (-1)), (0, .ref h0), (1, .int a1), (2, .int a2)]) hx hb dX8_due_39 hl (by decide) rfl (fun ls hl => ?_)
          have klp_X8_due_41 : ∀ (n : Nat) (x6 : Int32) (x7 : Int32) (f8 : Nat → Int32) (f9 : Nat → Int32) (f10 : Nat → Int32) (f11 : Nat → Int32) (f12 : Nat → Int32) (f13 : Nat → Int32) (f14 : Nat → Int32) (x15 : Int32) (x16 : Int32) (x17 : Int32) (f18 : Nat → Int32) (f19 : Nat → Int32) (x20 : Int32) (H : Heap) (locs : List Loc) (ls : Array Slot), lp_X8_due_41 a1 a2 t_turned x5 n x6 x7 f8 f9 f10 f11 f12 f13 f14 x15 x16 x17 f18 f19 x20 = some R → hm_W E A s.heap [oc8 h0 r_t x5 t_taped t_at t_faultPlace t_number t_newBits t_newTold t_newDoings t_newThings t_opened x15 x16 x17 t_turned t_wasConverted t_lastBits t_lastSum t_lastHeld t_lastLeft t_lastCode t_writtenLong x20 t_acts t_done0 t_stoppedAt, ic E (r_t 0) 800 f8, ic E (r_t 27) 12 f13, ic E (r_t 42) 2000 f18, ic E (r_t 25) 12 f11, ic E (r_t 28) 12 f14, ic E (r_t 24) 12 f10, ic E (r_t 23) 90 f9, ic E (r_t 43) 2000 f19, zc E (r_t 26) 12 f12] H locs → lv_has ls 6 [(0, .ref h0), (1, .int a1), (2, .int a2), (3, .int x6), (4, .int x7)] → W p l e (hm_rr 6 139 0 0) s m args below meth c H locs 0 0 Q (F0 m 41 ls []) := by
            intro n
            induction n with
            | zero =>
              intro x6 x7 f8 f9 f10 f11 f12 f13 f14 x15 x16 x17 f18 f19 x20 H locs ls hf w hl
              exact pf_no hf
            | succ n ih41 =>
              intro x6 x7 f8 f9 f10 f11 f12 f13 f14 x15 x16 x17 f18 f19 x20 H locs ls hf w hl
              rw [lp_X8_due_41] at hf
              refine lv_iload hx hb dX8_due_41 (lv_at hl 4 rfl) ?_
              refine lv_bipush (v := 100) hx hb dX8_due_43 (by decide) ?_
              refine lv_icmp_gt (tgt := 99) hx hb dX8_due_45 (by decide) (fun c45 => ?_) (fun c45 => ?_)
              · have hf := pf_t c45 hf
                refine lv_aload_n hx hb dX8_due_99 rfl (lv_at hl 0 rfl) ?_
                obtain ⟨x21, hc100, hf⟩ := pf_bv_1 hf
                refine hm_aft_v (ws' := fun _ => [oc8 h0 r_t x21 t_taped t_at t_faultPlace t_number t_newBits t_newTold t_newDoings t_newThings t_opened x15 x16 x17 t_turned t_wasConverted t_lastBits t_lastSum t_lastHeld t_lastLeft t_lastCode t_writtenLong x20 t_acts t_done0 t_stoppedAt, ic E (r_t 0) 800 f8, ic E (r_t 27) 12 f13, ic E (r_t 42) 2000 f18, ic E (r_t 25) 12 f11, ic E (r_t 28) 12 f14, ic E (r_t 24) 12 f10, ic E (r_t 23) 90 f9, ic E (r_t 43) 2000 f19, zc E (r_t 26) 12 f12]) (hm_runV (rest := []) hx hb hml hown X hA Y w 0 (ci := 7) (T := TX8) (N := 55) rfl rfl mw_X8_comeBack ml_X8_371 dX8_due_100 hm_ac0 [] rfl [0] rfl rfl (ct_X8_comeBack l E H.size h0 r_t x5 t_taped t_at t_faultPlace t_number t_newBits t_newTold t_newDoings t_newThings t_opened x15 x16 x17 t_turned t_wasConverted t_lastBits t_lastSum t_lastHeld t_lastLeft t_lastCode t_writtenLong x20 t_acts t_done0 t_stoppedAt x21 hc100) rfl hl.1 ⟨⟨rfl, rfl⟩, ⟨Nat.le_of_ble_eq_true rfl, Nat.le_of_ble_eq_true rfl⟩, ⟨Nat.le_of_ble_eq_true rfl, Nat.le_of_ble_eq_true rfl⟩, Nat.le_of_ble_eq_true rfl⟩) hA w [0] [1, 2, 3, 4, 5, 6, 7, 8, 9] [9, 0, 1, 2, 3, 4, 5, 6, 7, 8] rfl rfl (by decide) (fun _ => rfl) (fun _ H locs w => ?_)
                refine lv_iload_n hx hb dX8_due_103 rfl (lv_at hl 3 rfl) ?_
                exact hQ _ _ _ _ _ (f8, x21, f9, f10, f11, f12, f13, f14, x15, x16, x17, f18, f19, x20) (fun _ => 0) hf rfl w dX8_due_104
              · have hf := pf_e c45 hf
                refine lv_iload_n hx hb dX8_due_48 rfl (lv_at hl 3 rfl) ?_
                refine lv_iconst (v := (-1)) hx hb dX8_due_49 (by decide) ?_
                refine lv_icmp_ne (tgt := 99) hx hb dX8_due_50 (by decide) (fun c50 => ?_) (fun c50 => ?_)
                · have hf := pf_e c50 hf
                  refine lv_aload_n hx hb dX8_due_99 rfl (lv_at hl 0 rfl) ?_
                  obtain ⟨x22, hc100, hf⟩ := pf_bv_1 hf
                  refine hm_aft_v (ws' := fun _ => [oc8 h0 r_t x22 t_taped t_at t_faultPlace t_number t_newBits t_newTold t_newDoings t_newThings t_opened x15 x16 x17 t_turned t_wasConverted t_lastBits t_lastSum t_lastHeld t_lastLeft t_lastCode t_writtenLong x20 t_acts t_done0 t_stoppedAt, ic E (r_t 0) 800 f8, ic E (r_t 27) 12 f13, ic E (r_t 42) 2000 f18, ic E (r_t 25) 12 f11, ic E (r_t 28) 12 f14, ic E (r_t 24) 12 f10, ic E (r_t 23) 90 f9, ic E (r_t 43) 2000 f19, zc E (r_t 26) 12 f12]) (hm_runV (rest := []) hx hb hml hown X hA Y w 0 (ci := 7) (T := TX8) (N := 55) rfl rfl mw_X8_comeBack ml_X8_371 dX8_due_100 hm_ac0 [] rfl [0] rfl rfl (ct_X8_comeBack l E H.size h0 r_t x5 t_taped t_at t_faultPlace t_number t_newBits t_newTold t_newDoings t_newThings t_opened x15 x16 x17 t_turned t_wasConverted t_lastBits t_lastSum t_lastHeld t_lastLeft t_lastCode t_writtenLong x20 t_acts t_done0 t_stoppedAt x22 hc100) rfl hl.1 ⟨⟨rfl, rfl⟩, ⟨Nat.le_of_ble_eq_true rfl, Nat.le_of_ble_eq_true rfl⟩, ⟨Nat.le_of_ble_eq_true rfl, Nat.le_of_ble_eq_true rfl⟩, Nat.le_of_ble_eq_true rfl⟩) hA w [0] [1, 2, 3, 4, 5, 6, 7, 8, 9] [9, 0, 1, 2, 3, 4, 5, 6, 7, 8] rfl rfl (by decide) (fun _ => rfl) (fun _ H locs w => ?_)
                  refine lv_iload_n hx hb dX8_due_103 rfl (lv_at hl 3 rfl) ?_
                  exact hQ _ _ _ _ _ (f8, x22, f9, f10, f11, f12, f13, f14, x15, x16, x17, f18, f19, x20) (fun _ => 0) hf rfl w dX8_due_104
                · have hf := pf_t c50 hf
                  refine lv_aload_n hx hb dX8_due_53 rfl (lv_at hl 0 rfl) ?_
                  refine lv_iconst (v := 0) hx hb dX8_due_54 (by decide) ?_
                  refine lv_iload_n hx hb dX8_due_55 rfl (lv_at hl 2 rfl) ?_
                  refine lv_aload_n hx hb dX8_due_56 rfl (lv_at hl 0 rfl) ?_
                  refine lv_iconst (v := 5) hx hb dX8_due_57 (by decide) ?_
                  obtain ⟨r23, hc58, hf⟩ := pf_bi_0 hf
                  refine hm_aft_i (ws' := fun _ => [oc8 h0 r_t x5 t_taped t_at t_faultPlace t_number t_newBits t_newTold t_newDoings t_newThings t_opened x15 x16 x17 t_turned t_wasConverted t_lastBits t_lastSum t_lastHeld t_lastLeft t_lastCode t_writtenLong x20 t_acts t_done0 t_stoppedAt, ic E (r_t 0) 800 f8, ic E (r_t 27) 12 f13, ic E (r_t 42) 2000 f18, ic E (r_t 25) 12 f11, ic E (r_t 28) 12 f14, ic E (r_t 24) 12 f10, ic E (r_t 23) 90 f9, ic E (r_t 43) 2000 f19, zc E (r_t 26) 12 f12]) (hm_runV (rest := [.int a2, .int 0, .ref h0]) hx hb hml hown X hA Y w 0 (ci := 7) (T := TX8) (N := 55) rfl rfl mw_X8_get ml_X8_221 dX8_due_58 hm_ac0 [.int 5] rfl [0, 1] rfl rfl (ct_X8_get l E H.size h0 r_t x5 t_taped t_at t_faultPlace t_number t_newBits t_newTold t_newDoings t_newThings t_opened x15 x16 x17 t_turned t_wasConverted t_lastBits t_lastSum t_lastHeld t_lastLeft t_lastCode t_writtenLong x20 t_acts t_done0 t_stoppedAt f8 5 (r23, ()) hc58) rfl hl.1 ⟨⟨rfl, rfl⟩, ⟨Nat.le_of_ble_eq_true rfl, Nat.le_of_ble_eq_true rfl⟩, ⟨Nat.le_of_ble_eq_true rfl, Nat.le_of_ble_eq_true rfl⟩, Nat.le_of_ble_eq_true rfl⟩) hA w [0, 1] [2, 3, 4, 5, 6, 7, 8, 9] [8, 9, 0, 1, 2, 3, 4, 5, 6, 7] rfl rfl (by decide) (fun _ => rfl) (fun _ H locs w => ?_)
                  obtain ⟨f24, f25, f26, f27, f28, x29, x30, x31, f32, f33, x34, hc61, hf⟩ := pf_bv_11 hf
                  refine hm_aft_v (ws' := fun _ => [oc8 h0 r_t x5 t_taped t_at t_faultPlace t_number t_newBits t_newTold t_newDoings t_newThings t_opened x29 x30 x31 t_turned t_wasConverted t_lastBits t_lastSum t_lastHeld t_lastLeft t_lastCode t_writtenLong x34 t_acts t_done0 t_stoppedAt, ic E (r_t 0) 800 f24, ic E (r_t 27) 12 f27, ic E (r_t 42) 2000 f32, ic E (r_t 25) 12 f25, ic E (r_t 28) 12 f28, ic E (r_t 24) 12 f10, ic E (r_t 23) 90 f9, ic E (r_t 43) 2000 f33, zc E (r_t 26) 12 f26]) (hm_runV (rest := []) hx hb hml hown X hA Y w 0 (ci := 7) (T := TX8) (N := 55) rfl rfl mw_X8_layCodes ml_X8_347 dX8_due_61 hm_ac0 [.int 0, .int a2, .int r23] rfl [0, 1, 2, 3, 4, 5, 8, 9] rfl rfl (ct_X8_layCodes l E H.size h0 r_t x5 t_taped t_at t_faultPlace t_number t_newBits t_newTold t_newDoings t_newThings t_opened x15 x16 x17 t_turned t_wasConverted t_lastBits t_lastSum t_lastHeld t_lastLeft t_lastCode t_writtenLong x20 t_acts t_done0 t_stoppedAt f8 f13 f18 f11 f14 f19 f12 0 a2 r23 (f24, f25, f26, f27, f28, x29, x30, x31, f32, f33, x34) hc61) rfl hl.1 ⟨⟨rfl, rfl⟩, ⟨Nat.le_of_ble_eq_true rfl, Nat.le_of_ble_eq_true rfl⟩, ⟨Nat.le_of_ble_eq_true rfl, Nat.le_of_ble_eq_true rfl⟩, Nat.le_of_ble_eq_true rfl⟩) hA w [0, 1, 2, 3, 4, 5, 8, 9] [6, 7] [2, 3, 4, 5, 6, 7, 0, 1, 8, 9] rfl rfl (by decide) (fun _ => rfl) (fun _ H locs w => ?_)
                  refine lv_aload_n hx hb dX8_due_64 rfl (lv_at hl 0 rfl) ?_
                  refine lv_iconst (v := 0) hx hb dX8_due_65 (by decide) ?_
                  refine lv_aload_n hx hb dX8_due_66 rfl (lv_at hl 0 rfl) ?_
                  refine lv_iconst (v := 5) hx hb dX8_due_67 (by decide) ?_
                  obtain ⟨r35, hc68, hf⟩ := pf_bi_0 hf
                  refine hm_aft_i (ws' := fun _ => [oc8 h0 r_t x5 t_taped t_at t_faultPlace t_number t_newBits t_newTold t_newDoings t_newThings t_opened x29 x30 x31 t_turned t_wasConverted t_lastBits t_lastSum t_lastHeld t_lastLeft t_lastCode t_writtenLong x34 t_acts t_done0 t_stoppedAt, ic E (r_t 0) 800 f24, ic E (r_t 27) 12 f27, ic E (r_t 42) 2000 f32, ic E (r_t 25) 12 f25, ic E (r_t 28) 12 f28, ic E (r_t 24) 12 f10, ic E (r_t 23) 90 f9, ic E (r_t 43) 2000 f33, zc E (r_t 26) 12 f26]) (hm_runV (rest := [.int 0, .ref h0]) hx hb hml hown X hA Y w 0 (ci := 7) (T := TX8) (N := 55) rfl rfl mw_X8_get ml_X8_221 dX8_due_68 hm_ac0 [.int 5] rfl [0, 1] rfl rfl (ct_X8_get l E H.size h0 r_t x5 t_taped t_at t_faultPlace t_number t_newBits t_newTold t_newDoings t_newThings t_opened x29 x30 x31 t_turned t_wasConverted t_lastBits t_lastSum t_lastHeld t_lastLeft t_lastCode t_writtenLong x34 t_acts t_done0 t_stoppedAt f24 5 (r35, ()) hc68) rfl hl.1 ⟨⟨rfl, rfl⟩, ⟨Nat.le_of_ble_eq_true rfl, Nat.le_of_ble_eq_true rfl⟩, ⟨Nat.le_of_ble_eq_true rfl, Nat.le_of_ble_eq_true rfl⟩, Nat.le_of_ble_eq_true rfl⟩) hA w [0, 1] [2, 3, 4, 5, 6, 7, 8, 9] [8, 9, 0, 1, 2, 3, 4, 5, 6, 7] rfl rfl (by decide) (fun _ => rfl) (fun _ H locs w => ?_)
                  refine lv_iconst (v := 3) hx hb dX8_due_71 (by decide) ?_
                  obtain ⟨r36, hc72, hf⟩ := pf_bi_0 hf
                  refine hm_aft_i (ws' := fun _ => [oc8 h0 r_t x5 t_taped t_at t_faultPlace t_number t_newBits t_newTold t_newDoings t_newThings t_opened x29 x30 x31 t_turned t_wasConverted t_lastBits t_lastSum t_lastHeld t_lastLeft t_lastCode t_writtenLong x34 t_acts t_done0 t_stoppedAt, ic E (r_t 0) 800 f24, ic E (r_t 27) 12 f27, ic E (r_t 42) 2000 f32, ic E (r_t 25) 12 f25, ic E (r_t 28) 12 f28, ic E (r_t 24) 12 f10, ic E (r_t 23) 90 f9, ic E (r_t 43) 2000 f33, zc E (r_t 26) 12 f26]) (hm_runV (rest := []) hx hb hml hown X hA Y w 0 (ci := 7) (T := TX8) (N := 55) rfl rfl mw_X8_ofHistogram ml_X8_350 dX8_due_72 hm_ac0 [.int 0, .int r35, .int 3] rfl [0, 1, 3, 8] rfl rfl (ct_X8_ofHistogram l E H.size h0 r_t x5 t_taped t_at t_faultPlace t_number t_newBits t_newTold t_newDoings t_newThings t_opened x29 x30 x31 t_turned t_wasConverted t_lastBits t_lastSum t_lastHeld t_lastLeft t_lastCode t_writtenLong x34 t_acts t_done0 t_stoppedAt f24 f32 f33 0 r35 3 (r36, ()) hc72) rfl hl.1 ⟨⟨rfl, rfl⟩, ⟨Nat.le_of_ble_eq_true rfl, Nat.le_of_ble_eq_true rfl⟩, ⟨Nat.le_of_ble_eq_true rfl, Nat.le_of_ble_eq_true rfl⟩, Nat.le_of_ble_eq_true rfl⟩) hA w [0, 1, 3, 8] [2, 4, 5, 6, 7, 9] [6, 7, 0, 8, 1, 2, 3, 4, 9, 5] rfl rfl (by decide) (fun _ => rfl) (fun _ H locs w => ?_)
                  refine lv_iload_n hx hb dX8_due_75 rfl (lv_at hl 1 rfl) ?_
                  obtain ⟨J82, hJ82, hf⟩ := pf_jn hf
                  have kJ82 : ∀ (x37 : Int32) (H : Heap) (locs : List Loc) (ls : Array Slot), J82 x37 = some R → hm_W E A s.heap [oc8 h0 r_t x5 t_taped t_at t_faultPlace t_number t_newBits t_newTold t_newDoings t_newThings t_opened x29 x30 x31 t_turned t_wasConverted t_lastBits t_lastSum t_lastHeld t_lastLeft t_lastCode t_writtenLong x34 t_acts t_done0 t_stoppedAt, ic E (r_t 0) 800 f24, ic E (r_t 27) 12 f27, ic E (r_t 42) 2000 f32, ic E (r_t 25) 12 f25, ic E (r_t 28) 12 f28, ic E (r_t 24) 12 f10, ic E (r_t 23) 90 f9, ic E (r_t 43) 2000 f33, zc E (r_t 26) 12 f26] H locs → lv_has ls 6 [(0, .ref h0), (1, .int a1), (2, .int a2), (3, .int x37), (4, .int x7)] → W p l e (hm_rr 6 139 0 0) s m args below meth c H locs 0 0 Q (F0 m 82 ls []) := by
                    intro x37 H locs ls hf w hl
                    have hf := pf_j1 hJ82 hf
                    refine lv_iload_n hx hb dX8_due_82 rfl (lv_at hl 3 rfl) ?_
                    refine lv_iconst (v := (-1)) hx hb dX8_due_83 (by decide) ?_
                    refine lv_icmp_ne (tgt := 93) hx hb dX8_due_84 (by decide) (fun c84 => ?_) (fun c84 => ?_)
                    · have hf := pf_e c84 hf
                      obtain ⟨x38, ex38⟩ : ∃ y : Int32, y = (x7 + 1) := ⟨_, rfl⟩
                      have hf := pf_nm ex38 hf
                      refine lv_iinc (v := x38) (lv' := [(4, .int x38), (0, .ref h0), (1, .int a1), (2, .int a2), (3, .int x37)]) hx hb dX8_due_93 hl (k := 4) rfl (by rw [ex38]; rfl) (by decide) rfl (fun ls hl => ?_)
                      refine lv_goto (tgt := 41) hx hb dX8_due_96 (by decide) ?_
                      exact ih41 _ _ _ _ _ _ _ _ _ _ _ _ _ _ _ _ _ _ hf w (lv_sub hl [1, 2, 3, 4, 0] rfl)
                    · have hf := pf_t c84 hf
                      refine lv_aload_n hx hb dX8_due_87 rfl (lv_at hl 0 rfl) ?_
                      obtain ⟨r39, f40, f41, f42, hc88, hf⟩ := pf_bi_3 hf
                      refine hm_aft_i (ws' := fun _ => [oc8 h0 r_t x5 t_taped t_at t_faultPlace t_number t_newBits t_newTold t_newDoings t_newThings t_opened x29 x30 x31 t_turned t_wasConverted t_lastBits t_lastSum t_lastHeld t_lastLeft t_lastCode t_writtenLong x34 t_acts t_done0 t_stoppedAt, ic E (r_t 0) 800 f40, ic E (r_t 27) 12 f27, ic E (r_t 42) 2000 f32, ic E (r_t 25) 12 f25, ic E (r_t 28) 12 f28, ic E (r_t 24) 12 f42, ic E (r_t 23) 90 f41, ic E (r_t 43) 2000 f33, zc E (r_t 26) 12 f26]) (hm_runV (rest := []) hx hb hml hown X hA Y w 0 (ci := 7) (T := TX8) (N := 55) rfl rfl mw_X8_hour ml_X8_241 dX8_due_88 hm_ac0 [] rfl [0, 1, 6, 7] rfl rfl (ct_X8_hour l E H.size h0 r_t x5 t_taped t_at t_faultPlace t_number t_newBits t_newTold t_newDoings t_newThings t_opened x29 x30 x31 t_turned t_wasConverted t_lastBits t_lastSum t_lastHeld t_lastLeft t_lastCode t_writtenLong x34 t_acts t_done0 t_stoppedAt f24 f10 f9 (r39, f40, f41, f42) hc88) rfl hl.1 ⟨⟨rfl, rfl⟩, ⟨Nat.le_of_ble_eq_true rfl, Nat.le_of_ble_eq_true rfl⟩, ⟨Nat.le_of_ble_eq_true rfl, Nat.le_of_ble_eq_true rfl⟩, Nat.le_of_ble_eq_true rfl⟩) hA w [0, 1, 6, 7] [2, 3, 4, 5, 8, 9] [6, 7, 0, 1, 2, 3, 8, 9, 4, 5] rfl rfl (by decide) (fun _ => rfl) (fun _ H locs w => ?_)
                      refine lv_istore (lv' := [(5, .int r39), (0, .ref h0), (1, .int a1), (2, .int a2), (3, .int x37), (4, .int x7)]) hx hb dX8_due_91 hl (by decide) rfl (fun ls hl => ?_)
                      obtain ⟨x43, ex43⟩ : ∃ y : Int32, y = (x7 + 1) := ⟨_, rfl⟩
                      have hf := pf_nm ex43 hf
                      refine lv_iinc (v := x43) (lv' := [(4, .int x43), (5, .int r39), (0, .ref h0), (1, .int a1), (2, .int a2), (3, .int x37)]) hx hb dX8_due_93 hl (k := 5) rfl (by rw [ex43]; rfl) (by decide) rfl (fun ls hl => ?_)
                      refine lv_goto (tgt := 41) hx hb dX8_due_96 (by decide) ?_
                      exact ih41 _ _ _ _ _ _ _ _ _ _ _ _ _ _ _ _ _ _ hf w (lv_sub hl [2, 3, 4, 5, 0] rfl)
                  refine lv_icmp_le (tgt := 82) hx hb dX8_due_76 (by decide) (fun c76 => ?_) (fun c76 => ?_)
                  · have hf := pf_t c76 hf
                    exact kJ82 _ _ _ _ hf w (lv_sub hl [0, 1, 2, 3, 4] rfl)
                  · have hf := pf_e c76 hf
                    refine lv_iload hx hb dX8_due_79 (lv_at hl 4 rfl) ?_
                    refine lv_istore_n (lv' := [(3, .int x7), (0, .ref h0), (1, .int a1), (2, .int a2), (4, .int x7)]) hx hb dX8_due_81 rfl hl (by decide) rfl (fun ls hl => ?_)
                    exact kJ82 _ _ _ _ hf w (lv_sub hl [1, 2, 3, 0, 4] rfl)
          exact klp_X8_due_41 FU _ _ _ _ _ _ _ _ _ _ _ _ _ _ _ _ _ _ hf w (lv_sub hl [2, 3, 4, 1, 0] rfl)
        · have hf := pf_t c26 hf
          refine lv_bipush (v := (-2)) hx hb dX8_due_29 (by decide) ?_
          exact hQ _ _ _ _ _ (t_all, t_base, t_pile, t_nextOff, t_decided, t_wasLate, t_askedOf, t_heldBehind, t_sum, t_heldAll, t_onPaper, t_codes, t_sorted, t_codeMany) (fun _ => 0) hf rfl w dX8_due_31
set_option maxHeartbeats 8000000 in
set_option maxRecDepth 100000 in
theorem ct_X8_plan (l : Launch) (E : hm_E) (sz : Nat) (h0 : Nat) (r_t : Nat → Nat) (t_base t_taped t_at t_faultPlace t_number t_newBits t_newTold t_newDoings t_newThings t_opened t_sum t_heldAll t_onPaper t_turned t_wasConverted t_lastBits t_lastSum t_lastHeld t_lastLeft t_lastCode t_writtenLong t_codeMany t_acts t_done0 t_stoppedAt : Int32) (t_all : Nat → Int32) (t_askedOf : Nat → Int32) (t_codes : Nat → Int32) (t_decided : Nat → Int32) (t_heldBehind : Nat → Int32) (t_nextOff : Nat → Int32) (t_pile : Nat → Int32) (t_sorted : Nat → Int32) (t_wasLate : Nat → Int32) (a1 : Int32) (a2 : Int32) (a3 : Int32) (R : Int32 × (Nat → Int32) × Int32 × (Nat → Int32) × (Nat → Int32) × (Nat → Int32) × (Nat → Int32) × (Nat → Int32) × (Nat → Int32) × Int32 × Int32 × Int32 × (Nat → Int32) × (Nat → Int32) × Int32) (hf : pf_X8_plan a1 a2 a3 t_all t_base t_pile t_nextOff t_decided t_wasLate t_askedOf t_heldBehind t_sum t_heldAll t_onPaper t_turned t_codes t_sorted t_codeMany = some R) : hm_Mi l E yX8_plan cX8_plan 9 .int [] (hm_rr 7 159 0 0) [.ref h0, .int a1, .int a2, .int a3] sz [oc8 h0 r_t t_base t_taped t_at t_faultPlace t_number t_newBits t_newTold t_newDoings t_newThings t_opened t_sum t_heldAll t_onPaper t_turned t_wasConverted t_lastBits t_lastSum t_lastHeld t_lastLeft t_lastCode t_writtenLong t_codeMany t_acts t_done0 t_stoppedAt, ic E (r_t 0) 800 t_all, ic E (r_t 27) 12 t_askedOf, ic E (r_t 42) 2000 t_codes, ic E (r_t 25) 12 t_decided, ic E (r_t 28) 12 t_heldBehind, ic E (r_t 24) 12 t_nextOff, ic E (r_t 23) 90 t_pile, ic E (r_t 43) 2000 t_sorted, zc E (r_t 26) 12 t_wasLate] R.1 (fun _ => [oc8 h0 r_t (R.2.2.1) t_taped t_at t_faultPlace t_number t_newBits t_newTold t_newDoings t_newThings t_opened (R.2.2.2.2.2.2.2.2.2.1) (R.2.2.2.2.2.2.2.2.2.2.1) (R.2.2.2.2.2.2.2.2.2.2.2.1) t_turned t_wasConverted t_lastBits t_lastSum t_lastHeld t_lastLeft t_lastCode t_writtenLong (R.2.2.2.2.2.2.2.2.2.2.2.2.2.2) t_acts t_done0 t_stoppedAt, ic E (r_t 0) 800 (R.2.1), ic E (r_t 27) 12 (R.2.2.2.2.2.2.2.1), ic E (r_t 42) 2000 (R.2.2.2.2.2.2.2.2.2.2.2.2.1), ic E (r_t 25) 12 (R.2.2.2.2.2.1), ic E (r_t 28) 12 (R.2.2.2.2.2.2.2.2.1), ic E (r_t 24) 12 (R.2.2.2.2.1), ic E (r_t 23) 90 (R.2.2.2.1), ic E (r_t 43) 2000 (R.2.2.2.2.2.2.2.2.2.2.2.2.2.1), zc E (r_t 26) 12 (R.2.2.2.2.2.2.1)]) := by
  refine hm_ct_i R (fun u qs => [oc8 h0 r_t (u.2.1) t_taped t_at t_faultPlace t_number t_newBits t_newTold t_newDoings t_newThings t_opened (u.2.2.2.2.2.2.2.2.1) (u.2.2.2.2.2.2.2.2.2.1) (u.2.2.2.2.2.2.2.2.2.2.1) t_turned t_wasConverted t_lastBits t_lastSum t_lastHeld t_lastLeft t_lastCode t_writtenLong (u.2.2.2.2.2.2.2.2.2.2.2.2.2) t_acts t_done0 t_stoppedAt, ic E (r_t 0) 800 (u.1), ic E (r_t 27) 12 (u.2.2.2.2.2.2.1), ic E (r_t 42) 2000 (u.2.2.2.2.2.2.2.2.2.2.2.1), ic E (r_t 25) 12 (u.2.2.2.2.1), ic E (r_t 28) 12 (u.2.2.2.2.2.2.2.1), ic E (r_t 24) 12 (u.2.2.2.1), ic E (r_t 23) 90 (u.2.2.1), ic E (r_t 43) 2000 (u.2.2.2.2.2.2.2.2.2.2.2.2.1), zc E (r_t 26) 12 (u.2.2.2.2.2.1)]) (by decide) (Nat.le_of_ble_eq_true rfl) (Or.inl rfl) ?_
  intro p e s m args below meth c A Q ls H locs hx hb hml hown X hA Y hex w hl hQ
  have hl : lv_has ls 9 [(0, .ref h0), (1, .int a1), (2, .int a2), (3, .int a3)] := hl
  unfold pf_X8_plan at hf
  refine lv_aload_n hx hb dX8_plan_0 rfl (lv_at hl 0 rfl) ?_
  obtain ⟨r1, hc1, hf⟩ := pf_bi_0 hf
  refine hm_aft_i (ws' := fun _ => [oc8 h0 r_t t_base t_taped t_at t_faultPlace t_number t_newBits t_newTold t_newDoings t_newThings t_opened t_sum t_heldAll t_onPaper t_turned t_wasConverted t_lastBits t_lastSum t_lastHeld t_lastLeft t_lastCode t_writtenLong t_codeMany t_acts t_done0 t_stoppedAt, ic E (r_t 0) 800 t_all, ic E (r_t 27) 12 t_askedOf, ic E (r_t 42) 2000 t_codes, ic E (r_t 25) 12 t_decided, ic E (r_t 28) 12 t_heldBehind, ic E (r_t 24) 12 t_nextOff, ic E (r_t 23) 90 t_pile, ic E (r_t 43) 2000 t_sorted, zc E (r_t 26) 12 t_wasLate]) (hm_runV (rest := []) hx hb hml hown X hA Y w 0 (ci := 7) (T := TX8) (N := 55) rfl rfl mw_X8_isShortRow ml_X8_356 dX8_plan_1 hm_ac0 [] rfl [0, 1] rfl rfl (ct_X8_isShortRow l E H.size h0 r_t t_base t_taped t_at t_faultPlace t_number t_newBits t_newTold t_newDoings t_newThings t_opened t_sum t_heldAll t_onPaper t_turned t_wasConverted t_lastBits t_lastSum t_lastHeld t_lastLeft t_lastCode t_writtenLong t_codeMany t_acts t_done0 t_stoppedAt t_all (r1, ()) hc1) rfl hl.1 ⟨⟨rfl, rfl⟩, ⟨Nat.le_of_ble_eq_true rfl, Nat.le_of_ble_eq_true rfl⟩, ⟨Nat.le_of_ble_eq_true rfl, Nat.le_of_ble_eq_true rfl⟩, Nat.le_of_ble_eq_true rfl⟩) hA w [0, 1] [2, 3, 4, 5, 6, 7, 8, 9] [8, 9, 0, 1, 2, 3, 4, 5, 6, 7] rfl rfl (by decide) (fun _ => rfl) (fun _ H locs w => ?_)
  refine lv_if_eq (tgt := 39) hx hb dX8_plan_4 (by decide) (fun c4 => ?_) (fun c4 => ?_)
  · have hf := pf_t c4 hf
    refine lv_iconst (v := (-1)) hx hb dX8_plan_39 (by decide) ?_
    exact hQ _ _ _ _ _ (t_all, t_base, t_pile, t_nextOff, t_decided, t_wasLate, t_askedOf, t_heldBehind, t_sum, t_heldAll, t_onPaper, t_codes, t_sorted, t_codeMany) (fun _ => 0) hf rfl w dX8_plan_40
  · have hf := pf_e c4 hf
    refine lv_iload_n hx hb dX8_plan_7 rfl (lv_at hl 1 rfl) ?_
    refine lv_iconst (v := 1) hx hb dX8_plan_8 (by decide) ?_
    refine lv_aload_n hx hb dX8_plan_9 rfl (lv_at hl 0 rfl) ?_
    refine lv_iconst (v := 0) hx hb dX8_plan_10 (by decide) ?_
    obtain ⟨r2, hc11, hf⟩ := pf_bi_0 hf
    refine hm_aft_i (ws' := fun _ => [oc8 h0 r_t t_base t_taped t_at t_faultPlace t_number t_newBits t_newTold t_newDoings t_newThings t_opened t_sum t_heldAll t_onPaper t_turned t_wasConverted t_lastBits t_lastSum t_lastHeld t_lastLeft t_lastCode t_writtenLong t_codeMany t_acts t_done0 t_stoppedAt, ic E (r_t 0) 800 t_all, ic E (r_t 27) 12 t_askedOf, ic E (r_t 42) 2000 t_codes, ic E (r_t 25) 12 t_decided, ic E (r_t 28) 12 t_heldBehind, ic E (r_t 24) 12 t_nextOff, ic E (r_t 23) 90 t_pile, ic E (r_t 43) 2000 t_sorted, zc E (r_t 26) 12 t_wasLate]) (hm_runV (rest := [.int 1, .int a1]) hx hb hml hown X hA Y w 0 (ci := 7) (T := TX8) (N := 55) rfl rfl mw_X8_get ml_X8_221 dX8_plan_11 hm_ac0 [.int 0] rfl [0, 1] rfl rfl (ct_X8_get l E H.size h0 r_t t_base t_taped t_at t_faultPlace t_number t_newBits t_newTold t_newDoings t_newThings t_opened t_sum t_heldAll t_onPaper t_turned t_wasConverted t_lastBits t_lastSum t_lastHeld t_lastLeft t_lastCode t_writtenLong t_codeMany t_acts t_done0 t_stoppedAt t_all 0 (r2, ()) hc11) rfl hl.1 ⟨⟨rfl, rfl⟩, ⟨Nat.le_of_ble_eq_true rfl, Nat.le_of_ble_eq_true rfl⟩, ⟨Nat.le_of_ble_eq_true rfl, Nat.le_of_ble_eq_true rfl⟩, Nat.le_of_ble_eq_true rfl⟩) hA w [0, 1] [2, 3, 4, 5, 6, 7, 8, 9] [8, 9, 0, 1, 2, 3, 4, 5, 6, 7] rfl rfl (by decide) (fun _ => rfl) (fun _ H locs w => ?_)
    obtain ⟨r3, hc14, hf⟩ := pf_bi_0 hf
    refine hm_aft_i (ws' := fun _ => [oc8 h0 r_t t_base t_taped t_at t_faultPlace t_number t_newBits t_newTold t_newDoings t_newThings t_opened t_sum t_heldAll t_onPaper t_turned t_wasConverted t_lastBits t_lastSum t_lastHeld t_lastLeft t_lastCode t_writtenLong t_codeMany t_acts t_done0 t_stoppedAt, ic E (r_t 0) 800 t_all, ic E (r_t 27) 12 t_askedOf, ic E (r_t 42) 2000 t_codes, ic E (r_t 25) 12 t_decided, ic E (r_t 28) 12 t_heldBehind, ic E (r_t 24) 12 t_nextOff, ic E (r_t 23) 90 t_pile, ic E (r_t 43) 2000 t_sorted, zc E (r_t 26) 12 t_wasLate]) (hm_runS (rest := []) hx hb hml hown X hA Y w mw_X8_isIn ml_X8_129 dX8_plan_14 hm_ac0 [.int a1, .int 1, .int r2] rfl [] rfl rfl (ct_X8_isIn l E H.size a1 1 r2 (r3, ()) hc14) rfl hl.1 ⟨⟨rfl, rfl⟩, ⟨Nat.le_of_ble_eq_true rfl, Nat.le_of_ble_eq_true rfl⟩, ⟨Nat.le_of_ble_eq_true rfl, Nat.le_of_ble_eq_true rfl⟩, Nat.le_of_ble_eq_true rfl⟩) hA w [] [0, 1, 2, 3, 4, 5, 6, 7, 8, 9] [0, 1, 2, 3, 4, 5, 6, 7, 8, 9] rfl rfl (by decide) (fun _ => rfl) (fun _ H locs w => ?_)
    refine lv_if_eq (tgt := 39) hx hb dX8_plan_17 (by decide) (fun c17 => ?_) (fun c17 => ?_)
    · have hf := pf_t c17 hf
      refine lv_iconst (v := (-1)) hx hb dX8_plan_39 (by decide) ?_
      exact hQ _ _ _ _ _ (t_all, t_base, t_pile, t_nextOff, t_decided, t_wasLate, t_askedOf, t_heldBehind, t_sum, t_heldAll, t_onPaper, t_codes, t_sorted, t_codeMany) (fun _ => 0) hf rfl w dX8_plan_40
    · have hf := pf_e c17 hf
      refine lv_iload_n hx hb dX8_plan_20 rfl (lv_at hl 2 rfl) ?_
      refine lv_iconst (v := 1) hx hb dX8_plan_21 (by decide) ?_
      refine lv_bipush (v := 40) hx hb dX8_plan_22 (by decide) ?_
      obtain ⟨r4, hc24, hf⟩ := pf_bi_0 hf
      refine hm_aft_i (ws' := fun _ => [oc8 h0 r_t t_base t_taped t_at t_faultPlace t_number t_newBits t_newTold t_newDoings t_newThings t_opened t_sum t_heldAll t_onPaper t_turned t_wasConverted t_lastBits t_lastSum t_lastHeld t_lastLeft t_lastCode t_writtenLong t_codeMany t_acts t_done0 t_stoppedAt, ic E (r_t 0) 800 t_all, ic E (r_t 27) 12 t_askedOf, ic E (r_t 42) 2000 t_codes, ic E (r_t 25) 12 t_decided, ic E (r_t 28) 12 t_heldBehind, ic E (r_t 24) 12 t_nextOff, ic E (r_t 23) 90 t_pile, ic E (r_t 43) 2000 t_sorted, zc E (r_t 26) 12 t_wasLate]) (hm_runS (rest := []) hx hb hml hown X hA Y w mw_X8_isIn ml_X8_129 dX8_plan_24 hm_ac0 [.int a2, .int 1, .int 40] rfl [] rfl rfl (ct_X8_isIn l E H.size a2 1 40 (r4, ()) hc24) rfl hl.1 ⟨⟨rfl, rfl⟩, ⟨Nat.le_of_ble_eq_true rfl, Nat.le_of_ble_eq_true rfl⟩, ⟨Nat.le_of_ble_eq_true rfl, Nat.le_of_ble_eq_true rfl⟩, Nat.le_of_ble_eq_true rfl⟩) hA w [] [0, 1, 2, 3, 4, 5, 6, 7, 8, 9] [0, 1, 2, 3, 4, 5, 6, 7, 8, 9] rfl rfl (by decide) (fun _ => rfl) (fun _ H locs w => ?_)
      refine lv_if_eq (tgt := 39) hx hb dX8_plan_27 (by decide) (fun c27 => ?_) (fun c27 => ?_)
      · have hf := pf_t c27 hf
        refine lv_iconst (v := (-1)) hx hb dX8_plan_39 (by decide) ?_
        exact hQ _ _ _ _ _ (t_all, t_base, t_pile, t_nextOff, t_decided, t_wasLate, t_askedOf, t_heldBehind, t_sum, t_heldAll, t_onPaper, t_codes, t_sorted, t_codeMany) (fun _ => 0) hf rfl w dX8_plan_40
      · have hf := pf_e c27 hf
        refine lv_iload_n hx hb dX8_plan_30 rfl (lv_at hl 3 rfl) ?_
        refine lv_iconst (v := 0) hx hb dX8_plan_31 (by decide) ?_
        refine lv_iconst (v := 2) hx hb dX8_plan_32 (by decide) ?_
        obtain ⟨r5, hc33, hf⟩ := pf_bi_0 hf
        refine hm_aft_i (ws' := fun _ => [oc8 h0 r_t t_base t_taped t_at t_faultPlace t_number t_newBits t_newTold t_newDoings t_newThings t_opened t_sum t_heldAll t_onPaper t_turned t_wasConverted t_lastBits t_lastSum t_lastHeld t_lastLeft t_lastCode t_writtenLong t_codeMany t_acts t_done0 t_stoppedAt, ic E (r_t 0) 800 t_all, ic E (r_t 27) 12 t_askedOf, ic E (r_t 42) 2000 t_codes, ic E (r_t 25) 12 t_decided, ic E (r_t 28) 12 t_heldBehind, ic E (r_t 24) 12 t_nextOff, ic E (r_t 23) 90 t_pile, ic E (r_t 43) 2000 t_sorted, zc E (r_t 26) 12 t_wasLate]) (hm_runS (rest := []) hx hb hml hown X hA Y w mw_X8_isIn ml_X8_129 dX8_plan_33 hm_ac0 [.int a3, .int 0, .int 2] rfl [] rfl rfl (ct_X8_isIn l E H.size a3 0 2 (r5, ()) hc33) rfl hl.1 ⟨⟨rfl, rfl⟩, ⟨Nat.le_of_ble_eq_true rfl, Nat.le_of_ble_eq_true rfl⟩, ⟨Nat.le_of_ble_eq_true rfl, Nat.le_of_ble_eq_true rfl⟩, Nat.le_of_ble_eq_true rfl⟩) hA w [] [0, 1, 2, 3, 4, 5, 6, 7, 8, 9] [0, 1, 2, 3, 4, 5, 6, 7, 8, 9] rfl rfl (by decide) (fun _ => rfl) (fun _ H locs w => ?_)
        refine lv_if_ne (tgt := 41) hx hb dX8_plan_36 (by decide) (fun c36 => ?_) (fun c36 => ?_)
        · have hf := pf_e c36 hf
          refine lv_aload_n hx hb dX8_plan_41 rfl (lv_at hl 0 rfl) ?_
          obtain ⟨f6, x7, hc42, hf⟩ := pf_bv_2 hf
          refine hm_aft_v (ws' := fun _ => [oc8 h0 r_t x7 t_taped t_at t_faultPlace t_number t_newBits t_newTold t_newDoings t_newThings t_opened t_sum t_heldAll t_onPaper t_turned t_wasConverted t_lastBits t_lastSum t_lastHeld t_lastLeft t_lastCode t_writtenLong t_codeMany t_acts t_done0 t_stoppedAt, ic E (r_t 0) 800 f6, ic E (r_t 27) 12 t_askedOf, ic E (r_t 42) 2000 t_codes, ic E (r_t 25) 12 t_decided, ic E (r_t 28) 12 t_heldBehind, ic E (r_t 24) 12 t_nextOff, ic E (r_t 23) 90 t_pile, ic E (r_t 43) 2000 t_sorted, zc E (r_t 26) 12 t_wasLate]) (hm_runV (rest := []) hx hb hml hown X hA Y w 0 (ci := 7) (T := TX8) (N := 55) rfl rfl mw_X8_goAside ml_X8_359 dX8_plan_42 hm_ac0 [] rfl [0, 1] rfl rfl (ct_X8_goAside l E H.size h0 r_t t_base t_taped t_at t_faultPlace t_number t_newBits t_newTold t_newDoings t_newThings t_opened t_sum t_heldAll t_onPaper t_turned t_wasConverted t_lastBits t_lastSum t_lastHeld t_lastLeft t_lastCode t_writtenLong t_codeMany t_acts t_done0 t_stoppedAt t_all (f6, x7) hc42) rfl hl.1 ⟨⟨rfl, rfl⟩, ⟨Nat.le_of_ble_eq_true rfl, Nat.le_of_ble_eq_true rfl⟩, ⟨Nat.le_of_ble_eq_true rfl, Nat.le_of_ble_eq_true rfl⟩, Nat.le_of_ble_eq_true rfl⟩) hA w [0, 1] [2, 3, 4, 5, 6, 7, 8, 9] [8, 9, 0, 1, 2, 3, 4, 5, 6, 7] rfl rfl (by decide) (fun _ => rfl) (fun _ H locs w => ?_)
          refine lv_iconst (v := 0) hx hb dX8_plan_45 (by decide) ?_
          refine lv_istore (lv' := [(4, .int 0), (0, .ref h0), (1, .int a1), (2, .int a2), (3, .int a3)]) hx hb dX8_plan_46 hl (by decide) rfl (fun ls hl => ?_)
          refine lv_iconst (v := (-1)) hx hb dX8_plan_48 (by decide) ?_
          refine lv_istore (lv' := [(5, .int (-1)), (4, .int 0), (0, .ref h0), (1, .int a1), (2, .int a2), (3, .int a3)]) hx hb dX8_plan_49 hl (by decide) rfl (fun ls hl => ?_)
          refine lv_iconst (v := 0) hx hb dX8_plan_51 (by decide) ?_
          refine lv_istore (lv' := [(6, .int 0), (5, .int (-1)), (4, .int 0), (0, .ref h0), (1, .int a1), (2, .int a2), (3, .int a3)]) hx hb dX8_plan_52 hl (by decide) rfl (fun ls hl => ?_)
          refine lv_iconst (v := 0) hx hb dX8_plan_54 (by decide) ?_
          refine lv_istore (lv' := [(7, .int 0), (6, .int 0), (5, .int (-1)), (4, .int 0), (0, .ref h0), (1, .int a1), (2, .int a2), (3, .int a3)]) hx hb dX8_plan_55 hl (by decide) rfl (fun ls hl => ?_)
          obtain ⟨J122, hJ122, hf⟩ := pf_jn hf
          have kJ122 : ∀ (x8 : Int32) (x9 : Int32) (x10 : Int32) (f11 : Nat → Int32) (f12 : Nat → Int32) (f13 : Nat → Int32) (f14 : Nat → Int32) (f15 : Nat → Int32) (f16 : Nat → Int32) (f17 : Nat → Int32) (x18 : Int32) (x19 : Int32) (x20 : Int32) (f21 : Nat → Int32) (f22 : Nat → Int32) (x23 : Int32) (H : Heap) (locs : List Loc) (ls : Array Slot), J122 x8 x9 x10 f11 f12 f13 f14 f15 f16 f17 x18 x19 x20 f21 f22 x23 = some R → hm_W E A s.heap [oc8 h0 r_t x7 t_taped t_at t_faultPlace t_number t_newBits t_newTold t_newDoings t_newThings t_opened x18 x19 x20 t_turned t_wasConverted t_lastBits t_lastSum t_lastHeld t_lastLeft t_lastCode t_writtenLong x23 t_acts t_done0 t_stoppedAt, ic E (r_t 0) 800 f11, ic E (r_t 27) 12 f16, ic E (r_t 42) 2000 f21, ic E (r_t 25) 12 f14, ic E (r_t 28) 12 f17, ic E (r_t 24) 12 f13, ic E (r_t 23) 90 f12, ic E (r_t 43) 2000 f22, zc E (r_t 26) 12 f15] H locs → lv_has ls 9 [(0, .ref h0), (3, .int a3), (4, .int x8), (5, .int x9), (6, .int x10)] → W p l e (hm_rr 7 159 0 0) s m args below meth c H locs 0 0 Q (F0 m 122 ls []) := by
            intro x8 x9 x10 f11 f12 f13 f14 f15 f16 f17 x18 x19 x20 f21 f22 x23 H locs ls hf w hl
            have hf := pf_j16 hJ122 hf
            refine lv_aload_n hx hb dX8_plan_122 rfl (lv_at hl 0 rfl) ?_
            obtain ⟨x24, hc123, hf⟩ := pf_bv_1 hf
            refine hm_aft_v (ws' := fun _ => [oc8 h0 r_t x24 t_taped t_at t_faultPlace t_number t_newBits t_newTold t_newDoings t_newThings t_opened x18 x19 x20 t_turned t_wasConverted t_lastBits t_lastSum t_lastHeld t_lastLeft t_lastCode t_writtenLong x23 t_acts t_done0 t_stoppedAt, ic E (r_t 0) 800 f11, ic E (r_t 27) 12 f16, ic E (r_t 42) 2000 f21, ic E (r_t 25) 12 f14, ic E (r_t 28) 12 f17, ic E (r_t 24) 12 f13, ic E (r_t 23) 90 f12, ic E (r_t 43) 2000 f22, zc E (r_t 26) 12 f15]) (hm_runV (rest := []) hx hb hml hown X hA Y w 0 (ci := 7) (T := TX8) (N := 55) rfl rfl mw_X8_comeBack ml_X8_371 dX8_plan_123 hm_ac0 [] rfl [0] rfl rfl (ct_X8_comeBack l E H.size h0 r_t x7 t_taped t_at t_faultPlace t_number t_newBits t_newTold t_newDoings t_newThings t_opened x18 x19 x20 t_turned t_wasConverted t_lastBits t_lastSum t_lastHeld t_lastLeft t_lastCode t_writtenLong x23 t_acts t_done0 t_stoppedAt x24 hc123) rfl hl.1 ⟨⟨rfl, rfl⟩, ⟨Nat.le_of_ble_eq_true rfl, Nat.le_of_ble_eq_true rfl⟩, ⟨Nat.le_of_ble_eq_true rfl, Nat.le_of_ble_eq_true rfl⟩, Nat.le_of_ble_eq_true rfl⟩) hA w [0] [1, 2, 3, 4, 5, 6, 7, 8, 9] [9, 0, 1, 2, 3, 4, 5, 6, 7, 8] rfl rfl (by decide) (fun _ => rfl) (fun _ H locs w => ?_)
            refine lv_iload_n hx hb dX8_plan_126 rfl (lv_at hl 1 rfl) ?_
            refine lv_if_ne (tgt := 135) hx hb dX8_plan_127 (by decide) (fun c127 => ?_) (fun c127 => ?_)
            · have hf := pf_e c127 hf
              refine lv_iload_n hx hb dX8_plan_135 rfl (lv_at hl 1 rfl) ?_
              refine lv_iconst (v := 1) hx hb dX8_plan_136 (by decide) ?_
              refine lv_icmp_ne (tgt := 145) hx hb dX8_plan_137 (by decide) (fun c137 => ?_) (fun c137 => ?_)
              · have hf := pf_e c137 hf
                refine lv_iload hx hb dX8_plan_145 (lv_at hl 4 rfl) ?_
                exact hQ _ _ _ _ _ (f11, x24, f12, f13, f14, f15, f16, f17, x18, x19, x20, f21, f22, x23) (fun _ => 0) hf rfl w dX8_plan_147
              · have hf := pf_t c137 hf
                refine lv_iload hx hb dX8_plan_140 (lv_at hl 3 rfl) ?_
                refine lv_goto (tgt := 147) hx hb dX8_plan_142 (by decide) ?_
                exact hQ _ _ _ _ _ (f11, x24, f12, f13, f14, f15, f16, f17, x18, x19, x20, f21, f22, x23) (fun _ => 0) hf rfl w dX8_plan_147
            · have hf := pf_t c127 hf
              refine lv_iload hx hb dX8_plan_130 (lv_at hl 2 rfl) ?_
              refine lv_goto (tgt := 147) hx hb dX8_plan_132 (by decide) ?_
              exact hQ _ _ _ _ _ (f11, x24, f12, f13, f14, f15, f16, f17, x18, x19, x20, f21, f22, x23) (fun _ => 0) hf rfl w dX8_plan_147
          have klp_X8_plan_57 : ∀ (n : Nat) (x25 : Int32) (x26 : Int32) (x27 : Int32) (x28 : Int32) (f29 : Nat → Int32) (f30 : Nat → Int32) (f31 : Nat → Int32) (f32 : Nat → Int32) (f33 : Nat → Int32) (f34 : Nat → Int32) (f35 : Nat → Int32) (x36 : Int32) (x37 : Int32) (x38 : Int32) (f39 : Nat → Int32) (f40 : Nat → Int32) (x41 : Int32) (H : Heap) (locs : List Loc) (ls : Array Slot), lp_X8_plan_57 a1 a2 t_turned x7 J122 n x25 x26 x27 x28 f29 f30 f31 f32 f33 f34 f35 x36 x37 x38 f39 f40 x41 = some R → hm_W E A s.heap [oc8 h0 r_t x7 t_taped t_at t_faultPlace t_number t_newBits t_newTold t_newDoings t_newThings t_opened x36 x37 x38 t_turned t_wasConverted t_lastBits t_lastSum t_lastHeld t_lastLeft t_lastCode t_writtenLong x41 t_acts t_done0 t_stoppedAt, ic E (r_t 0) 800 f29, ic E (r_t 27) 12 f34, ic E (r_t 42) 2000 f39, ic E (r_t 25) 12 f32, ic E (r_t 28) 12 f35, ic E (r_t 24) 12 f31, ic E (r_t 23) 90 f30, ic E (r_t 43) 2000 f40, zc E (r_t 26) 12 f33] H locs → lv_has ls 9 [(0, .ref h0), (1, .int a1), (2, .int a2), (3, .int a3), (4, .int x25), (5, .int x26), (6, .int x27), (7, .int x28)] → W p l e (hm_rr 7 159 0 0) s m args below meth c H locs 0 0 Q (F0 m 57 ls []) := by
            intro n
            induction n with
            | zero =>
              intro x25 x26 x27 x28 f29 f30 f31 f32 f33 f34 f35 x36 x37 x38 f39 f40 x41 H locs ls hf w hl
              exact pf_no hf
            | succ n ih57 =>
              intro x25 x26 x27 x28 f29 f30 f31 f32 f33 f34 f35 x36 x37 x38 f39 f40 x41 H locs ls hf w hl
              rw [lp_X8_plan_57] at hf
              refine lv_iload hx hb dX8_plan_57 (lv_at hl 7 rfl) ?_
              refine lv_iload_n hx hb dX8_plan_59 rfl (lv_at hl 2 rfl) ?_
              refine lv_icmp_ge (tgt := 122) hx hb dX8_plan_60 (by decide) (fun c60 => ?_) (fun c60 => ?_)
              · have hf := pf_t c60 hf
                exact kJ122 _ _ _ _ _ _ _ _ _ _ _ _ _ _ _ _ _ _ _ hf w (lv_sub hl [0, 3, 4, 5, 6] rfl)
              · have hf := pf_e c60 hf
                refine lv_aload_n hx hb dX8_plan_63 rfl (lv_at hl 0 rfl) ?_
                obtain ⟨r42, f43, f44, f45, f46, f47, x48, x49, x50, f51, f52, x53, hc64, hf⟩ := pf_bi_11 hf
                refine hm_aft_i (ws' := fun _ => [oc8 h0 r_t x7 t_taped t_at t_faultPlace t_number t_newBits t_newTold t_newDoings t_newThings t_opened x48 x49 x50 t_turned t_wasConverted t_lastBits t_lastSum t_lastHeld t_lastLeft t_lastCode t_writtenLong x53 t_acts t_done0 t_stoppedAt, ic E (r_t 0) 800 f43, ic E (r_t 27) 12 f46, ic E (r_t 42) 2000 f51, ic E (r_t 25) 12 f44, ic E (r_t 28) 12 f47, ic E (r_t 24) 12 f31, ic E (r_t 23) 90 f30, ic E (r_t 43) 2000 f52, zc E (r_t 26) 12 f45]) (hm_runV (rest := []) hx hb hml hown X hA Y w 0 (ci := 7) (T := TX8) (N := 55) rfl rfl mw_X8_isMissing ml_X8_365 dX8_plan_64 hm_ac0 [] rfl [0, 1, 2, 3, 4, 5, 8, 9] rfl rfl (ct_X8_isMissing l E H.size h0 r_t x7 t_taped t_at t_faultPlace t_number t_newBits t_newTold t_newDoings t_newThings t_opened x36 x37 x38 t_turned t_wasConverted t_lastBits t_lastSum t_lastHeld t_lastLeft t_lastCode t_writtenLong x41 t_acts t_done0 t_stoppedAt f29 f34 f39 f32 f35 f40 f33 (r42, f43, f44, f45, f46, f47, x48, x49, x50, f51, f52, x53) hc64) rfl hl.1 ⟨⟨rfl, rfl⟩, ⟨Nat.le_of_ble_eq_true rfl, Nat.le_of_ble_eq_true rfl⟩, ⟨Nat.le_of_ble_eq_true rfl, Nat.le_of_ble_eq_true rfl⟩, Nat.le_of_ble_eq_true rfl⟩) hA w [0, 1, 2, 3, 4, 5, 8, 9] [6, 7] [2, 3, 4, 5, 6, 7, 0, 1, 8, 9] rfl rfl (by decide) (fun _ => rfl) (fun _ H locs w => ?_)
                obtain ⟨J110, hJ110, hf⟩ := pf_jn hf
                have kJ110 : ∀ (x54 : Int32) (x55 : Int32) (x56 : Int32) (f57 : Nat → Int32) (f58 : Nat → Int32) (f59 : Nat → Int32) (f60 : Nat → Int32) (f61 : Nat → Int32) (x62 : Int32) (x63 : Int32) (x64 : Int32) (f65 : Nat → Int32) (f66 : Nat → Int32) (x67 : Int32) (H : Heap) (locs : List Loc) (ls : Array Slot), J110 x54 x55 x56 f57 f58 f59 f60 f61 x62 x63 x64 f65 f66 x67 = some R → hm_W E A s.heap [oc8 h0 r_t x7 t_taped t_at t_faultPlace t_number t_newBits t_newTold t_newDoings t_newThings t_opened x62 x63 x64 t_turned t_wasConverted t_lastBits t_lastSum t_lastHeld t_lastLeft t_lastCode t_writtenLong x67 t_acts t_done0 t_stoppedAt, ic E (r_t 0) 800 f57, ic E (r_t 27) 12 f60, ic E (r_t 42) 2000 f65, ic E (r_t 25) 12 f58, ic E (r_t 28) 12 f61, ic E (r_t 24) 12 f31, ic E (r_t 23) 90 f30, ic E (r_t 43) 2000 f66, zc E (r_t 26) 12 f59] H locs → lv_has ls 9 [(0, .ref h0), (1, .int a1), (2, .int a2), (3, .int a3), (4, .int x54), (5, .int x55), (6, .int x56), (7, .int x28)] → W p l e (hm_rr 7 159 0 0) s m args below meth c H locs 0 0 Q (F0 m 110 ls []) := by
                  intro x54 x55 x56 f57 f58 f59 f60 f61 x62 x63 x64 f65 f66 x67 H locs ls hf w hl
                  have hf := pf_j14 hJ110 hf
                  refine lv_aload_n hx hb dX8_plan_110 rfl (lv_at hl 0 rfl) ?_
                  obtain ⟨r68, f69, f70, f71, hc111, hf⟩ := pf_bi_3 hf
                  refine hm_aft_i (ws' := fun _ => [oc8 h0 r_t x7 t_taped t_at t_faultPlace t_number t_newBits t_newTold t_newDoings t_newThings t_opened x62 x63 x64 t_turned t_wasConverted t_lastBits t_lastSum t_lastHeld t_lastLeft t_lastCode t_writtenLong x67 t_acts t_done0 t_stoppedAt, ic E (r_t 0) 800 f69, ic E (r_t 27) 12 f60, ic E (r_t 42) 2000 f65, ic E (r_t 25) 12 f58, ic E (r_t 28) 12 f61, ic E (r_t 24) 12 f71, ic E (r_t 23) 90 f70, ic E (r_t 43) 2000 f66, zc E (r_t 26) 12 f59]) (hm_runV (rest := []) hx hb hml hown X hA Y w 0 (ci := 7) (T := TX8) (N := 55) rfl rfl mw_X8_hour ml_X8_241 dX8_plan_111 hm_ac0 [] rfl [0, 1, 6, 7] rfl rfl (ct_X8_hour l E H.size h0 r_t x7 t_taped t_at t_faultPlace t_number t_newBits t_newTold t_newDoings t_newThings t_opened x62 x63 x64 t_turned t_wasConverted t_lastBits t_lastSum t_lastHeld t_lastLeft t_lastCode t_writtenLong x67 t_acts t_done0 t_stoppedAt f57 f31 f30 (r68, f69, f70, f71) hc111) rfl hl.1 ⟨⟨rfl, rfl⟩, ⟨Nat.le_of_ble_eq_true rfl, Nat.le_of_ble_eq_true rfl⟩, ⟨Nat.le_of_ble_eq_true rfl, Nat.le_of_ble_eq_true rfl⟩, Nat.le_of_ble_eq_true rfl⟩) hA w [0, 1, 6, 7] [2, 3, 4, 5, 8, 9] [6, 7, 0, 1, 2, 3, 8, 9, 4, 5] rfl rfl (by decide) (fun _ => rfl) (fun _ H locs w => ?_)
                  refine lv_istore (lv' := [(8, .int r68), (0, .ref h0), (1, .int a1), (2, .int a2), (3, .int a3), (4, .int x54), (5, .int x55), (6, .int x56), (7, .int x28)]) hx hb dX8_plan_114 hl (by decide) rfl (fun ls hl => ?_)
                  obtain ⟨x72, ex72⟩ : ∃ y : Int32, y = (x28 + 1) := ⟨_, rfl⟩
                  have hf := pf_nm ex72 hf
                  refine lv_iinc (v := x72) (lv' := [(7, .int x72), (8, .int r68), (0, .ref h0), (1, .int a1), (2, .int a2), (3, .int a3), (4, .int x54), (5, .int x55), (6, .int x56)]) hx hb dX8_plan_116 hl (k := 8) rfl (by rw [ex72]; rfl) (by decide) rfl (fun ls hl => ?_)
                  refine lv_goto (tgt := 57) hx hb dX8_plan_119 (by decide) ?_
                  exact ih57 _ _ _ _ _ _ _ _ _ _ _ _ _ _ _ _ _ _ _ _ hf w (lv_sub hl [2, 3, 4, 5, 6, 7, 8, 0] rfl)
                refine lv_if_eq (tgt := 110) hx hb dX8_plan_67 (by decide) (fun c67 => ?_) (fun c67 => ?_)
                · have hf := pf_t c67 hf
                  exact kJ110 _ _ _ _ _ _ _ _ _ _ _ _ _ _ _ _ _ hf w (lv_sub hl [0, 1, 2, 3, 4, 5, 6, 7] rfl)
                · have hf := pf_e c67 hf
                  refine lv_aload_n hx hb dX8_plan_70 rfl (lv_at hl 0 rfl) ?_
                  refine lv_iload_n hx hb dX8_plan_71 rfl (lv_at hl 1 rfl) ?_
                  obtain ⟨f73, f74, f75, f76, f77, x78, x79, x80, hc72, hf⟩ := pf_bv_8 hf
                  refine hm_aft_v (ws' := fun _ => [oc8 h0 r_t x7 t_taped t_at t_faultPlace t_number t_newBits t_newTold t_newDoings t_newThings t_opened x78 x79 x80 t_turned t_wasConverted t_lastBits t_lastSum t_lastHeld t_lastLeft t_lastCode t_writtenLong x53 t_acts t_done0 t_stoppedAt, ic E (r_t 0) 800 f73, ic E (r_t 27) 12 f76, ic E (r_t 42) 2000 f51, ic E (r_t 25) 12 f74, ic E (r_t 28) 12 f77, ic E (r_t 24) 12 f31, ic E (r_t 23) 90 f30, ic E (r_t 43) 2000 f52, zc E (r_t 26) 12 f75]) (hm_runV (rest := []) hx hb hml hown X hA Y w 0 (ci := 7) (T := TX8) (N := 55) rfl rfl mw_X8_learnOnPaper ml_X8_368 dX8_plan_72 hm_ac0 [.int a1] rfl [0, 1, 2, 4, 5, 9] rfl rfl (ct_X8_learnOnPaper l E H.size h0 r_t x7 t_taped t_at t_faultPlace t_number t_newBits t_newTold t_newDoings t_newThings t_opened x48 x49 x50 t_turned t_wasConverted t_lastBits t_lastSum t_lastHeld t_lastLeft t_lastCode t_writtenLong x53 t_acts t_done0 t_stoppedAt f43 f46 f44 f47 f45 a1 (f73, f74, f75, f76, f77, x78, x79, x80) hc72) rfl hl.1 ⟨⟨rfl, rfl⟩, ⟨Nat.le_of_ble_eq_true rfl, Nat.le_of_ble_eq_true rfl⟩, ⟨Nat.le_of_ble_eq_true rfl, Nat.le_of_ble_eq_true rfl⟩, Nat.le_of_ble_eq_true rfl⟩) hA w [0, 1, 2, 4, 5, 9] [3, 6, 7, 8] [4, 5, 6, 0, 7, 8, 1, 2, 3, 9] rfl rfl (by decide) (fun _ => rfl) (fun _ H locs w => ?_)
                  obtain ⟨x81, ex81⟩ : ∃ y : Int32, y = (x25 + 1) := ⟨_, rfl⟩
                  have hf := pf_nm ex81 hf
                  refine lv_iinc (v := x81) (lv' := [(4, .int x81), (0, .ref h0), (1, .int a1), (2, .int a2), (3, .int a3), (5, .int x26), (6, .int x27), (7, .int x28)]) hx hb dX8_plan_75 hl (k := 4) rfl (by rw [ex81]; rfl) (by decide) rfl (fun ls hl => ?_)
                  refine lv_iload hx hb dX8_plan_78 (lv_at hl 5 rfl) ?_
                  refine lv_iconst (v := (-1)) hx hb dX8_plan_80 (by decide) ?_
                  obtain ⟨J91, hJ91, hf⟩ := pf_jn hf
                  have kJ91 : ∀ (x82 : Int32) (H : Heap) (locs : List Loc) (ls : Array Slot), J91 x82 = some R → hm_W E A s.heap [oc8 h0 r_t x7 t_taped t_at t_faultPlace t_number t_newBits t_newTold t_newDoings t_newThings t_opened x78 x79 x80 t_turned t_wasConverted t_lastBits t_lastSum t_lastHeld t_lastLeft t_lastCode t_writtenLong x53 t_acts t_done0 t_stoppedAt, ic E (r_t 0) 800 f73, ic E (r_t 27) 12 f76, ic E (r_t 42) 2000 f51, ic E (r_t 25) 12 f74, ic E (r_t 28) 12 f77, ic E (r_t 24) 12 f31, ic E (r_t 23) 90 f30, ic E (r_t 43) 2000 f52, zc E (r_t 26) 12 f75] H locs → lv_has ls 9 [(0, .ref h0), (1, .int a1), (2, .int a2), (3, .int a3), (4, .int x81), (6, .int x27), (7, .int x28)] → W p l e (hm_rr 7 159 0 0) s m args below meth c H locs 0 0 Q (F0 m 91 ls [.int x82]) := by
                    intro x82 H locs ls hf w hl
                    have hf := pf_j1 hJ91 hf
                    refine lv_istore (lv' := [(5, .int x82), (0, .ref h0), (1, .int a1), (2, .int a2), (3, .int a3), (4, .int x81), (6, .int x27), (7, .int x28)]) hx hb dX8_plan_91 hl (by decide) rfl (fun ls hl => ?_)
                    refine lv_iload hx hb dX8_plan_93 (lv_at hl 6 rfl) ?_
                    refine lv_aload_n hx hb dX8_plan_95 rfl (lv_at hl 1 rfl) ?_
                    obtain ⟨r83, f84, f85, f86, f87, f88, x89, x90, x91, f92, f93, x94, hc96, hf⟩ := pf_bi_11 hf
                    refine hm_aft_i (ws' := fun _ => [oc8 h0 r_t x7 t_taped t_at t_faultPlace t_number t_newBits t_newTold t_newDoings t_newThings t_opened x89 x90 x91 t_turned t_wasConverted t_lastBits t_lastSum t_lastHeld t_lastLeft t_lastCode t_writtenLong x94 t_acts t_done0 t_stoppedAt, ic E (r_t 0) 800 f84, ic E (r_t 27) 12 f87, ic E (r_t 42) 2000 f92, ic E (r_t 25) 12 f85, ic E (r_t 28) 12 f88, ic E (r_t 24) 12 f31, ic E (r_t 23) 90 f30, ic E (r_t 43) 2000 f93, zc E (r_t 26) 12 f86]) (hm_runV (rest := [.int x27]) hx hb hml hown X hA Y w 0 (ci := 7) (T := TX8) (N := 55) rfl rfl mw_X8_isMissing ml_X8_365 dX8_plan_96 hm_ac0 [] rfl [0, 1, 2, 3, 4, 5, 8, 9] rfl rfl (ct_X8_isMissing l E H.size h0 r_t x7 t_taped t_at t_faultPlace t_number t_newBits t_newTold t_newDoings t_newThings t_opened x78 x79 x80 t_turned t_wasConverted t_lastBits t_lastSum t_lastHeld t_lastLeft t_lastCode t_writtenLong x53 t_acts t_done0 t_stoppedAt f73 f76 f51 f74 f77 f52 f75 (r83, f84, f85, f86, f87, f88, x89, x90, x91, f92, f93, x94) hc96) rfl hl.1 ⟨⟨rfl, rfl⟩, ⟨Nat.le_of_ble_eq_true rfl, Nat.le_of_ble_eq_true rfl⟩, ⟨Nat.le_of_ble_eq_true rfl, Nat.le_of_ble_eq_true rfl⟩, Nat.le_of_ble_eq_true rfl⟩) hA w [0, 1, 2, 3, 4, 5, 8, 9] [6, 7] [2, 3, 4, 5, 6, 7, 0, 1, 8, 9] rfl rfl (by decide) (fun _ => rfl) (fun _ H locs w => ?_)
                    obtain ⟨J107, hJ107, hf⟩ := pf_jn hf
                    have kJ107 : ∀ (x95 : Int32) (H : Heap) (locs : List Loc) (ls : Array Slot), J107 x95 = some R → hm_W E A s.heap [oc8 h0 r_t x7 t_taped t_at t_faultPlace t_number t_newBits t_newTold t_newDoings t_newThings t_opened x89 x90 x91 t_turned t_wasConverted t_lastBits t_lastSum t_lastHeld t_lastLeft t_lastCode t_writtenLong x94 t_acts t_done0 t_stoppedAt, ic E (r_t 0) 800 f84, ic E (r_t 27) 12 f87, ic E (r_t 42) 2000 f92, ic E (r_t 25) 12 f85, ic E (r_t 28) 12 f88, ic E (r_t 24) 12 f31, ic E (r_t 23) 90 f30, ic E (r_t 43) 2000 f93, zc E (r_t 26) 12 f86] H locs → lv_has ls 9 [(0, .ref h0), (1, .int a1), (2, .int a2), (3, .int a3), (4, .int x81), (5, .int x82), (7, .int x28)] → W p l e (hm_rr 7 159 0 0) s m args below meth c H locs 0 0 Q (F0 m 107 ls [.int x95, .int x27]) := by
                      intro x95 H locs ls hf w hl
                      have hf := pf_j1 hJ107 hf
                      refine lv_iadd hx hb dX8_plan_107 ?_
                      refine lv_topi (fun x96 ex96 => ?_)
                      have hf := pf_nm ex96 hf
                      refine lv_istore (lv' := [(6, .int x96), (0, .ref h0), (1, .int a1), (2, .int a2), (3, .int a3), (4, .int x81), (5, .int x82), (7, .int x28)]) hx hb dX8_plan_108 hl (by decide) rfl (fun ls hl => ?_)
                      exact kJ110 _ _ _ _ _ _ _ _ _ _ _ _ _ _ _ _ _ hf w (lv_sub hl [1, 2, 3, 4, 5, 6, 0, 7] rfl)
                    refine lv_if_eq (tgt := 106) hx hb dX8_plan_99 (by decide) (fun c99 => ?_) (fun c99 => ?_)
                    · have hf := pf_t c99 hf
                      refine lv_iconst (v := 0) hx hb dX8_plan_106 (by decide) ?_
                      exact kJ107 _ _ _ _ hf w (lv_sub hl [1, 2, 3, 4, 5, 0, 7] rfl)
                    · have hf := pf_e c99 hf
                      refine lv_iconst (v := 1) hx hb dX8_plan_102 (by decide) ?_
                      refine lv_goto (tgt := 107) hx hb dX8_plan_103 (by decide) ?_
                      exact kJ107 _ _ _ _ hf w (lv_sub hl [1, 2, 3, 4, 5, 0, 7] rfl)
                  refine lv_icmp_ne (tgt := 89) hx hb dX8_plan_81 (by decide) (fun c81 => ?_) (fun c81 => ?_)
                  · have hf := pf_e c81 hf
                    refine lv_iload hx hb dX8_plan_89 (lv_at hl 5 rfl) ?_
                    exact kJ91 _ _ _ _ hf w (lv_sub hl [1, 2, 3, 4, 0, 6, 7] rfl)
                  · have hf := pf_t c81 hf
                    refine lv_iload hx hb dX8_plan_84 (lv_at hl 7 rfl) ?_
                    refine lv_goto (tgt := 91) hx hb dX8_plan_86 (by decide) ?_
                    exact kJ91 _ _ _ _ hf w (lv_sub hl [1, 2, 3, 4, 0, 6, 7] rfl)
          exact klp_X8_plan_57 FU _ _ _ _ _ _ _ _ _ _ _ _ _ _ _ _ _ _ _ _ hf w (lv_sub hl [4, 5, 6, 7, 3, 2, 1, 0] rfl)
        · have hf := pf_t c36 hf
          refine lv_iconst (v := (-1)) hx hb dX8_plan_39 (by decide) ?_
          exact hQ _ _ _ _ _ (t_all, t_base, t_pile, t_nextOff, t_decided, t_wasLate, t_askedOf, t_heldBehind, t_sum, t_heldAll, t_onPaper, t_codes, t_sorted, t_codeMany) (fun _ => 0) hf rfl w dX8_plan_40