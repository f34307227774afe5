set_option maxHeartbeats 8000000 in
set_option maxRecDepth 100000 in
theorem ct_X8_keep (l : Launch) (E : hm_E) (sz : Nat) (h0 : Nat) (r_t : Nat → Nat) (t_base t_taped t_at t_faultPlace t_number t_newBits t_newTold t_newDoings t_newThings t_opened t_sum t_heldAll t_onPaper t_turned t_wasConverted t_lastBits t_lastSum t_lastHeld t_lastLeft t_lastCode t_writtenLong t_codeMany t_acts t_done0 t_stoppedAt : Int32) (t_all : Nat → Int32) (t_isKept : Nat → Int32) (a1 : Int32) (R : Int32 × (Nat → Int32) × (Nat → Int32)) (hf : pf_X8_keep a1 t_all t_isKept = some R) : hm_Mi l E yX8_keep cX8_keep 2 .boolean [] (hm_rr 1 23 0 0) [.ref h0, .int a1] sz [oc8 h0 r_t t_base t_taped t_at t_faultPlace t_number t_newBits t_newTold t_newDoings t_newThings t_opened t_sum t_heldAll t_onPaper t_turned t_wasConverted t_lastBits t_lastSum t_lastHeld t_lastLeft t_lastCode t_writtenLong t_codeMany t_acts t_done0 t_stoppedAt, ic E (r_t 0) 800 t_all, zc E (r_t 47) 3 t_isKept] R.1 (fun _ => [oc8 h0 r_t t_base t_taped t_at t_faultPlace t_number t_newBits t_newTold t_newDoings t_newThings t_opened t_sum t_heldAll t_onPaper t_turned t_wasConverted t_lastBits t_lastSum t_lastHeld t_lastLeft t_lastCode t_writtenLong t_codeMany t_acts t_done0 t_stoppedAt, ic E (r_t 0) 800 (R.2.1), zc E (r_t 47) 3 (R.2.2)]) := by
  refine hm_ct_i R (fun u _ => [oc8 h0 r_t t_base t_taped t_at t_faultPlace t_number t_newBits t_newTold t_newDoings t_newThings t_opened t_sum t_heldAll t_onPaper t_turned t_wasConverted t_lastBits t_lastSum t_lastHeld t_lastLeft t_lastCode t_writtenLong t_codeMany t_acts t_done0 t_stoppedAt, ic E (r_t 0) 800 (u.1), zc E (r_t 47) 3 (u.2)]) (by decide) (Nat.le_of_ble_eq_true rfl) (Or.inr rfl) ?_
  intro p e s m args below meth c A Q ls H locs hx hb hml hown X hA Y hex w hl hQ
  have hl : lv_has ls 2 [(0, .ref h0), (1, .int a1)] := hl
  unfold pf_X8_keep at hf
  refine lv_iload_n hx hb dX8_keep_0 rfl (lv_at hl 1 rfl) ?_
  refine lv_iconst (v := 0) hx hb dX8_keep_1 (by decide) ?_
  refine lv_iconst (v := 2) hx hb dX8_keep_2 (by decide) ?_
  obtain ⟨r1, hc3, hf⟩ := pf_bi_0 hf
  refine hm_aft_i (ws' := fun _ => [oc8 h0 r_t t_base t_taped t_at t_faultPlace t_number t_newBits t_newTold t_newDoings t_newThings t_opened t_sum t_heldAll t_onPaper t_turned t_wasConverted t_lastBits t_lastSum t_lastHeld t_lastLeft t_lastCode t_writtenLong t_codeMany t_acts t_done0 t_stoppedAt, ic E (r_t 0) 800 t_all, zc E (r_t 47) 3 t_isKept]) (hm_runS (rest := []) hx hb hml hown X hA Y w mw_X8_isIn ml_X8_129 dX8_keep_3 hm_ac0 [.int a1, .int 0, .int 2] rfl [] rfl rfl (ct_X8_isIn l E H.size a1 0 2 (r1, ()) hc3) rfl hl.1 ⟨⟨rfl, rfl⟩, ⟨Nat.le_of_ble_eq_true rfl, Nat.le_of_ble_eq_true rfl⟩, ⟨Nat.le_of_ble_eq_true rfl, Nat.le_of_ble_eq_true rfl⟩, Nat.le_of_ble_eq_true rfl⟩) hA w [] [0, 1, 2] [0, 1, 2] rfl rfl (by decide) (fun _ => rfl) (fun _ H locs w => ?_)
  refine lv_if_ne (tgt := 11) hx hb dX8_keep_6 (by decide) (fun c6 => ?_) (fun c6 => ?_)
  · have hf := pf_e c6 hf
    refine lv_aload_n hx hb dX8_keep_11 rfl (lv_at hl 0 rfl) ?_
    refine lv_iconst (v := 0) hx hb dX8_keep_12 (by decide) ?_
    refine lv_iconst (v := 1) hx hb dX8_keep_13 (by decide) ?_
    refine lv_iload_n hx hb dX8_keep_14 rfl (lv_at hl 1 rfl) ?_
    refine lv_iadd hx hb dX8_keep_15 ?_
    obtain ⟨f2, hc16, hf⟩ := pf_bv_1 hf
    refine hm_aft_v (ws' := fun _ => [oc8 h0 r_t t_base t_taped t_at t_faultPlace t_number t_newBits t_newTold t_newDoings t_newThings t_opened t_sum t_heldAll t_onPaper t_turned t_wasConverted t_lastBits t_lastSum t_lastHeld t_lastLeft t_lastCode t_writtenLong t_codeMany t_acts t_done0 t_stoppedAt, ic E (r_t 0) 800 f2, zc E (r_t 47) 3 t_isKept]) (hm_runV (rest := []) hx hb hml hown X hA Y w 0 (ci := 7) (T := TX8) (N := 55) rfl rfl mw_X8_copyRow ml_X8_11 dX8_keep_16 hm_ac0 [.int 0, .int (1 + a1)] rfl [0, 1] rfl rfl (ct_X8_copyRow l E H.size h0 r_t t_base t_taped t_at t_faultPlace t_number t_newBits t_newTold t_newDoings t_newThings t_opened t_sum t_heldAll t_onPaper t_turned t_wasConverted t_lastBits t_lastSum t_lastHeld t_lastLeft t_lastCode t_writtenLong t_codeMany t_acts t_done0 t_stoppedAt t_all 0 (1 + a1) f2 hc16) rfl hl.1 ⟨⟨rfl, rfl⟩, ⟨Nat.le_of_ble_eq_true rfl, Nat.le_of_ble_eq_true rfl⟩, ⟨Nat.le_of_ble_eq_true rfl, Nat.le_of_ble_eq_true rfl⟩, Nat.le_of_ble_eq_true rfl⟩) hA w [0, 1] [2] [1, 2, 0] rfl rfl (by decide) (fun _ => rfl) (fun _ H locs w => ?_)
    refine lv_aload_n hx hb dX8_keep_19 rfl (lv_at hl 0 rfl) ?_
    refine hm_get cb_X8 hx hb hown X w 0 47 fl_X8_101 dX8_keep_20 rfl (by decide) rfl ?_
    refine lv_iload_n hx hb dX8_keep_23 rfl (lv_at hl 1 rfl) ?_
    refine lv_iconst (v := 1) hx hb dX8_keep_24 (by decide) ?_
    obtain ⟨g25, hf⟩ := pf_ckI hf
    refine hm_zast (ws' := [oc8 h0 r_t t_base t_taped t_at t_faultPlace t_number t_newBits t_newTold t_newDoings t_newThings t_opened t_sum t_heldAll t_onPaper t_turned t_wasConverted t_lastBits t_lastSum t_lastHeld t_lastLeft t_lastCode t_writtenLong t_codeMany t_acts t_done0 t_stoppedAt, ic E (r_t 0) 800 f2, zc E (r_t 47) 3 (upd t_isKept a1.toNatClampNeg (vp_nar .boolean 1))]) hx hb X w 2 dX8_keep_25 rfl g25 rfl (fun H locs w => ?_)
    refine lv_iconst (v := 1) hx hb dX8_keep_26 (by decide) ?_
    exact hQ _ _ _ _ _ (f2, (upd t_isKept a1.toNatClampNeg (vp_nar .boolean 1))) (fun _ => 0) hf rfl w dX8_keep_27
  · have hf := pf_t c6 hf
    refine lv_iconst (v := 0) hx hb dX8_keep_9 (by decide) ?_
    exact hQ _ _ _ _ _ (t_all, t_isKept) (fun _ => 0) hf rfl w dX8_keep_10
set_option maxHeartbeats 8000000 in
set_option maxRecDepth 100000 in
theorem ct_X8_back (l : Launch) (E : hm_E) (sz : Nat) (h0 : Nat) (r_t : Nat → Nat) (t_base t_taped t_at t_faultPlace t_number t_newBits t_newTold t_newDoings t_newThings t_opened t_sum t_heldAll t_onPaper t_turned t_wasConverted t_lastBits t_lastSum t_lastHeld t_lastLeft t_lastCode t_writtenLong t_codeMany t_acts t_done0 t_stoppedAt : Int32) (t_all : Nat → Int32) (t_isKept : Nat → Int32) (a1 : Int32) (R : Int32 × (Nat → Int32) × Int32) (hf : pf_X8_back a1 t_all t_wasConverted t_isKept = some R) : hm_Mi l E yX8_back cX8_back 2 .boolean [] (hm_rr 1 23 0 0) [.ref h0, .int a1] sz [oc8 h0 r_t t_base t_taped t_at t_faultPlace t_number t_newBits t_newTold t_newDoings t_newThings t_opened t_sum t_heldAll t_onPaper t_turned t_wasConverted t_lastBits t_lastSum t_lastHeld t_lastLeft t_lastCode t_writtenLong t_codeMany t_acts t_done0 t_stoppedAt, ic E (r_t 0) 800 t_all, zc E (r_t 47) 3 t_isKept] R.1 (fun _ => [oc8 h0 r_t t_base t_taped t_at t_faultPlace t_number t_newBits t_newTold t_newDoings t_newThings t_opened t_sum t_heldAll t_onPaper t_turned (R.2.2) t_lastBits t_lastSum t_lastHeld t_lastLeft t_lastCode t_writtenLong t_codeMany t_acts t_done0 t_stoppedAt, ic E (r_t 0) 800 (R.2.1), zc E (r_t 47) 3 t_isKept]) := by
  refine hm_ct_i R (fun u _ => [oc8 h0 r_t t_base t_taped t_at t_faultPlace t_number t_newBits t_newTold t_newDoings t_newThings t_opened t_sum t_heldAll t_onPaper t_turned (u.2) t_lastBits t_lastSum t_lastHeld t_lastLeft t_lastCode t_writtenLong t_codeMany t_acts t_done0 t_stoppedAt, ic E (r_t 0) 800 (u.1), zc E (r_t 47) 3 t_isKept]) (by decide) (Nat.le_of_ble_eq_true rfl) (Or.inr rfl) ?_
  intro p e s m args below meth c A Q ls H locs hx hb hml hown X hA Y hex w hl hQ
  have hl : lv_has ls 2 [(0, .ref h0), (1, .int a1)] := hl
  unfold pf_X8_back at hf
  refine lv_iload_n hx hb dX8_back_0 rfl (lv_at hl 1 rfl) ?_
  refine lv_iconst (v := 0) hx hb dX8_back_1 (by decide) ?_
  refine lv_iconst (v := 2) hx hb dX8_back_2 (by decide) ?_
  obtain ⟨r1, hc3, hf⟩ := pf_bi_0 hf
  refine hm_aft_i (ws' := fun _ => [oc8 h0 r_t t_base t_taped t_at t_faultPlace t_number t_newBits t_newTold t_newDoings t_newThings t_opened t_sum t_heldAll t_onPaper t_turned t_wasConverted t_lastBits t_lastSum t_lastHeld t_lastLeft t_lastCode t_writtenLong t_codeMany t_acts t_done0 t_stoppedAt, ic E (r_t 0) 800 t_all, zc E (r_t 47) 3 t_isKept]) (hm_runS (rest := []) hx hb hml hown X hA Y w mw_X8_isIn ml_X8_129 dX8_back_3 hm_ac0 [.int a1, .int 0, .int 2] rfl [] rfl rfl (ct_X8_isIn l E H.size a1 0 2 (r1, ()) hc3) rfl hl.1 ⟨⟨rfl, rfl⟩, ⟨Nat.le_of_ble_eq_true rfl, Nat.le_of_ble_eq_true rfl⟩, ⟨Nat.le_of_ble_eq_true rfl, Nat.le_of_ble_eq_true rfl⟩, Nat.le_of_ble_eq_true rfl⟩) hA w [] [0, 1, 2] [0, 1, 2] rfl rfl (by decide) (fun _ => rfl) (fun _ H locs w => ?_)
  refine lv_if_eq (tgt := 18) hx hb dX8_back_6 (by decide) (fun c6 => ?_) (fun c6 => ?_)
  · have hf := pf_t c6 hf
    refine lv_iconst (v := 0) hx hb dX8_back_18 (by decide) ?_
    exact hQ _ _ _ _ _ (t_all, t_wasConverted) (fun _ => 0) hf rfl w dX8_back_19
  · have hf := pf_e c6 hf
    refine lv_aload_n hx hb dX8_back_9 rfl (lv_at hl 0 rfl) ?_
    refine hm_get cb_X8 hx hb hown X w 0 47 fl_X8_101 dX8_back_10 rfl (by decide) rfl ?_
    refine lv_iload_n hx hb dX8_back_13 rfl (lv_at hl 1 rfl) ?_
    obtain ⟨g14, hf⟩ := pf_ckI hf
    refine hm_zald hx hb X w 2 dX8_back_14 rfl g14 ?_
    refine lv_if_ne (tgt := 20) hx hb dX8_back_15 (by decide) (fun c15 => ?_) (fun c15 => ?_)
    · have hf := pf_e c15 hf
      refine lv_aload_n hx hb dX8_back_20 rfl (lv_at hl 0 rfl) ?_
      refine lv_iconst (v := 1) hx hb dX8_back_21 (by decide) ?_
      refine lv_iload_n hx hb dX8_back_22 rfl (lv_at hl 1 rfl) ?_
      refine lv_iadd hx hb dX8_back_23 ?_
      refine lv_iconst (v := 0) hx hb dX8_back_24 (by decide) ?_
      obtain ⟨f2, hc25, hf⟩ := pf_bv_1 hf
      refine hm_aft_v (ws' := fun _ => [oc8 h0 r_t t_base t_taped t_at t_faultPlace t_number t_newBits t_newTold t_newDoings t_newThings t_opened t_sum t_heldAll t_onPaper t_turned t_wasConverted t_lastBits t_lastSum t_lastHeld t_lastLeft t_lastCode t_writtenLong t_codeMany t_acts t_done0 t_stoppedAt, ic E (r_t 0) 800 f2, zc E (r_t 47) 3 t_isKept]) (hm_runV (rest := []) hx hb hml hown X hA Y w 0 (ci := 7) (T := TX8) (N := 55) rfl rfl mw_X8_copyRow ml_X8_11 dX8_back_25 hm_ac0 [.int (1 + a1), .int 0] rfl [0, 1] rfl rfl (ct_X8_copyRow l E H.size h0 r_t t_base t_taped t_at t_faultPlace t_number t_newBits t_newTold t_newDoings t_newThings t_opened t_sum t_heldAll t_onPaper t_turned t_wasConverted t_lastBits t_lastSum t_lastHeld t_lastLeft t_lastCode t_writtenLong t_codeMany t_acts t_done0 t_stoppedAt t_all (1 + a1) 0 f2 hc25) rfl hl.1 ⟨⟨rfl, rfl⟩, ⟨Nat.le_of_ble_eq_true rfl, Nat.le_of_ble_eq_true rfl⟩, ⟨Nat.le_of_ble_eq_true rfl, Nat.le_of_ble_eq_true rfl⟩, Nat.le_of_ble_eq_true rfl⟩) hA w [0, 1] [2] [1, 2, 0] rfl rfl (by decide) (fun _ => rfl) (fun _ H locs w => ?_)
      refine lv_aload_n hx hb dX8_back_28 rfl (lv_at hl 0 rfl) ?_
      refine lv_iconst (v := 0) hx hb dX8_back_29 (by decide) ?_
      refine hm_put (ws' := [oc8 h0 r_t t_base t_taped t_at t_faultPlace t_number t_newBits t_newTold t_newDoings t_newThings t_opened t_sum t_heldAll t_onPaper t_turned 0 t_lastBits t_lastSum t_lastHeld t_lastLeft t_lastCode t_writtenLong t_codeMany t_acts t_done0 t_stoppedAt, ic E (r_t 0) 800 f2, zc E (r_t 47) 3 t_isKept]) cb_X8 hx hb hown X w 0 33 fl_X8_181 dX8_back_30 rfl (by decide) (Nat.le_of_ble_eq_true rfl) rfl rfl rfl rfl (fun H locs w => ?_)
      refine lv_iconst (v := 1) hx hb dX8_back_33 (by decide) ?_
      exact hQ _ _ _ _ _ (f2, 0) (fun _ => 0) hf rfl w dX8_back_34
    · have hf := pf_t c15 hf
      refine lv_iconst (v := 0) hx hb dX8_back_18 (by decide) ?_
      exact hQ _ _ _ _ _ (t_all, t_wasConverted) (fun _ => 0) hf rfl w dX8_back_19
set_option maxHeartbeats 8000000 in
set_option maxRecDepth 100000 in
theorem ct_X8_apart (l : Launch) (E : hm_E) (sz : Nat) (h0 : Nat) (r_t : Nat → Nat) (t_base t_taped t_at t_faultPlace t_number t_newBits t_newTold t_newDoings t_newThings t_opened t_sum t_heldAll t_onPaper t_turned t_wasConverted t_lastBits t_lastSum t_lastHeld t_lastLeft t_lastCode t_writtenLong t_codeMany t_acts t_done0 t_stoppedAt : Int32) (t_all : Nat → Int32) (t_askedOf : Nat → Int32) (t_decided : Nat → Int32) (t_heldBehind : Nat → Int32) (t_isKept : Nat → Int32) (t_wasLate : Nat → Int32) (a1 : Int32) (a2 : Int32) (a3 : Int32) (a4 : Int32) (R : Int32 × (Nat → Int32) × Int32 × (Nat → Int32) × (Nat → Int32) × (Nat → Int32) × (Nat → Int32) × Int32 × Int32 × Int32) (hf : pf_X8_apart a1 a2 a3 a4 t_all t_base t_decided t_wasLate t_askedOf t_heldBehind t_sum t_heldAll t_onPaper t_turned t_isKept = some R) : hm_Mi l E yX8_apart cX8_apart 11 .int [] (hm_rr 5 115 0 0) [.ref h0, .int a1, .int a2, .int a3, .int a4] sz [oc8 h0 r_t t_base t_taped t_at t_faultPlace t_number t_newBits t_newTold t_newDoings t_newThings t_opened t_sum t_heldAll t_onPaper t_turned t_wasConverted t_lastBits t_lastSum t_lastHeld t_lastLeft t_lastCode t_writtenLong t_codeMany t_acts t_done0 t_stoppedAt, ic E (r_t 0) 800 t_all, ic E (r_t 27) 12 t_askedOf, ic E (r_t 25) 12 t_decided, ic E (r_t 28) 12 t_heldBehind, zc E (r_t 47) 3 t_isKept, zc E (r_t 26) 12 t_wasLate] R.1 (fun _ => [oc8 h0 r_t (R.2.2.1) t_taped t_at t_faultPlace t_number t_newBits t_newTold t_newDoings t_newThings t_opened (R.2.2.2.2.2.2.2.1) (R.2.2.2.2.2.2.2.2.1) (R.2.2.2.2.2.2.2.2.2) t_turned t_wasConverted t_lastBits t_lastSum t_lastHeld t_lastLeft t_lastCode t_writtenLong t_codeMany t_acts t_done0 t_stoppedAt, ic E (r_t 0) 800 (R.2.1), ic E (r_t 27) 12 (R.2.2.2.2.2.1), ic E (r_t 25) 12 (R.2.2.2.1), ic E (r_t 28) 12 (R.2.2.2.2.2.2.1), zc E (r_t 47) 3 t_isKept, zc E (r_t 26) 12 (R.2.2.2.2.1)]) := by
  refine hm_ct_i R (fun u _ => [oc8 h0 r_t (u.2.1) t_taped t_at t_faultPlace t_number t_newBits t_newTold t_newDoings t_newThings t_opened (u.2.2.2.2.2.2.1) (u.2.2.2.2.2.2.2.1) (u.2.2.2.2.2.2.2.2) t_turned t_wasConverted t_lastBits t_lastSum t_lastHeld t_lastLeft t_lastCode t_writtenLong t_codeMany t_acts t_done0 t_stoppedAt, ic E (r_t 0) 800 (u.1), ic E (r_t 27) 12 (u.2.2.2.2.1), ic E (r_t 25) 12 (u.2.2.1), ic E (r_t 28) 12 (u.2.2.2.2.2.1), zc E (r_t 47) 3 t_isKept, zc E (r_t 26) 12 (u.2.2.2.1)]) (by decide) (Nat.le_of_ble_eq_true rfl) (Or.inl rfl) ?_
  intro p e s m args below meth c A Q ls H locs hx hb hml hown X hA Y hex w hl hQ
  have hl : lv_has ls 11 [(0, .ref h0), (1, .int a1), (2, .int a2), (3, .int a3), (4, .int a4)] := hl
  unfold pf_X8_apart at hf
  refine lv_iload_n hx hb dX8_apart_0 rfl (lv_at hl 1 rfl) ?_
  refine lv_iconst (v := 0) hx hb dX8_apart_1 (by decide) ?_
  refine lv_iconst (v := 2) hx hb dX8_apart_2 (by decide) ?_
  obtain ⟨r1, hc3, hf⟩ := pf_bi_0 hf
  refine hm_aft_i (ws' := fun _ => [oc8 h0 r_t t_base t_taped t_at t_faultPlace t_number t_newBits t_newTold t_newDoings t_newThings t_opened t_sum t_heldAll t_onPaper t_turned t_wasConverted t_lastBits t_lastSum t_lastHeld t_lastLeft t_lastCode t_writtenLong t_codeMany t_acts t_done0 t_stoppedAt, ic E (r_t 0) 800 t_all, ic E (r_t 27) 12 t_askedOf, ic E (r_t 25) 12 t_decided, ic E (r_t 28) 12 t_heldBehind, zc E (r_t 47) 3 t_isKept, zc E (r_t 26) 12 t_wasLate]) (hm_runS (rest := []) hx hb hml hown X hA Y w mw_X8_isIn ml_X8_129 dX8_apart_3 hm_ac0 [.int a1, .int 0, .int 2] rfl [] rfl rfl (ct_X8_isIn l E H.size a1 0 2 (r1, ()) hc3) rfl hl.1 ⟨⟨rfl, rfl⟩, ⟨Nat.le_of_ble_eq_true rfl, Nat.le_of_ble_eq_true rfl⟩, ⟨Nat.le_of_ble_eq_true rfl, Nat.le_of_ble_eq_true rfl⟩, Nat.le_of_ble_eq_true rfl⟩) hA w [] [0, 1, 2, 3, 4, 5, 6] [0, 1, 2, 3, 4, 5, 6] rfl rfl (by decide) (fun _ => rfl) (fun _ H locs w => ?_)
  refine lv_if_eq (tgt := 62) hx hb dX8_apart_6 (by decide) (fun c6 => ?_) (fun c6 => ?_)
  · have hf := pf_t c6 hf
    refine lv_ldcw (v := (-1000000)) hx hb hown (X.use ck_X8_283 rfl) dX8_apart_62 ?_
    exact hQ _ _ _ _ _ (t_all, t_base, t_decided, t_wasLate, t_askedOf, t_heldBehind, t_sum, t_heldAll, t_onPaper) (fun _ => 0) hf rfl w dX8_apart_65
  · have hf := pf_e c6 hf
    refine lv_aload_n hx hb dX8_apart_9 rfl (lv_at hl 0 rfl) ?_
    refine hm_get cb_X8 hx hb hown X w 0 47 fl_X8_101 dX8_apart_10 rfl (by decide) rfl ?_
    refine lv_iload_n hx hb dX8_apart_13 rfl (lv_at hl 1 rfl) ?_
    obtain ⟨g14, hf⟩ := pf_ckI hf
    refine hm_zald hx hb X w 5 dX8_apart_14 rfl g14 ?_
    refine lv_if_eq (tgt := 62) hx hb dX8_apart_15 (by decide) (fun c15 => ?_) (fun c15 => ?_)
    · have hf := pf_t c15 hf
      refine lv_ldcw (v := (-1000000)) hx hb hown (X.use ck_X8_283 rfl) dX8_apart_62 ?_
      exact hQ _ _ _ _ _ (t_all, t_base, t_decided, t_wasLate, t_askedOf, t_heldBehind, t_sum, t_heldAll, t_onPaper) (fun _ => 0) hf rfl w dX8_apart_65
    · have hf := pf_e c15 hf
      refine lv_aload_n hx hb dX8_apart_18 rfl (lv_at hl 0 rfl) ?_
      refine lv_iconst (v := 0) hx hb dX8_apart_19 (by decide) ?_
      obtain ⟨r2, hc20, hf⟩ := pf_bi_0 hf
      refine hm_aft_i (ws' := fun _ => [oc8 h0 r_t t_base t_taped t_at t_faultPlace t_number t_newBits t_newTold t_newDoings t_newThings t_opened t_sum t_heldAll t_onPaper t_turned t_wasConverted t_lastBits t_lastSum t_lastHeld t_lastLeft t_lastCode t_writtenLong t_codeMany t_acts t_done0 t_stoppedAt, ic E (r_t 0) 800 t_all, ic E (r_t 27) 12 t_askedOf, ic E (r_t 25) 12 t_decided, ic E (r_t 28) 12 t_heldBehind, zc E (r_t 47) 3 t_isKept, zc E (r_t 26) 12 t_wasLate]) (hm_runV (rest := []) hx hb hml hown X hA Y w 0 (ci := 7) (T := TX8) (N := 55) rfl rfl mw_X8_get ml_X8_221 dX8_apart_20 hm_ac0 [.int 0] rfl [0, 1] rfl rfl (ct_X8_get l E H.size h0 r_t t_base t_taped t_at t_faultPlace t_number t_newBits t_newTold t_newDoings t_newThings t_opened t_sum t_heldAll t_onPaper t_turned t_wasConverted t_lastBits t_lastSum t_lastHeld t_lastLeft t_lastCode t_writtenLong t_codeMany t_acts t_done0 t_stoppedAt t_all 0 (r2, ()) hc20) rfl hl.1 ⟨⟨rfl, rfl⟩, ⟨Nat.le_of_ble_eq_true rfl, Nat.le_of_ble_eq_true rfl⟩, ⟨Nat.le_of_ble_eq_true rfl, Nat.le_of_ble_eq_true rfl⟩, Nat.le_of_ble_eq_true rfl⟩) hA w [0, 1] [2, 3, 4, 5, 6] [5, 6, 0, 1, 2, 3, 4] rfl rfl (by decide) (fun _ => rfl) (fun _ H locs w => ?_)
      refine lv_if_eq (tgt := 62) hx hb dX8_apart_23 (by decide) (fun c23 => ?_) (fun c23 => ?_)
      · have hf := pf_t c23 hf
        refine lv_ldcw (v := (-1000000)) hx hb hown (X.use ck_X8_283 rfl) dX8_apart_62 ?_
        exact hQ _ _ _ _ _ (t_all, t_base, t_decided, t_wasLate, t_askedOf, t_heldBehind, t_sum, t_heldAll, t_onPaper) (fun _ => 0) hf rfl w dX8_apart_65
      · have hf := pf_e c23 hf
        refine lv_aload_n hx hb dX8_apart_26 rfl (lv_at hl 0 rfl) ?_
        refine hm_get cb_X8 hx hb hown X w 0 0 fl_X8_1 dX8_apart_27 rfl (by decide) rfl ?_
        refine lv_sipush (v := 160) hx hb dX8_apart_30 (by decide) ?_
        refine lv_iconst (v := 1) hx hb dX8_apart_33 (by decide) ?_
        refine lv_iload_n hx hb dX8_apart_34 rfl (lv_at hl 1 rfl) ?_
        refine lv_iadd hx hb dX8_apart_35 ?_
        refine lv_imul hx hb dX8_apart_36 ?_
        refine lv_iconst (v := 0) hx hb dX8_apart_37 (by decide) ?_
        refine lv_iadd hx hb dX8_apart_38 ?_
        obtain ⟨g39, hf⟩ := pf_ckI hf
        refine hm_iald hx hb X w 1 dX8_apart_39 rfl g39 ?_
        refine lv_if_eq (tgt := 62) hx hb dX8_apart_40 (by decide) (fun c40 => ?_) (fun c40 => ?_)
        · have hf := pf_t c40 hf
          refine lv_ldcw (v := (-1000000)) hx hb hown (X.use ck_X8_283 rfl) dX8_apart_62 ?_
          exact hQ _ _ _ _ _ (t_all, t_base, t_decided, t_wasLate, t_askedOf, t_heldBehind, t_sum, t_heldAll, t_onPaper) (fun _ => 0) hf rfl w dX8_apart_65
        · have hf := pf_e c40 hf
          refine lv_iload_n hx hb dX8_apart_43 rfl (lv_at hl 2 rfl) ?_
          refine lv_iload_n hx hb dX8_apart_44 rfl (lv_at hl 3 rfl) ?_
          refine lv_iconst (v := 1) hx hb dX8_apart_45 (by decide) ?_
          obtain ⟨r3, hc46, hf⟩ := pf_bi_0 hf
          refine hm_aft_i (ws' := fun _ => [oc8 h0 r_t t_base t_taped t_at t_faultPlace t_number t_newBits t_newTold t_newDoings t_newThings t_opened t_sum t_heldAll t_onPaper t_turned t_wasConverted t_lastBits t_lastSum t_lastHeld t_lastLeft t_lastCode t_writtenLong t_codeMany t_acts t_done0 t_stoppedAt, ic E (r_t 0) 800 t_all, ic E (r_t 27) 12 t_askedOf, ic E (r_t 25) 12 t_decided, ic E (r_t 28) 12 t_heldBehind, zc E (r_t 47) 3 t_isKept, zc E (r_t 26) 12 t_wasLate]) (hm_runS (rest := []) hx hb hml hown X hA Y w mw_X8_isRow ml_X8_344 dX8_apart_46 hm_ac0 [.int a2, .int a3, .int 1] rfl [] rfl rfl (ct_X8_isRow l E H.size a2 a3 1 (r3, ()) hc46) rfl hl.1 ⟨⟨rfl, rfl⟩, ⟨Nat.le_of_ble_eq_true rfl, Nat.le_of_ble_eq_true rfl⟩, ⟨Nat.le_of_ble_eq_true rfl, Nat.le_of_ble_eq_true rfl⟩, Nat.le_of_ble_eq_true rfl⟩) hA w [] [0, 1, 2, 3, 4, 5, 6] [0, 1, 2, 3, 4, 5, 6] rfl rfl (by decide) (fun _ => rfl) (fun _ H locs w => ?_)
          refine lv_if_eq (tgt := 62) hx hb dX8_apart_49 (by decide) (fun c49 => ?_) (fun c49 => ?_)
          · have hf := pf_t c49 hf
            refine lv_ldcw (v := (-1000000)) hx hb hown (X.use ck_X8_283 rfl) dX8_apart_62 ?_
            exact hQ _ _ _ _ _ (t_all, t_base, t_decided, t_wasLate, t_askedOf, t_heldBehind, t_sum, t_heldAll, t_onPaper) (fun _ => 0) hf rfl w dX8_apart_65
          · have hf := pf_e c49 hf
            refine lv_iload hx hb dX8_apart_52 (lv_at hl 4 rfl) ?_
            refine lv_iconst (v := 0) hx hb dX8_apart_54 (by decide) ?_
            refine lv_iconst (v := 2) hx hb dX8_apart_55 (by decide) ?_
            obtain ⟨r4, hc56, hf⟩ := pf_bi_0 hf
            refine hm_aft_i (ws' := fun _ => [oc8 h0 r_t t_base t_taped t_at t_faultPlace t_number t_newBits t_newTold t_newDoings t_newThings t_opened t_sum t_heldAll t_onPaper t_turned t_wasConverted t_lastBits t_lastSum t_lastHeld t_lastLeft t_lastCode t_writtenLong t_codeMany t_acts t_done0 t_stoppedAt, ic E (r_t 0) 800 t_all, ic E (r_t 27) 12 t_askedOf, ic E (r_t 25) 12 t_decided, ic E (r_t 28) 12 t_heldBehind, zc E (r_t 47) 3 t_isKept, zc E (r_t 26) 12 t_wasLate]) (hm_runS (rest := []) hx hb hml hown X hA Y w mw_X8_isIn ml_X8_129 dX8_apart_56 hm_ac0 [.int a4, .int 0, .int 2] rfl [] rfl rfl (ct_X8_isIn l E H.size a4 0 2 (r4, ()) hc56) rfl hl.1 ⟨⟨rfl, rfl⟩, ⟨Nat.le_of_ble_eq_true rfl, Nat.le_of_ble_eq_true rfl⟩, ⟨Nat.le_of_ble_eq_true rfl, Nat.le_of_ble_eq_true rfl⟩, Nat.le_of_ble_eq_true rfl⟩) hA w [] [0, 1, 2, 3, 4, 5, 6] [0, 1, 2, 3, 4, 5, 6] rfl rfl (by decide) (fun _ => rfl) (fun _ H locs w => ?_)
            refine lv_if_ne (tgt := 66) hx hb dX8_apart_59 (by decide) (fun c59 => ?_) (fun c59 => ?_)
            · have hf := pf_e c59 hf
              refine lv_iconst (v := 0) hx hb dX8_apart_66 (by decide) ?_
              refine lv_istore (lv' := [(5, .int 0), (0, .ref h0), (1, .int a1), (2, .int a2), (3, .int a3), (4, .int a4)]) hx hb dX8_apart_67 hl (by decide) rfl (fun ls hl => ?_)
              refine lv_ldcw (v := (-1000000)) hx hb hown (X.use ck_X8_283 rfl) dX8_apart_69 ?_
              refine lv_istore (lv' := [(6, .int (-1000000)), (5, .int 0), (0, .ref h0), (1, .int a1), (2, .int a2), (3, .int a3), (4, .int a4)]) hx hb dX8_apart_72 hl (by decide) rfl (fun ls hl => ?_)
              refine lv_iconst (v := 0) hx hb dX8_apart_74 (by decide) ?_
              refine lv_istore (lv' := [(7, .int 0), (6, .int (-1000000)), (5, .int 0), (0, .ref h0), (1, .int a1), (2, .int a2), (3, .int a3), (4, .int a4)]) hx hb dX8_apart_75 hl (by decide) rfl (fun ls hl => ?_)
              refine lv_iload_n hx hb dX8_apart_77 rfl (lv_at hl 5 rfl) ?_
              refine lv_istore (lv' := [(8, .int a2), (7, .int 0), (6, .int (-1000000)), (5, .int 0), (0, .ref h0), (1, .int a1), (2, .int a2), (3, .int a3), (4, .int a4)]) hx hb dX8_apart_78 hl (by decide) rfl (fun ls hl => ?_)
              obtain ⟨J184, hJ184, hf⟩ := pf_jn hf
              have kJ184 : ∀ (x5 : Int32) (x6 : Int32) (x7 : Int32) (f8 : Nat → Int32) (x9 : Int32) (f10 : Nat → Int32) (f11 : Nat → Int32) (f12 : Nat → Int32) (f13 : Nat → Int32) (x14 : Int32) (x15 : Int32) (x16 : Int32) (H : Heap) (locs : List Loc) (ls : Array Slot), J184 x5 x6 x7 f8 x9 f10 f11 f12 f13 x14 x15 x16 = some R → hm_W E A s.heap [oc8 h0 r_t x9 t_taped t_at t_faultPlace t_number t_newBits t_newTold t_newDoings t_newThings t_opened x14 x15 x16 t_turned t_wasConverted t_lastBits t_lastSum t_lastHeld t_lastLeft t_lastCode t_writtenLong t_codeMany t_acts t_done0 t_stoppedAt, ic E (r_t 0) 800 f8, ic E (r_t 27) 12 f12, ic E (r_t 25) 12 f10, ic E (r_t 28) 12 f13, zc E (r_t 47) 3 t_isKept, zc E (r_t 26) 12 f11] H locs → lv_has ls 11 [(4, .int a4), (5, .int x5), (6, .int x6), (7, .int x7)] → W p l e (hm_rr 5 115 0 0) s m args below meth c H locs 0 0 Q (F0 m 184 ls []) := by
                intro x5 x6 x7 f8 x9 f10 f11 f12 f13 x14 x15 x16 H locs ls hf w hl
                have hf := pf_j12 hJ184 hf
                refine lv_iload hx hb dX8_apart_184 (lv_at hl 0 rfl) ?_
                refine lv_if_ne (tgt := 194) hx hb dX8_apart_186 (by decide) (fun c186 => ?_) (fun c186 => ?_)
                · have hf := pf_e c186 hf
                  refine lv_iload hx hb dX8_apart_194 (lv_at hl 0 rfl) ?_
                  refine lv_iconst (v := 1) hx hb dX8_apart_196 (by decide) ?_
                  refine lv_icmp_ne (tgt := 205) hx hb dX8_apart_197 (by decide) (fun c197 => ?_) (fun c197 => ?_)
                  · have hf := pf_e c197 hf
                    refine lv_iload hx hb dX8_apart_205 (lv_at hl 3 rfl) ?_
                    exact hQ _ _ _ _ _ (f8, x9, f10, f11, f12, f13, x14, x15, x16) (fun _ => 0) hf rfl w dX8_apart_207
                  · have hf := pf_t c197 hf
                    refine lv_iload hx hb dX8_apart_200 (lv_at hl 2 rfl) ?_
                    refine lv_goto (tgt := 207) hx hb dX8_apart_202 (by decide) ?_
                    exact hQ _ _ _ _ _ (f8, x9, f10, f11, f12, f13, x14, x15, x16) (fun _ => 0) hf rfl w dX8_apart_207
                · have hf := pf_t c186 hf
                  refine lv_iload hx hb dX8_apart_189 (lv_at hl 1 rfl) ?_
                  refine lv_goto (tgt := 207) hx hb dX8_apart_191 (by decide) ?_
                  exact hQ _ _ _ _ _ (f8, x9, f10, f11, f12, f13, x14, x15, x16) (fun _ => 0) hf rfl w dX8_apart_207
              have klp_X8_apart_80 : ∀ (n : Nat) (x17 : Int32) (x18 : Int32) (x19 : Int32) (x20 : Int32) (f21 : Nat → Int32) (x22 : Int32) (f23 : Nat → Int32) (f24 : Nat → Int32) (f25 : Nat → Int32) (f26 : Nat → Int32) (x27 : Int32) (x28 : Int32) (x29 : Int32) (H : Heap) (locs : List Loc) (ls : Array Slot), lp_X8_apart_80 a1 a3 t_turned J184 n x17 x18 x19 x20 f21 x22 f23 f24 f25 f26 x27 x28 x29 = some R → hm_W E A s.heap [oc8 h0 r_t x22 t_taped t_at t_faultPlace t_number t_newBits t_newTold t_newDoings t_newThings t_opened x27 x28 x29 t_turned t_wasConverted t_lastBits t_lastSum t_lastHeld t_lastLeft t_lastCode t_writtenLong t_codeMany t_acts t_done0 t_stoppedAt, ic E (r_t 0) 800 f21, ic E (r_t 27) 12 f25, ic E (r_t 25) 12 f23, ic E (r_t 28) 12 f26, zc E (r_t 47) 3 t_isKept, zc E (r_t 26) 12 f24] H locs → lv_has ls 11 [(0, .ref h0), (1, .int a1), (3, .int a3), (4, .int a4), (5, .int x17), (6, .int x18), (7, .int x19), (8, .int x20)] → W p l e (hm_rr 5 115 0 0) s m args below meth c H locs 0 0 Q (F0 m 80 ls []) := by
                intro n
                induction n with
                | zero =>
                  intro x17 x18 x19 x20 f21 x22 f23 f24 f25 f26 x27 x28 x29 H locs ls hf w hl
                  exact pf_no hf
                | succ n ih80 =>
                  intro x17 x18 x19 x20 f21 x22 f23 f24 f25 f26 x27 x28 x29 H locs ls hf w hl
                  rw [lp_X8_apart_80] at hf
                  refine lv_iload hx hb dX8_apart_80 (lv_at hl 7 rfl) ?_
                  refine lv_iload_n hx hb dX8_apart_82 rfl (lv_at hl 2 rfl) ?_
                  refine lv_icmp_gt (tgt := 184) hx hb dX8_apart_83 (by decide) (fun c83 => ?_) (fun c83 => ?_)
                  · have hf := pf_t c83 hf
                    exact kJ184 _ _ _ _ _ _ _ _ _ _ _ _ _ _ _ hf w (lv_sub hl [3, 4, 5, 6] rfl)
                  · have hf := pf_e c83 hf
                    refine lv_aload_n hx hb dX8_apart_86 rfl (lv_at hl 0 rfl) ?_
                    refine lv_iload hx hb dX8_apart_87 (lv_at hl 7 rfl) ?_
                    obtain ⟨r30, f31, f32, f33, f34, f35, x36, x37, x38, hc89, hf⟩ := pf_bi_8 hf
                    refine hm_aft_i (ws' := fun _ => [oc8 h0 r_t x22 t_taped t_at t_faultPlace t_number t_newBits t_newTold t_newDoings t_newThings t_opened x36 x37 x38 t_turned t_wasConverted t_lastBits t_lastSum t_lastHeld t_lastLeft t_lastCode t_writtenLong t_codeMany t_acts t_done0 t_stoppedAt, ic E (r_t 0) 800 f31, ic E (r_t 27) 12 f34, ic E (r_t 25) 12 f32, ic E (r_t 28) 12 f35, zc E (r_t 47) 3 t_isKept, zc E (r_t 26) 12 f33]) (hm_runV (rest := []) hx hb hml hown X hA Y w 0 (ci := 7) (T := TX8) (N := 55) rfl rfl mw_X8_paperCode ml_X8_308 dX8_apart_89 hm_ac0 [.int x20] rfl [0, 1, 2, 3, 4, 6] rfl rfl (ct_X8_paperCode l E H.size h0 r_t x22 t_taped t_at t_faultPlace t_number t_newBits t_newTold t_newDoings t_newThings t_opened x27 x28 x29 t_turned t_wasConverted t_lastBits t_lastSum t_lastHeld t_lastLeft t_lastCode t_writtenLong t_codeMany t_acts t_done0 t_stoppedAt f21 f25 f23 f26 f24 x20 (r30, f31, f32, f33, f34, f35, x36, x37, x38) hc89) rfl hl.1 ⟨⟨rfl, rfl⟩, ⟨Nat.le_of_ble_eq_true rfl, Nat.le_of_ble_eq_true rfl⟩, ⟨Nat.le_of_ble_eq_true rfl, Nat.le_of_ble_eq_true rfl⟩, Nat.le_of_ble_eq_true rfl⟩) hA w [0, 1, 2, 3, 4, 6] [5] [1, 2, 3, 4, 5, 0, 6] rfl rfl (by decide) (fun _ => rfl) (fun _ H locs w => ?_)
                    refine lv_istore (lv' := [(9, .int r30), (0, .ref h0), (1, .int a1), (3, .int a3), (4, .int a4), (5, .int x17), (6, .int x18), (7, .int x19), (8, .int x20)]) hx hb dX8_apart_92 hl (by decide) rfl (fun ls hl => ?_)
                    refine lv_aload_n hx hb dX8_apart_94 rfl (lv_at hl 1 rfl) ?_
                    refine lv_sipush (v := 160) hx hb dX8_apart_95 (by decide) ?_
                    refine lv_iconst (v := 1) hx hb dX8_apart_98 (by decide) ?_
                    refine lv_iload_n hx hb dX8_apart_99 rfl (lv_at hl 2 rfl) ?_
                    refine lv_iadd hx hb dX8_apart_100 ?_
                    refine lv_imul hx hb dX8_apart_101 ?_
                    refine lv_topi (fun x39 ex39 => ?_)
                    have hf := pf_nm ex39 hf
                    refine hm_put (ws' := [oc8 h0 r_t x39 t_taped t_at t_faultPlace t_number t_newBits t_newTold t_newDoings t_newThings t_opened x36 x37 x38 t_turned t_wasConverted t_lastBits t_lastSum t_lastHeld t_lastLeft t_lastCode t_writtenLong t_codeMany t_acts t_done0 t_stoppedAt, ic E (r_t 0) 800 f31, ic E (r_t 27) 12 f34, ic E (r_t 25) 12 f32, ic E (r_t 28) 12 f35, zc E (r_t 47) 3 t_isKept, zc E (r_t 26) 12 f33]) cb_X8 hx hb hown X w 0 1 fl_X8_7 dX8_apart_102 rfl (by decide) (Nat.le_of_ble_eq_true rfl) rfl rfl rfl rfl (fun H locs w => ?_)
                    refine lv_iload hx hb dX8_apart_105 (lv_at hl 0 rfl) ?_
                    refine lv_aload_n hx hb dX8_apart_107 rfl (lv_at hl 1 rfl) ?_
                    refine lv_iload hx hb dX8_apart_108 (lv_at hl 8 rfl) ?_
                    obtain ⟨r40, f41, f42, f43, f44, f45, x46, x47, x48, hc110, hf⟩ := pf_bi_8 hf
                    refine hm_aft_i (ws' := fun _ => [oc8 h0 r_t x39 t_taped t_at t_faultPlace t_number t_newBits t_newTold t_newDoings t_newThings t_opened x46 x47 x48 t_turned t_wasConverted t_lastBits t_lastSum t_lastHeld t_lastLeft t_lastCode t_writtenLong t_codeMany t_acts t_done0 t_stoppedAt, ic E (r_t 0) 800 f41, ic E (r_t 27) 12 f44, ic E (r_t 25) 12 f42, ic E (r_t 28) 12 f45, zc E (r_t 47) 3 t_isKept, zc E (r_t 26) 12 f43]) (hm_runV (rest := [.int r30]) hx hb hml hown X hA Y w 0 (ci := 7) (T := TX8) (N := 55) rfl rfl mw_X8_paperCode ml_X8_308 dX8_apart_110 hm_ac0 [.int x20] rfl [0, 1, 2, 3, 4, 6] rfl rfl (ct_X8_paperCode l E H.size h0 r_t x39 t_taped t_at t_faultPlace t_number t_newBits t_newTold t_newDoings t_newThings t_opened x36 x37 x38 t_turned t_wasConverted t_lastBits t_lastSum t_lastHeld t_lastLeft t_lastCode t_writtenLong t_codeMany t_acts t_done0 t_stoppedAt f31 f34 f32 f35 f33 x20 (r40, f41, f42, f43, f44, f45, x46, x47, x48) hc110) rfl hl.1 ⟨⟨rfl, rfl⟩, ⟨Nat.le_of_ble_eq_true rfl, Nat.le_of_ble_eq_true rfl⟩, ⟨Nat.le_of_ble_eq_true rfl, Nat.le_of_ble_eq_true rfl⟩, Nat.le_of_ble_eq_true rfl⟩) hA w [0, 1, 2, 3, 4, 6] [5] [1, 2, 3, 4, 5, 0, 6] rfl rfl (by decide) (fun _ => rfl) (fun _ H locs w => ?_)
                    refine lv_isub hx hb dX8_apart_113 ?_
                    refine lv_topi (fun x49 ex49 => ?_)
                    have hf := pf_nm ex49 hf
                    refine lv_istore (lv' := [(10, .int x49), (9, .int r30), (0, .ref h0), (1, .int a1), (3, .int a3), (4, .int a4), (5, .int x17), (6, .int x18), (7, .int x19), (8, .int x20)]) hx hb dX8_apart_114 hl (by decide) rfl (fun ls hl => ?_)
                    refine lv_aload_n hx hb dX8_apart_116 rfl (lv_at hl 2 rfl) ?_
                    refine lv_iconst (v := 0) hx hb dX8_apart_117 (by decide) ?_
                    refine hm_put (ws' := [oc8 h0 r_t 0 t_taped t_at t_faultPlace t_number t_newBits t_newTold t_newDoings t_newThings t_opened x46 x47 x48 t_turned t_wasConverted t_lastBits t_lastSum t_lastHeld t_lastLeft t_lastCode t_writtenLong t_codeMany t_acts t_done0 t_stoppedAt, ic E (r_t 0) 800 f41, ic E (r_t 27) 12 f44, ic E (r_t 25) 12 f42, ic E (r_t 28) 12 f45, zc E (r_t 47) 3 t_isKept, zc E (r_t 26) 12 f43]) cb_X8 hx hb hown X w 0 1 fl_X8_7 dX8_apart_118 rfl (by decide) (Nat.le_of_ble_eq_true rfl) rfl rfl rfl rfl (fun H locs w => ?_)
                    refine lv_iload hx hb dX8_apart_121 (lv_at hl 0 rfl) ?_
                    obtain ⟨J134, hJ134, hf⟩ := pf_jn hf
                    have kJ134 : ∀ (x50 : Int32) (H : Heap) (locs : List Loc) (ls : Array Slot), J134 x50 = some R → hm_W E A s.heap [oc8 h0 r_t 0 t_taped t_at t_faultPlace t_number t_newBits t_newTold t_newDoings t_newThings t_opened x46 x47 x48 t_turned t_wasConverted t_lastBits t_lastSum t_lastHeld t_lastLeft t_lastCode t_writtenLong t_codeMany t_acts t_done0 t_stoppedAt, ic E (r_t 0) 800 f41, ic E (r_t 27) 12 f44, ic E (r_t 25) 12 f42, ic E (r_t 28) 12 f45, zc E (r_t 47) 3 t_isKept, zc E (r_t 26) 12 f43] H locs → lv_has ls 11 [(10, .int x50), (0, .ref h0), (1, .int a1), (3, .int a3), (4, .int a4), (5, .int x17), (6, .int x18), (7, .int x19), (8, .int x20)] → W p l e (hm_rr 5 115 0 0) s m args below meth c H locs 0 0 Q (F0 m 134 ls []) := by
                      intro x50 H locs ls hf w hl
                      have hf := pf_j1 hJ134 hf
                      refine lv_istore (lv' := [(10, .int x50), (0, .ref h0), (1, .int a1), (3, .int a3), (4, .int a4), (5, .int x17), (6, .int x18), (7, .int x19), (8, .int x20)]) hx hb dX8_apart_134 hl (by decide) rfl (fun ls hl => ?_)
                      refine lv_iload hx hb dX8_apart_136 (lv_at hl 0 rfl) ?_
                      refine lv_if_ne (tgt := 144) hx hb dX8_apart_138 (by decide) (fun c138 => ?_) (fun c138 => ?_)
                      · have hf := pf_e c138 hf
                        obtain ⟨x51, ex51⟩ : ∃ y : Int32, y = (x17 + 1) := ⟨_, rfl⟩
                        have hf := pf_nm ex51 hf
                        refine lv_iinc (v := x51) (lv' := [(5, .int x51), (10, .int x50), (0, .ref h0), (1, .int a1), (3, .int a3), (4, .int a4), (6, .int x18), (7, .int x19), (8, .int x20)]) hx hb dX8_apart_144 hl (k := 5) rfl (by rw [ex51]; rfl) (by decide) rfl (fun ls hl => ?_)
                        refine lv_iload hx hb dX8_apart_147 (lv_at hl 0 rfl) ?_
                        refine lv_iconst (v := 1) hx hb dX8_apart_149 (by decide) ?_
                        obtain ⟨J160, hJ160, hf⟩ := pf_jn hf
                        have kJ160 : ∀ (x52 : Int32) (H : Heap) (locs : List Loc) (ls : Array Slot), J160 x52 = some R → hm_W E A s.heap [oc8 h0 r_t 0 t_taped t_at t_faultPlace t_number t_newBits t_newTold t_newDoings t_newThings t_opened x46 x47 x48 t_turned t_wasConverted t_lastBits t_lastSum t_lastHeld t_lastLeft t_lastCode t_writtenLong t_codeMany t_acts t_done0 t_stoppedAt, ic E (r_t 0) 800 f41, ic E (r_t 27) 12 f44, ic E (r_t 25) 12 f42, ic E (r_t 28) 12 f45, zc E (r_t 47) 3 t_isKept, zc E (r_t 26) 12 f43] H locs → lv_has ls 11 [(6, .int x52), (0, .ref h0), (1, .int a1), (3, .int a3), (4, .int a4), (5, .int x51), (7, .int x19), (8, .int x20), (10, .int x50)] → W p l e (hm_rr 5 115 0 0) s m args below meth c H locs 0 0 Q (F0 m 160 ls []) := by
                          intro x52 H locs ls hf w hl
                          have hf := pf_j1 hJ160 hf
                          refine lv_istore (lv' := [(6, .int x52), (0, .ref h0), (1, .int a1), (3, .int a3), (4, .int a4), (5, .int x51), (7, .int x19), (8, .int x20), (10, .int x50)]) hx hb dX8_apart_160 hl (by decide) rfl (fun ls hl => ?_)
                          refine lv_iload hx hb dX8_apart_162 (lv_at hl 8 rfl) ?_
                          refine lv_iload hx hb dX8_apart_164 (lv_at hl 6 rfl) ?_
                          refine lv_icmp_le (tgt := 174) hx hb dX8_apart_166 (by decide) (fun c166 => ?_) (fun c166 => ?_)
                          · have hf := pf_t c166 hf
                            refine lv_iload hx hb dX8_apart_174 (lv_at hl 6 rfl) ?_
                            refine lv_istore (lv' := [(7, .int x19), (6, .int x52), (0, .ref h0), (1, .int a1), (3, .int a3), (4, .int a4), (5, .int x51), (8, .int x20), (10, .int x50)]) hx hb dX8_apart_176 hl (by decide) rfl (fun ls hl => ?_)
                            obtain ⟨x53, ex53⟩ : ∃ y : Int32, y = (x20 + 1) := ⟨_, rfl⟩
                            have hf := pf_nm ex53 hf
                            refine lv_iinc (v := x53) (lv' := [(8, .int x53), (7, .int x19), (6, .int x52), (0, .ref h0), (1, .int a1), (3, .int a3), (4, .int a4), (5, .int x51), (10, .int x50)]) hx hb dX8_apart_178 hl (k := 7) rfl (by rw [ex53]; rfl) (by decide) rfl (fun ls hl => ?_)
                            refine lv_goto (tgt := 80) hx hb dX8_apart_181 (by decide) ?_
                            exact ih80 _ _ _ _ _ _ _ _ _ _ _ _ _ _ _ _ hf w (lv_sub hl [3, 4, 5, 6, 7, 2, 1, 0] rfl)
                          · have hf := pf_e c166 hf
                            refine lv_iload hx hb dX8_apart_169 (lv_at hl 8 rfl) ?_
                            refine lv_goto (tgt := 176) hx hb dX8_apart_171 (by decide) ?_
                            refine lv_istore (lv' := [(7, .int x50), (6, .int x52), (0, .ref h0), (1, .int a1), (3, .int a3), (4, .int a4), (5, .int x51), (8, .int x20), (10, .int x50)]) hx hb dX8_apart_176 hl (by decide) rfl (fun ls hl => ?_)
                            obtain ⟨x54, ex54⟩ : ∃ y : Int32, y = (x20 + 1) := ⟨_, rfl⟩
                            have hf := pf_nm ex54 hf
                            refine lv_iinc (v := x54) (lv' := [(8, .int x54), (7, .int x50), (6, .int x52), (0, .ref h0), (1, .int a1), (3, .int a3), (4, .int a4), (5, .int x51), (10, .int x50)]) hx hb dX8_apart_178 hl (k := 7) rfl (by rw [ex54]; rfl) (by decide) rfl (fun ls hl => ?_)
                            refine lv_goto (tgt := 80) hx hb dX8_apart_181 (by decide) ?_
                            exact ih80 _ _ _ _ _ _ _ _ _ _ _ _ _ _ _ _ hf w (lv_sub hl [3, 4, 5, 6, 7, 2, 1, 0] rfl)
                        refine lv_icmp_ne (tgt := 158) hx hb dX8_apart_150 (by decide) (fun c150 => ?_) (fun c150 => ?_)
                        · have hf := pf_e c150 hf
                          refine lv_iload hx hb dX8_apart_158 (lv_at hl 6 rfl) ?_
                          exact kJ160 _ _ _ _ hf w (lv_sub hl [2, 3, 4, 5, 0, 7, 8, 1] rfl)
                        · have hf := pf_t c150 hf
                          refine lv_iload hx hb dX8_apart_153 (lv_at hl 8 rfl) ?_
                          refine lv_goto (tgt := 160) hx hb dX8_apart_155 (by decide) ?_
                          exact kJ160 _ _ _ _ hf w (lv_sub hl [2, 3, 4, 5, 0, 7, 8, 1] rfl)
                      · have hf := pf_t c138 hf
                        refine lv_goto (tgt := 178) hx hb dX8_apart_141 (by decide) ?_
                        obtain ⟨x55, ex55⟩ : ∃ y : Int32, y = (x20 + 1) := ⟨_, rfl⟩
                        have hf := pf_nm ex55 hf
                        refine lv_iinc (v := x55) (lv' := [(8, .int x55), (10, .int x50), (0, .ref h0), (1, .int a1), (3, .int a3), (4, .int a4), (5, .int x17), (6, .int x18), (7, .int x19)]) hx hb dX8_apart_178 hl (k := 8) rfl (by rw [ex55]; rfl) (by decide) rfl (fun ls hl => ?_)
                        refine lv_goto (tgt := 80) hx hb dX8_apart_181 (by decide) ?_
                        exact ih80 _ _ _ _ _ _ _ _ _ _ _ _ _ _ _ _ hf w (lv_sub hl [2, 3, 4, 5, 6, 7, 8, 0] rfl)
                    refine lv_if_ge (tgt := 132) hx hb dX8_apart_123 (by decide) (fun c123 => ?_) (fun c123 => ?_)
                    · have hf := pf_t c123 hf
                      refine lv_iload hx hb dX8_apart_132 (lv_at hl 0 rfl) ?_
                      exact kJ134 _ _ _ _ hf w (lv_sub hl [2, 3, 4, 5, 6, 7, 8, 9] rfl)
                    · have hf := pf_e c123 hf
                      refine lv_iload hx hb dX8_apart_126 (lv_at hl 0 rfl) ?_
                      refine lv_ineg hx hb dX8_apart_128 ?_
                      refine lv_goto (tgt := 134) hx hb dX8_apart_129 (by decide) ?_
                      exact kJ134 _ _ _ _ hf w (lv_sub hl [2, 3, 4, 5, 6, 7, 8, 9] rfl)
              exact klp_X8_apart_80 FU _ _ _ _ _ _ _ _ _ _ _ _ _ _ _ _ hf w (lv_sub hl [4, 5, 7, 8, 3, 2, 1, 0] rfl)
            · have hf := pf_t c59 hf
              refine lv_ldcw (v := (-1000000)) hx hb hown (X.use ck_X8_283 rfl) dX8_apart_62 ?_
              exact hQ _ _ _ _ _ (t_all, t_base, t_decided, t_wasLate, t_askedOf, t_heldBehind, t_sum, t_heldAll, t_onPaper) (fun _ => 0) hf rfl w dX8_apart_65
set_option maxHeartbeats 8000000 in
set_option maxRecDepth 100000 in
theorem ct_X8_see (l : Launch) (E : hm_E) (sz : Nat) (h0 : Nat) (r_t : Nat → Nat) (t_base t_taped t_at t_faultPlace t_number t_newBits t_newTold t_newDoings t_newThings t_opened t_sum t_heldAll t_onPaper t_turned t_wasConverted t_lastBits t_lastSum t_lastHeld t_lastLeft t_lastCode t_writtenLong t_codeMany t_acts t_done0 t_stoppedAt : Int32) (t_all : Nat → Int32) (a1 : Int32) (a2 : Int32) (R : Int32 × (Nat → Int32)) (hf : pf_X8_see a1 a2 t_all t_base = some R) : hm_Mi l E yX8_see cX8_see 4 .int [] (hm_rr 2 42 0 0) [.ref h0, .int a1, .int a2] sz [oc8 h0 r_t t_base t_taped t_at t_faultPlace t_number t_newBits t_newTold t_newDoings t_newThings t_opened t_sum t_heldAll t_onPaper t_turned t_wasConverted t_lastBits t_lastSum t_lastHeld t_lastLeft t_lastCode t_writtenLong t_codeMany t_acts t_done0 t_stoppedAt, ic E (r_t 0) 800 t_all] R.1 (fun _ => [oc8 h0 r_t t_base t_taped t_at t_faultPlace t_number t_newBits t_newTold t_newDoings t_newThings t_opened t_sum t_heldAll t_onPaper t_turned t_wasConverted t_lastBits t_lastSum t_lastHeld t_lastLeft t_lastCode t_writtenLong t_codeMany t_acts t_done0 t_stoppedAt, ic E (r_t 0) 800 R.2]) := by
  refine hm_ct_i R (fun u _ => [oc8 h0 r_t t_base t_taped t_at t_faultPlace t_number t_newBits t_newTold t_newDoings t_newThings t_opened t_sum t_heldAll t_onPaper t_turned t_wasConverted t_lastBits t_lastSum t_lastHeld t_lastLeft t_lastCode t_writtenLong t_codeMany t_acts t_done0 t_stoppedAt, ic E (r_t 0) 800 u]) (by decide) (Nat.le_of_ble_eq_true rfl) (Or.inl rfl) ?_
  intro p e s m args below meth c A Q ls H locs hx hb hml hown X hA Y hex w hl hQ
  have hl : lv_has ls 4 [(0, .ref h0), (1, .int a1), (2, .int a2)] := hl
  unfold pf_X8_see at hf
  refine lv_iload_n hx hb dX8_see_0 rfl (lv_at hl 1 rfl) ?_
  obtain ⟨r1, hc1, hf⟩ := pf_bi_0 hf
  refine hm_aft_i (ws' := fun _ => [oc8 h0 r_t t_base t_taped t_at t_faultPlace t_number t_newBits t_newTold t_newDoings t_newThings t_opened t_sum t_heldAll t_onPaper t_turned t_wasConverted t_lastBits t_lastSum t_lastHeld t_lastLeft t_lastCode t_writtenLong t_codeMany t_acts t_done0 t_stoppedAt, ic E (r_t 0) 800 t_all]) (hm_runS (rest := []) hx hb hml hown X hA Y w mw_X8_isX ml_X8_280 dX8_see_1 hm_ac0 [.int a1] rfl [] rfl rfl (ct_X8_isX l E H.size a1 (r1, ()) hc1) rfl hl.1 ⟨⟨rfl, rfl⟩, ⟨Nat.le_of_ble_eq_true rfl, Nat.le_of_ble_eq_true rfl⟩, ⟨Nat.le_of_ble_eq_true rfl, Nat.le_of_ble_eq_true rfl⟩, Nat.le_of_ble_eq_true rfl⟩) hA w [] [0, 1] [0, 1] rfl rfl (by decide) (fun _ => rfl) (fun _ H locs w => ?_)
  refine lv_if_ne (tgt := 10) hx hb dX8_see_4 (by decide) (fun c4 => ?_) (fun c4 => ?_)
  · have hf := pf_e c4 hf
    refine lv_aload_n hx hb dX8_see_10 rfl (lv_at hl 0 rfl) ?_
    refine lv_bipush (v := 57) hx hb dX8_see_11 (by decide) ?_
    obtain ⟨r2, hc13, hf⟩ := pf_bi_0 hf
    refine hm_aft_i (ws' := fun _ => [oc8 h0 r_t t_base t_taped t_at t_faultPlace t_number t_newBits t_newTold t_newDoings t_newThings t_opened t_sum t_heldAll t_onPaper t_turned t_wasConverted t_lastBits t_lastSum t_lastHeld t_lastLeft t_lastCode t_writtenLong t_codeMany t_acts t_done0 t_stoppedAt, ic E (r_t 0) 800 t_all]) (hm_runV (rest := []) hx hb hml hown X hA Y w 0 (ci := 7) (T := TX8) (N := 55) rfl rfl mw_X8_get ml_X8_221 dX8_see_13 hm_ac0 [.int 57] rfl [0, 1] rfl rfl (ct_X8_get l E H.size h0 r_t t_base t_taped t_at t_faultPlace t_number t_newBits t_newTold t_newDoings t_newThings t_opened t_sum t_heldAll t_onPaper t_turned t_wasConverted t_lastBits t_lastSum t_lastHeld t_lastLeft t_lastCode t_writtenLong t_codeMany t_acts t_done0 t_stoppedAt t_all 57 (r2, ()) hc13) rfl hl.1 ⟨⟨rfl, rfl⟩, ⟨Nat.le_of_ble_eq_true rfl, Nat.le_of_ble_eq_true rfl⟩, ⟨Nat.le_of_ble_eq_true rfl, Nat.le_of_ble_eq_true rfl⟩, Nat.le_of_ble_eq_true rfl⟩) hA w [0, 1] [] [0, 1] rfl rfl (by decide) (fun _ => rfl) (fun _ H locs w => ?_)
    refine lv_istore_n (lv' := [(3, .int r2), (0, .ref h0), (1, .int a1), (2, .int a2)]) hx hb dX8_see_16 rfl hl (by decide) rfl (fun ls hl => ?_)
    refine lv_iload_n hx hb dX8_see_17 rfl (lv_at hl 0 rfl) ?_
    refine lv_bipush (v := 8) hx hb dX8_see_18 (by decide) ?_
    refine lv_icmp_ne (tgt := 25) hx hb dX8_see_20 (by decide) (fun c20 => ?_) (fun c20 => ?_)
    · have hf := pf_e c20 hf
      refine lv_aload_n hx hb dX8_see_25 rfl (lv_at hl 1 rfl) ?_
      refine lv_bipush (v := 58) hx hb dX8_see_26 (by decide) ?_
      refine lv_iload_n hx hb dX8_see_28 rfl (lv_at hl 0 rfl) ?_
      refine lv_iadd hx hb dX8_see_29 ?_
      refine lv_iload_n hx hb dX8_see_30 rfl (lv_at hl 2 rfl) ?_
      obtain ⟨f3, hc31, hf⟩ := pf_bv_1 hf
      refine hm_aft_v (ws' := fun _ => [oc8 h0 r_t t_base t_taped t_at t_faultPlace t_number t_newBits t_newTold t_newDoings t_newThings t_opened t_sum t_heldAll t_onPaper t_turned t_wasConverted t_lastBits t_lastSum t_lastHeld t_lastLeft t_lastCode t_writtenLong t_codeMany t_acts t_done0 t_stoppedAt, ic E (r_t 0) 800 f3]) (hm_runV (rest := []) hx hb hml hown X hA Y w 0 (ci := 7) (T := TX8) (N := 55) rfl rfl mw_X8_put ml_X8_119 dX8_see_31 hm_ac0 [.int (58 + r2), .int a1] rfl [0, 1] rfl rfl (ct_X8_put l E H.size h0 r_t t_base t_taped t_at t_faultPlace t_number t_newBits t_newTold t_newDoings t_newThings t_opened t_sum t_heldAll t_onPaper t_turned t_wasConverted t_lastBits t_lastSum t_lastHeld t_lastLeft t_lastCode t_writtenLong t_codeMany t_acts t_done0 t_stoppedAt t_all (58 + r2) a1 f3 hc31) rfl hl.1 ⟨⟨rfl, rfl⟩, ⟨Nat.le_of_ble_eq_true rfl, Nat.le_of_ble_eq_true rfl⟩, ⟨Nat.le_of_ble_eq_true rfl, Nat.le_of_ble_eq_true rfl⟩, Nat.le_of_ble_eq_true rfl⟩) hA w [0, 1] [] [0, 1] rfl rfl (by decide) (fun _ => rfl) (fun _ H locs w => ?_)
      refine lv_aload_n hx hb dX8_see_34 rfl (lv_at hl 1 rfl) ?_
      refine lv_bipush (v := 66) hx hb dX8_see_35 (by decide) ?_
      refine lv_iload_n hx hb dX8_see_37 rfl (lv_at hl 0 rfl) ?_
      refine lv_iadd hx hb dX8_see_38 ?_
      refine lv_iload_n hx hb dX8_see_39 rfl (lv_at hl 3 rfl) ?_
      obtain ⟨f4, hc40, hf⟩ := pf_bv_1 hf
      refine hm_aft_v (ws' := fun _ => [oc8 h0 r_t t_base t_taped t_at t_faultPlace t_number t_newBits t_newTold t_newDoings t_newThings t_opened t_sum t_heldAll t_onPaper t_turned t_wasConverted t_lastBits t_lastSum t_lastHeld t_lastLeft t_lastCode t_writtenLong t_codeMany t_acts t_done0 t_stoppedAt, ic E (r_t 0) 800 f4]) (hm_runV (rest := []) hx hb hml hown X hA Y w 0 (ci := 7) (T := TX8) (N := 55) rfl rfl mw_X8_put ml_X8_119 dX8_see_40 hm_ac0 [.int (66 + r2), .int a2] rfl [0, 1] rfl rfl (ct_X8_put l E H.size h0 r_t t_base t_taped t_at t_faultPlace t_number t_newBits t_newTold t_newDoings t_newThings t_opened t_sum t_heldAll t_onPaper t_turned t_wasConverted t_lastBits t_lastSum t_lastHeld t_lastLeft t_lastCode t_writtenLong t_codeMany t_acts t_done0 t_stoppedAt f3 (66 + r2) a2 f4 hc40) rfl hl.1 ⟨⟨rfl, rfl⟩, ⟨Nat.le_of_ble_eq_true rfl, Nat.le_of_ble_eq_true rfl⟩, ⟨Nat.le_of_ble_eq_true rfl, Nat.le_of_ble_eq_true rfl⟩, Nat.le_of_ble_eq_true rfl⟩) hA w [0, 1] [] [0, 1] rfl rfl (by decide) (fun _ => rfl) (fun _ H locs w => ?_)
      refine lv_aload_n hx hb dX8_see_43 rfl (lv_at hl 1 rfl) ?_
      refine lv_bipush (v := 57) hx hb dX8_see_44 (by decide) ?_
      refine lv_iload_n hx hb dX8_see_46 rfl (lv_at hl 0 rfl) ?_
      refine lv_iconst (v := 1) hx hb dX8_see_47 (by decide) ?_
      refine lv_iadd hx hb dX8_see_48 ?_
      obtain ⟨f5, hc49, hf⟩ := pf_bv_1 hf
      refine hm_aft_v (ws' := fun _ => [oc8 h0 r_t t_base t_taped t_at t_faultPlace t_number t_newBits t_newTold t_newDoings t_newThings t_opened t_sum t_heldAll t_onPaper t_turned t_wasConverted t_lastBits t_lastSum t_lastHeld t_lastLeft t_lastCode t_writtenLong t_codeMany t_acts t_done0 t_stoppedAt, ic E (r_t 0) 800 f5]) (hm_runV (rest := []) hx hb hml hown X hA Y w 0 (ci := 7) (T := TX8) (N := 55) rfl rfl mw_X8_put ml_X8_119 dX8_see_49 hm_ac0 [.int 57, .int (r2 + 1)] rfl [0, 1] rfl rfl (ct_X8_put l E H.size h0 r_t t_base t_taped t_at t_faultPlace t_number t_newBits t_newTold t_newDoings t_newThings t_opened t_sum t_heldAll t_onPaper t_turned t_wasConverted t_lastBits t_lastSum t_lastHeld t_lastLeft t_lastCode t_writtenLong t_codeMany t_acts t_done0 t_stoppedAt f4 57 (r2 + 1) f5 hc49) rfl hl.1 ⟨⟨rfl, rfl⟩, ⟨Nat.le_of_ble_eq_true rfl, Nat.le_of_ble_eq_true rfl⟩, ⟨Nat.le_of_ble_eq_true rfl, Nat.le_of_ble_eq_true rfl⟩, Nat.le_of_ble_eq_true rfl⟩) hA w [0, 1] [] [0, 1] rfl rfl (by decide) (fun _ => rfl) (fun _ H locs w => ?_)
      refine lv_iload_n hx hb dX8_see_52 rfl (lv_at hl 0 rfl) ?_
      refine lv_iconst (v := 1) hx hb dX8_see_53 (by decide) ?_
      refine lv_iadd hx hb dX8_see_54 ?_
      exact hQ _ _ _ _ _ f5 (fun _ => 0) hf rfl w dX8_see_55
    · have hf := pf_t c20 hf
      refine lv_iconst (v := (-1)) hx hb dX8_see_23 (by decide) ?_
      exact hQ _ _ _ _ _ t_all (fun _ => 0) hf rfl w dX8_see_24
  · have hf := pf_t c4 hf
    refine lv_bipush (v := (-2)) hx hb dX8_see_7 (by decide) ?_
    exact hQ _ _ _ _ _ t_all (fun _ => 0) hf rfl w dX8_see_9
set_option maxHeartbeats 8000000 in
set_option maxRecDepth 100000 in
theorem ct_X8_wipe (l : Launch) (E : hm_E) (sz : Nat) (h0 : Nat) (r_t : Nat → Nat) (t_base t_taped t_at t_faultPlace t_number t_newBits t_newTold t_newDoings t_newThings t_opened t_sum t_heldAll t_onPaper t_turned t_wasConverted t_lastBits t_lastSum t_lastHeld t_lastLeft t_lastCode t_writtenLong t_codeMany t_acts t_done0 t_stoppedAt : Int32) (t_all : Nat → Int32) (R : Int32 × (Nat → Int32)) (hf : pf_X8_wipe t_all t_base = some R) : hm_Mi l E yX8_wipe cX8_wipe 2 .int [] (hm_rr 1 22 0 0) [.ref h0] sz [oc8 h0 r_t t_base t_taped t_at t_faultPlace t_number t_newBits t_newTold t_newDoings t_newThings t_opened t_sum t_heldAll t_onPaper t_turned t_wasConverted t_lastBits t_lastSum t_lastHeld t_lastLeft t_lastCode t_writtenLong t_codeMany t_acts t_done0 t_stoppedAt, ic E (r_t 0) 800 t_all] R.1 (fun _ => [oc8 h0 r_t t_base t_taped t_at t_faultPlace t_number t_newBits t_newTold t_newDoings t_newThings t_opened t_sum t_heldAll t_onPaper t_turned t_wasConverted t_lastBits t_lastSum t_lastHeld t_lastLeft t_lastCode t_writtenLong t_codeMany t_acts t_done0 t_stoppedAt, ic E (r_t 0) 800 R.2]) := by
  refine hm_ct_i R (fun u _ => [oc8 h0 r_t t_base t_taped t_at t_faultPlace t_number t_newBits t_newTold t_newDoings t_newThings t_opened t_sum t_heldAll t_onPaper t_turned t_wasConverted t_lastBits t_lastSum t_lastHeld t_lastLeft t_lastCode t_writtenLong t_codeMany t_acts t_done0 t_stoppedAt, ic E (r_t 0) 800 u]) (by decide) (Nat.le_of_ble_eq_true rfl) (Or.inl rfl) ?_
  intro p e s m args below meth c A Q ls H locs hx hb hml hown X hA Y hex w hl hQ
  have hl : lv_has ls 2 [(0, .ref h0)] := hl
  unfold pf_X8_wipe at hf
  refine lv_aload_n hx hb dX8_wipe_0 rfl (lv_at hl 0 rfl) ?_
  refine lv_bipush (v := 57) hx hb dX8_wipe_1 (by decide) ?_
  obtain ⟨r1, hc3, hf⟩ := pf_bi_0 hf
  refine hm_aft_i (ws' := fun _ => [oc8 h0 r_t t_base t_taped t_at t_faultPlace t_number t_newBits t_newTold t_newDoings t_newThings t_opened t_sum t_heldAll t_onPaper t_turned t_wasConverted t_lastBits t_lastSum t_lastHeld t_lastLeft t_lastCode t_writtenLong t_codeMany t_acts t_done0 t_stoppedAt, ic E (r_t 0) 800 t_all]) (hm_runV (rest := []) hx hb hml hown X hA Y w 0 (ci := 7) (T := TX8) (N := 55) rfl rfl mw_X8_get ml_X8_221 dX8_wipe_3 hm_ac0 [.int 57] rfl [0, 1] rfl rfl (ct_X8_get l E H.size h0 r_t t_base t_taped t_at t_faultPlace t_number t_newBits t_newTold t_newDoings t_newThings t_opened t_sum t_heldAll t_onPaper t_turned t_wasConverted t_lastBits t_lastSum t_lastHeld t_lastLeft t_lastCode t_writtenLong t_codeMany t_acts t_done0 t_stoppedAt t_all 57 (r1, ()) hc3) rfl hl.1 ⟨⟨rfl, rfl⟩, ⟨Nat.le_of_ble_eq_true rfl, Nat.le_of_ble_eq_true rfl⟩, ⟨Nat.le_of_ble_eq_true rfl, Nat.le_of_ble_eq_true rfl⟩, Nat.le_of_ble_eq_true rfl⟩) hA w [0, 1] [] [0, 1] rfl rfl (by decide) (fun _ => rfl) (fun _ H locs w => ?_)
  refine lv_istore_n (lv' := [(1, .int r1), (0, .ref h0)]) hx hb dX8_wipe_6 rfl hl (by decide) rfl (fun ls hl => ?_)
  refine lv_aload_n hx hb dX8_wipe_7 rfl (lv_at hl 1 rfl) ?_
  refine lv_bipush (v := 57) hx hb dX8_wipe_8 (by decide) ?_
  refine lv_iconst (v := 0) hx hb dX8_wipe_10 (by decide) ?_
  obtain ⟨f2, hc11, hf⟩ := pf_bv_1 hf
  refine hm_aft_v (ws' := fun _ => [oc8 h0 r_t t_base t_taped t_at t_faultPlace t_number t_newBits t_newTold t_newDoings t_newThings t_opened t_sum t_heldAll t_onPaper t_turned t_wasConverted t_lastBits t_lastSum t_lastHeld t_lastLeft t_lastCode t_writtenLong t_codeMany t_acts t_done0 t_stoppedAt, ic E (r_t 0) 800 f2]) (hm_runV (rest := []) hx hb hml hown X hA Y w 0 (ci := 7) (T := TX8) (N := 55) rfl rfl mw_X8_put ml_X8_119 dX8_wipe_11 hm_ac0 [.int 57, .int 0] rfl [0, 1] rfl rfl (ct_X8_put l E H.size h0 r_t t_base t_taped t_at t_faultPlace t_number t_newBits t_newTold t_newDoings t_newThings t_opened t_sum t_heldAll t_onPaper t_turned t_wasConverted t_lastBits t_lastSum t_lastHeld t_lastLeft t_lastCode t_writtenLong t_codeMany t_acts t_done0 t_stoppedAt t_all 57 0 f2 hc11) rfl hl.1 ⟨⟨rfl, rfl⟩, ⟨Nat.le_of_ble_eq_true rfl, Nat.le_of_ble_eq_true rfl⟩, ⟨Nat.le_of_ble_eq_true rfl, Nat.le_of_ble_eq_true rfl⟩, Nat.le_of_ble_eq_true rfl⟩) hA w [0, 1] [] [0, 1] rfl rfl (by decide) (fun _ => rfl) (fun _ H locs w => ?_)
  refine lv_iload_n hx hb dX8_wipe_14 rfl (lv_at hl 0 rfl) ?_
  exact hQ _ _ _ _ _ f2 (fun _ => 0) hf rfl w dX8_wipe_15
set_option maxHeartbeats 8000000 in
set_option maxRecDepth 100000 in
theorem ct_X8_isSeen (l : Launch) (E : hm_E) (sz : Nat) (h0 : Nat) (r_t : Nat → Nat) (t_base t_taped t_at t_faultPlace t_number t_newBits t_newTold t_newDoings t_newThings t_opened t_sum t_heldAll t_onPaper t_turned t_wasConverted t_lastBits t_lastSum t_lastHeld t_lastLeft t_lastCode t_writtenLong t_codeMany t_acts t_done0 t_stoppedAt : Int32) (t_all : Nat → Int32) (t_askedOf : Nat → Int32) (t_decided : Nat → Int32) (t_heldBehind : Nat → Int32) (t_wasLate : Nat → Int32) (R : Int32 × (Nat → Int32) × (Nat → Int32) × (Nat → Int32) × (Nat → Int32) × (Nat → Int32) × Int32 × Int32 × Int32) (hf : pf_X8_isSeen t_all t_base t_decided t_wasLate t_askedOf t_heldBehind t_sum t_heldAll t_onPaper t_turned = some R) : hm_Mi l E yX8_isSeen cX8_isSeen 2 .boolean [] (hm_rr 5 115 0 0) [.ref h0] sz [oc8 h0 r_t t_base t_taped t_at t_faultPlace t_number t_newBits t_newTold t_newDoings t_newThings t_opened t_sum t_heldAll t_onPaper t_turned t_wasConverted t_lastBits t_lastSum t_lastHeld t_lastLeft t_lastCode t_writtenLong t_codeMany t_acts t_done0 t_stoppedAt, ic E (r_t 0) 800 t_all, ic E (r_t 27) 12 t_askedOf, ic E (r_t 25) 12 t_decided, ic E (r_t 28) 12 t_heldBehind, zc E (r_t 26) 12 t_wasLate] R.1 (fun _ => [oc8 h0 r_t t_base t_taped t_at t_faultPlace t_number t_newBits t_newTold t_newDoings t_newThings t_opened (R.2.2.2.2.2.2.1) (R.2.2.2.2.2.2.2.1) (R.2.2.2.2.2.2.2.2) t_turned t_wasConverted t_lastBits t_lastSum t_lastHeld t_lastLeft t_lastCode t_writtenLong t_codeMany t_acts t_done0 t_stoppedAt, ic E (r_t 0) 800 (R.2.1), ic E (r_t 27) 12 (R.2.2.2.2.1), ic E (r_t 25) 12 (R.2.2.1), ic E (r_t 28) 12 (R.2.2.2.2.2.1), zc E (r_t 26) 12 (R.2.2.2.1)]) := by
  refine hm_ct_i R (fun u _ => [oc8 h0 r_t t_base t_taped t_at t_faultPlace t_number t_newBits t_newTold t_newDoings t_newThings t_opened (u.2.2.2.2.2.1) (u.2.2.2.2.2.2.1) (u.2.2.2.2.2.2.2) t_turned t_wasConverted t_lastBits t_lastSum t_lastHeld t_lastLeft t_lastCode t_writtenLong t_codeMany t_acts t_done0 t_stoppedAt, ic E (r_t 0) 800 (u.1), ic E (r_t 27) 12 (u.2.2.2.1), ic E (r_t 25) 12 (u.2.1), ic E (r_t 28) 12 (u.2.2.2.2.1), zc E (r_t 26) 12 (u.2.2.1)]) (by decide) (Nat.le_of_ble_eq_true rfl) (Or.inr rfl) ?_
  intro p e s m args below meth c A Q ls H locs hx hb hml hown X hA Y hex w hl hQ
  have hl : lv_has ls 2 [(0, .ref h0)] := hl
  unfold pf_X8_isSeen at hf
  refine lv_iconst (v := 0) hx hb dX8_isSeen_0 (by decide) ?_
  refine lv_istore_n (lv' := [(1, .int 0), (0, .ref h0)]) hx hb dX8_isSeen_1 rfl hl (by decide) rfl (fun ls hl => ?_)
  have klp_X8_isSeen_2 : ∀ (n : Nat) (x1 : Int32) (f2 : Nat → Int32) (f3 : Nat → Int32) (f4 : Nat → Int32) (f5 : Nat → Int32) (f6 : Nat → Int32) (x7 : Int32) (x8 : Int32) (x9 : Int32) (H : Heap) (locs : List Loc) (ls : Array Slot), lp_X8_isSeen_2 t_base t_turned n x1 f2 f3 f4 f5 f6 x7 x8 x9 = some R → hm_W E A s.heap [oc8 h0 r_t t_base t_taped t_at t_faultPlace t_number t_newBits t_newTold t_newDoings t_newThings t_opened x7 x8 x9 t_turned t_wasConverted t_lastBits t_lastSum t_lastHeld t_lastLeft t_lastCode t_writtenLong t_codeMany t_acts t_done0 t_stoppedAt, ic E (r_t 0) 800 f2, ic E (r_t 27) 12 f5, ic E (r_t 25) 12 f3, ic E (r_t 28) 12 f6, zc E (r_t 26) 12 f4] H locs → lv_has ls 2 [(0, .ref h0), (1, .int x1)] → W p l e (hm_rr 5 115 0 0) s m args below meth c H locs 0 0 Q (F0 m 2 ls []) := by
    intro n
    induction n with
    | zero =>
      intro x1 f2 f3 f4 f5 f6 x7 x8 x9 H locs ls hf w hl
      exact pf_no hf
    | succ n ih2 =>
      intro x1 f2 f3 f4 f5 f6 x7 x8 x9 H locs ls hf w hl
      rw [lp_X8_isSeen_2] at hf
      refine lv_iload_n hx hb dX8_isSeen_2 rfl (lv_at hl 1 rfl) ?_
      refine lv_aload_n hx hb dX8_isSeen_3 rfl (lv_at hl 0 rfl) ?_
      refine lv_bipush (v := 57) hx hb dX8_isSeen_4 (by decide) ?_
      obtain ⟨r10, hc6, hf⟩ := pf_bi_0 hf
      refine hm_aft_i (ws' := fun _ => [oc8 h0 r_t t_base t_taped t_at t_faultPlace t_number t_newBits t_newTold t_newDoings t_newThings t_opened x7 x8 x9 t_turned t_wasConverted t_lastBits t_lastSum t_lastHeld t_lastLeft t_lastCode t_writtenLong t_codeMany t_acts t_done0 t_stoppedAt, ic E (r_t 0) 800 f2, ic E (r_t 27) 12 f5, ic E (r_t 25) 12 f3, ic E (r_t 28) 12 f6, zc E (r_t 26) 12 f4]) (hm_runV (rest := [.int x1]) hx hb hml hown X hA Y w 0 (ci := 7) (T := TX8) (N := 55) rfl rfl mw_X8_get ml_X8_221 dX8_isSeen_6 hm_ac0 [.int 57] rfl [0, 1] rfl rfl (ct_X8_get l E H.size h0 r_t t_base t_taped t_at t_faultPlace t_number t_newBits t_newTold t_newDoings t_newThings t_opened x7 x8 x9 t_turned t_wasConverted t_lastBits t_lastSum t_lastHeld t_lastLeft t_lastCode t_writtenLong t_codeMany t_acts t_done0 t_stoppedAt f2 57 (r10, ()) hc6) rfl hl.1 ⟨⟨rfl, rfl⟩, ⟨Nat.le_of_ble_eq_true rfl, Nat.le_of_ble_eq_true rfl⟩, ⟨Nat.le_of_ble_eq_true rfl, Nat.le_of_ble_eq_true rfl⟩, Nat.le_of_ble_eq_true rfl⟩) hA w [0, 1] [2, 3, 4, 5] [4, 5, 0, 1, 2, 3] rfl rfl (by decide) (fun _ => rfl) (fun _ H locs w => ?_)
      refine lv_icmp_ge (tgt := 43) hx hb dX8_isSeen_9 (by decide) (fun c9 => ?_) (fun c9 => ?_)
      · have hf := pf_t c9 hf
        refine lv_iconst (v := 1) hx hb dX8_isSeen_43 (by decide) ?_
        exact hQ _ _ _ _ _ (f2, f3, f4, f5, f6, x7, x8, x9) (fun _ => 0) hf rfl w dX8_isSeen_44
      · have hf := pf_e c9 hf
        refine lv_aload_n hx hb dX8_isSeen_12 rfl (lv_at hl 0 rfl) ?_
        refine lv_aload_n hx hb dX8_isSeen_13 rfl (lv_at hl 0 rfl) ?_
        refine lv_bipush (v := 58) hx hb dX8_isSeen_14 (by decide) ?_
        refine lv_iload_n hx hb dX8_isSeen_16 rfl (lv_at hl 1 rfl) ?_
        refine lv_iadd hx hb dX8_isSeen_17 ?_
        obtain ⟨r11, hc18, hf⟩ := pf_bi_0 hf
        refine hm_aft_i (ws' := fun _ => [oc8 h0 r_t t_base t_taped t_at t_faultPlace t_number t_newBits t_newTold t_newDoings t_newThings t_opened x7 x8 x9 t_turned t_wasConverted t_lastBits t_lastSum t_lastHeld t_lastLeft t_lastCode t_writtenLong t_codeMany t_acts t_done0 t_stoppedAt, ic E (r_t 0) 800 f2, ic E (r_t 27) 12 f5, ic E (r_t 25) 12 f3, ic E (r_t 28) 12 f6, zc E (r_t 26) 12 f4]) (hm_runV (rest := [.ref h0]) hx hb hml hown X hA Y w 0 (ci := 7) (T := TX8) (N := 55) rfl rfl mw_X8_get ml_X8_221 dX8_isSeen_18 hm_ac0 [.int (58 + x1)] rfl [0, 1] rfl rfl (ct_X8_get l E H.size h0 r_t t_base t_taped t_at t_faultPlace t_number t_newBits t_newTold t_newDoings t_newThings t_opened x7 x8 x9 t_turned t_wasConverted t_lastBits t_lastSum t_lastHeld t_lastLeft t_lastCode t_writtenLong t_codeMany t_acts t_done0 t_stoppedAt f2 (58 + x1) (r11, ()) hc18) rfl hl.1 ⟨⟨rfl, rfl⟩, ⟨Nat.le_of_ble_eq_true rfl, Nat.le_of_ble_eq_true rfl⟩, ⟨Nat.le_of_ble_eq_true rfl, Nat.le_of_ble_eq_true rfl⟩, Nat.le_of_ble_eq_true rfl⟩) hA w [0, 1] [2, 3, 4, 5] [4, 5, 0, 1, 2, 3] rfl rfl (by decide) (fun _ => rfl) (fun _ H locs w => ?_)
        obtain ⟨r12, f13, f14, f15, f16, f17, x18, x19, x20, hc21, hf⟩ := pf_bi_8 hf
        refine hm_aft_i (ws' := fun _ => [oc8 h0 r_t t_base t_taped t_at t_faultPlace t_number t_newBits t_newTold t_newDoings t_newThings t_opened x18 x19 x20 t_turned t_wasConverted t_lastBits t_lastSum t_lastHeld t_lastLeft t_lastCode t_writtenLong t_codeMany t_acts t_done0 t_stoppedAt, ic E (r_t 0) 800 f13, ic E (r_t 27) 12 f16, ic E (r_t 25) 12 f14, ic E (r_t 28) 12 f17, zc E (r_t 26) 12 f15]) (hm_runV (rest := []) hx hb hml hown X hA Y w 0 (ci := 7) (T := TX8) (N := 55) rfl rfl mw_X8_paperCode ml_X8_308 dX8_isSeen_21 hm_ac0 [.int r11] rfl [0, 1, 2, 3, 4, 5] rfl rfl (ct_X8_paperCode l E H.size h0 r_t t_base t_taped t_at t_faultPlace t_number t_newBits t_newTold t_newDoings t_newThings t_opened x7 x8 x9 t_turned t_wasConverted t_lastBits t_lastSum t_lastHeld t_lastLeft t_lastCode t_writtenLong t_codeMany t_acts t_done0 t_stoppedAt f2 f5 f3 f6 f4 r11 (r12, f13, f14, f15, f16, f17, x18, x19, x20) hc21) rfl hl.1 ⟨⟨rfl, rfl⟩, ⟨Nat.le_of_ble_eq_true rfl, Nat.le_of_ble_eq_true rfl⟩, ⟨Nat.le_of_ble_eq_true rfl, Nat.le_of_ble_eq_true rfl⟩, Nat.le_of_ble_eq_true rfl⟩) hA w [0, 1, 2, 3, 4, 5] [] [0, 1, 2, 3, 4, 5] rfl rfl (by decide) (fun _ => rfl) (fun _ H locs w => ?_)
        refine lv_aload_n hx hb dX8_isSeen_24 rfl (lv_at hl 0 rfl) ?_
        refine lv_bipush (v := 66) hx hb dX8_isSeen_25 (by decide) ?_
        refine lv_iload_n hx hb dX8_isSeen_27 rfl (lv_at hl 1 rfl) ?_
        refine lv_iadd hx hb dX8_isSeen_28 ?_
        obtain ⟨r21, hc29, hf⟩ := pf_bi_0 hf
        refine hm_aft_i (ws' := fun _ => [oc8 h0 r_t t_base t_taped t_at t_faultPlace t_number t_newBits t_newTold t_newDoings t_newThings t_opened x18 x19 x20 t_turned t_wasConverted t_lastBits t_lastSum t_lastHeld t_lastLeft t_lastCode t_writtenLong t_codeMany t_acts t_done0 t_stoppedAt, ic E (r_t 0) 800 f13, ic E (r_t 27) 12 f16, ic E (r_t 25) 12 f14, ic E (r_t 28) 12 f17, zc E (r_t 26) 12 f15]) (hm_runV (rest := [.int r12]) hx hb hml hown X hA Y w 0 (ci := 7) (T := TX8) (N := 55) rfl rfl mw_X8_get ml_X8_221 dX8_isSeen_29 hm_ac0 [.int (66 + x1)] rfl [0, 1] rfl rfl (ct_X8_get l E H.size h0 r_t t_base t_taped t_at t_faultPlace t_number t_newBits t_newTold t_newDoings t_newThings t_opened x18 x19 x20 t_turned t_wasConverted t_lastBits t_lastSum t_lastHeld t_lastLeft t_lastCode t_writtenLong t_codeMany t_acts t_done0 t_stoppedAt f13 (66 + x1) (r21, ()) hc29) rfl hl.1 ⟨⟨rfl, rfl⟩, ⟨Nat.le_of_ble_eq_true rfl, Nat.le_of_ble_eq_true rfl⟩, ⟨Nat.le_of_ble_eq_true rfl, Nat.le_of_ble_eq_true rfl⟩, Nat.le_of_ble_eq_true rfl⟩) hA w [0, 1] [2, 3, 4, 5] [4, 5, 0, 1, 2, 3] rfl rfl (by decide) (fun _ => rfl) (fun _ H locs w => ?_)
        refine lv_icmp_eq (tgt := 37) hx hb dX8_isSeen_32 (by decide) (fun c32 => ?_) (fun c32 => ?_)
        · have hf := pf_t c32 hf
          obtain ⟨x22, ex22⟩ : ∃ y : Int32, y = (x1 + 1) := ⟨_, rfl⟩
          have hf := pf_nm ex22 hf
          refine lv_iinc (v := x22) (lv' := [(1, .int x22), (0, .ref h0)]) hx hb dX8_isSeen_37 hl (k := 1) rfl (by rw [ex22]; rfl) (by decide) rfl (fun ls hl => ?_)
          refine lv_goto (tgt := 2) hx hb dX8_isSeen_40 (by decide) ?_
          exact ih2 _ _ _ _ _ _ _ _ _ _ _ _ hf w (lv_sub hl [1, 0] rfl)
        · have hf := pf_e c32 hf
          refine lv_iconst (v := 0) hx hb dX8_isSeen_35 (by decide) ?_
          exact hQ _ _ _ _ _ (f13, f14, f15, f16, f17, x18, x19, x20) (fun _ => 0) hf rfl w dX8_isSeen_36
  exact klp_X8_isSeen_2 FU _ _ _ _ _ _ _ _ _ _ _ _ hf w (lv_sub hl [1, 0] rfl)
set_option maxHeartbeats 8000000 in
set_option maxRecDepth 100000 in
theorem ct_X8_isFault (l : Launch) (E : hm_E) (sz : Nat) (h0 : Nat) (r_t : Nat → Nat) (t_base t_taped t_at t_faultPlace t_number t_newBits t_newTold t_newDoings t_newThings t_opened t_sum t_heldAll t_onPaper t_turned t_wasConverted t_lastBits t_lastSum t_lastHeld t_lastLeft t_lastCode t_writtenLong t_codeMany t_acts t_done0 t_stoppedAt : Int32) (t_all : Nat → Int32) (t_askedOf : Nat → Int32) (t_decided : Nat → Int32) (t_heldBehind : Nat → Int32) (t_wasLate : Nat → Int32) (a1 : Int32) (a2 : Int32) (a3 : Int32) (R : Int32 × (Nat → Int32) × (Nat → Int32) × (Nat → Int32) × (Nat → Int32) × (Nat → Int32) × Int32 × Int32 × Int32) (hf : pf_X8_isFault a1 a2 a3 t_all t_base t_decided t_wasLate t_askedOf t_heldBehind t_sum t_heldAll t_onPaper t_turned = some R) : hm_Mi l E yX8_isFault cX8_isFault 7 .boolean [] (hm_rr 6 136 0 0) [.ref h0, .int a1, .int a2, .int a3] sz [oc8 h0 r_t t_base t_taped t_at t_faultPlace t_number t_newBits t_newTold t_newDoings t_newThings t_opened t_sum t_heldAll t_onPaper t_turned t_wasConverted t_lastBits t_lastSum t_lastHeld t_lastLeft t_lastCode t_writtenLong t_codeMany t_acts t_done0 t_stoppedAt, ic E (r_t 0) 800 t_all, ic E (r_t 27) 12 t_askedOf, ic E (r_t 25) 12 t_decided, ic E (r_t 28) 12 t_heldBehind, zc E (r_t 26) 12 t_wasLate] R.1 (fun _ => [oc8 h0 r_t t_base t_taped t_at t_faultPlace t_number t_newBits t_newTold t_newDoings t_newThings t_opened (R.2.2.2.2.2.2.1) (R.2.2.2.2.2.2.2.1) (R.2.2.2.2.2.2.2.2) t_turned t_wasConverted t_lastBits t_lastSum t_lastHeld t_lastLeft t_lastCode t_writtenLong t_codeMany t_acts t_done0 t_stoppedAt, ic E (r_t 0) 800 (R.2.1), ic E (r_t 27) 12 (R.2.2.2.2.1), ic E (r_t 25) 12 (R.2.2.1), ic E (r_t 28) 12 (R.2.2.2.2.2.1), zc E (r_t 26) 12 (R.2.2.2.1)]) := by
  refine hm_ct_i R (fun u _ => [oc8 h0 r_t t_base t_taped t_at t_faultPlace t_number t_newBits t_newTold t_newDoings t_newThings t_opened (u.2.2.2.2.2.1) (u.2.2.2.2.2.2.1) (u.2.2.2.2.2.2.2) t_turned t_wasConverted t_lastBits t_lastSum t_lastHeld t_lastLeft t_lastCode t_writtenLong t_codeMany t_acts t_done0 t_stoppedAt, ic E (r_t 0) 800 (u.1), ic E (r_t 27) 12 (u.2.2.2.1), ic E (r_t 25) 12 (u.2.1), ic E (r_t 28) 12 (u.2.2.2.2.1), zc E (r_t 26) 12 (u.2.2.1)]) (by decide) (Nat.le_of_ble_eq_true rfl) (Or.inr rfl) ?_
  intro p e s m args below meth c A Q ls H locs hx hb hml hown X hA Y hex w hl hQ
  have hl : lv_has ls 7 [(0, .ref h0), (1, .int a1), (2, .int a2), (3, .int a3)] := hl
  unfold pf_X8_isFault at hf
  refine lv_iload_n hx hb dX8_isFault_0 rfl (lv_at hl 1 rfl) ?_
  obtain ⟨J15, hJ15, hf⟩ := pf_jn hf
  have kJ15 : ∀ (x1 : Int32) (H : Heap) (locs : List Loc) (ls : Array Slot), J15 x1 = some R → hm_W E A s.heap [oc8 h0 r_t t_base t_taped t_at t_faultPlace t_number t_newBits t_newTold t_newDoings t_newThings t_opened t_sum t_heldAll t_onPaper t_turned t_wasConverted t_lastBits t_lastSum t_lastHeld t_lastLeft t_lastCode t_writtenLong t_codeMany t_acts t_done0 t_stoppedAt, ic E (r_t 0) 800 t_all, ic E (r_t 27) 12 t_askedOf, ic E (r_t 25) 12 t_decided, ic E (r_t 28) 12 t_heldBehind, zc E (r_t 26) 12 t_wasLate] H locs → lv_has ls 7 [(5, .int r2), (4, .int x1), (0, .ref h0), (1, .int a1), (2, .int a2), (3, .int a3)] → W p l e (hm_rr 6 136 0 0) s m args below meth c H locs 0 0 Q (F0 m 15 ls []) := by
    intro x1 H locs ls hf w hl
    have hf := pf_j1 hJ15 hf
    refine lv_istore (lv' := [(4, .int x1), (0, .ref h0), (1, .int a1), (2, .int a2), (3, .int a3)]) hx hb dX8_isFault_15 hl (by decide) rfl (fun ls hl => ?_)
    refine lv_aload_n hx hb dX8_isFault_17 rfl (lv_at hl 1 rfl) ?_
    refine lv_iload hx hb dX8_isFault_18 (lv_at hl 0 rfl) ?_
    obtain ⟨r2, hc20, hf⟩ := pf_bi_0 hf
    refine hm_aft_i (ws' := fun _ => [oc8 h0 r_t t_base t_taped t_at t_faultPlace t_number t_newBits t_newTold t_newDoings t_newThings t_opened t_sum t_heldAll t_onPaper t_turned t_wasConverted t_lastBits t_lastSum t_lastHeld t_lastLeft t_lastCode t_writtenLong t_codeMany t_acts t_done0 t_stoppedAt, ic E (r_t 0) 800 t_all, ic E (r_t 27) 12 t_askedOf, ic E (r_t 25) 12 t_decided, ic E (r_t 28) 12 t_heldBehind, zc E (r_t 26) 12 t_wasLate]) (hm_runV (rest := []) hx hb hml hown X hA Y w 0 (ci := 7) (T := TX8) (N := 55) rfl rfl mw_X8_get ml_X8_221 dX8_isFault_20 hm_ac0 [.int x1] rfl [0, 1] rfl rfl (ct_X8_get l E H.size h0 r_t t_base t_taped t_at t_faultPlace t_number t_newBits t_newTold t_newDoings t_newThings t_opened t_sum t_heldAll t_onPaper t_turned t_wasConverted t_lastBits t_lastSum t_lastHeld t_lastLeft t_lastCode t_writtenLong t_codeMany t_acts t_done0 t_stoppedAt t_all x1 (r2, ()) hc20) rfl hl.1 ⟨⟨rfl, rfl⟩, ⟨Nat.le_of_ble_eq_true rfl, Nat.le_of_ble_eq_true rfl⟩, ⟨Nat.le_of_ble_eq_true rfl, Nat.le_of_ble_eq_true rfl⟩, Nat.le_of_ble_eq_true rfl⟩) hA w [0, 1] [2, 3, 4, 5] [4, 5, 0, 1, 2, 3] rfl rfl (by decide) (fun _ => rfl) (fun _ H locs w => ?_)
    refine lv_istore (lv' := [(5, .int r2), (4, .int x1), (0, .ref h0), (1, .int a1), (2, .int a2), (3, .int a3)]) hx hb dX8_isFault_23 hl (by decide) rfl (fun ls hl => ?_)
    refine lv_iload_n hx hb dX8_isFault_25 rfl (lv_at hl 3 rfl) ?_
    refine lv_iconst (v := 1) hx hb dX8_isFault_26 (by decide) ?_
    obtain ⟨J43, hJ43, hf⟩ := pf_jn hf
    have kJ43 : ∀ (H : Heap) (locs : List Loc) (ls : Array Slot), J43 = some R → hm_W E A s.heap [oc8 h0 r_t t_base t_taped t_at t_faultPlace t_number t_newBits t_newTold t_newDoings t_newThings t_opened t_sum t_heldAll t_onPaper t_turned t_wasConverted t_lastBits t_lastSum t_lastHeld t_lastLeft t_lastCode t_writtenLong t_codeMany t_acts t_done0 t_stoppedAt, ic E (r_t 0) 800 t_all, ic E (r_t 27) 12 t_askedOf, ic E (r_t 25) 12 t_decided, ic E (r_t 28) 12 t_heldBehind, zc E (r_t 26) 12 t_wasLate] H locs → lv_has ls 7 [(0, .ref h0), (1, .int a1), (3, .int a3), (4, .int x1), (5, .int r2)] → W p l e (hm_rr 6 136 0 0) s m args below meth c H locs 0 0 Q (F0 m 43 ls [.int x1, .ref h0]) := by
      intro H locs ls hf w hl
      have hf := pf_j0 hJ43 hf
      refine lv_aload_n hx hb dX8_isFault_43 rfl (lv_at hl 0 rfl) ?_
      refine lv_iload hx hb dX8_isFault_44 (lv_at hl 3 rfl) ?_
      refine lv_iload_n hx hb dX8_isFault_46 rfl (lv_at hl 1 rfl) ?_
      obtain ⟨J58, hJ58, hf⟩ := pf_jn hf
      have kJ58 : ∀ (x3 : Int32) (H : Heap) (locs : List Loc) (ls : Array Slot), J58 x3 = some R → hm_W E A s.heap [oc8 h0 r_t t_base t_taped t_at t_faultPlace t_number t_newBits t_newTold t_newDoings t_newThings t_opened x11 x12 x13 t_turned t_wasConverted t_lastBits t_lastSum t_lastHeld t_lastLeft t_lastCode t_writtenLong t_codeMany t_acts t_done0 t_stoppedAt, ic E (r_t 0) 800 f14, ic E (r_t 27) 12 f9, ic E (r_t 25) 12 f7, ic E (r_t 28) 12 f10, zc E (r_t 26) 12 f8] H locs → lv_has ls 7 [(6, .int r5), (0, .ref h0), (4, .int x1), (5, .int r2)] → W p l e (hm_rr 6 136 0 0) s m args below meth c H locs 0 0 Q (F0 m 58 ls []) := by
        intro x3 H locs ls hf w hl
        have hf := pf_j1 hJ58 hf
        obtain ⟨f4, hc58, hf⟩ := pf_bv_1 hf
        refine hm_aft_v (ws' := fun _ => [oc8 h0 r_t t_base t_taped t_at t_faultPlace t_number t_newBits t_newTold t_newDoings t_newThings t_opened t_sum t_heldAll t_onPaper t_turned t_wasConverted t_lastBits t_lastSum t_lastHeld t_lastLeft t_lastCode t_writtenLong t_codeMany t_acts t_done0 t_stoppedAt, ic E (r_t 0) 800 f4, ic E (r_t 27) 12 t_askedOf, ic E (r_t 25) 12 t_decided, ic E (r_t 28) 12 t_heldBehind, zc E (r_t 26) 12 t_wasLate]) (hm_runV (rest := []) hx hb hml hown X hA Y w 0 (ci := 7) (T := TX8) (N := 55) rfl rfl mw_X8_put ml_X8_119 dX8_isFault_58 hm_ac0 [.int x1, .int x3] rfl [0, 1] rfl rfl (ct_X8_put l E H.size h0 r_t t_base t_taped t_at t_faultPlace t_number t_newBits t_newTold t_newDoings t_newThings t_opened t_sum t_heldAll t_onPaper t_turned t_wasConverted t_lastBits t_lastSum t_lastHeld t_lastLeft t_lastCode t_writtenLong t_codeMany t_acts t_done0 t_stoppedAt t_all x1 x3 f4 hc58) rfl hl.1 ⟨⟨rfl, rfl⟩, ⟨Nat.le_of_ble_eq_true rfl, Nat.le_of_ble_eq_true rfl⟩, ⟨Nat.le_of_ble_eq_true rfl, Nat.le_of_ble_eq_true rfl⟩, Nat.le_of_ble_eq_true rfl⟩) hA w [0, 1] [2, 3, 4, 5] [4, 5, 0, 1, 2, 3] rfl rfl (by decide) (fun _ => rfl) (fun _ H locs w => ?_)
        refine lv_aload_n hx hb dX8_isFault_61 rfl (lv_at hl 0 rfl) ?_
        obtain ⟨r5, f6, f7, f8, f9, f10, x11, x12, x13, hc62, hf⟩ := pf_bi_8 hf
        refine hm_aft_i (ws' := fun _ => [oc8 h0 r_t t_base t_taped t_at t_faultPlace t_number t_newBits t_newTold t_newDoings t_newThings t_opened x11 x12 x13 t_turned t_wasConverted t_lastBits t_lastSum t_lastHeld t_lastLeft t_lastCode t_writtenLong t_codeMany t_acts t_done0 t_stoppedAt, ic E (r_t 0) 800 f6, ic E (r_t 27) 12 f9, ic E (r_t 25) 12 f7, ic E (r_t 28) 12 f10, zc E (r_t 26) 12 f8]) (hm_runV (rest := []) hx hb hml hown X hA Y w 0 (ci := 7) (T := TX8) (N := 55) rfl rfl mw_X8_isSeen ml_X8_394 dX8_isFault_62 hm_ac0 [] rfl [0, 1, 2, 3, 4, 5] rfl rfl (ct_X8_isSeen l E H.size h0 r_t t_base t_taped t_at t_faultPlace t_number t_newBits t_newTold t_newDoings t_newThings t_opened t_sum t_heldAll t_onPaper t_turned t_wasConverted t_lastBits t_lastSum t_lastHeld t_lastLeft t_lastCode t_writtenLong t_codeMany t_acts t_done0 t_stoppedAt f4 t_askedOf t_decided t_heldBehind t_wasLate (r5, f6, f7, f8, f9, f10, x11, x12, x13) hc62) rfl hl.1 ⟨⟨rfl, rfl⟩, ⟨Nat.le_of_ble_eq_true rfl, Nat.le_of_ble_eq_true rfl⟩, ⟨Nat.le_of_ble_eq_true rfl, Nat.le_of_ble_eq_true rfl⟩, Nat.le_of_ble_eq_true rfl⟩) hA w [0, 1, 2, 3, 4, 5] [] [0, 1, 2, 3, 4, 5] rfl rfl (by decide) (fun _ => rfl) (fun _ H locs w => ?_)
        refine lv_istore (lv' := [(6, .int r5), (0, .ref h0), (4, .int x1), (5, .int r2)]) hx hb dX8_isFault_65 hl (by decide) rfl (fun ls hl => ?_)
        refine lv_aload_n hx hb dX8_isFault_67 rfl (lv_at hl 1 rfl) ?_
        refine lv_iload hx hb dX8_isFault_68 (lv_at hl 2 rfl) ?_
        refine lv_iload hx hb dX8_isFault_70 (lv_at hl 3 rfl) ?_
        obtain ⟨f14, hc72, hf⟩ := pf_bv_1 hf
        refine hm_aft_v (ws' := fun _ => [oc8 h0 r_t t_base t_taped t_at t_faultPlace t_number t_newBits t_newTold t_newDoings t_newThings t_opened x11 x12 x13 t_turned t_wasConverted t_lastBits t_lastSum t_lastHeld t_lastLeft t_lastCode t_writtenLong t_codeMany t_acts t_done0 t_stoppedAt, ic E (r_t 0) 800 f14, ic E (r_t 27) 12 f9, ic E (r_t 25) 12 f7, ic E (r_t 28) 12 f10, zc E (r_t 26) 12 f8]) (hm_runV (rest := []) hx hb hml hown X hA Y w 0 (ci := 7) (T := TX8) (N := 55) rfl rfl mw_X8_put ml_X8_119 dX8_isFault_72 hm_ac0 [.int x1, .int r2] rfl [0, 1] rfl rfl (ct_X8_put l E H.size h0 r_t t_base t_taped t_at t_faultPlace t_number t_newBits t_newTold t_newDoings t_newThings t_opened x11 x12 x13 t_turned t_wasConverted t_lastBits t_lastSum t_lastHeld t_lastLeft t_lastCode t_writtenLong t_codeMany t_acts t_done0 t_stoppedAt f6 x1 r2 f14 hc72) rfl hl.1 ⟨⟨rfl, rfl⟩, ⟨Nat.le_of_ble_eq_true rfl, Nat.le_of_ble_eq_true rfl⟩, ⟨Nat.le_of_ble_eq_true rfl, Nat.le_of_ble_eq_true rfl⟩, Nat.le_of_ble_eq_true rfl⟩) hA w [0, 1] [2, 3, 4, 5] [4, 5, 0, 1, 2, 3] rfl rfl (by decide) (fun _ => rfl) (fun _ H locs w => ?_)
        refine lv_iload hx hb dX8_isFault_75 (lv_at hl 0 rfl) ?_
        obtain ⟨g77, hf⟩ := pf_ckZ hf
        exact hQ _ _ _ _ _ (f14, f7, f8, f9, f10, x11, x12, x13) (fun _ => 0) hf (hm_z g77) w dX8_isFault_77
      refine lv_if_ne (tgt := 54) hx hb dX8_isFault_47 (by decide) (fun c47 => ?_) (fun c47 => ?_)
      · have hf := pf_e c47 hf
        refine lv_iload hx hb dX8_isFault_54 (lv_at hl 4 rfl) ?_
        refine lv_iload_n hx hb dX8_isFault_56 rfl (lv_at hl 2 rfl) ?_
        refine lv_iadd hx hb dX8_isFault_57 ?_
        exact kJ58 _ _ _ _ hf w (lv_sub hl [0, 3, 4] rfl)
      · have hf := pf_t c47 hf
        refine lv_iload_n hx hb dX8_isFault_50 rfl (lv_at hl 2 rfl) ?_
        refine lv_goto (tgt := 58) hx hb dX8_isFault_51 (by decide) ?_
        exact kJ58 _ _ _ _ hf w (lv_sub hl [0, 3, 4] rfl)
    refine lv_icmp_ne (tgt := 43) hx hb dX8_isFault_27 (by decide) (fun c27 => ?_) (fun c27 => ?_)
    · have hf := pf_e c27 hf
      exact kJ43 _ _ _ hf w (lv_sub hl [2, 3, 5, 1, 0] rfl)
    · have hf := pf_t c27 hf
      refine lv_aload_n hx hb dX8_isFault_30 rfl (lv_at hl 2 rfl) ?_
      refine lv_iload_n hx hb dX8_isFault_31 rfl (lv_at hl 4 rfl) ?_
      obtain ⟨r15, hc32, hf⟩ := pf_bi_0 hf
      refine hm_aft_i (ws' := fun _ => [oc8 h0 r_t t_base t_taped t_at t_faultPlace t_number t_newBits t_newTold t_newDoings t_newThings t_opened t_sum t_heldAll t_onPaper t_turned t_wasConverted t_lastBits t_lastSum t_lastHeld t_lastLeft t_lastCode t_writtenLong t_codeMany t_acts t_done0 t_stoppedAt, ic E (r_t 0) 800 t_all, ic E (r_t 27) 12 t_askedOf, ic E (r_t 25) 12 t_decided, ic E (r_t 28) 12 t_heldBehind, zc E (r_t 26) 12 t_wasLate]) (hm_runV (rest := []) hx hb hml hown X hA Y w 0 (ci := 7) (T := TX8) (N := 55) rfl rfl mw_X8_weight ml_X8_224 dX8_isFault_32 hm_ac0 [.int a2] rfl [0, 1] rfl rfl (ct_X8_weight l E H.size h0 r_t t_base t_taped t_at t_faultPlace t_number t_newBits t_newTold t_newDoings t_newThings t_opened t_sum t_heldAll t_onPaper t_turned t_wasConverted t_lastBits t_lastSum t_lastHeld t_lastLeft t_lastCode t_writtenLong t_codeMany t_acts t_done0 t_stoppedAt t_all a2 (r15, ()) hc32) rfl hl.1 ⟨⟨rfl, rfl⟩, ⟨Nat.le_of_ble_eq_true rfl, Nat.le_of_ble_eq_true rfl⟩, ⟨Nat.le_of_ble_eq_true rfl, Nat.le_of_ble_eq_true rfl⟩, Nat.le_of_ble_eq_true rfl⟩) hA w [0, 1] [2, 3, 4, 5] [4, 5, 0, 1, 2, 3] rfl rfl (by decide) (fun _ => rfl) (fun _ H locs w => ?_)
      refine lv_iload_n hx hb dX8_isFault_35 rfl (lv_at hl 5 rfl) ?_
      refine lv_iadd hx hb dX8_isFault_36 ?_
      refine lv_iconst (v := 1) hx hb dX8_isFault_37 (by decide) ?_
      refine lv_icmp_ge (tgt := 43) hx hb dX8_isFault_38 (by decide) (fun c38 => ?_) (fun c38 => ?_)
      · have hf := pf_t c38 hf
        exact kJ43 _ _ _ hf w (lv_sub hl [2, 3, 5, 1, 0] rfl)
      · have hf := pf_e c38 hf
        refine lv_iconst (v := 0) hx hb dX8_isFault_41 (by decide) ?_
        exact hQ _ _ _ _ _ (t_all, t_decided, t_wasLate, t_askedOf, t_heldBehind, t_sum, t_heldAll, t_onPaper) (fun _ => 0) hf rfl w dX8_isFault_42
  refine lv_if_ne (tgt := 11) hx hb dX8_isFault_1 (by decide) (fun c1 => ?_) (fun c1 => ?_)
  · have hf := pf_e c1 hf
    refine lv_bipush (v := 21) hx hb dX8_isFault_11 (by decide) ?_
    refine lv_iload_n hx hb dX8_isFault_13 rfl (lv_at hl 2 rfl) ?_
    refine lv_iadd hx hb dX8_isFault_14 ?_
    exact kJ15 _ _ _ _ hf w (lv_sub hl [0, 1, 2, 3] rfl)
  · have hf := pf_t c1 hf
    refine lv_bipush (v := 45) hx hb dX8_isFault_4 (by decide) ?_
    refine lv_iload_n hx hb dX8_isFault_6 rfl (lv_at hl 2 rfl) ?_
    refine lv_iadd hx hb dX8_isFault_7 ?_
    refine lv_goto (tgt := 15) hx hb dX8_isFault_8 (by decide) ?_
    exact kJ15 _ _ _ _ hf w (lv_sub hl [0, 1, 2, 3] rfl)
set_option maxHeartbeats 8000000 in
set_option maxRecDepth 100000 in
theorem ct_X8_faults (l : Launch) (E : hm_E) (sz : Nat) (h0 : Nat) (r_t : Nat → Nat) (t_base t_taped t_at t_faultPlace t_number t_newBits t_newTold t_newDoings t_newThings t_opened t_sum t_heldAll t_onPaper t_turned t_wasConverted t_lastBits t_lastSum t_lastHeld t_lastLeft t_lastCode t_writtenLong t_codeMany t_acts t_done0 t_stoppedAt : Int32) (t_all : Nat → Int32) (t_askedOf : Nat → Int32) (t_decided : Nat → Int32) (t_heldBehind : Nat → Int32) (t_wasLate : Nat → Int32) (a1 : Int32) (a2 : Int32) (R : Int32 × (Nat → Int32) × (Nat → Int32) × (Nat → Int32) × (Nat → Int32) × (Nat → Int32) × Int32 × Int32 × Int32) (hf : pf_X8_faults a1 a2 t_all t_base t_decided t_wasLate t_askedOf t_heldBehind t_sum t_heldAll t_onPaper t_turned = some R) : hm_Mi l E yX8_faults cX8_faults 9 .int [] (hm_rr 7 162 0 0) [.ref h0, .int a1, .int a2] sz [oc8 h0 r_t t_base t_taped t_at t_faultPlace t_number t_newBits t_newTold t_newDoings t_newThings t_opened t_sum t_heldAll t_onPaper t_turned t_wasConverted t_lastBits t_lastSum t_lastHeld t_lastLeft t_lastCode t_writtenLong t_codeMany t_acts t_done0 t_stoppedAt, ic E (r_t 0) 800 t_all, ic E (r_t 27) 12 t_askedOf, ic E (r_t 25) 12 t_decided, ic E (r_t 28) 12 t_heldBehind, zc E (r_t 26) 12 t_wasLate] R.1 (fun _ => [oc8 h0 r_t t_base t_taped t_at t_faultPlace t_number t_newBits t_newTold t_newDoings t_newThings t_opened (R.2.2.2.2.2.2.1) (R.2.2.2.2.2.2.2.1) (R.2.2.2.2.2.2.2.2) t_turned t_wasConverted t_lastBits t_lastSum t_lastHeld t_lastLeft t_lastCode t_writtenLong t_codeMany t_acts t_done0 t_stoppedAt, ic E (r_t 0) 800 (R.2.1), ic E (r_t 27) 12 (R.2.2.2.2.1), ic E (r_t 25) 12 (R.2.2.1), ic E (r_t 28) 12 (R.2.2.2.2.2.1), zc E (r_t 26) 12 (R.2.2.2.1)]) := by
  refine hm_ct_i R (fun u _ => [oc8 h0 r_t t_base t_taped t_at t_faultPlace t_number t_newBits t_newTold t_newDoings t_newThings t_opened (u.2.2.2.2.2.1) (u.2.2.2.2.2.2.1) (u.2.2.2.2.2.2.2) t_turned t_wasConverted t_lastBits t_lastSum t_lastHeld t_lastLeft t_lastCode t_writtenLong t_codeMany t_acts t_done0 t_stoppedAt, ic E (r_t 0) 800 (u.1), ic E (r_t 27) 12 (u.2.2.2.1), ic E (r_t 25) 12 (u.2.1), ic E (r_t 28) 12 (u.2.2.2.2.1), zc E (r_t 26) 12 (u.2.2.1)]) (by decide) (Nat.le_of_ble_eq_true rfl) (Or.inl rfl) ?_
  intro p e s m args below meth c A Q ls H locs hx hb hml hown X hA Y hex w hl hQ
  have hl : lv_has ls 9 [(0, .ref h0), (1, .int a1), (2, .int a2)] := hl
  unfold pf_X8_faults at hf
  refine lv_aload_n hx hb dX8_faults_0 rfl (lv_at hl 0 rfl) ?_
  refine lv_iconst (v := 0) hx hb dX8_faults_1 (by decide) ?_
  obtain ⟨r1, hc2, hf⟩ := pf_bi_0 hf
  refine hm_aft_i (ws' := fun _ => [oc8 h0 r_t t_base t_taped t_at t_faultPlace t_number t_newBits t_newTold t_newDoings t_newThings t_opened t_sum t_heldAll t_onPaper t_turned t_wasConverted t_lastBits t_lastSum t_lastHeld t_lastLeft t_lastCode t_writtenLong t_codeMany t_acts t_done0 t_stoppedAt, ic E (r_t 0) 800 t_all, ic E (r_t 27) 12 t_askedOf, ic E (r_t 25) 12 t_decided, ic E (r_t 28) 12 t_heldBehind, zc E (r_t 26) 12 t_wasLate]) (hm_runV (rest := []) hx hb hml hown X hA Y w 0 (ci := 7) (T := TX8) (N := 55) rfl rfl mw_X8_get ml_X8_221 dX8_faults_2 hm_ac0 [.int 0] rfl [0, 1] rfl rfl (ct_X8_get l E H.size h0 r_t t_base t_taped t_at t_faultPlace t_number t_newBits t_newTold t_newDoings t_newThings t_opened t_sum t_heldAll t_onPaper t_turned t_wasConverted t_lastBits t_lastSum t_lastHeld t_lastLeft t_lastCode t_writtenLong t_codeMany t_acts t_done0 t_stoppedAt t_all 0 (r1, ()) hc2) rfl hl.1 ⟨⟨rfl, rfl⟩, ⟨Nat.le_of_ble_eq_true rfl, Nat.le_of_ble_eq_true rfl⟩, ⟨Nat.le_of_ble_eq_true rfl, Nat.le_of_ble_eq_true rfl⟩, Nat.le_of_ble_eq_true rfl⟩) hA w [0, 1] [2, 3, 4, 5] [4, 5, 0, 1, 2, 3] rfl rfl (by decide) (fun _ => rfl) (fun _ H locs w => ?_)
  refine lv_istore_n (lv' := [(3, .int r1), (0, .ref h0), (1, .int a1), (2, .int a2)]) hx hb dX8_faults_5 rfl hl (by decide) rfl (fun ls hl => ?_)
  refine lv_iload_n hx hb dX8_faults_6 rfl (lv_at hl 0 rfl) ?_
  refine lv_if_eq (tgt := 28) hx hb dX8_faults_7 (by decide) (fun c7 => ?_) (fun c7 => ?_)
  · have hf := pf_t c7 hf
    refine lv_bipush (v := (-100)) hx hb dX8_faults_28 (by decide) ?_
    exact hQ _ _ _ _ _ (t_all, t_decided, t_wasLate, t_askedOf, t_heldBehind, t_sum, t_heldAll, t_onPaper) (fun _ => 0) hf rfl w dX8_faults_30
  · have hf := pf_e c7 hf
    refine lv_iload_n hx hb dX8_faults_10 rfl (lv_at hl 2 rfl) ?_
    refine lv_iconst (v := 0) hx hb dX8_faults_11 (by decide) ?_
    refine lv_iconst (v := 1) hx hb dX8_faults_12 (by decide) ?_
    obtain ⟨r2, hc13, hf⟩ := pf_bi_0 hf
    refine hm_aft_i (ws' := fun _ => [oc8 h0 r_t t_base t_taped t_at t_faultPlace t_number t_newBits t_newTold t_newDoings t_newThings t_opened t_sum t_heldAll t_onPaper t_turned t_wasConverted t_lastBits t_lastSum t_lastHeld t_lastLeft t_lastCode t_writtenLong t_codeMany t_acts t_done0 t_stoppedAt, ic E (r_t 0) 800 t_all, ic E (r_t 27) 12 t_askedOf, ic E (r_t 25) 12 t_decided, ic E (r_t 28) 12 t_heldBehind, zc E (r_t 26) 12 t_wasLate]) (hm_runS (rest := []) hx hb hml hown X hA Y w mw_X8_isIn ml_X8_129 dX8_faults_13 hm_ac0 [.int a1, .int 0, .int 1] rfl [] rfl rfl (ct_X8_isIn l E H.size a1 0 1 (r2, ()) hc13) rfl hl.1 ⟨⟨rfl, rfl⟩, ⟨Nat.le_of_ble_eq_true rfl, Nat.le_of_ble_eq_true rfl⟩, ⟨Nat.le_of_ble_eq_true rfl, Nat.le_of_ble_eq_true rfl⟩, Nat.le_of_ble_eq_true rfl⟩) hA w [] [0, 1, 2, 3, 4, 5] [0, 1, 2, 3, 4, 5] rfl rfl (by decide) (fun _ => rfl) (fun _ H locs w => ?_)
    refine lv_if_eq (tgt := 28) hx hb dX8_faults_16 (by decide) (fun c16 => ?_) (fun c16 => ?_)
    · have hf := pf_t c16 hf
      refine lv_bipush (v := (-100)) hx hb dX8_faults_28 (by decide) ?_
      exact hQ _ _ _ _ _ (t_all, t_decided, t_wasLate, t_askedOf, t_heldBehind, t_sum, t_heldAll, t_onPaper) (fun _ => 0) hf rfl w dX8_faults_30
    · have hf := pf_e c16 hf
      refine lv_iload_n hx hb dX8_faults_19 rfl (lv_at hl 3 rfl) ?_
      refine lv_iconst (v := 0) hx hb dX8_faults_20 (by decide) ?_
      refine lv_iconst (v := 2) hx hb dX8_faults_21 (by decide) ?_
      obtain ⟨r3, hc22, hf⟩ := pf_bi_0 hf
      refine hm_aft_i (ws' := fun _ => [oc8 h0 r_t t_base t_taped t_at t_faultPlace t_number t_newBits t_newTold t_newDoings t_newThings t_opened t_sum t_heldAll t_onPaper t_turned t_wasConverted t_lastBits t_lastSum t_lastHeld t_lastLeft t_lastCode t_writtenLong t_codeMany t_acts t_done0 t_stoppedAt, ic E (r_t 0) 800 t_all, ic E (r_t 27) 12 t_askedOf, ic E (r_t 25) 12 t_decided, ic E (r_t 28) 12 t_heldBehind, zc E (r_t 26) 12 t_wasLate]) (hm_runS (rest := []) hx hb hml hown X hA Y w mw_X8_isIn ml_X8_129 dX8_faults_22 hm_ac0 [.int a2, .int 0, .int 2] rfl [] rfl rfl (ct_X8_isIn l E H.size a2 0 2 (r3, ()) hc22) rfl hl.1 ⟨⟨rfl, rfl⟩, ⟨Nat.le_of_ble_eq_true rfl, Nat.le_of_ble_eq_true rfl⟩, ⟨Nat.le_of_ble_eq_true rfl, Nat.le_of_ble_eq_true rfl⟩, Nat.le_of_ble_eq_true rfl⟩) hA w [] [0, 1, 2, 3, 4, 5] [0, 1, 2, 3, 4, 5] rfl rfl (by decide) (fun _ => rfl) (fun _ H locs w => ?_)
      refine lv_if_ne (tgt := 31) hx hb dX8_faults_25 (by decide) (fun c25 => ?_) (fun c25 => ?_)
      · have hf := pf_e c25 hf
        refine lv_iconst (v := 0) hx hb dX8_faults_31 (by decide) ?_
        refine lv_istore (lv' := [(4, .int 0), (3, .int r1), (0, .ref h0), (1, .int a1), (2, .int a2)]) hx hb dX8_faults_32 hl (by decide) rfl (fun ls hl => ?_)
        refine lv_bipush (v := (-100)) hx hb dX8_faults_34 (by decide) ?_
        refine lv_istore (lv' := [(5, .int (-100)), (4, .int 0), (3, .int r1), (0, .ref h0), (1, .int a1), (2, .int a2)]) hx hb dX8_faults_36 hl (by decide) rfl (fun ls hl => ?_)
        refine lv_bipush (v := (-100)) hx hb dX8_faults_38 (by decide) ?_
        refine lv_istore (lv' := [(6, .int (-100)), (5, .int (-100)), (4, .int 0), (3, .int r1), (0, .ref h0), (1, .int a1), (2, .int a2)]) hx hb dX8_faults_40 hl (by decide) rfl (fun ls hl => ?_)
        refine lv_iconst (v := 0) hx hb dX8_faults_42 (by decide) ?_
        refine lv_istore (lv' := [(7, .int 0), (6, .int (-100)), (5, .int (-100)), (4, .int 0), (3, .int r1), (0, .ref h0), (1, .int a1), (2, .int a2)]) hx hb dX8_faults_43 hl (by decide) rfl (fun ls hl => ?_)
        obtain ⟨J148, hJ148, hf⟩ := pf_jn hf
        have kJ148 : ∀ (x4 : Int32) (x5 : Int32) (x6 : Int32) (f7 : Nat → Int32) (f8 : Nat → Int32) (f9 : Nat → Int32) (f10 : Nat → Int32) (f11 : Nat → Int32) (x12 : Int32) (x13 : Int32) (x14 : Int32) (H : Heap) (locs : List Loc) (ls : Array Slot), J148 x4 x5 x6 f7 f8 f9 f10 f11 x12 x13 x14 = some R → hm_W E A s.heap [oc8 h0 r_t t_base t_taped t_at t_faultPlace t_number t_newBits t_newTold t_newDoings t_newThings t_opened x12 x13 x14 t_turned t_wasConverted t_lastBits t_lastSum t_lastHeld t_lastLeft t_lastCode t_writtenLong t_codeMany t_acts t_done0 t_stoppedAt, ic E (r_t 0) 800 f7, ic E (r_t 27) 12 f10, ic E (r_t 25) 12 f8, ic E (r_t 28) 12 f11, zc E (r_t 26) 12 f9] H locs → lv_has ls 9 [(2, .int a2), (4, .int x4), (5, .int x5), (6, .int x6)] → W p l e (hm_rr 7 162 0 0) s m args below meth c H locs 0 0 Q (F0 m 148 ls []) := by
          intro x4 x5 x6 f7 f8 f9 f10 f11 x12 x13 x14 H locs ls hf w hl
          have hf := pf_j11 hJ148 hf
          refine lv_iload_n hx hb dX8_faults_148 rfl (lv_at hl 0 rfl) ?_
          refine lv_if_ne (tgt := 157) hx hb dX8_faults_149 (by decide) (fun c149 => ?_) (fun c149 => ?_)
          · have hf := pf_e c149 hf
            refine lv_iload_n hx hb dX8_faults_157 rfl (lv_at hl 0 rfl) ?_
            refine lv_iconst (v := 1) hx hb dX8_faults_158 (by decide) ?_
            refine lv_icmp_ne (tgt := 167) hx hb dX8_faults_159 (by decide) (fun c159 => ?_) (fun c159 => ?_)
            · have hf := pf_e c159 hf
              refine lv_iload hx hb dX8_faults_167 (lv_at hl 3 rfl) ?_
              exact hQ _ _ _ _ _ (f7, f8, f9, f10, f11, x12, x13, x14) (fun _ => 0) hf rfl w dX8_faults_169
            · have hf := pf_t c159 hf
              refine lv_iload hx hb dX8_faults_162 (lv_at hl 2 rfl) ?_
              refine lv_goto (tgt := 169) hx hb dX8_faults_164 (by decide) ?_
              exact hQ _ _ _ _ _ (f7, f8, f9, f10, f11, x12, x13, x14) (fun _ => 0) hf rfl w dX8_faults_169
          · have hf := pf_t c149 hf
            refine lv_iload hx hb dX8_faults_152 (lv_at hl 1 rfl) ?_
            refine lv_goto (tgt := 169) hx hb dX8_faults_154 (by decide) ?_
            exact hQ _ _ _ _ _ (f7, f8, f9, f10, f11, x12, x13, x14) (fun _ => 0) hf rfl w dX8_faults_169
        have klp_X8_faults_45 : ∀ (n : Nat) (x15 : Int32) (x16 : Int32) (x17 : Int32) (x18 : Int32) (f19 : Nat → Int32) (f20 : Nat → Int32) (f21 : Nat → Int32) (f22 : Nat → Int32) (f23 : Nat → Int32) (x24 : Int32) (x25 : Int32) (x26 : Int32) (H : Heap) (locs : List Loc) (ls : Array Slot), lp_X8_faults_45 a1 t_base t_turned r1 J148 n x15 x16 x17 x18 f19 f20 f21 f22 f23 x24 x25 x26 = some R → hm_W E A s.heap [oc8 h0 r_t t_base t_taped t_at t_faultPlace t_number t_newBits t_newTold t_newDoings t_newThings t_opened x24 x25 x26 t_turned t_wasConverted t_lastBits t_lastSum t_lastHeld t_lastLeft t_lastCode t_writtenLong t_codeMany t_acts t_done0 t_stoppedAt, ic E (r_t 0) 800 f19, ic E (r_t 27) 12 f22, ic E (r_t 25) 12 f20, ic E (r_t 28) 12 f23, zc E (r_t 26) 12 f21] H locs → lv_has ls 9 [(0, .ref h0), (1, .int a1), (2, .int a2), (3, .int r1), (4, .int x15), (5, .int x16), (6, .int x17), (7, .int x18)] → W p l e (hm_rr 7 162 0 0) s m args below meth c H locs 0 0 Q (F0 m 45 ls []) := by
          intro n
          induction n with
          | zero =>
            intro x15 x16 x17 x18 f19 f20 f21 f22 f23 x24 x25 x26 H locs ls hf w hl
            exact pf_no hf
          | succ n ih45 =>
            intro x15 x16 x17 x18 f19 f20 f21 f22 f23 x24 x25 x26 H locs ls hf w hl
            rw [lp_X8_faults_45] at hf
            refine lv_iload hx hb dX8_faults_45 (lv_at hl 7 rfl) ?_
            refine lv_iload_n hx hb dX8_faults_47 rfl (lv_at hl 3 rfl) ?_
            refine lv_icmp_ge (tgt := 148) hx hb dX8_faults_48 (by decide) (fun c48 => ?_) (fun c48 => ?_)
            · have hf := pf_t c48 hf
              exact kJ148 _ _ _ _ _ _ _ _ _ _ _ _ _ _ hf w (lv_sub hl [2, 4, 5, 6] rfl)
            · have hf := pf_e c48 hf
              refine lv_iload_n hx hb dX8_faults_51 rfl (lv_at hl 1 rfl) ?_
              refine lv_if_ne (tgt := 59) hx hb dX8_faults_52 (by decide) (fun c52 => ?_) (fun c52 => ?_)
              · have hf := pf_e c52 hf
                refine lv_bipush (v := (-20)) hx hb dX8_faults_59 (by decide) ?_
                refine lv_istore (lv' := [(8, .int (-20)), (0, .ref h0), (1, .int a1), (2, .int a2), (3, .int r1), (4, .int x15), (5, .int x16), (6, .int x17), (7, .int x18)]) hx hb dX8_faults_61 hl (by decide) rfl (fun ls hl => ?_)
                obtain ⟨B45, hB45, hf⟩ := pf_jn hf
                have kB45 : ∀ (x15 : Int32) (x16 : Int32) (x17 : Int32) (x18 : Int32) (f19 : Nat → Int32) (f20 : Nat → Int32) (f21 : Nat → Int32) (f22 : Nat → Int32) (f23 : Nat → Int32) (x24 : Int32) (x25 : Int32) (x26 : Int32) (H : Heap) (locs : List Loc) (ls : Array Slot), B45 x15 x16 x17 x18 f19 f20 f21 f22 f23 x24 x25 x26 = some R → hm_W E A s.heap [oc8 h0 r_t t_base t_taped t_at t_faultPlace t_number t_newBits t_newTold t_newDoings t_newThings t_opened x24 x25 x26 t_turned t_wasConverted t_lastBits t_lastSum t_lastHeld t_lastLeft t_lastCode t_writtenLong t_codeMany t_acts t_done0 t_stoppedAt, ic E (r_t 0) 800 f19, ic E (r_t 27) 12 f22, ic E (r_t 25) 12 f20, ic E (r_t 28) 12 f23, zc E (r_t 26) 12 f21] H locs → lv_has ls 9 [(0, .ref h0), (1, .int a1), (2, .int a2), (3, .int r1), (4, .int x15), (5, .int x16), (6, .int x17), (7, .int x18)] → W p l e (hm_rr 7 162 0 0) s m args below meth c H locs 0 0 Q (F0 m 45 ls []) := by
                  intro x15 x16 x17 x18 f19 f20 f21 f22 f23 x24 x25 x26 H locs ls hf w hl
                  have hf := pf_j12 hB45 hf
                  exact ih45 x15 x16 x17 x18 f19 f20 f21 f22 f23 x24 x25 x26 _ _ _ hf w hl
                have klp_X8_faults_63 : ∀ (n : Nat) (x27 : Int32) (x28 : Int32) (x29 : Int32) (x30 : Int32) (f31 : Nat → Int32) (f32 : Nat → Int32) (f33 : Nat → Int32) (f34 : Nat → Int32) (f35 : Nat → Int32) (x36 : Int32) (x37 : Int32) (x38 : Int32) (H : Heap) (locs : List Loc) (ls : Array Slot), lp_X8_faults_63 a1 t_base t_turned x18 B45 n x27 x28 x29 x30 f31 f32 f33 f34 f35 x36 x37 x38 = some R → hm_W E A s.heap [oc8 h0 r_t t_base t_taped t_at t_faultPlace t_number t_newBits t_newTold t_newDoings t_newThings t_opened x36 x37 x38 t_turned t_wasConverted t_lastBits t_lastSum t_lastHeld t_lastLeft t_lastCode t_writtenLong t_codeMany t_acts t_done0 t_stoppedAt, ic E (r_t 0) 800 f31, ic E (r_t 27) 12 f34, ic E (r_t 25) 12 f32, ic E (r_t 28) 12 f35, zc E (r_t 26) 12 f33] H locs → lv_has ls 9 [(0, .ref h0), (1, .int a1), (2, .int a2), (3, .int r1), (4, .int x27), (5, .int x28), (6, .int x29), (7, .int x18), (8, .int x30)] → W p l e (hm_rr 7 162 0 0) s m args below meth c H locs 0 0 Q (F0 m 63 ls []) := by
                  intro n
                  induction n with
                  | zero =>
                    intro x27 x28 x29 x30 f31 f32 f33 f34 f35 x36 x37 x38 H locs ls hf w hl
                    exact pf_no hf
                  | succ n ih63 =>
                    intro x27 x28 x29 x30 f31 f32 f33 f34 f35 x36 x37 x38 H locs ls hf w hl
                    rw [lp_X8_faults_63] at hf
                    refine lv_iload hx hb dX8_faults_63 (lv_at hl 8 rfl) ?_
                    refine lv_iload_n hx hb dX8_faults_65 rfl (lv_at hl 1 rfl) ?_
                    obtain ⟨J75, hJ75, hf⟩ := pf_jn hf
                    have kJ75 : ∀ (x39 : Int32) (H : Heap) (locs : List Loc) (ls : Array Slot), J75 x39 = some R → hm_W E A s.heap [oc8 h0 r_t t_base t_taped t_at t_faultPlace t_number t_newBits t_newTold t_newDoings t_newThings t_opened x36 x37 x38 t_turned t_wasConverted t_lastBits t_lastSum t_lastHeld t_lastLeft t_lastCode t_writtenLong t_codeMany t_acts t_done0 t_stoppedAt, ic E (r_t 0) 800 f31, ic E (r_t 27) 12 f34, ic E (r_t 25) 12 f32, ic E (r_t 28) 12 f35, zc E (r_t 26) 12 f33] H locs → lv_has ls 9 [(0, .ref h0), (1, .int a1), (2, .int a2), (3, .int r1), (4, .int x27), (5, .int x28), (6, .int x29), (7, .int x18), (8, .int x30)] → W p l e (hm_rr 7 162 0 0) s m args below meth c H locs 0 0 Q (F0 m 75 ls []) := by
                      intro x39 H locs ls hf w hl
                      have hf := pf_j1 hJ75 hf
                      refine lv_icmp_gt (tgt := 142) hx hb dX8_faults_75 (by decide) (fun c75 => ?_) (fun c75 => ?_)
                      · have hf := pf_t c75 hf
                        obtain ⟨x40, ex40⟩ : ∃ y : Int32, y = (x18 + 1) := ⟨_, rfl⟩
                        have hf := pf_nm ex40 hf
                        refine lv_iinc (v := x40) (lv' := [(7, .int x40), (0, .ref h0), (1, .int a1), (2, .int a2), (3, .int r1), (4, .int x27), (5, .int x28), (6, .int x29), (8, .int x30)]) hx hb dX8_faults_142 hl (k := 7) rfl (by rw [ex40]; rfl) (by decide) rfl (fun ls hl => ?_)
                        refine lv_goto (tgt := 45) hx hb dX8_faults_145 (by decide) ?_
                        exact kB45 _ _ _ _ _ _ _ _ _ _ _ _ _ _ _ hf w (lv_sub hl [1, 2, 3, 4, 5, 6, 7, 0] rfl)
                      · have hf := pf_e c75 hf
                        refine lv_iload_n hx hb dX8_faults_78 rfl (lv_at hl 1 rfl) ?_
                        refine lv_iconst (v := 1) hx hb dX8_faults_79 (by decide) ?_
                        obtain ⟨J88, hJ88, hf⟩ := pf_jn hf
                        have kJ88 : ∀ (H : Heap) (locs : List Loc) (ls : Array Slot), J88 = some R → hm_W E A s.heap [oc8 h0 r_t t_base t_taped t_at t_faultPlace t_number t_newBits t_newTold t_newDoings t_newThings t_opened x47 x48 x49 t_turned t_wasConverted t_lastBits t_lastSum t_lastHeld t_lastLeft t_lastCode t_writtenLong t_codeMany t_acts t_done0 t_stoppedAt, ic E (r_t 0) 800 f42, ic E (r_t 27) 12 f45, ic E (r_t 25) 12 f43, ic E (r_t 28) 12 f46, zc E (r_t 26) 12 f44] H locs → lv_has ls 9 [(0, .ref h0), (1, .int a1), (2, .int a2), (3, .int r1), (4, .int x27), (5, .int x28), (6, .int x29), (7, .int x18), (8, .int x30)] → W p l e (hm_rr 7 162 0 0) s m args below meth c H locs 0 0 Q (F0 m 88 ls []) := by
                          intro H locs ls hf w hl
                          have hf := pf_j0 hJ88 hf
                          refine lv_aload_n hx hb dX8_faults_88 rfl (lv_at hl 0 rfl) ?_
                          refine lv_iload_n hx hb dX8_faults_89 rfl (lv_at hl 1 rfl) ?_
                          refine lv_iload hx hb dX8_faults_90 (lv_at hl 7 rfl) ?_
                          refine lv_iload hx hb dX8_faults_92 (lv_at hl 8 rfl) ?_
                          obtain ⟨r41, f42, f43, f44, f45, f46, x47, x48, x49, hc94, hf⟩ := pf_bi_8 hf
                          refine hm_aft_i (ws' := fun _ => [oc8 h0 r_t t_base t_taped t_at t_faultPlace t_number t_newBits t_newTold t_newDoings t_newThings t_opened x47 x48 x49 t_turned t_wasConverted t_lastBits t_lastSum t_lastHeld t_lastLeft t_lastCode t_writtenLong t_codeMany t_acts t_done0 t_stoppedAt, ic E (r_t 0) 800 f42, ic E (r_t 27) 12 f45, ic E (r_t 25) 12 f43, ic E (r_t 28) 12 f46, zc E (r_t 26) 12 f44]) (hm_runV (rest := []) hx hb hml hown X hA Y w 0 (ci := 7) (T := TX8) (N := 55) rfl rfl mw_X8_isFault ml_X8_397 dX8_faults_94 hm_ac0 [.int a1, .int x18, .int x30] rfl [0, 1, 2, 3, 4, 5] rfl rfl (ct_X8_isFault l E H.size h0 r_t t_base t_taped t_at t_faultPlace t_number t_newBits t_newTold t_newDoings t_newThings t_opened x36 x37 x38 t_turned t_wasConverted t_lastBits t_lastSum t_lastHeld t_lastLeft t_lastCode t_writtenLong t_codeMany t_acts t_done0 t_stoppedAt f31 f34 f32 f35 f33 a1 x18 x30 (r41, f42, f43, f44, f45, f46, x47, x48, x49) hc94) rfl hl.1 ⟨⟨rfl, rfl⟩, ⟨Nat.le_of_ble_eq_true rfl, Nat.le_of_ble_eq_true rfl⟩, ⟨Nat.le_of_ble_eq_true rfl, Nat.le_of_ble_eq_true rfl⟩, Nat.le_of_ble_eq_true rfl⟩) hA w [0, 1, 2, 3, 4, 5] [] [0, 1, 2, 3, 4, 5] rfl rfl (by decide) (fun _ => rfl) (fun _ H locs w => ?_)
                          refine lv_if_ne (tgt := 103) hx hb dX8_faults_97 (by decide) (fun c97 => ?_) (fun c97 => ?_)
                          · have hf := pf_e c97 hf
                            obtain ⟨x50, ex50⟩ : ∃ y : Int32, y = (x27 + 1) := ⟨_, rfl⟩
                            have hf := pf_nm ex50 hf
                            refine lv_iinc (v := x50) (lv' := [(4, .int x50), (0, .ref h0), (1, .int a1), (2, .int a2), (3, .int r1), (5, .int x28), (6, .int x29), (7, .int x18), (8, .int x30)]) hx hb dX8_faults_103 hl (k := 4) rfl (by rw [ex50]; rfl) (by decide) rfl (fun ls hl => ?_)
                            refine lv_iload hx hb dX8_faults_106 (lv_at hl 0 rfl) ?_
                            refine lv_iconst (v := 1) hx hb dX8_faults_108 (by decide) ?_
                            obtain ⟨J119, hJ119, hf⟩ := pf_jn hf
                            have kJ119 : ∀ (x51 : Int32) (H : Heap) (locs : List Loc) (ls : Array Slot), J119 x51 = some R → hm_W E A s.heap [oc8 h0 r_t t_base t_taped t_at t_faultPlace t_number t_newBits t_newTold t_newDoings t_newThings t_opened x47 x48 x49 t_turned t_wasConverted t_lastBits t_lastSum t_lastHeld t_lastLeft t_lastCode t_writtenLong t_codeMany t_acts t_done0 t_stoppedAt, ic E (r_t 0) 800 f42, ic E (r_t 27) 12 f45, ic E (r_t 25) 12 f43, ic E (r_t 28) 12 f46, zc E (r_t 26) 12 f44] H locs → lv_has ls 9 [(5, .int x51), (0, .ref h0), (1, .int a1), (2, .int a2), (3, .int r1), (4, .int x50), (6, .int x29), (7, .int x18), (8, .int x30)] → W p l e (hm_rr 7 162 0 0) s m args below meth c H locs 0 0 Q (F0 m 119 ls []) := by
                              intro x51 H locs ls hf w hl
                              have hf := pf_j1 hJ119 hf
                              refine lv_istore (lv' := [(5, .int x51), (0, .ref h0), (1, .int a1), (2, .int a2), (3, .int r1), (4, .int x50), (6, .int x29), (7, .int x18), (8, .int x30)]) hx hb dX8_faults_119 hl (by decide) rfl (fun ls hl => ?_)
                              refine lv_iload hx hb dX8_faults_121 (lv_at hl 5 rfl) ?_
                              refine lv_iconst (v := 1) hx hb dX8_faults_123 (by decide) ?_
                              refine lv_icmp_ne (tgt := 132) hx hb dX8_faults_124 (by decide) (fun c124 => ?_) (fun c124 => ?_)
                              · have hf := pf_e c124 hf
                                refine lv_iload hx hb dX8_faults_132 (lv_at hl 6 rfl) ?_
                                refine lv_istore (lv' := [(6, .int x29), (5, .int x51), (0, .ref h0), (1, .int a1), (2, .int a2), (3, .int r1), (4, .int x50), (7, .int x18), (8, .int x30)]) hx hb dX8_faults_134 hl (by decide) rfl (fun ls hl => ?_)
                                obtain ⟨x52, ex52⟩ : ∃ y : Int32, y = (x30 + 1) := ⟨_, rfl⟩
                                have hf := pf_nm ex52 hf
                                refine lv_iinc (v := x52) (lv' := [(8, .int x52), (6, .int x29), (5, .int x51), (0, .ref h0), (1, .int a1), (2, .int a2), (3, .int r1), (4, .int x50), (7, .int x18)]) hx hb dX8_faults_136 hl (k := 8) rfl (by rw [ex52]; rfl) (by decide) rfl (fun ls hl => ?_)
                                refine lv_goto (tgt := 63) hx hb dX8_faults_139 (by decide) ?_
                                exact ih63 _ _ _ _ _ _ _ _ _ _ _ _ _ _ _ hf w (lv_sub hl [3, 4, 5, 6, 7, 2, 1, 8, 0] rfl)
                              · have hf := pf_t c124 hf
                                refine lv_iload hx hb dX8_faults_127 (lv_at hl 8 rfl) ?_
                                refine lv_goto (tgt := 134) hx hb dX8_faults_129 (by decide) ?_
                                refine lv_istore (lv' := [(6, .int x30), (5, .int x51), (0, .ref h0), (1, .int a1), (2, .int a2), (3, .int r1), (4, .int x50), (7, .int x18), (8, .int x30)]) hx hb dX8_faults_134 hl (by decide) rfl (fun ls hl => ?_)
                                obtain ⟨x53, ex53⟩ : ∃ y : Int32, y = (x30 + 1) := ⟨_, rfl⟩
                                have hf := pf_nm ex53 hf
                                refine lv_iinc (v := x53) (lv' := [(8, .int x53), (6, .int x30), (5, .int x51), (0, .ref h0), (1, .int a1), (2, .int a2), (3, .int r1), (4, .int x50), (7, .int x18)]) hx hb dX8_faults_136 hl (k := 8) rfl (by rw [ex53]; rfl) (by decide) rfl (fun ls hl => ?_)
                                refine lv_goto (tgt := 63) hx hb dX8_faults_139 (by decide) ?_
                                exact ih63 _ _ _ _ _ _ _ _ _ _ _ _ _ _ _ hf w (lv_sub hl [3, 4, 5, 6, 7, 2, 1, 8, 0] rfl)
                            refine lv_icmp_ne (tgt := 117) hx hb dX8_faults_109 (by decide) (fun c109 => ?_) (fun c109 => ?_)
                            · have hf := pf_e c109 hf
                              refine lv_iload hx hb dX8_faults_117 (lv_at hl 5 rfl) ?_
                              exact kJ119 _ _ _ _ hf w (lv_sub hl [1, 2, 3, 4, 0, 6, 7, 8] rfl)
                            · have hf := pf_t c109 hf
                              refine lv_iload hx hb dX8_faults_112 (lv_at hl 7 rfl) ?_
                              refine lv_goto (tgt := 119) hx hb dX8_faults_114 (by decide) ?_
                              exact kJ119 _ _ _ _ hf w (lv_sub hl [1, 2, 3, 4, 0, 6, 7, 8] rfl)
                          · have hf := pf_t c97 hf
                            refine lv_goto (tgt := 136) hx hb dX8_faults_100 (by decide) ?_
                            obtain ⟨x54, ex54⟩ : ∃ y : Int32, y = (x30 + 1) := ⟨_, rfl⟩
                            have hf := pf_nm ex54 hf
                            refine lv_iinc (v := x54) (lv' := [(8, .int x54), (0, .ref h0), (1, .int a1), (2, .int a2), (3, .int r1), (4, .int x27), (5, .int x28), (6, .int x29), (7, .int x18)]) hx hb dX8_faults_136 hl (k := 8) rfl (by rw [ex54]; rfl) (by decide) rfl (fun ls hl => ?_)
                            refine lv_goto (tgt := 63) hx hb dX8_faults_139 (by decide) ?_
                            exact ih63 _ _ _ _ _ _ _ _ _ _ _ _ _ _ _ hf w (lv_sub hl [1, 2, 3, 4, 5, 6, 7, 8, 0] rfl)
                        refine lv_icmp_ne (tgt := 88) hx hb dX8_faults_80 (by decide) (fun c80 => ?_) (fun c80 => ?_)
                        · have hf := pf_e c80 hf
                          exact kJ88 _ _ _ hf w (lv_sub hl [0, 1, 2, 3, 4, 5, 6, 7, 8] rfl)
                        · have hf := pf_t c80 hf
                          refine lv_iload hx hb dX8_faults_83 (lv_at hl 8 rfl) ?_
                          refine lv_if_eq (tgt := 136) hx hb dX8_faults_85 (by decide) (fun c85 => ?_) (fun c85 => ?_)
                          · have hf := pf_t c85 hf
                            obtain ⟨x55, ex55⟩ : ∃ y : Int32, y = (x30 + 1) := ⟨_, rfl⟩
                            have hf := pf_nm ex55 hf
                            refine lv_iinc (v := x55) (lv' := [(8, .int x55), (0, .ref h0), (1, .int a1), (2, .int a2), (3, .int r1), (4, .int x27), (5, .int x28), (6, .int x29), (7, .int x18)]) hx hb dX8_faults_136 hl (k := 8) rfl (by rw [ex55]; rfl) (by decide) rfl (fun ls hl => ?_)
                            refine lv_goto (tgt := 63) hx hb dX8_faults_139 (by decide) ?_
                            exact ih63 _ _ _ _ _ _ _ _ _ _ _ _ _ _ _ hf w (lv_sub hl [1, 2, 3, 4, 5, 6, 7, 8, 0] rfl)
                          · have hf := pf_e c85 hf
                            exact kJ88 _ _ _ hf w (lv_sub hl [0, 1, 2, 3, 4, 5, 6, 7, 8] rfl)
                    refine lv_if_ne (tgt := 73) hx hb dX8_faults_66 (by decide) (fun c66 => ?_) (fun c66 => ?_)
                    · have hf := pf_e c66 hf
                      refine lv_bipush (v := 20) hx hb dX8_faults_73 (by decide) ?_
                      exact kJ75 _ _ _ _ hf w (lv_sub hl [0, 1, 2, 3, 4, 5, 6, 7, 8] rfl)
                    · have hf := pf_t c66 hf
                      refine lv_iconst (v := 1) hx hb dX8_faults_69 (by decide) ?_
                      refine lv_goto (tgt := 75) hx hb dX8_faults_70 (by decide) ?_
                      exact kJ75 _ _ _ _ hf w (lv_sub hl [0, 1, 2, 3, 4, 5, 6, 7, 8] rfl)
                exact klp_X8_faults_63 FU _ _ _ _ _ _ _ _ _ _ _ _ _ _ _ hf w (lv_sub hl [1, 2, 3, 4, 5, 6, 7, 8, 0] rfl)
              · have hf := pf_t c52 hf
                refine lv_iconst (v := 0) hx hb dX8_faults_55 (by decide) ?_
                refine lv_goto (tgt := 61) hx hb dX8_faults_56 (by decide) ?_
                refine lv_istore (lv' := [(8, .int 0), (0, .ref h0), (1, .int a1), (2, .int a2), (3, .int r1), (4, .int x15), (5, .int x16), (6, .int x17), (7, .int x18)]) hx hb dX8_faults_61 hl (by decide) rfl (fun ls hl => ?_)
                obtain ⟨B45, hB45, hf⟩ := pf_jn hf
                have kB45 : ∀ (x15 : Int32) (x16 : Int32) (x17 : Int32) (x18 : Int32) (f19 : Nat → Int32) (f20 : Nat → Int32) (f21 : Nat → Int32) (f22 : Nat → Int32) (f23 : Nat → Int32) (x24 : Int32) (x25 : Int32) (x26 : Int32) (H : Heap) (locs : List Loc) (ls : Array Slot), B45 x15 x16 x17 x18 f19 f20 f21 f22 f23 x24 x25 x26 = some R → hm_W E A s.heap [oc8 h0 r_t t_base t_taped t_at t_faultPlace t_number t_newBits t_newTold t_newDoings t_newThings t_opened x24 x25 x26 t_turned t_wasConverted t_lastBits t_lastSum t_lastHeld t_lastLeft t_lastCode t_writtenLong t_codeMany t_acts t_done0 t_stoppedAt, ic E (r_t 0) 800 f19, ic E (r_t 27) 12 f22, ic E (r_t 25) 12 f20, ic E (r_t 28) 12 f23, zc E (r_t 26) 12 f21] H locs → lv_has ls 9 [(0, .ref h0), (1, .int a1), (2, .int a2), (3, .int r1), (4, .int x15), (5, .int x16), (6, .int x17), (7, .int x18)] → W p l e (hm_rr 7 162 0 0) s m args below meth c H locs 0 0 Q (F0 m 45 ls []) := by
                  intro x15 x16 x17 x18 f19 f20 f21 f22 f23 x24 x25 x26 H locs ls hf w hl
                  have hf := pf_j12 hB45 hf
                  exact ih45 x15 x16 x17 x18 f19 f20 f21 f22 f23 x24 x25 x26 _ _ _ hf w hl
                have klp_X8_faults_63 : ∀ (n : Nat) (x56 : Int32) (x57 : Int32) (x58 : Int32) (x59 : Int32) (f60 : Nat → Int32) (f61 : Nat → Int32) (f62 : Nat → Int32) (f63 : Nat → Int32) (f64 : Nat → Int32) (x65 : Int32) (x66 : Int32) (x67 : Int32) (H : Heap) (locs : List Loc) (ls : Array Slot), lp_X8_faults_63 a1 t_base t_turned x18 B45 n x56 x57 x58 x59 f60 f61 f62 f63 f64 x65 x66 x67 = some R → hm_W E A s.heap [oc8 h0 r_t t_base t_taped t_at t_faultPlace t_number t_newBits t_newTold t_newDoings t_newThings t_opened x65 x66 x67 t_turned t_wasConverted t_lastBits t_lastSum t_lastHeld t_lastLeft t_lastCode t_writtenLong t_codeMany t_acts t_done0 t_stoppedAt, ic E (r_t 0) 800 f60, ic E (r_t 27) 12 f63, ic E (r_t 25) 12 f61, ic E (r_t 28) 12 f64, zc E (r_t 26) 12 f62] H locs → lv_has ls 9 [(0, .ref h0), (1, .int a1), (2, .int a2), (3, .int r1), (4, .int x56), (5, .int x57), (6, .int x58), (7, .int x18), (8, .int x59)] → W p l e (hm_rr 7 162 0 0) s m args below meth c H locs 0 0 Q (F0 m 63 ls []) := by
                  intro n
                  induction n with
                  | zero =>
                    intro x56 x57 x58 x59 f60 f61 f62 f63 f64 x65 x66 x67 H locs ls hf w hl
                    exact pf_no hf
                  | succ n ih63 =>
                    intro x56 x57 x58 x59 f60 f61 f62 f63 f64 x65 x66 x67 H locs ls hf w hl
                    rw [lp_X8_faults_63] at hf
                    refine lv_iload hx hb dX8_faults_63 (lv_at hl 8 rfl) ?_
                    refine lv_iload_n hx hb dX8_faults_65 rfl (lv_at hl 1 rfl) ?_
                    obtain ⟨J75, hJ75, hf⟩ := pf_jn hf
                    have kJ75 : ∀ (x68 : Int32) (H : Heap) (locs : List Loc) (ls : Array Slot), J75 x68 = some R → hm_W E A s.heap [oc8 h0 r_t t_base t_taped t_at t_faultPlace t_number t_newBits t_newTold t_newDoings t_newThings t_opened x65 x66 x67 t_turned t_wasConverted t_lastBits t_lastSum t_lastHeld t_lastLeft t_lastCode t_writtenLong t_codeMany t_acts t_done0 t_stoppedAt, ic E (r_t 0) 800 f60, ic E (r_t 27) 12 f63, ic E (r_t 25) 12 f61, ic E (r_t 28) 12 f64, zc E (r_t 26) 12 f62] H locs → lv_has ls 9 [(0, .ref h0), (1, .int a1), (2, .int a2), (3, .int r1), (4, .int x56), (5, .int x57), (6, .int x58), (7, .int x18), (8, .int x59)] → W p l e (hm_rr 7 162 0 0) s m args below meth c H locs 0 0 Q (F0 m 75 ls []) := by
                      intro x68 H locs ls hf w hl
                      have hf := pf_j1 hJ75 hf
                      refine lv_icmp_gt (tgt := 142) hx hb dX8_faults_75 (by decide) (fun c75 => ?_) (fun c75 => ?_)
                      · have hf := pf_t c75 hf
                        obtain ⟨x69, ex69⟩ : ∃ y : Int32, y = (x18 + 1) := ⟨_, rfl⟩
                        have hf := pf_nm ex69 hf
                        refine lv_iinc (v := x69) (lv' := [(7, .int x69), (0, .ref h0), (1, .int a1), (2, .int a2), (3, .int r1), (4, .int x56), (5, .int x57), (6, .int x58), (8, .int x59)]) hx hb dX8_faults_142 hl (k := 7) rfl (by rw [ex69]; rfl) (by decide) rfl (fun ls hl => ?_)
                        refine lv_goto (tgt := 45) hx hb dX8_faults_145 (by decide) ?_
                        exact kB45 _ _ _ _ _ _ _ _ _ _ _ _ _ _ _ hf w (lv_sub hl [1, 2, 3, 4, 5, 6, 7, 0] rfl)
                      · have hf := pf_e c75 hf
                        refine lv_iload_n hx hb dX8_faults_78 rfl (lv_at hl 1 rfl) ?_
                        refine lv_iconst (v := 1) hx hb dX8_faults_79 (by decide) ?_
                        obtain ⟨J88, hJ88, hf⟩ := pf_jn hf
                        have kJ88 : ∀ (H : Heap) (locs : List Loc) (ls : Array Slot), J88 = some R → hm_W E A s.heap [oc8 h0 r_t t_base t_taped t_at t_faultPlace t_number t_newBits t_newTold t_newDoings t_newThings t_opened x76 x77 x78 t_turned t_wasConverted t_lastBits t_lastSum t_lastHeld t_lastLeft t_lastCode t_writtenLong t_codeMany t_acts t_done0 t_stoppedAt, ic E (r_t 0) 800 f71, ic E (r_t 27) 12 f74, ic E (r_t 25) 12 f72, ic E (r_t 28) 12 f75, zc E (r_t 26) 12 f73] H locs → lv_has ls 9 [(0, .ref h0), (1, .int a1), (2, .int a2), (3, .int r1), (4, .int x56), (5, .int x57), (6, .int x58), (7, .int x18), (8, .int x59)] → W p l e (hm_rr 7 162 0 0) s m args below meth c H locs 0 0 Q (F0 m 88 ls []) := by
                          intro H locs ls hf w hl
                          have hf := pf_j0 hJ88 hf
                          refine lv_aload_n hx hb dX8_faults_88 rfl (lv_at hl 0 rfl) ?_
                          refine lv_iload_n hx hb dX8_faults_89 rfl (lv_at hl 1 rfl) ?_
                          refine lv_iload hx hb dX8_faults_90 (lv_at hl 7 rfl) ?_
                          refine lv_iload hx hb dX8_faults_92 (lv_at hl 8 rfl) ?_
                          obtain ⟨r70, f71, f72, f73, f74, f75, x76, x77, x78, hc94, hf⟩ := pf_bi_8 hf
                          refine hm_aft_i (ws' := fun _ => [oc8 h0 r_t t_base t_taped t_at t_faultPlace t_number t_newBits t_newTold t_newDoings t_newThings t_opened x76 x77 x78 t_turned t_wasConverted t_lastBits t_lastSum t_lastHeld t_lastLeft t_lastCode t_writtenLong t_codeMany t_acts t_done0 t_stoppedAt, ic E (r_t 0) 800 f71, ic E (r_t 27) 12 f74, ic E (r_t 25) 12 f72, ic E (r_t 28) 12 f75, zc E (r_t 26) 12 f73]) (hm_runV (rest := []) hx hb hml hown X hA Y w 0 (ci := 7) (T := TX8) (N := 55) rfl rfl mw_X8_isFault ml_X8_397 dX8_faults_94 hm_ac0 [.int a1, .int x18, .int x59] rfl [0, 1, 2, 3, 4, 5] rfl rfl (ct_X8_isFault l E H.size h0 r_t t_base t_taped t_at t_faultPlace t_number t_newBits t_newTold t_newDoings t_newThings t_opened x65 x66 x67 t_turned t_wasConverted t_lastBits t_lastSum t_lastHeld t_lastLeft t_lastCode t_writtenLong t_codeMany t_acts t_done0 t_stoppedAt f60 f63 f61 f64 f62 a1 x18 x59 (r70, f71, f72, f73, f74, f75, x76, x77, x78) hc94) rfl hl.1 ⟨⟨rfl, rfl⟩, ⟨Nat.le_of_ble_eq_true rfl, Nat.le_of_ble_eq_true rfl⟩, ⟨Nat.le_of_ble_eq_true rfl, Nat.le_of_ble_eq_true rfl⟩, Nat.le_of_ble_eq_true rfl⟩) hA w [0, 1, 2, 3, 4, 5] [] [0, 1, 2, 3, 4, 5] rfl rfl (by decide) (fun _ => rfl) (fun _ H locs w => ?_)
                          refine lv_if_ne (tgt := 103) hx hb dX8_faults_97 (by decide) (fun c97 => ?_) (fun c97 => ?_)
                          · have hf := pf_e c97 hf
                            obtain ⟨x79, ex79⟩ : ∃ y : Int32, y = (x56 + 1) := ⟨_, rfl⟩
                            have hf := pf_nm ex79 hf
                            refine lv_iinc (v := x79) (lv' := [(4, .int x79), (0, .ref h0), (1, .int a1), (2, .int a2), (3, .int r1), (5, .int x57), (6, .int x58), (7, .int x18), (8, .int x59)]) hx hb dX8_faults_103 hl (k := 4) rfl (by rw [ex79]; rfl) (by decide) rfl (fun ls hl => ?_)
                            refine lv_iload hx hb dX8_faults_106 (lv_at hl 0 rfl) ?_
                            refine lv_iconst (v := 1) hx hb dX8_faults_108 (by decide) ?_
                            obtain ⟨J119, hJ119, hf⟩ := pf_jn hf
                            have kJ119 : ∀ (x80 : Int32) (H : Heap) (locs : List Loc) (ls : Array Slot), J119 x80 = some R → hm_W E A s.heap [oc8 h0 r_t t_base t_taped t_at t_faultPlace t_number t_newBits t_newTold t_newDoings t_newThings t_opened x76 x77 x78 t_turned t_wasConverted t_lastBits t_lastSum t_lastHeld t_lastLeft t_lastCode t_writtenLong t_codeMany t_acts t_done0 t_stoppedAt, ic E (r_t 0) 800 f71, ic E (r_t 27) 12 f74, ic E (r_t 25) 12 f72, ic E (r_t 28) 12 f75, zc E (r_t 26) 12 f73] H locs → lv_has ls 9 [(5, .int x80), (0, .ref h0), (1, .int a1), (2, .int a2), (3, .int r1), (4, .int x79), (6, .int x58), (7, .int x18), (8, .int x59)] → W p l e (hm_rr 7 162 0 0) s m args below meth c H locs 0 0 Q (F0 m 119 ls []) := by
                              intro x80 H locs ls hf w hl
                              have hf := pf_j1 hJ119 hf
                              refine lv_istore (lv' := [(5, .int x80), (0, .ref h0), (1, .int a1), (2, .int a2), (3, .int r1), (4, .int x79), (6, .int x58), (7, .int x18), (8, .int x59)]) hx hb dX8_faults_119 hl (by decide) rfl (fun ls hl => ?_)
                              refine lv_iload hx hb dX8_faults_121 (lv_at hl 5 rfl) ?_
                              refine lv_iconst (v := 1) hx hb dX8_faults_123 (by decide) ?_
                              refine lv_icmp_ne (tgt := 132) hx hb dX8_faults_124 (by decide) (fun c124 => ?_) (fun c124 => ?_)
                              · have hf := pf_e c124 hf
                                refine lv_iload hx hb dX8_faults_132 (lv_at hl 6 rfl) ?_
                                refine lv_istore (lv' := [(6, .int x58), (5, .int x80), (0, .ref h0), (1, .int a1), (2, .int a2), (3, .int r1), (4, .int x79), (7, .int x18), (8, .int x59)]) hx hb dX8_faults_134 hl (by decide) rfl (fun ls hl => ?_)
                                obtain ⟨x81, ex81⟩ : ∃ y : Int32, y = (x59 + 1) := ⟨_, rfl⟩
                                have hf := pf_nm ex81 hf
                                refine lv_iinc (v := x81) (lv' := [(8, .int x81), (6, .int x58), (5, .int x80), (0, .ref h0), (1, .int a1), (2, .int a2), (3, .int r1), (4, .int x79), (7, .int x18)]) hx hb dX8_faults_136 hl (k := 8) rfl (by rw [ex81]; rfl) (by decide) rfl (fun ls hl => ?_)
                                refine lv_goto (tgt := 63) hx hb dX8_faults_139 (by decide) ?_
                                exact ih63 _ _ _ _ _ _ _ _ _ _ _ _ _ _ _ hf w (lv_sub hl [3, 4, 5, 6, 7, 2, 1, 8, 0] rfl)
                              · have hf := pf_t c124 hf
                                refine lv_iload hx hb dX8_faults_127 (lv_at hl 8 rfl) ?_
                                refine lv_goto (tgt := 134) hx hb dX8_faults_129 (by decide) ?_
                                refine lv_istore (lv' := [(6, .int x59), (5, .int x80), (0, .ref h0), (1, .int a1), (2, .int a2), (3, .int r1), (4, .int x79), (7, .int x18), (8, .int x59)]) hx hb dX8_faults_134 hl (by decide) rfl (fun ls hl => ?_)
                                obtain ⟨x82, ex82⟩ : ∃ y : Int32, y = (x59 + 1) := ⟨_, rfl⟩
                                have hf := pf_nm ex82 hf
                                refine lv_iinc (v := x82) (lv' := [(8, .int x82), (6, .int x59), (5, .int x80), (0, .ref h0), (1, .int a1), (2, .int a2), (3, .int r1), (4, .int x79), (7, .int x18)]) hx hb dX8_faults_136 hl (k := 8) rfl (by rw [ex82]; rfl) (by decide) rfl (fun ls hl => ?_)
                                refine lv_goto (tgt := 63) hx hb dX8_faults_139 (by decide) ?_
                                exact ih63 _ _ _ _ _ _ _ _ _ _ _ _ _ _ _ hf w (lv_sub hl [3, 4, 5, 6, 7, 2, 1, 8, 0] rfl)
                            refine lv_icmp_ne (tgt := 117) hx hb dX8_faults_109 (by decide) (fun c109 => ?_) (fun c109 => ?_)
                            · have hf := pf_e c109 hf
                              refine lv_iload hx hb dX8_faults_117 (lv_at hl 5 rfl) ?_
                              exact kJ119 _ _ _ _ hf w (lv_sub hl [1, 2, 3, 4, 0, 6, 7, 8] rfl)
                            · have hf := pf_t c109 hf
                              refine lv_iload hx hb dX8_faults_112 (lv_at hl 7 rfl) ?_
                              refine lv_goto (tgt := 119) hx hb dX8_faults_114 (by decide) ?_
                              exact kJ119 _ _ _ _ hf w (lv_sub hl [1, 2, 3, 4, 0, 6, 7, 8] rfl)
                          · have hf := pf_t c97 hf
                            refine lv_goto (tgt := 136) hx hb dX8_faults_100 (by decide) ?_
                            obtain ⟨x83, ex83⟩ : ∃ y : Int32, y = (x59 + 1) := ⟨_, rfl⟩
                            have hf := pf_nm ex83 hf
                            refine lv_iinc (v := x83) (lv' := [(8, .int x83), (0, .ref h0), (1, .int a1), (2, .int a2), (3, .int r1), (4, .int x56), (5, .int x57), (6, .int x58), (7, .int x18)]) hx hb dX8_faults_136 hl (k := 8) rfl (by rw [ex83]; rfl) (by decide) rfl (fun ls hl => ?_)
                            refine lv_goto (tgt := 63) hx hb dX8_faults_139 (by decide) ?_
                            exact ih63 _ _ _ _ _ _ _ _ _ _ _ _ _ _ _ hf w (lv_sub hl [1, 2, 3, 4, 5, 6, 7, 8, 0] rfl)
                        refine lv_icmp_ne (tgt := 88) hx hb dX8_faults_80 (by decide) (fun c80 => ?_) (fun c80 => ?_)
                        · have hf := pf_e c80 hf
                          exact kJ88 _ _ _ hf w (lv_sub hl [0, 1, 2, 3, 4, 5, 6, 7, 8] rfl)
                        · have hf := pf_t c80 hf
                          refine lv_iload hx hb dX8_faults_83 (lv_at hl 8 rfl) ?_
                          refine lv_if_eq (tgt := 136) hx hb dX8_faults_85 (by decide) (fun c85 => ?_) (fun c85 => ?_)
                          · have hf := pf_t c85 hf
                            obtain ⟨x84, ex84⟩ : ∃ y : Int32, y = (x59 + 1) := ⟨_, rfl⟩
                            have hf := pf_nm ex84 hf
                            refine lv_iinc (v := x84) (lv' := [(8, .int x84), (0, .ref h0), (1, .int a1), (2, .int a2), (3, .int r1), (4, .int x56), (5, .int x57), (6, .int x58), (7, .int x18)]) hx hb dX8_faults_136 hl (k := 8) rfl (by rw [ex84]; rfl) (by decide) rfl (fun ls hl => ?_)
                            refine lv_goto (tgt := 63) hx hb dX8_faults_139 (by decide) ?_
                            exact ih63 _ _ _ _ _ _ _ _ _ _ _ _ _ _ _ hf w (lv_sub hl [1, 2, 3, 4, 5, 6, 7, 8, 0] rfl)
                          · have hf := pf_e c85 hf
                            exact kJ88 _ _ _ hf w (lv_sub hl [0, 1, 2, 3, 4, 5, 6, 7, 8] rfl)
                    refine lv_if_ne (tgt := 73) hx hb dX8_faults_66 (by decide) (fun c66 => ?_) (fun c66 => ?_)
                    · have hf := pf_e c66 hf
                      refine lv_bipush (v := 20) hx hb dX8_faults_73 (by decide) ?_
                      exact kJ75 _ _ _ _ hf w (lv_sub hl [0, 1, 2, 3, 4, 5, 6, 7, 8] rfl)
                    · have hf := pf_t c66 hf
                      refine lv_iconst (v := 1) hx hb dX8_faults_69 (by decide) ?_
                      refine lv_goto (tgt := 75) hx hb dX8_faults_70 (by decide) ?_
                      exact kJ75 _ _ _ _ hf w (lv_sub hl [0, 1, 2, 3, 4, 5, 6, 7, 8] rfl)
                exact klp_X8_faults_63 FU _ _ _ _ _ _ _ _ _ _ _ _ _ _ _ hf w (lv_sub hl [1, 2, 3, 4, 5, 6, 7, 8, 0] rfl)
        exact klp_X8_faults_45 FU _ _ _ _ _ _ _ _ _ _ _ _ _ _ _ hf w (lv_sub hl [5, 6, 7, 4, 3, 2, 1, 0] rfl)
      · have hf := pf_t c25 hf
        refine lv_bipush (v := (-100)) hx hb dX8_faults_28 (by decide) ?_
        exact hQ _ _ _ _ _ (t_all, t_decided, t_wasLate, t_askedOf, t_heldBehind, t_sum, t_heldAll, t_onPaper) (fun _ => 0) hf rfl w dX8_faults_30
set_option maxHeartbeats 8000000 in
set_option maxRecDepth 100000 in
theorem ct_X8_readValue (l : Launch) (E : hm_E) (sz : Nat) (h0 : Nat) (r_t : Nat → Nat) (t_base t_taped t_at t_faultPlace t_number t_newBits t_newTold t_newDoings t_newThings t_opened t_sum t_heldAll t_onPaper t_turned t_wasConverted t_lastBits t_lastSum t_lastHeld t_lastLeft t_lastCode t_writtenLong t_codeMany t_acts t_done0 t_stoppedAt : Int32) (t_tape : Nat → Int32) (a1 : Int32) (R : Int32 × Int32 × Int32 × Int32) (hf : pf_X8_readValue a1 t_tape t_taped t_at t_faultPlace t_number = some R) : hm_Mi l E yX8_readValue cX8_readValue 3 .boolean [] (hm_rr 2 42 0 0) [.ref h0, .int a1] sz [oc8 h0 r_t t_base t_taped t_at t_faultPlace t_number t_newBits t_newTold t_newDoings t_newThings t_opened t_sum t_heldAll t_onPaper t_turned t_wasConverted t_lastBits t_lastSum t_lastHeld t_lastLeft t_lastCode t_writtenLong t_codeMany t_acts t_done0 t_stoppedAt, bc E (r_t 2) 400 t_tape] R.1 (fun _ => [oc8 h0 r_t t_base t_taped (R.2.1) (R.2.2.1) (R.2.2.2) t_newBits t_newTold t_newDoings t_newThings t_opened t_sum t_heldAll t_onPaper t_turned t_wasConverted t_lastBits t_lastSum t_lastHeld t_lastLeft t_lastCode t_writtenLong t_codeMany t_acts t_done0 t_stoppedAt, bc E (r_t 2) 400 t_tape]) := by
  refine hm_ct_i R (fun u _ => [oc8 h0 r_t t_base t_taped (u.1) (u.2.1) (u.2.2) t_newBits t_newTold t_newDoings t_newThings t_opened t_sum t_heldAll t_onPaper t_turned t_wasConverted t_lastBits t_lastSum t_lastHeld t_lastLeft t_lastCode t_writtenLong t_codeMany t_acts t_done0 t_stoppedAt, bc E (r_t 2) 400 t_tape]) (by decide) (Nat.le_of_ble_eq_true rfl) (Or.inr rfl) ?_
  intro p e s m args below meth c A Q ls H locs hx hb hml hown X hA Y hex w hl hQ
  have hl : lv_has ls 3 [(0, .ref h0), (1, .int a1)] := hl
  unfold pf_X8_readValue at hf
  refine lv_iload_n hx hb dX8_readValue_0 rfl (lv_at hl 1 rfl) ?_
  obtain ⟨J18, hJ18, hf⟩ := pf_jn hf
  have kJ18 : ∀ (x1 : Int32) (H : Heap) (locs : List Loc) (ls : Array Slot), J18 x1 = some R → hm_W E A s.heap [oc8 h0 r_t t_base t_taped t_at t_faultPlace t_number t_newBits t_newTold t_newDoings t_newThings t_opened t_sum t_heldAll t_onPaper t_turned t_wasConverted t_lastBits t_lastSum t_lastHeld t_lastLeft t_lastCode t_writtenLong t_codeMany t_acts t_done0 t_stoppedAt, bc E (r_t 2) 400 t_tape] H locs → lv_has ls 3 [(2, .int x1), (0, .ref h0)] → W p l e (hm_rr 2 42 0 0) s m args below meth c H locs 0 0 Q (F0 m 18 ls []) := by
    intro x1 H locs ls hf w hl
    have hf := pf_j1 hJ18 hf
    refine lv_istore_n (lv' := [(2, .int x1), (0, .ref h0)]) hx hb dX8_readValue_18 rfl hl (by decide) rfl (fun ls hl => ?_)
    refine lv_iload_n hx hb dX8_readValue_19 rfl (lv_at hl 0 rfl) ?_
    obtain ⟨J33, hJ33, hf⟩ := pf_jn hf
    have kJ33 : ∀ (x2 : Int32) (H : Heap) (locs : List Loc) (ls : Array Slot), J33 x2 = some R → hm_W E A s.heap [oc8 h0 r_t t_base t_taped x4 x5 x6 t_newBits t_newTold t_newDoings t_newThings t_opened t_sum t_heldAll t_onPaper t_turned t_wasConverted t_lastBits t_lastSum t_lastHeld t_lastLeft t_lastCode t_writtenLong t_codeMany t_acts t_done0 t_stoppedAt, bc E (r_t 2) 400 t_tape] H locs → lv_has ls 3 [(0, .ref h0), (2, .int x1)] → W p l e (hm_rr 2 42 0 0) s m args below meth c H locs 0 0 Q (F0 m 33 ls []) := by
      intro x2 H locs ls hf w hl
      have hf := pf_j1 hJ33 hf
      refine lv_aload_n hx hb dX8_readValue_33 rfl (lv_at hl 0 rfl) ?_
      obtain ⟨r3, x4, x5, x6, hc34, hf⟩ := pf_bi_3 hf
      refine hm_aft_i (ws' := fun _ => [oc8 h0 r_t t_base t_taped x4 x5 x6 t_newBits t_newTold t_newDoings t_newThings t_opened t_sum t_heldAll t_onPaper t_turned t_wasConverted t_lastBits t_lastSum t_lastHeld t_lastLeft t_lastCode t_writtenLong t_codeMany t_acts t_done0 t_stoppedAt, bc E (r_t 2) 400 t_tape]) (hm_runV (rest := []) hx hb hml hown X hA Y w 0 (ci := 7) (T := TX8) (N := 55) rfl rfl mw_X8_readDigits ml_X8_150 dX8_readValue_34 hm_ac0 [] rfl [0, 1] rfl rfl (ct_X8_readDigits l E H.size h0 r_t t_base t_taped x2 t_faultPlace t_number t_newBits t_newTold t_newDoings t_newThings t_opened t_sum t_heldAll t_onPaper t_turned t_wasConverted t_lastBits t_lastSum t_lastHeld t_lastLeft t_lastCode t_writtenLong t_codeMany t_acts t_done0 t_stoppedAt t_tape (r3, x4, x5, x6) hc34) rfl hl.1 ⟨⟨rfl, rfl⟩, ⟨Nat.le_of_ble_eq_true rfl, Nat.le_of_ble_eq_true rfl⟩, ⟨Nat.le_of_ble_eq_true rfl, Nat.le_of_ble_eq_true rfl⟩, Nat.le_of_ble_eq_true rfl⟩) hA w [0, 1] [] [0, 1] rfl rfl (by decide) (fun _ => rfl) (fun _ H locs w => ?_)
      refine lv_if_ne (tgt := 42) hx hb dX8_readValue_37 (by decide) (fun c37 => ?_) (fun c37 => ?_)
      · have hf := pf_e c37 hf
        refine lv_aload_n hx hb dX8_readValue_42 rfl (lv_at hl 0 rfl) ?_
        refine lv_iload_n hx hb dX8_readValue_43 rfl (lv_at hl 1 rfl) ?_
        obtain ⟨J59, hJ59, hf⟩ := pf_jn hf
        have kJ59 : ∀ (x7 : Int32) (H : Heap) (locs : List Loc) (ls : Array Slot), J59 x7 = some R → hm_W E A s.heap [oc8 h0 r_t t_base t_taped x4 x5 x7 t_newBits t_newTold t_newDoings t_newThings t_opened t_sum t_heldAll t_onPaper t_turned t_wasConverted t_lastBits t_lastSum t_lastHeld t_lastLeft t_lastCode t_writtenLong t_codeMany t_acts t_done0 t_stoppedAt, bc E (r_t 2) 400 t_tape] H locs → lv_has ls 3 [] → W p l e (hm_rr 2 42 0 0) s m args below meth c H locs 0 0 Q (F0 m 59 ls []) := by
          intro x7 H locs ls hf w hl
          have hf := pf_j1 hJ59 hf
          refine hm_put (ws' := [oc8 h0 r_t t_base t_taped x4 x5 x7 t_newBits t_newTold t_newDoings t_newThings t_opened t_sum t_heldAll t_onPaper t_turned t_wasConverted t_lastBits t_lastSum t_lastHeld t_lastLeft t_lastCode t_writtenLong t_codeMany t_acts t_done0 t_stoppedAt, bc E (r_t 2) 400 t_tape]) cb_X8 hx hb hown X w 0 6 fl_X8_147 dX8_readValue_59 rfl (by decide) (Nat.le_of_ble_eq_true rfl) rfl rfl rfl rfl (fun H locs w => ?_)
          refine lv_iconst (v := 1) hx hb dX8_readValue_62 (by decide) ?_
          exact hQ _ _ _ _ _ (x4, x5, x7) (fun _ => 0) hf rfl w dX8_readValue_63
        refine lv_if_eq (tgt := 55) hx hb dX8_readValue_44 (by decide) (fun c44 => ?_) (fun c44 => ?_)
        · have hf := pf_t c44 hf
          refine lv_aload_n hx hb dX8_readValue_55 rfl (lv_at hl 0 rfl) ?_
          refine hm_get cb_X8 hx hb hown X w 0 6 fl_X8_147 dX8_readValue_56 rfl (by decide) rfl ?_
          exact kJ59 _ _ _ _ hf w (lv_sub hl [] rfl)
        · have hf := pf_e c44 hf
          refine lv_aload_n hx hb dX8_readValue_47 rfl (lv_at hl 0 rfl) ?_
          refine hm_get cb_X8 hx hb hown X w 0 6 fl_X8_147 dX8_readValue_48 rfl (by decide) rfl ?_
          refine lv_ineg hx hb dX8_readValue_51 ?_
          refine lv_goto (tgt := 59) hx hb dX8_readValue_52 (by decide) ?_
          exact kJ59 _ _ _ _ hf w (lv_sub hl [] rfl)
      · have hf := pf_t c37 hf
        refine lv_iconst (v := 0) hx hb dX8_readValue_40 (by decide) ?_
        exact hQ _ _ _ _ _ (x4, x5, x6) (fun _ => 0) hf rfl w dX8_readValue_41
    refine lv_if_eq (tgt := 33) hx hb dX8_readValue_20 (by decide) (fun c20 => ?_) (fun c20 => ?_)
    · have hf := pf_t c20 hf
      exact kJ33 _ _ _ _ hf w (lv_sub hl [1, 0] rfl)
    · have hf := pf_e c20 hf
      refine lv_aload_n hx hb dX8_readValue_23 rfl (lv_at hl 1 rfl) ?_
      refine lv_dup hx hb dX8_readValue_24 rfl ?_
      refine hm_get cb_X8 hx hb hown X w 0 4 fl_X8_133 dX8_readValue_25 rfl (by decide) rfl ?_
      refine lv_iconst (v := 1) hx hb dX8_readValue_28 (by decide) ?_
      refine lv_iadd hx hb dX8_readValue_29 ?_
      refine lv_topi (fun x8 ex8 => ?_)
      have hf := pf_nm ex8 hf
      refine hm_put (ws' := [oc8 h0 r_t t_base t_taped x8 t_faultPlace t_number t_newBits t_newTold t_newDoings t_newThings t_opened t_sum t_heldAll t_onPaper t_turned t_wasConverted t_lastBits t_lastSum t_lastHeld t_lastLeft t_lastCode t_writtenLong t_codeMany t_acts t_done0 t_stoppedAt, bc E (r_t 2) 400 t_tape]) cb_X8 hx hb hown X w 0 4 fl_X8_133 dX8_readValue_30 rfl (by decide) (Nat.le_of_ble_eq_true rfl) rfl rfl rfl rfl (fun H locs w => ?_)
      exact kJ33 _ _ _ _ hf w (lv_sub hl [1, 0] rfl)
  obtain ⟨J17, hJ17, hf⟩ := pf_jn hf
  have kJ17 : ∀ (H : Heap) (locs : List Loc) (ls : Array Slot), J17 = some R → hm_W E A s.heap [oc8 h0 r_t t_base t_taped t_at t_faultPlace t_number t_newBits t_newTold t_newDoings t_newThings t_opened t_sum t_heldAll t_onPaper t_turned t_wasConverted t_lastBits t_lastSum t_lastHeld t_lastLeft t_lastCode t_writtenLong t_codeMany t_acts t_done0 t_stoppedAt, bc E (r_t 2) 400 t_tape] H locs → lv_has ls 3 [(0, .ref h0)] → W p l e (hm_rr 2 42 0 0) s m args below meth c H locs 0 0 Q (F0 m 17 ls [.int 0]) := by
    intro H locs ls hf w hl
    have hf := pf_j0 hJ17 hf
    refine lv_iconst (v := 0) hx hb dX8_readValue_17 (by decide) ?_
    exact kJ18 _ _ _ _ hf w (lv_sub hl [0] rfl)
  refine lv_if_eq (tgt := 17) hx hb dX8_readValue_1 (by decide) (fun c1 => ?_) (fun c1 => ?_)
  · have hf := pf_t c1 hf
    exact kJ17 _ _ _ hf w (lv_sub hl [0] rfl)
  · have hf := pf_e c1 hf
    refine lv_aload_n hx hb dX8_readValue_4 rfl (lv_at hl 0 rfl) ?_
    obtain ⟨r9, hc5, hf⟩ := pf_bi_0 hf
    refine hm_aft_i (ws' := fun _ => [oc8 h0 r_t t_base t_taped t_at t_faultPlace t_number t_newBits t_newTold t_newDoings t_newThings t_opened t_sum t_heldAll t_onPaper t_turned t_wasConverted t_lastBits t_lastSum t_lastHeld t_lastLeft t_lastCode t_writtenLong t_codeMany t_acts t_done0 t_stoppedAt, bc E (r_t 2) 400 t_tape]) (hm_runV (rest := []) hx hb hml hown X hA Y w 0 (ci := 7) (T := TX8) (N := 55) rfl rfl mw_X8_here ml_X8_136 dX8_readValue_5 hm_ac0 [] rfl [0, 1] rfl rfl (ct_X8_here l E H.size h0 r_t t_base t_taped t_at t_faultPlace t_number t_newBits t_newTold t_newDoings t_newThings t_opened t_sum t_heldAll t_onPaper t_turned t_wasConverted t_lastBits t_lastSum t_lastHeld t_lastLeft t_lastCode t_writtenLong t_codeMany t_acts t_done0 t_stoppedAt t_tape (r9, ()) hc5) rfl hl.1 ⟨⟨rfl, rfl⟩, ⟨Nat.le_of_ble_eq_true rfl, Nat.le_of_ble_eq_true rfl⟩, ⟨Nat.le_of_ble_eq_true rfl, Nat.le_of_ble_eq_true rfl⟩, Nat.le_of_ble_eq_true rfl⟩) hA w [0, 1] [] [0, 1] rfl rfl (by decide) (fun _ => rfl) (fun _ H locs w => ?_)
    refine lv_bipush (v := 45) hx hb dX8_readValue_8 (by decide) ?_
    refine lv_icmp_ne (tgt := 17) hx hb dX8_readValue_10 (by decide) (fun c10 => ?_) (fun c10 => ?_)
    · have hf := pf_e c10 hf
      exact kJ17 _ _ _ hf w (lv_sub hl [0] rfl)
    · have hf := pf_t c10 hf
      refine lv_iconst (v := 1) hx hb dX8_readValue_13 (by decide) ?_
      refine lv_goto (tgt := 18) hx hb dX8_readValue_14 (by decide) ?_
      exact kJ18 _ _ _ _ hf w (lv_sub hl [0] rfl)
set_option maxHeartbeats 8000000 in
set_option maxRecDepth 100000 in
theorem ct_X8_isAct (l : Launch) (E : hm_E) (sz : Nat) (a0 : Int32) (R : Int32 × Unit) (hf : pf_X8_isAct a0 = some R) : hm_Mi l E yX8_isAct cX8_isAct 1 .boolean [] (hm_rr 0 0 0 0) [.int a0] sz [] R.1 (fun _ => []) := by
  refine hm_ct_i R (fun u _ => []) (by decide) (Nat.le_of_ble_eq_true rfl) (Or.inr rfl) ?_
  intro p e s m args below meth c A Q ls H locs hx hb hml hown X hA Y hex w hl hQ
  have hl : lv_has ls 1 [(0, .int a0)] := hl
  unfold pf_X8_isAct at hf
  refine lv_iload_n hx hb dX8_isAct_0 rfl (lv_at hl 0 rfl) ?_
  refine lv_bipush (v := 99) hx hb dX8_isAct_1 (by decide) ?_
  refine lv_icmp_eq (tgt := 54) hx hb dX8_isAct_3 (by decide) (fun c3 => ?_) (fun c3 => ?_)
  · have hf := pf_t c3 hf
    refine lv_iconst (v := 1) hx hb dX8_isAct_54 (by decide) ?_
    refine lv_goto (tgt := 59) hx hb dX8_isAct_55 (by decide) ?_
    exact hQ _ _ _ _ _ () (fun _ => 0) hf rfl w dX8_isAct_59
  · have hf := pf_e c3 hf
    refine lv_iload_n hx hb dX8_isAct_6 rfl (lv_at hl 0 rfl) ?_
    refine lv_bipush (v := 108) hx hb dX8_isAct_7 (by decide) ?_
    refine lv_icmp_eq (tgt := 54) hx hb dX8_isAct_9 (by decide) (fun c9 => ?_) (fun c9 => ?_)
    · have hf := pf_t c9 hf
      refine lv_iconst (v := 1) hx hb dX8_isAct_54 (by decide) ?_
      refine lv_goto (tgt := 59) hx hb dX8_isAct_55 (by decide) ?_
      exact hQ _ _ _ _ _ () (fun _ => 0) hf rfl w dX8_isAct_59
    · have hf := pf_e c9 hf
      refine lv_iload_n hx hb dX8_isAct_12 rfl (lv_at hl 0 rfl) ?_
      refine lv_bipush (v := 112) hx hb dX8_isAct_13 (by decide) ?_
      refine lv_icmp_eq (tgt := 54) hx hb dX8_isAct_15 (by decide) (fun c15 => ?_) (fun c15 => ?_)
      · have hf := pf_t c15 hf
        refine lv_iconst (v := 1) hx hb dX8_isAct_54 (by decide) ?_
        refine lv_goto (tgt := 59) hx hb dX8_isAct_55 (by decide) ?_
        exact hQ _ _ _ _ _ () (fun _ => 0) hf rfl w dX8_isAct_59
      · have hf := pf_e c15 hf
        refine lv_iload_n hx hb dX8_isAct_18 rfl (lv_at hl 0 rfl) ?_
        refine lv_bipush (v := 104) hx hb dX8_isAct_19 (by decide) ?_
        refine lv_icmp_eq (tgt := 54) hx hb dX8_isAct_21 (by decide) (fun c21 => ?_) (fun c21 => ?_)
        · have hf := pf_t c21 hf
          refine lv_iconst (v := 1) hx hb dX8_isAct_54 (by decide) ?_
          refine lv_goto (tgt := 59) hx hb dX8_isAct_55 (by decide) ?_
          exact hQ _ _ _ _ _ () (fun _ => 0) hf rfl w dX8_isAct_59
        · have hf := pf_e c21 hf
          refine lv_iload_n hx hb dX8_isAct_24 rfl (lv_at hl 0 rfl) ?_
          refine lv_bipush (v := 115) hx hb dX8_isAct_25 (by decide) ?_
          refine lv_icmp_eq (tgt := 54) hx hb dX8_isAct_27 (by decide) (fun c27 => ?_) (fun c27 => ?_)
          · have hf := pf_t c27 hf
            refine lv_iconst (v := 1) hx hb dX8_isAct_54 (by decide) ?_
            refine lv_goto (tgt := 59) hx hb dX8_isAct_55 (by decide) ?_
            exact hQ _ _ _ _ _ () (fun _ => 0) hf rfl w dX8_isAct_59
          · have hf := pf_e c27 hf
            refine lv_iload_n hx hb dX8_isAct_30 rfl (lv_at hl 0 rfl) ?_
            refine lv_bipush (v := 111) hx hb dX8_isAct_31 (by decide) ?_
            refine lv_icmp_eq (tgt := 54) hx hb dX8_isAct_33 (by decide) (fun c33 => ?_) (fun c33 => ?_)
            · have hf := pf_t c33 hf
              refine lv_iconst (v := 1) hx hb dX8_isAct_54 (by decide) ?_
              refine lv_goto (tgt := 59) hx hb dX8_isAct_55 (by decide) ?_
              exact hQ _ _ _ _ _ () (fun _ => 0) hf rfl w dX8_isAct_59
            · have hf := pf_e c33 hf
              refine lv_iload_n hx hb dX8_isAct_36 rfl (lv_at hl 0 rfl) ?_
              refine lv_bipush (v := 102) hx hb dX8_isAct_37 (by decide) ?_
              refine lv_icmp_eq (tgt := 54) hx hb dX8_isAct_39 (by decide) (fun c39 => ?_) (fun c39 => ?_)
              · have hf := pf_t c39 hf
                refine lv_iconst (v := 1) hx hb dX8_isAct_54 (by decide) ?_
                refine lv_goto (tgt := 59) hx hb dX8_isAct_55 (by decide) ?_
                exact hQ _ _ _ _ _ () (fun _ => 0) hf rfl w dX8_isAct_59
              · have hf := pf_e c39 hf
                refine lv_iload_n hx hb dX8_isAct_42 rfl (lv_at hl 0 rfl) ?_
                refine lv_bipush (v := 120) hx hb dX8_isAct_43 (by decide) ?_
                refine lv_icmp_eq (tgt := 54) hx hb dX8_isAct_45 (by decide) (fun c45 => ?_) (fun c45 => ?_)
                · have hf := pf_t c45 hf
                  refine lv_iconst (v := 1) hx hb dX8_isAct_54 (by decide) ?_
                  refine lv_goto (tgt := 59) hx hb dX8_isAct_55 (by decide) ?_
                  exact hQ _ _ _ _ _ () (fun _ => 0) hf rfl w dX8_isAct_59
                · have hf := pf_e c45 hf
                  refine lv_iload_n hx hb dX8_isAct_48 rfl (lv_at hl 0 rfl) ?_
                  refine lv_bipush (v := 61) hx hb dX8_isAct_49 (by decide) ?_
                  refine lv_icmp_ne (tgt := 58) hx hb dX8_isAct_51 (by decide) (fun c51 => ?_) (fun c51 => ?_)
                  · have hf := pf_e c51 hf
                    refine lv_iconst (v := 0) hx hb dX8_isAct_58 (by decide) ?_
                    exact hQ _ _ _ _ _ () (fun _ => 0) hf rfl w dX8_isAct_59
                  · have hf := pf_t c51 hf
                    refine lv_iconst (v := 1) hx hb dX8_isAct_54 (by decide) ?_
                    refine lv_goto (tgt := 59) hx hb dX8_isAct_55 (by decide) ?_
                    exact hQ _ _ _ _ _ () (fun _ => 0) hf rfl w dX8_isAct_59
set_option maxHeartbeats 8000000 in
set_option maxRecDepth 100000 in
theorem ct_X8_readAct (l : Launch) (E : hm_E) (sz : Nat) (h0 : Nat) (r_t : Nat → Nat) (t_base t_taped t_at t_faultPlace t_number t_newBits t_newTold t_newDoings t_newThings t_opened t_sum t_heldAll t_onPaper t_turned t_wasConverted t_lastBits t_lastSum t_lastHeld t_lastLeft t_lastCode t_writtenLong t_codeMany t_acts t_done0 t_stoppedAt : Int32) (t_act : Nat → Int32) (t_actA : Nat → Int32) (t_actB : Nat → Int32) (t_tape : Nat → Int32) (R : Int32 × Int32 × Int32 × Int32 × (Nat → Int32) × (Nat → Int32) × (Nat → Int32) × Int32) (hf : pf_X8_readAct t_tape t_taped t_at t_faultPlace t_number t_act t_actA t_actB t_acts = some R) : hm_Mi l E yX8_readAct cX8_readAct 2 .boolean [] (hm_rr 3 64 0 0) [.ref h0] sz [oc8 h0 r_t t_base t_taped t_at t_faultPlace t_number t_newBits t_newTold t_newDoings t_newThings t_opened t_sum t_heldAll t_onPaper t_turned t_wasConverted t_lastBits t_lastSum t_lastHeld t_lastLeft t_lastCode t_writtenLong t_codeMany t_acts t_done0 t_stoppedAt, ic E (r_t 48) 40 t_act, ic E (r_t 49) 40 t_actA, ic E (r_t 50) 40 t_actB, bc E (r_t 2) 400 t_tape] R.1 (fun _ => [oc8 h0 r_t t_base t_taped (R.2.1) (R.2.2.1) (R.2.2.2.1) t_newBits t_newTold t_newDoings t_newThings t_opened t_sum t_heldAll t_onPaper t_turned t_wasConverted t_lastBits t_lastSum t_lastHeld t_lastLeft t_lastCode t_writtenLong t_codeMany (R.2.2.2.2.2.2.2) t_done0 t_stoppedAt, ic E (r_t 48) 40 (R.2.2.2.2.1), ic E (r_t 49) 40 (R.2.2.2.2.2.1), ic E (r_t 50) 40 (R.2.2.2.2.2.2.1), bc E (r_t 2) 400 t_tape]) := by
  refine hm_ct_i R (fun u _ => [oc8 h0 r_t t_base t_taped (u.1) (u.2.1) (u.2.2.1) t_newBits t_newTold t_newDoings t_newThings t_opened t_sum t_heldAll t_onPaper t_turned t_wasConverted t_lastBits t_lastSum t_lastHeld t_lastLeft t_lastCode t_writtenLong t_codeMany (u.2.2.2.2.2.2) t_done0 t_stoppedAt, ic E (r_t 48) 40 (u.2.2.2.1), ic E (r_t 49) 40 (u.2.2.2.2.1), ic E (r_t 50) 40 (u.2.2.2.2.2.1), bc E (r_t 2) 400 t_tape]) (by decide) (Nat.le_of_ble_eq_true rfl) (Or.inr rfl) ?_
  intro p e s m args below meth c A Q ls H locs hx hb hml hown X hA Y hex w hl hQ
  have hl : lv_has ls 2 [(0, .ref h0)] := hl
  unfold pf_X8_readAct at hf
  refine lv_aload_n hx hb dX8_readAct_0 rfl (lv_at hl 0 rfl) ?_
  obtain ⟨r1, hc1, hf⟩ := pf_bi_0 hf
  refine hm_aft_i (ws' := fun _ => [oc8 h0 r_t t_base t_taped t_at t_faultPlace t_number t_newBits t_newTold t_newDoings t_newThings t_opened t_sum t_heldAll t_onPaper t_turned t_wasConverted t_lastBits t_lastSum t_lastHeld t_lastLeft t_lastCode t_writtenLong t_codeMany t_acts t_done0 t_stoppedAt, ic E (r_t 48) 40 t_act, ic E (r_t 49) 40 t_actA, ic E (r_t 50) 40 t_actB, bc E (r_t 2) 400 t_tape]) (hm_runV (rest := []) hx hb hml hown X hA Y w 0 (ci := 7) (T := TX8) (N := 55) rfl rfl mw_X8_here ml_X8_136 dX8_readAct_1 hm_ac0 [] rfl [0, 4] rfl rfl (ct_X8_here l E H.size h0 r_t t_base t_taped t_at t_faultPlace t_number t_newBits t_newTold t_newDoings t_newThings t_opened t_sum t_heldAll t_onPaper t_turned t_wasConverted t_lastBits t_lastSum t_lastHeld t_lastLeft t_lastCode t_writtenLong t_codeMany t_acts t_done0 t_stoppedAt t_tape (r1, ()) hc1) rfl hl.1 ⟨⟨rfl, rfl⟩, ⟨Nat.le_of_ble_eq_true rfl, Nat.le_of_ble_eq_true rfl⟩, ⟨Nat.le_of_ble_eq_true rfl, Nat.le_of_ble_eq_true rfl⟩, Nat.le_of_ble_eq_true rfl⟩) hA w [0, 4] [1, 2, 3] [3, 0, 1, 2, 4] rfl rfl (by decide) (fun _ => rfl) (fun _ H locs w => ?_)
  refine lv_istore_n (lv' := [(1, .int r1), (0, .ref h0)]) hx hb dX8_readAct_4 rfl hl (by decide) rfl (fun ls hl => ?_)
  refine lv_iload_n hx hb dX8_readAct_5 rfl (lv_at hl 0 rfl) ?_
  obtain ⟨r2, hc6, hf⟩ := pf_bi_0 hf
  refine hm_aft_i (ws' := fun _ => [oc8 h0 r_t t_base t_taped t_at t_faultPlace t_number t_newBits t_newTold t_newDoings t_newThings t_opened t_sum t_heldAll t_onPaper t_turned t_wasConverted t_lastBits t_lastSum t_lastHeld t_lastLeft t_lastCode t_writtenLong t_codeMany t_acts t_done0 t_stoppedAt, ic E (r_t 48) 40 t_act, ic E (r_t 49) 40 t_actA, ic E (r_t 50) 40 t_actB, bc E (r_t 2) 400 t_tape]) (hm_runS (rest := []) hx hb hml hown X hA Y w mw_X8_isAct ml_X8_400 dX8_readAct_6 hm_ac0 [.int r1] rfl [] rfl rfl (ct_X8_isAct l E H.size r1 (r2, ()) hc6) rfl hl.1 ⟨⟨rfl, rfl⟩, ⟨Nat.le_of_ble_eq_true rfl, Nat.le_of_ble_eq_true rfl⟩, ⟨Nat.le_of_ble_eq_true rfl, Nat.le_of_ble_eq_true rfl⟩, Nat.le_of_ble_eq_true rfl⟩) hA w [] [0, 1, 2, 3, 4] [0, 1, 2, 3, 4] rfl rfl (by decide) (fun _ => rfl) (fun _ H locs w => ?_)
  refine lv_if_eq (tgt := 21) hx hb dX8_readAct_9 (by decide) (fun c9 => ?_) (fun c9 => ?_)
  · have hf := pf_t c9 hf
    refine lv_aload_n hx hb dX8_readAct_21 rfl (lv_at hl 1 rfl) ?_
    refine lv_aload_n hx hb dX8_readAct_22 rfl (lv_at hl 1 rfl) ?_
    refine hm_get cb_X8 hx hb hown X w 0 4 fl_X8_133 dX8_readAct_23 rfl (by decide) rfl ?_
    obtain ⟨r3, x4, hc26, hf⟩ := pf_bi_1 hf
    refine hm_aft_i (ws' := fun _ => [oc8 h0 r_t t_base t_taped t_at x4 t_number t_newBits t_newTold t_newDoings t_newThings t_opened t_sum t_heldAll t_onPaper t_turned t_wasConverted t_lastBits t_lastSum t_lastHeld t_lastLeft t_lastCode t_writtenLong t_codeMany t_acts t_done0 t_stoppedAt, ic E (r_t 48) 40 t_act, ic E (r_t 49) 40 t_actA, ic E (r_t 50) 40 t_actB, bc E (r_t 2) 400 t_tape]) (hm_runV (rest := []) hx hb hml hown X hA Y w 0 (ci := 7) (T := TX8) (N := 55) rfl rfl mw_X8_fails ml_X8_144 dX8_readAct_26 hm_ac0 [.int t_at] rfl [0] rfl rfl (ct_X8_fails l E H.size h0 r_t t_base t_taped t_at t_faultPlace t_number t_newBits t_newTold t_newDoings t_newThings t_opened t_sum t_heldAll t_onPaper t_turned t_wasConverted t_lastBits t_lastSum t_lastHeld t_lastLeft t_lastCode t_writtenLong t_codeMany t_acts t_done0 t_stoppedAt t_at (r3, x4) hc26) rfl hl.1 ⟨⟨rfl, rfl⟩, ⟨Nat.le_of_ble_eq_true rfl, Nat.le_of_ble_eq_true rfl⟩, ⟨Nat.le_of_ble_eq_true rfl, Nat.le_of_ble_eq_true rfl⟩, Nat.le_of_ble_eq_true rfl⟩) hA w [0] [1, 2, 3, 4] [4, 0, 1, 2, 3] rfl rfl (by decide) (fun _ => rfl) (fun _ H locs w => ?_)
    obtain ⟨g29, hf⟩ := pf_ckZ hf
    exact hQ _ _ _ _ _ (t_at, x4, t_number, t_act, t_actA, t_actB, t_acts) (fun _ => 0) hf (hm_z g29) w dX8_readAct_29
  · have hf := pf_e c9 hf
    refine lv_aload_n hx hb dX8_readAct_12 rfl (lv_at hl 1 rfl) ?_
    refine hm_get cb_X8 hx hb hown X w 0 52 fl_X8_403 dX8_readAct_13 rfl (by decide) rfl ?_
    refine lv_bipush (v := 40) hx hb dX8_readAct_16 (by decide) ?_
    refine lv_icmp_ne (tgt := 30) hx hb dX8_readAct_18 (by decide) (fun c18 => ?_) (fun c18 => ?_)
    · have hf := pf_e c18 hf
      refine lv_aload_n hx hb dX8_readAct_30 rfl (lv_at hl 1 rfl) ?_
      refine lv_dup hx hb dX8_readAct_31 rfl ?_
      refine hm_get cb_X8 hx hb hown X w 0 4 fl_X8_133 dX8_readAct_32 rfl (by decide) rfl ?_
      refine lv_iconst (v := 1) hx hb dX8_readAct_35 (by decide) ?_
      refine lv_iadd hx hb dX8_readAct_36 ?_
      refine lv_topi (fun x5 ex5 => ?_)
      have hf := pf_nm ex5 hf
      refine hm_put (ws' := [oc8 h0 r_t t_base t_taped x5 t_faultPlace t_number t_newBits t_newTold t_newDoings t_newThings t_opened t_sum t_heldAll t_onPaper t_turned t_wasConverted t_lastBits t_lastSum t_lastHeld t_lastLeft t_lastCode t_writtenLong t_codeMany t_acts t_done0 t_stoppedAt, ic E (r_t 48) 40 t_act, ic E (r_t 49) 40 t_actA, ic E (r_t 50) 40 t_actB, bc E (r_t 2) 400 t_tape]) cb_X8 hx hb hown X w 0 4 fl_X8_133 dX8_readAct_37 rfl (by decide) (Nat.le_of_ble_eq_true rfl) rfl rfl rfl rfl (fun H locs w => ?_)
      refine lv_aload_n hx hb dX8_readAct_40 rfl (lv_at hl 1 rfl) ?_
      refine hm_get cb_X8 hx hb hown X w 0 48 fl_X8_104 dX8_readAct_41 rfl (by decide) rfl ?_
      refine lv_aload_n hx hb dX8_readAct_44 rfl (lv_at hl 1 rfl) ?_
      refine hm_get cb_X8 hx hb hown X w 0 52 fl_X8_403 dX8_readAct_45 rfl (by decide) rfl ?_
      refine lv_iload_n hx hb dX8_readAct_48 rfl (lv_at hl 0 rfl) ?_
      obtain ⟨g49, hf⟩ := pf_ckI hf
      refine hm_iast (ws' := [oc8 h0 r_t t_base t_taped x5 t_faultPlace t_number t_newBits t_newTold t_newDoings t_newThings t_opened t_sum t_heldAll t_onPaper t_turned t_wasConverted t_lastBits t_lastSum t_lastHeld t_lastLeft t_lastCode t_writtenLong t_codeMany t_acts t_done0 t_stoppedAt, ic E (r_t 48) 40 (upd t_act t_acts.toNatClampNeg r1), ic E (r_t 49) 40 t_actA, ic E (r_t 50) 40 t_actB, bc E (r_t 2) 400 t_tape]) hx hb X w 1 dX8_readAct_49 rfl g49 rfl (fun H locs w => ?_)
      refine lv_aload_n hx hb dX8_readAct_50 rfl (lv_at hl 1 rfl) ?_
      refine hm_get cb_X8 hx hb hown X w 0 49 fl_X8_107 dX8_readAct_51 rfl (by decide) rfl ?_
      refine lv_aload_n hx hb dX8_readAct_54 rfl (lv_at hl 1 rfl) ?_
      refine hm_get cb_X8 hx hb hown X w 0 52 fl_X8_403 dX8_readAct_55 rfl (by decide) rfl ?_
      refine lv_iconst (v := 0) hx hb dX8_readAct_58 (by decide) ?_
      obtain ⟨g59, hf⟩ := pf_ckI hf
      refine hm_iast (ws' := [oc8 h0 r_t t_base t_taped x5 t_faultPlace t_number t_newBits t_newTold t_newDoings t_newThings t_opened t_sum t_heldAll t_onPaper t_turned t_wasConverted t_lastBits t_lastSum t_lastHeld t_lastLeft t_lastCode t_writtenLong t_codeMany t_acts t_done0 t_stoppedAt, ic E (r_t 48) 40 (upd t_act t_acts.toNatClampNeg r1), ic E (r_t 49) 40 (upd t_actA t_acts.toNatClampNeg 0), ic E (r_t 50) 40 t_actB, bc E (r_t 2) 400 t_tape]) hx hb X w 2 dX8_readAct_59 rfl g59 rfl (fun H locs w => ?_)
      refine lv_aload_n hx hb dX8_readAct_60 rfl (lv_at hl 1 rfl) ?_
      refine hm_get cb_X8 hx hb hown X w 0 50 fl_X8_110 dX8_readAct_61 rfl (by decide) rfl ?_
      refine lv_aload_n hx hb dX8_readAct_64 rfl (lv_at hl 1 rfl) ?_
      refine hm_get cb_X8 hx hb hown X w 0 52 fl_X8_403 dX8_readAct_65 rfl (by decide) rfl ?_
      refine lv_iconst (v := 0) hx hb dX8_readAct_68 (by decide) ?_
      obtain ⟨g69, hf⟩ := pf_ckI hf
      refine hm_iast (ws' := [oc8 h0 r_t t_base t_taped x5 t_faultPlace t_number t_newBits t_newTold t_newDoings t_newThings t_opened t_sum t_heldAll t_onPaper t_turned t_wasConverted t_lastBits t_lastSum t_lastHeld t_lastLeft t_lastCode t_writtenLong t_codeMany t_acts t_done0 t_stoppedAt, ic E (r_t 48) 40 (upd t_act t_acts.toNatClampNeg r1), ic E (r_t 49) 40 (upd t_actA t_acts.toNatClampNeg 0), ic E (r_t 50) 40 (upd t_actB t_acts.toNatClampNeg 0), bc E (r_t 2) 400 t_tape]) hx hb X w 3 dX8_readAct_69 rfl g69 rfl (fun H locs w => ?_)
      refine lv_iload_n hx hb dX8_readAct_70 rfl (lv_at hl 0 rfl) ?_
      refine lv_bipush (v := 102) hx hb dX8_readAct_71 (by decide) ?_
      obtain ⟨J121, hJ121, hf⟩ := pf_jn hf
      have kJ121 : ∀ (x6 : Int32) (x7 : Int32) (x8 : Int32) (f9 : Nat → Int32) (H : Heap) (locs : List Loc) (ls : Array Slot), J121 x6 x7 x8 f9 = some R → hm_W E A s.heap [oc8 h0 r_t t_base t_taped x6 x7 x8 t_newBits t_newTold t_newDoings t_newThings t_opened t_sum t_heldAll t_onPaper t_turned t_wasConverted t_lastBits t_lastSum t_lastHeld t_lastLeft t_lastCode t_writtenLong t_codeMany t_acts t_done0 t_stoppedAt, ic E (r_t 48) 40 (upd t_act t_acts.toNatClampNeg r1), ic E (r_t 49) 40 f9, ic E (r_t 50) 40 (upd t_actB t_acts.toNatClampNeg 0), bc E (r_t 2) 400 t_tape] H locs → lv_has ls 2 [(0, .ref h0), (1, .int r1)] → W p l e (hm_rr 3 64 0 0) s m args below meth c H locs 0 0 Q (F0 m 121 ls []) := by
        intro x6 x7 x8 f9 H locs ls hf w hl
        have hf := pf_j4 hJ121 hf
        refine lv_iload_n hx hb dX8_readAct_121 rfl (lv_at hl 1 rfl) ?_
        refine lv_bipush (v := 108) hx hb dX8_readAct_122 (by decide) ?_
        obtain ⟨J200, hJ200, hf⟩ := pf_jn hf
        have kJ200 : ∀ (x10 : Int32) (x11 : Int32) (x12 : Int32) (f13 : Nat → Int32) (H : Heap) (locs : List Loc) (ls : Array Slot), J200 x10 x11 x12 f13 = some R → hm_W E A s.heap [oc8 h0 r_t t_base t_taped x10 x11 x12 t_newBits t_newTold t_newDoings t_newThings t_opened t_sum t_heldAll t_onPaper t_turned t_wasConverted t_lastBits t_lastSum t_lastHeld t_lastLeft t_lastCode t_writtenLong t_codeMany t_acts t_done0 t_stoppedAt, ic E (r_t 48) 40 (upd t_act t_acts.toNatClampNeg r1), ic E (r_t 49) 40 f9, ic E (r_t 50) 40 f13, bc E (r_t 2) 400 t_tape] H locs → lv_has ls 2 [(0, .ref h0)] → W p l e (hm_rr 3 64 0 0) s m args below meth c H locs 0 0 Q (F0 m 200 ls []) := by
          intro x10 x11 x12 f13 H locs ls hf w hl
          have hf := pf_j4 hJ200 hf
          refine lv_aload_n hx hb dX8_readAct_200 rfl (lv_at hl 0 rfl) ?_
          obtain ⟨r14, hc201, hf⟩ := pf_bi_0 hf
          refine hm_aft_i (ws' := fun _ => [oc8 h0 r_t t_base t_taped x10 x11 x12 t_newBits t_newTold t_newDoings t_newThings t_opened t_sum t_heldAll t_onPaper t_turned t_wasConverted t_lastBits t_lastSum t_lastHeld t_lastLeft t_lastCode t_writtenLong t_codeMany t_acts t_done0 t_stoppedAt, ic E (r_t 48) 40 (upd t_act t_acts.toNatClampNeg r1), ic E (r_t 49) 40 f9, ic E (r_t 50) 40 f13, bc E (r_t 2) 400 t_tape]) (hm_runV (rest := []) hx hb hml hown X hA Y w 0 (ci := 7) (T := TX8) (N := 55) rfl rfl mw_X8_here ml_X8_136 dX8_readAct_201 hm_ac0 [] rfl [0, 4] rfl rfl (ct_X8_here l E H.size h0 r_t t_base t_taped x10 x11 x12 t_newBits t_newTold t_newDoings t_newThings t_opened t_sum t_heldAll t_onPaper t_turned t_wasConverted t_lastBits t_lastSum t_lastHeld t_lastLeft t_lastCode t_writtenLong t_codeMany t_acts t_done0 t_stoppedAt t_tape (r14, ()) hc201) rfl hl.1 ⟨⟨rfl, rfl⟩, ⟨Nat.le_of_ble_eq_true rfl, Nat.le_of_ble_eq_true rfl⟩, ⟨Nat.le_of_ble_eq_true rfl, Nat.le_of_ble_eq_true rfl⟩, Nat.le_of_ble_eq_true rfl⟩) hA w [0, 4] [1, 2, 3] [3, 0, 1, 2, 4] rfl rfl (by decide) (fun _ => rfl) (fun _ H locs w => ?_)
          refine lv_bipush (v := 59) hx hb dX8_readAct_204 (by decide) ?_
          refine lv_icmp_eq (tgt := 218) hx hb dX8_readAct_206 (by decide) (fun c206 => ?_) (fun c206 => ?_)
          · have hf := pf_t c206 hf
            refine lv_aload_n hx hb dX8_readAct_218 rfl (lv_at hl 0 rfl) ?_
            refine lv_dup hx hb dX8_readAct_219 rfl ?_
            refine hm_get cb_X8 hx hb hown X w 0 4 fl_X8_133 dX8_readAct_220 rfl (by decide) rfl ?_
            refine lv_iconst (v := 1) hx hb dX8_readAct_223 (by decide) ?_
            refine lv_iadd hx hb dX8_readAct_224 ?_
            refine lv_topi (fun x15 ex15 => ?_)
            have hf := pf_nm ex15 hf
            refine hm_put (ws' := [oc8 h0 r_t t_base t_taped x15 x11 x12 t_newBits t_newTold t_newDoings t_newThings t_opened t_sum t_heldAll t_onPaper t_turned t_wasConverted t_lastBits t_lastSum t_lastHeld t_lastLeft t_lastCode t_writtenLong t_codeMany t_acts t_done0 t_stoppedAt, ic E (r_t 48) 40 (upd t_act t_acts.toNatClampNeg r1), ic E (r_t 49) 40 f9, ic E (r_t 50) 40 f13, bc E (r_t 2) 400 t_tape]) cb_X8 hx hb hown X w 0 4 fl_X8_133 dX8_readAct_225 rfl (by decide) (Nat.le_of_ble_eq_true rfl) rfl rfl rfl rfl (fun H locs w => ?_)
            refine lv_aload_n hx hb dX8_readAct_228 rfl (lv_at hl 0 rfl) ?_
            refine lv_dup hx hb dX8_readAct_229 rfl ?_
            refine hm_get cb_X8 hx hb hown X w 0 52 fl_X8_403 dX8_readAct_230 rfl (by decide) rfl ?_
            refine lv_iconst (v := 1) hx hb dX8_readAct_233 (by decide) ?_
            refine lv_iadd hx hb dX8_readAct_234 ?_
            refine lv_topi (fun x16 ex16 => ?_)
            have hf := pf_nm ex16 hf
            refine hm_put (ws' := [oc8 h0 r_t t_base t_taped x15 x11 x12 t_newBits t_newTold t_newDoings t_newThings t_opened t_sum t_heldAll t_onPaper t_turned t_wasConverted t_lastBits t_lastSum t_lastHeld t_lastLeft t_lastCode t_writtenLong t_codeMany x16 t_done0 t_stoppedAt, ic E (r_t 48) 40 (upd t_act t_acts.toNatClampNeg r1), ic E (r_t 49) 40 f9, ic E (r_t 50) 40 f13, bc E (r_t 2) 400 t_tape]) cb_X8 hx hb hown X w 0 52 fl_X8_403 dX8_readAct_235 rfl (by decide) (Nat.le_of_ble_eq_true rfl) rfl rfl rfl rfl (fun H locs w => ?_)
            refine lv_iconst (v := 1) hx hb dX8_readAct_238 (by decide) ?_
            exact hQ _ _ _ _ _ (x15, x11, x12, (upd t_act t_acts.toNatClampNeg r1), f9, f13, x16) (fun _ => 0) hf rfl w dX8_readAct_239
          · have hf := pf_e c206 hf
            refine lv_aload_n hx hb dX8_readAct_209 rfl (lv_at hl 0 rfl) ?_
            refine lv_aload_n hx hb dX8_readAct_210 rfl (lv_at hl 0 rfl) ?_
            refine hm_get cb_X8 hx hb hown X w 0 4 fl_X8_133 dX8_readAct_211 rfl (by decide) rfl ?_
            obtain ⟨r17, x18, hc214, hf⟩ := pf_bi_1 hf
            refine hm_aft_i (ws' := fun _ => [oc8 h0 r_t t_base t_taped x10 x18 x12 t_newBits t_newTold t_newDoings t_newThings t_opened t_sum t_heldAll t_onPaper t_turned t_wasConverted t_lastBits t_lastSum t_lastHeld t_lastLeft t_lastCode t_writtenLong t_codeMany t_acts t_done0 t_stoppedAt, ic E (r_t 48) 40 (upd t_act t_acts.toNatClampNeg r1), ic E (r_t 49) 40 f9, ic E (r_t 50) 40 f13, bc E (r_t 2) 400 t_tape]) (hm_runV (rest := []) hx hb hml hown X hA Y w 0 (ci := 7) (T := TX8) (N := 55) rfl rfl mw_X8_fails ml_X8_144 dX8_readAct_214 hm_ac0 [.int x10] rfl [0] rfl rfl (ct_X8_fails l E H.size h0 r_t t_base t_taped x10 x11 x12 t_newBits t_newTold t_newDoings t_newThings t_opened t_sum t_heldAll t_onPaper t_turned t_wasConverted t_lastBits t_lastSum t_lastHeld t_lastLeft t_lastCode t_writtenLong t_codeMany t_acts t_done0 t_stoppedAt x10 (r17, x18) hc214) rfl hl.1 ⟨⟨rfl, rfl⟩, ⟨Nat.le_of_ble_eq_true rfl, Nat.le_of_ble_eq_true rfl⟩, ⟨Nat.le_of_ble_eq_true rfl, Nat.le_of_ble_eq_true rfl⟩, Nat.le_of_ble_eq_true rfl⟩) hA w [0] [1, 2, 3, 4] [4, 0, 1, 2, 3] rfl rfl (by decide) (fun _ => rfl) (fun _ H locs w => ?_)
            obtain ⟨g217, hf⟩ := pf_ckZ hf
            exact hQ _ _ _ _ _ (x10, x18, x12, (upd t_act t_acts.toNatClampNeg r1), f9, f13, t_acts) (fun _ => 0) hf (hm_z g217) w dX8_readAct_217
        obtain ⟨J139, hJ139, hf⟩ := pf_jn hf
        have kJ139 : ∀ (H : Heap) (locs : List Loc) (ls : Array Slot), J139 = some R → hm_W E A s.heap [oc8 h0 r_t t_base t_taped x6 x7 x8 t_newBits t_newTold t_newDoings t_newThings t_opened t_sum t_heldAll t_onPaper t_turned t_wasConverted t_lastBits t_lastSum t_lastHeld t_lastLeft t_lastCode t_writtenLong t_codeMany t_acts t_done0 t_stoppedAt, ic E (r_t 48) 40 (upd t_act t_acts.toNatClampNeg r1), ic E (r_t 49) 40 f9, ic E (r_t 50) 40 (upd t_actB t_acts.toNatClampNeg 0), bc E (r_t 2) 400 t_tape] H locs → lv_has ls 2 [(0, .ref h0), (1, .int r1)] → W p l e (hm_rr 3 64 0 0) s m args below meth c H locs 0 0 Q (F0 m 139 ls []) := by
          intro H locs ls hf w hl
          have hf := pf_j0 hJ139 hf
          refine lv_aload_n hx hb dX8_readAct_139 rfl (lv_at hl 0 rfl) ?_
          obtain ⟨r19, hc140, hf⟩ := pf_bi_0 hf
          refine hm_aft_i (ws' := fun _ => [oc8 h0 r_t t_base t_taped x6 x7 x8 t_newBits t_newTold t_newDoings t_newThings t_opened t_sum t_heldAll t_onPaper t_turned t_wasConverted t_lastBits t_lastSum t_lastHeld t_lastLeft t_lastCode t_writtenLong t_codeMany t_acts t_done0 t_stoppedAt, ic E (r_t 48) 40 (upd t_act t_acts.toNatClampNeg r1), ic E (r_t 49) 40 f9, ic E (r_t 50) 40 (upd t_actB t_acts.toNatClampNeg 0), bc E (r_t 2) 400 t_tape]) (hm_runV (rest := []) hx hb hml hown X hA Y w 0 (ci := 7) (T := TX8) (N := 55) rfl rfl mw_X8_here ml_X8_136 dX8_readAct_140 hm_ac0 [] rfl [0, 4] rfl rfl (ct_X8_here l E H.size h0 r_t t_base t_taped x6 x7 x8 t_newBits t_newTold t_newDoings t_newThings t_opened t_sum t_heldAll t_onPaper t_turned t_wasConverted t_lastBits t_lastSum t_lastHeld t_lastLeft t_lastCode t_writtenLong t_codeMany t_acts t_done0 t_stoppedAt t_tape (r19, ()) hc140) rfl hl.1 ⟨⟨rfl, rfl⟩, ⟨Nat.le_of_ble_eq_true rfl, Nat.le_of_ble_eq_true rfl⟩, ⟨Nat.le_of_ble_eq_true rfl, Nat.le_of_ble_eq_true rfl⟩, Nat.le_of_ble_eq_true rfl⟩) hA w [0, 4] [1, 2, 3] [3, 0, 1, 2, 4] rfl rfl (by decide) (fun _ => rfl) (fun _ H locs w => ?_)
          refine lv_bipush (v := 44) hx hb dX8_readAct_143 (by decide) ?_
          refine lv_icmp_eq (tgt := 157) hx hb dX8_readAct_145 (by decide) (fun c145 => ?_) (fun c145 => ?_)
          · have hf := pf_t c145 hf
            refine lv_aload_n hx hb dX8_readAct_157 rfl (lv_at hl 0 rfl) ?_
            refine lv_dup hx hb dX8_readAct_158 rfl ?_
            refine hm_get cb_X8 hx hb hown X w 0 4 fl_X8_133 dX8_readAct_159 rfl (by decide) rfl ?_
            refine lv_iconst (v := 1) hx hb dX8_readAct_162 (by decide) ?_
            refine lv_iadd hx hb dX8_readAct_163 ?_
            refine lv_topi (fun x20 ex20 => ?_)
            have hf := pf_nm ex20 hf
            refine hm_put (ws' := [oc8 h0 r_t t_base t_taped x20 x7 x8 t_newBits t_newTold t_newDoings t_newThings t_opened t_sum t_heldAll t_onPaper t_turned t_wasConverted t_lastBits t_lastSum t_lastHeld t_lastLeft t_lastCode t_writtenLong t_codeMany t_acts t_done0 t_stoppedAt, ic E (r_t 48) 40 (upd t_act t_acts.toNatClampNeg r1), ic E (r_t 49) 40 f9, ic E (r_t 50) 40 (upd t_actB t_acts.toNatClampNeg 0), bc E (r_t 2) 400 t_tape]) cb_X8 hx hb hown X w 0 4 fl_X8_133 dX8_readAct_164 rfl (by decide) (Nat.le_of_ble_eq_true rfl) rfl rfl rfl rfl (fun H locs w => ?_)
            refine lv_aload_n hx hb dX8_readAct_167 rfl (lv_at hl 0 rfl) ?_
            refine lv_iload_n hx hb dX8_readAct_168 rfl (lv_at hl 1 rfl) ?_
            refine lv_bipush (v := 108) hx hb dX8_readAct_169 (by decide) ?_
            obtain ⟨J179, hJ179, hf⟩ := pf_jn hf
            have kJ179 : ∀ (x21 : Int32) (H : Heap) (locs : List Loc) (ls : Array Slot), J179 x21 = some R → hm_W E A s.heap [oc8 h0 r_t t_base t_taped x23 x24 x25 t_newBits t_newTold t_newDoings t_newThings t_opened t_sum t_heldAll t_onPaper t_turned t_wasConverted t_lastBits t_lastSum t_lastHeld t_lastLeft t_lastCode t_writtenLong t_codeMany t_acts t_done0 t_stoppedAt, ic E (r_t 48) 40 (upd t_act t_acts.toNatClampNeg r1), ic E (r_t 49) 40 f9, ic E (r_t 50) 40 (upd t_actB t_acts.toNatClampNeg 0), bc E (r_t 2) 400 t_tape] H locs → lv_has ls 2 [(0, .ref h0)] → W p l e (hm_rr 3 64 0 0) s m args below meth c H locs 0 0 Q (F0 m 179 ls []) := by
              intro x21 H locs ls hf w hl
              have hf := pf_j1 hJ179 hf
              obtain ⟨r22, x23, x24, x25, hc179, hf⟩ := pf_bi_3 hf
              refine hm_aft_i (ws' := fun _ => [oc8 h0 r_t t_base t_taped x23 x24 x25 t_newBits t_newTold t_newDoings t_newThings t_opened t_sum t_heldAll t_onPaper t_turned t_wasConverted t_lastBits t_lastSum t_lastHeld t_lastLeft t_lastCode t_writtenLong t_codeMany t_acts t_done0 t_stoppedAt, ic E (r_t 48) 40 (upd t_act t_acts.toNatClampNeg r1), ic E (r_t 49) 40 f9, ic E (r_t 50) 40 (upd t_actB t_acts.toNatClampNeg 0), bc E (r_t 2) 400 t_tape]) (hm_runV (rest := []) hx hb hml hown X hA Y w 0 (ci := 7) (T := TX8) (N := 55) rfl rfl mw_X8_readValue ml_X8_406 dX8_readAct_179 hm_ac0 [.int x21] rfl [0, 4] rfl rfl (ct_X8_readValue l E H.size h0 r_t t_base t_taped x20 x7 x8 t_newBits t_newTold t_newDoings t_newThings t_opened t_sum t_heldAll t_onPaper t_turned t_wasConverted t_lastBits t_lastSum t_lastHeld t_lastLeft t_lastCode t_writtenLong t_codeMany t_acts t_done0 t_stoppedAt t_tape x21 (r22, x23, x24, x25) hc179) rfl hl.1 ⟨⟨rfl, rfl⟩, ⟨Nat.le_of_ble_eq_true rfl, Nat.le_of_ble_eq_true rfl⟩, ⟨Nat.le_of_ble_eq_true rfl, Nat.le_of_ble_eq_true rfl⟩, Nat.le_of_ble_eq_true rfl⟩) hA w [0, 4] [1, 2, 3] [3, 0, 1, 2, 4] rfl rfl (by decide) (fun _ => rfl) (fun _ H locs w => ?_)
              refine lv_if_ne (tgt := 187) hx hb dX8_readAct_182 (by decide) (fun c182 => ?_) (fun c182 => ?_)
              · have hf := pf_e c182 hf
                refine lv_aload_n hx hb dX8_readAct_187 rfl (lv_at hl 0 rfl) ?_
                refine hm_get cb_X8 hx hb hown X w 0 50 fl_X8_110 dX8_readAct_188 rfl (by decide) rfl ?_
                refine lv_aload_n hx hb dX8_readAct_191 rfl (lv_at hl 0 rfl) ?_
                refine hm_get cb_X8 hx hb hown X w 0 52 fl_X8_403 dX8_readAct_192 rfl (by decide) rfl ?_
                refine lv_aload_n hx hb dX8_readAct_195 rfl (lv_at hl 0 rfl) ?_
                refine hm_get cb_X8 hx hb hown X w 0 6 fl_X8_147 dX8_readAct_196 rfl (by decide) rfl ?_
                obtain ⟨g199, hf⟩ := pf_ckI hf
                refine hm_iast (ws' := [oc8 h0 r_t t_base t_taped x23 x24 x25 t_newBits t_newTold t_newDoings t_newThings t_opened t_sum t_heldAll t_onPaper t_turned t_wasConverted t_lastBits t_lastSum t_lastHeld t_lastLeft t_lastCode t_writtenLong t_codeMany t_acts t_done0 t_stoppedAt, ic E (r_t 48) 40 (upd t_act t_acts.toNatClampNeg r1), ic E (r_t 49) 40 f9, ic E (r_t 50) 40 (upd (upd t_actB t_acts.toNatClampNeg 0) t_acts.toNatClampNeg x25), bc E (r_t 2) 400 t_tape]) hx hb X w 3 dX8_readAct_199 rfl g199 rfl (fun H locs w => ?_)
                exact kJ200 _ _ _ _ _ _ _ hf w (lv_sub hl [0] rfl)
              · have hf := pf_t c182 hf
                refine lv_iconst (v := 0) hx hb dX8_readAct_185 (by decide) ?_
                exact hQ _ _ _ _ _ (x23, x24, x25, (upd t_act t_acts.toNatClampNeg r1), f9, (upd t_actB t_acts.toNatClampNeg 0), t_acts) (fun _ => 0) hf rfl w dX8_readAct_186
            refine lv_icmp_eq (tgt := 178) hx hb dX8_readAct_171 (by decide) (fun c171 => ?_) (fun c171 => ?_)
            · have hf := pf_t c171 hf
              refine lv_iconst (v := 0) hx hb dX8_readAct_178 (by decide) ?_
              exact kJ179 _ _ _ _ hf w (lv_sub hl [0] rfl)
            · have hf := pf_e c171 hf
              refine lv_iconst (v := 1) hx hb dX8_readAct_174 (by decide) ?_
              refine lv_goto (tgt := 179) hx hb dX8_readAct_175 (by decide) ?_
              exact kJ179 _ _ _ _ hf w (lv_sub hl [0] rfl)
          · have hf := pf_e c145 hf
            refine lv_aload_n hx hb dX8_readAct_148 rfl (lv_at hl 0 rfl) ?_
            refine lv_aload_n hx hb dX8_readAct_149 rfl (lv_at hl 0 rfl) ?_
            refine hm_get cb_X8 hx hb hown X w 0 4 fl_X8_133 dX8_readAct_150 rfl (by decide) rfl ?_
            obtain ⟨r26, x27, hc153, hf⟩ := pf_bi_1 hf
            refine hm_aft_i (ws' := fun _ => [oc8 h0 r_t t_base t_taped x6 x27 x8 t_newBits t_newTold t_newDoings t_newThings t_opened t_sum t_heldAll t_onPaper t_turned t_wasConverted t_lastBits t_lastSum t_lastHeld t_lastLeft t_lastCode t_writtenLong t_codeMany t_acts t_done0 t_stoppedAt, ic E (r_t 48) 40 (upd t_act t_acts.toNatClampNeg r1), ic E (r_t 49) 40 f9, ic E (r_t 50) 40 (upd t_actB t_acts.toNatClampNeg 0), bc E (r_t 2) 400 t_tape]) (hm_runV (rest := []) hx hb hml hown X hA Y w 0 (ci := 7) (T := TX8) (N := 55) rfl rfl mw_X8_fails ml_X8_144 dX8_readAct_153 hm_ac0 [.int x6] rfl [0] rfl rfl (ct_X8_fails l E H.size h0 r_t t_base t_taped x6 x7 x8 t_newBits t_newTold t_newDoings t_newThings t_opened t_sum t_heldAll t_onPaper t_turned t_wasConverted t_lastBits t_lastSum t_lastHeld t_lastLeft t_lastCode t_writtenLong t_codeMany t_acts t_done0 t_stoppedAt x6 (r26, x27) hc153) rfl hl.1 ⟨⟨rfl, rfl⟩, ⟨Nat.le_of_ble_eq_true rfl, Nat.le_of_ble_eq_true rfl⟩, ⟨Nat.le_of_ble_eq_true rfl, Nat.le_of_ble_eq_true rfl⟩, Nat.le_of_ble_eq_true rfl⟩) hA w [0] [1, 2, 3, 4] [4, 0, 1, 2, 3] rfl rfl (by decide) (fun _ => rfl) (fun _ H locs w => ?_)
            obtain ⟨g156, hf⟩ := pf_ckZ hf
            exact hQ _ _ _ _ _ (x6, x27, x8, (upd t_act t_acts.toNatClampNeg r1), f9, (upd t_actB t_acts.toNatClampNeg 0), t_acts) (fun _ => 0) hf (hm_z g156) w dX8_readAct_156
        refine lv_icmp_eq (tgt := 139) hx hb dX8_readAct_124 (by decide) (fun c124 => ?_) (fun c124 => ?_)
        · have hf := pf_t c124 hf
          exact kJ139 _ _ _ hf w (lv_sub hl [0, 1] rfl)
        · have hf := pf_e c124 hf
          refine lv_iload_n hx hb dX8_readAct_127 rfl (lv_at hl 1 rfl) ?_
          refine lv_bipush (v := 115) hx hb dX8_readAct_128 (by decide) ?_
          refine lv_icmp_eq (tgt := 139) hx hb dX8_readAct_130 (by decide) (fun c130 => ?_) (fun c130 => ?_)
          · have hf := pf_t c130 hf
            exact kJ139 _ _ _ hf w (lv_sub hl [0, 1] rfl)
          · have hf := pf_e c130 hf
            refine lv_iload_n hx hb dX8_readAct_133 rfl (lv_at hl 1 rfl) ?_
            refine lv_bipush (v := 111) hx hb dX8_readAct_134 (by decide) ?_
            refine lv_icmp_ne (tgt := 200) hx hb dX8_readAct_136 (by decide) (fun c136 => ?_) (fun c136 => ?_)
            · have hf := pf_e c136 hf
              exact kJ200 _ _ _ _ _ _ _ hf w (lv_sub hl [0] rfl)
            · have hf := pf_t c136 hf
              exact kJ139 _ _ _ hf w (lv_sub hl [0, 1] rfl)
      refine lv_icmp_eq (tgt := 121) hx hb dX8_readAct_73 (by decide) (fun c73 => ?_) (fun c73 => ?_)
      · have hf := pf_t c73 hf
        exact kJ121 _ _ _ _ _ _ _ hf w (lv_sub hl [1, 0] rfl)
      · have hf := pf_e c73 hf
        refine lv_aload_n hx hb dX8_readAct_76 rfl (lv_at hl 1 rfl) ?_
        refine lv_iload_n hx hb dX8_readAct_77 rfl (lv_at hl 0 rfl) ?_
        refine lv_bipush (v := 99) hx hb dX8_readAct_78 (by decide) ?_
        obtain ⟨J100, hJ100, hf⟩ := pf_jn hf
        have kJ100 : ∀ (x28 : Int32) (H : Heap) (locs : List Loc) (ls : Array Slot), J100 x28 = some R → hm_W E A s.heap [oc8 h0 r_t t_base t_taped x30 x31 x32 t_newBits t_newTold t_newDoings t_newThings t_opened t_sum t_heldAll t_onPaper t_turned t_wasConverted t_lastBits t_lastSum t_lastHeld t_lastLeft t_lastCode t_writtenLong t_codeMany t_acts t_done0 t_stoppedAt, ic E (r_t 48) 40 (upd t_act t_acts.toNatClampNeg r1), ic E (r_t 49) 40 (upd t_actA t_acts.toNatClampNeg 0), ic E (r_t 50) 40 (upd t_actB t_acts.toNatClampNeg 0), bc E (r_t 2) 400 t_tape] H locs → lv_has ls 2 [(0, .ref h0), (1, .int r1)] → W p l e (hm_rr 3 64 0 0) s m args below meth c H locs 0 0 Q (F0 m 100 ls []) := by
          intro x28 H locs ls hf w hl
          have hf := pf_j1 hJ100 hf
          obtain ⟨r29, x30, x31, x32, hc100, hf⟩ := pf_bi_3 hf
          refine hm_aft_i (ws' := fun _ => [oc8 h0 r_t t_base t_taped x30 x31 x32 t_newBits t_newTold t_newDoings t_newThings t_opened t_sum t_heldAll t_onPaper t_turned t_wasConverted t_lastBits t_lastSum t_lastHeld t_lastLeft t_lastCode t_writtenLong t_codeMany t_acts t_done0 t_stoppedAt, ic E (r_t 48) 40 (upd t_act t_acts.toNatClampNeg r1), ic E (r_t 49) 40 (upd t_actA t_acts.toNatClampNeg 0), ic E (r_t 50) 40 (upd t_actB t_acts.toNatClampNeg 0), bc E (r_t 2) 400 t_tape]) (hm_runV (rest := []) hx hb hml hown X hA Y w 0 (ci := 7) (T := TX8) (N := 55) rfl rfl mw_X8_readValue ml_X8_406 dX8_readAct_100 hm_ac0 [.int x28] rfl [0, 4] rfl rfl (ct_X8_readValue l E H.size h0 r_t t_base t_taped x5 t_faultPlace t_number t_newBits t_newTold t_newDoings t_newThings t_opened t_sum t_heldAll t_onPaper t_turned t_wasConverted t_lastBits t_lastSum t_lastHeld t_lastLeft t_lastCode t_writtenLong t_codeMany t_acts t_done0 t_stoppedAt t_tape x28 (r29, x30, x31, x32) hc100) rfl hl.1 ⟨⟨rfl, rfl⟩, ⟨Nat.le_of_ble_eq_true rfl, Nat.le_of_ble_eq_true rfl⟩, ⟨Nat.le_of_ble_eq_true rfl, Nat.le_of_ble_eq_true rfl⟩, Nat.le_of_ble_eq_true rfl⟩) hA w [0, 4] [1, 2, 3] [3, 0, 1, 2, 4] rfl rfl (by decide) (fun _ => rfl) (fun _ H locs w => ?_)
          refine lv_if_ne (tgt := 108) hx hb dX8_readAct_103 (by decide) (fun c103 => ?_) (fun c103 => ?_)
          · have hf := pf_e c103 hf
            refine lv_aload_n hx hb dX8_readAct_108 rfl (lv_at hl 0 rfl) ?_
            refine hm_get cb_X8 hx hb hown X w 0 49 fl_X8_107 dX8_readAct_109 rfl (by decide) rfl ?_
            refine lv_aload_n hx hb dX8_readAct_112 rfl (lv_at hl 0 rfl) ?_
            refine hm_get cb_X8 hx hb hown X w 0 52 fl_X8_403 dX8_readAct_113 rfl (by decide) rfl ?_
            refine lv_aload_n hx hb dX8_readAct_116 rfl (lv_at hl 0 rfl) ?_
            refine hm_get cb_X8 hx hb hown X w 0 6 fl_X8_147 dX8_readAct_117 rfl (by decide) rfl ?_
            obtain ⟨g120, hf⟩ := pf_ckI hf
            refine hm_iast (ws' := [oc8 h0 r_t t_base t_taped x30 x31 x32 t_newBits t_newTold t_newDoings t_newThings t_opened t_sum t_heldAll t_onPaper t_turned t_wasConverted t_lastBits t_lastSum t_lastHeld t_lastLeft t_lastCode t_writtenLong t_codeMany t_acts t_done0 t_stoppedAt, ic E (r_t 48) 40 (upd t_act t_acts.toNatClampNeg r1), ic E (r_t 49) 40 (upd (upd t_actA t_acts.toNatClampNeg 0) t_acts.toNatClampNeg x32), ic E (r_t 50) 40 (upd t_actB t_acts.toNatClampNeg 0), bc E (r_t 2) 400 t_tape]) hx hb X w 2 dX8_readAct_120 rfl g120 rfl (fun H locs w => ?_)
            exact kJ121 _ _ _ _ _ _ _ hf w (lv_sub hl [0, 1] rfl)
          · have hf := pf_t c103 hf
            refine lv_iconst (v := 0) hx hb dX8_readAct_106 (by decide) ?_
            exact hQ _ _ _ _ _ (x30, x31, x32, (upd t_act t_acts.toNatClampNeg r1), (upd t_actA t_acts.toNatClampNeg 0), (upd t_actB t_acts.toNatClampNeg 0), t_acts) (fun _ => 0) hf rfl w dX8_readAct_107
        obtain ⟨J95, hJ95, hf⟩ := pf_jn hf
        have kJ95 : ∀ (H : Heap) (locs : List Loc) (ls : Array Slot), J95 = some R → hm_W E A s.heap [oc8 h0 r_t t_base t_taped x5 t_faultPlace t_number t_newBits t_newTold t_newDoings t_newThings t_opened t_sum t_heldAll t_onPaper t_turned t_wasConverted t_lastBits t_lastSum t_lastHeld t_lastLeft t_lastCode t_writtenLong t_codeMany t_acts t_done0 t_stoppedAt, ic E (r_t 48) 40 (upd t_act t_acts.toNatClampNeg r1), ic E (r_t 49) 40 (upd t_actA t_acts.toNatClampNeg 0), ic E (r_t 50) 40 (upd t_actB t_acts.toNatClampNeg 0), bc E (r_t 2) 400 t_tape] H locs → lv_has ls 2 [(0, .ref h0), (1, .int r1)] → W p l e (hm_rr 3 64 0 0) s m args below meth c H locs 0 0 Q (F0 m 95 ls [.int 1, .ref h0]) := by
          intro H locs ls hf w hl
          have hf := pf_j0 hJ95 hf
          refine lv_iconst (v := 1) hx hb dX8_readAct_95 (by decide) ?_
          refine lv_goto (tgt := 100) hx hb dX8_readAct_96 (by decide) ?_
          exact kJ100 _ _ _ _ hf w (lv_sub hl [0, 1] rfl)
        refine lv_icmp_eq (tgt := 95) hx hb dX8_readAct_80 (by decide) (fun c80 => ?_) (fun c80 => ?_)
        · have hf := pf_t c80 hf
          exact kJ95 _ _ _ hf w (lv_sub hl [1, 0] rfl)
        · have hf := pf_e c80 hf
          refine lv_iload_n hx hb dX8_readAct_83 rfl (lv_at hl 0 rfl) ?_
          refine lv_bipush (v := 120) hx hb dX8_readAct_84 (by decide) ?_
          refine lv_icmp_eq (tgt := 95) hx hb dX8_readAct_86 (by decide) (fun c86 => ?_) (fun c86 => ?_)
          · have hf := pf_t c86 hf
            exact kJ95 _ _ _ hf w (lv_sub hl [1, 0] rfl)
          · have hf := pf_e c86 hf
            refine lv_iload_n hx hb dX8_readAct_89 rfl (lv_at hl 0 rfl) ?_
            refine lv_bipush (v := 61) hx hb dX8_readAct_90 (by decide) ?_
            refine lv_icmp_ne (tgt := 99) hx hb dX8_readAct_92 (by decide) (fun c92 => ?_) (fun c92 => ?_)
            · have hf := pf_e c92 hf
              refine lv_iconst (v := 0) hx hb dX8_readAct_99 (by decide) ?_
              exact kJ100 _ _ _ _ hf w (lv_sub hl [1, 0] rfl)
            · have hf := pf_t c92 hf
              exact kJ95 _ _ _ hf w (lv_sub hl [1, 0] rfl)
    · have hf := pf_t c18 hf
      refine lv_aload_n hx hb dX8_readAct_21 rfl (lv_at hl 1 rfl) ?_
      refine lv_aload_n hx hb dX8_readAct_22 rfl (lv_at hl 1 rfl) ?_
      refine hm_get cb_X8 hx hb hown X w 0 4 fl_X8_133 dX8_readAct_23 rfl (by decide) rfl ?_
      obtain ⟨r33, x34, hc26, hf⟩ := pf_bi_1 hf
      refine hm_aft_i (ws' := fun _ => [oc8 h0 r_t t_base t_taped t_at x34 t_number t_newBits t_newTold t_newDoings t_newThings t_opened t_sum t_heldAll t_onPaper t_turned t_wasConverted t_lastBits t_lastSum t_lastHeld t_lastLeft t_lastCode t_writtenLong t_codeMany t_acts t_done0 t_stoppedAt, ic E (r_t 48) 40 t_act, ic E (r_t 49) 40 t_actA, ic E (r_t 50) 40 t_actB, bc E (r_t 2) 400 t_tape]) (hm_runV (rest := []) hx hb hml hown X hA Y w 0 (ci := 7) (T := TX8) (N := 55) rfl rfl mw_X8_fails ml_X8_144 dX8_readAct_26 hm_ac0 [.int t_at] rfl [0] rfl rfl (ct_X8_fails l E H.size h0 r_t t_base t_taped t_at t_faultPlace t_number t_newBits t_newTold t_newDoings t_newThings t_opened t_sum t_heldAll t_onPaper t_turned t_wasConverted t_lastBits t_lastSum t_lastHeld t_lastLeft t_lastCode t_writtenLong t_codeMany t_acts t_done0 t_stoppedAt t_at (r33, x34) hc26) rfl hl.1 ⟨⟨rfl, rfl⟩, ⟨Nat.le_of_ble_eq_true rfl, Nat.le_of_ble_eq_true rfl⟩, ⟨Nat.le_of_ble_eq_true rfl, Nat.le_of_ble_eq_true rfl⟩, Nat.le_of_ble_eq_true rfl⟩) hA w [0] [1, 2, 3, 4] [4, 0, 1, 2, 3] rfl rfl (by decide) (fun _ => rfl) (fun _ H locs w => ?_)
      obtain ⟨g29, hf⟩ := pf_ckZ hf
      exact hQ _ _ _ _ _ (t_at, x34, t_number, t_act, t_actA, t_actB, t_acts) (fun _ => 0) hf (hm_z g29) w dX8_readAct_29
set_option maxHeartbeats 8000000 in
set_option maxRecDepth 100000 in
theorem ct_X8_readBench (l : Launch) (E : hm_E) (sz : Nat) (h0 : Nat) (r_t : Nat → Nat) (t_base t_taped t_at t_faultPlace t_number t_newBits t_newTold t_newDoings t_newThings t_opened t_sum t_heldAll t_onPaper t_turned t_wasConverted t_lastBits t_lastSum t_lastHeld t_lastLeft t_lastCode t_writtenLong t_codeMany t_acts t_done0 t_stoppedAt : Int32) (t_act : Nat → Int32) (t_actA : Nat → Int32) (t_actB : Nat → Int32) (t_tape : Nat → Int32) (R : Int32 × Int32 × Int32 × Int32 × (Nat → Int32) × (Nat → Int32) × (Nat → Int32) × Int32) (hf : pf_X8_readBench t_tape t_taped t_number t_act t_actA t_actB = some R) : hm_Mi l E yX8_readBench cX8_readBench 1 .boolean [] (hm_rr 4 85 0 0) [.ref h0] sz [oc8 h0 r_t t_base t_taped t_at t_faultPlace t_number t_newBits t_newTold t_newDoings t_newThings t_opened t_sum t_heldAll t_onPaper t_turned t_wasConverted t_lastBits t_lastSum t_lastHeld t_lastLeft t_lastCode t_writtenLong t_codeMany t_acts t_done0 t_stoppedAt, ic E (r_t 48) 40 t_act, ic E (r_t 49) 40 t_actA, ic E (r_t 50) 40 t_actB, bc E (r_t 2) 400 t_tape] R.1 (fun _ => [oc8 h0 r_t t_base t_taped (R.2.1) (R.2.2.1) (R.2.2.2.1) t_newBits t_newTold t_newDoings t_newThings t_opened t_sum t_heldAll t_onPaper t_turned t_wasConverted t_lastBits t_lastSum t_lastHeld t_lastLeft t_lastCode t_writtenLong t_codeMany (R.2.2.2.2.2.2.2) t_done0 t_stoppedAt, ic E (r_t 48) 40 (R.2.2.2.2.1), ic E (r_t 49) 40 (R.2.2.2.2.2.1), ic E (r_t 50) 40 (R.2.2.2.2.2.2.1), bc E (r_t 2) 400 t_tape]) := by
  refine hm_ct_i R (fun u _ => [oc8 h0 r_t t_base t_taped (u.1) (u.2.1) (u.2.2.1) t_newBits t_newTold t_newDoings t_newThings t_opened t_sum t_heldAll t_onPaper t_turned t_wasConverted t_lastBits t_lastSum t_lastHeld t_lastLeft t_lastCode t_writtenLong t_codeMany (u.2.2.2.2.2.2) t_done0 t_stoppedAt, ic E (r_t 48) 40 (u.2.2.2.1), ic E (r_t 49) 40 (u.2.2.2.2.1), ic E (r_t 50) 40 (u.2.2.2.2.2.1), bc E (r_t 2) 400 t_tape]) (by decide) (Nat.le_of_ble_eq_true rfl) (Or.inr rfl) ?_
  intro p e s m args below meth c A Q ls H locs hx hb hml hown X hA Y hex w hl hQ
  have hl : lv_has ls 1 [(0, .ref h0)] := hl
  unfold pf_X8_readBench at hf
  refine lv_aload_n hx hb dX8_readBench_0 rfl (lv_at hl 0 rfl) ?_
  refine lv_iconst (v := 0) hx hb dX8_readBench_1 (by decide) ?_
  refine hm_put (ws' := [oc8 h0 r_t t_base t_taped 0 t_faultPlace t_number t_newBits t_newTold t_newDoings t_newThings t_opened t_sum t_heldAll t_onPaper t_turned t_wasConverted t_lastBits t_lastSum t_lastHeld t_lastLeft t_lastCode t_writtenLong t_codeMany t_acts t_done0 t_stoppedAt, ic E (r_t 48) 40 t_act, ic E (r_t 49) 40 t_actA, ic E (r_t 50) 40 t_actB, bc E (r_t 2) 400 t_tape]) cb_X8 hx hb hown X w 0 4 fl_X8_133 dX8_readBench_2 rfl (by decide) (Nat.le_of_ble_eq_true rfl) rfl rfl rfl rfl (fun H locs w => ?_)
  refine lv_aload_n hx hb dX8_readBench_5 rfl (lv_at hl 0 rfl) ?_
  refine lv_iconst (v := (-1)) hx hb dX8_readBench_6 (by decide) ?_
  refine hm_put (ws' := [oc8 h0 r_t t_base t_taped 0 (-1) t_number t_newBits t_newTold t_newDoings t_newThings t_opened t_sum t_heldAll t_onPaper t_turned t_wasConverted t_lastBits t_lastSum t_lastHeld t_lastLeft t_lastCode t_writtenLong t_codeMany t_acts t_done0 t_stoppedAt, ic E (r_t 48) 40 t_act, ic E (r_t 49) 40 t_actA, ic E (r_t 50) 40 t_actB, bc E (r_t 2) 400 t_tape]) cb_X8 hx hb hown X w 0 5 fl_X8_25 dX8_readBench_7 rfl (by decide) (Nat.le_of_ble_eq_true rfl) rfl rfl rfl rfl (fun H locs w => ?_)
  refine lv_aload_n hx hb dX8_readBench_10 rfl (lv_at hl 0 rfl) ?_
  refine lv_iconst (v := 0) hx hb dX8_readBench_11 (by decide) ?_
  refine hm_put (ws' := [oc8 h0 r_t t_base t_taped 0 (-1) t_number t_newBits t_newTold t_newDoings t_newThings t_opened t_sum t_heldAll t_onPaper t_turned t_wasConverted t_lastBits t_lastSum t_lastHeld t_lastLeft t_lastCode t_writtenLong t_codeMany 0 t_done0 t_stoppedAt, ic E (r_t 48) 40 t_act, ic E (r_t 49) 40 t_actA, ic E (r_t 50) 40 t_actB, bc E (r_t 2) 400 t_tape]) cb_X8 hx hb hown X w 0 52 fl_X8_403 dX8_readBench_12 rfl (by decide) (Nat.le_of_ble_eq_true rfl) rfl rfl rfl rfl (fun H locs w => ?_)
  have klp_X8_readBench_15 : ∀ (n : Nat) (x1 : Int32) (x2 : Int32) (x3 : Int32) (f4 : Nat → Int32) (f5 : Nat → Int32) (f6 : Nat → Int32) (x7 : Int32) (H : Heap) (locs : List Loc) (ls : Array Slot), lp_X8_readBench_15 t_taped t_tape n x1 x2 x3 f4 f5 f6 x7 = some R → hm_W E A s.heap [oc8 h0 r_t t_base t_taped x1 x2 x3 t_newBits t_newTold t_newDoings t_newThings t_opened t_sum t_heldAll t_onPaper t_turned t_wasConverted t_lastBits t_lastSum t_lastHeld t_lastLeft t_lastCode t_writtenLong t_codeMany x7 t_done0 t_stoppedAt, ic E (r_t 48) 40 f4, ic E (r_t 49) 40 f5, ic E (r_t 50) 40 f6, bc E (r_t 2) 400 t_tape] H locs → lv_has ls 1 [(0, .ref h0)] → W p l e (hm_rr 4 85 0 0) s m args below meth c H locs 0 0 Q (F0 m 15 ls []) := by
    intro n
    induction n with
    | zero =>
      intro x1 x2 x3 f4 f5 f6 x7 H locs ls hf w hl
      exact pf_no hf
    | succ n ih15 =>
      intro x1 x2 x3 f4 f5 f6 x7 H locs ls hf w hl
      rw [lp_X8_readBench_15] at hf
      refine lv_aload_n hx hb dX8_readBench_15 rfl (lv_at hl 0 rfl) ?_
      refine hm_get cb_X8 hx hb hown X w 0 4 fl_X8_133 dX8_readBench_16 rfl (by decide) rfl ?_
      refine lv_aload_n hx hb dX8_readBench_19 rfl (lv_at hl 0 rfl) ?_
      refine hm_get cb_X8 hx hb hown X w 0 3 fl_X8_122 dX8_readBench_20 rfl (by decide) rfl ?_
      refine lv_icmp_ge (tgt := 35) hx hb dX8_readBench_23 (by decide) (fun c23 => ?_) (fun c23 => ?_)
      · have hf := pf_t c23 hf
        refine lv_iconst (v := 1) hx hb dX8_readBench_35 (by decide) ?_
        exact hQ _ _ _ _ _ (x1, x2, x3, f4, f5, f6, x7) (fun _ => 0) hf rfl w dX8_readBench_36
      · have hf := pf_e c23 hf
        refine lv_aload_n hx hb dX8_readBench_26 rfl (lv_at hl 0 rfl) ?_
        obtain ⟨r8, x9, x10, x11, f12, f13, f14, x15, hc27, hf⟩ := pf_bi_7 hf
        refine hm_aft_i (ws' := fun _ => [oc8 h0 r_t t_base t_taped x9 x10 x11 t_newBits t_newTold t_newDoings t_newThings t_opened t_sum t_heldAll t_onPaper t_turned t_wasConverted t_lastBits t_lastSum t_lastHeld t_lastLeft t_lastCode t_writtenLong t_codeMany x15 t_done0 t_stoppedAt, ic E (r_t 48) 40 f12, ic E (r_t 49) 40 f13, ic E (r_t 50) 40 f14, bc E (r_t 2) 400 t_tape]) (hm_runV (rest := []) hx hb hml hown X hA Y w 0 (ci := 7) (T := TX8) (N := 55) rfl rfl mw_X8_readAct ml_X8_410 dX8_readBench_27 hm_ac0 [] rfl [0, 1, 2, 3, 4] rfl rfl (ct_X8_readAct l E H.size h0 r_t t_base t_taped x1 x2 x3 t_newBits t_newTold t_newDoings t_newThings t_opened t_sum t_heldAll t_onPaper t_turned t_wasConverted t_lastBits t_lastSum t_lastHeld t_lastLeft t_lastCode t_writtenLong t_codeMany x7 t_done0 t_stoppedAt f4 f5 f6 t_tape (r8, x9, x10, x11, f12, f13, f14, x15) hc27) rfl hl.1 ⟨⟨rfl, rfl⟩, ⟨Nat.le_of_ble_eq_true rfl, Nat.le_of_ble_eq_true rfl⟩, ⟨Nat.le_of_ble_eq_true rfl, Nat.le_of_ble_eq_true rfl⟩, Nat.le_of_ble_eq_true rfl⟩) hA w [0, 1, 2, 3, 4] [] [0, 1, 2, 3, 4] rfl rfl (by decide) (fun _ => rfl) (fun _ H locs w => ?_)
        refine lv_if_ne (tgt := 15) hx hb dX8_readBench_30 (by decide) (fun c30 => ?_) (fun c30 => ?_)
        · have hf := pf_e c30 hf
          exact ih15 _ _ _ _ _ _ _ _ _ _ hf w (lv_sub hl [0] rfl)
        · have hf := pf_t c30 hf
          refine lv_iconst (v := 0) hx hb dX8_readBench_33 (by decide) ?_
          exact hQ _ _ _ _ _ (x9, x10, x11, f12, f13, f14, x15) (fun _ => 0) hf rfl w dX8_readBench_34
  exact klp_X8_readBench_15 FU _ _ _ _ _ _ _ _ _ _ hf w (lv_sub hl [0] rfl)
set_option maxHeartbeats 8000000 in
set_option maxRecDepth 100000 in
theorem ct_X8_refusedBy (l : Launch) (E : hm_E) (sz : Nat) (a0 : Int32) (a1 : Int32) (R : Int32 × Unit) (hf : pf_X8_refusedBy a0 a1 = some R) : hm_Mi l E yX8_refusedBy cX8_refusedBy 2 .int [] (hm_rr 0 0 0 0) [.int a0, .int a1] sz [] R.1 (fun _ => []) := by
  refine hm_ct_i R (fun u _ => []) (by decide) (Nat.le_of_ble_eq_true rfl) (Or.inl rfl) ?_
  intro p e s m args below meth c A Q ls H locs hx hb hml hown X hA Y hex w hl hQ
  have hl : lv_has ls 2 [(0, .int a0), (1, .int a1)] := hl
  unfold pf_X8_refusedBy at hf
  refine lv_iload_n hx hb dX8_refusedBy_0 rfl (lv_at hl 0 rfl) ?_
  refine lv_iload_n hx hb dX8_refusedBy_1 rfl (lv_at hl 1 rfl) ?_
  refine lv_icmp_ne (tgt := 11) hx hb dX8_refusedBy_2 (by decide) (fun c2 => ?_) (fun c2 => ?_)
  · have hf := pf_e c2 hf
    refine lv_iload_n hx hb dX8_refusedBy_11 rfl (lv_at hl 0 rfl) ?_
    exact hQ _ _ _ _ _ () (fun _ => 0) hf rfl w dX8_refusedBy_12
  · have hf := pf_t c2 hf
    refine lv_ldcw (v := (-1000000)) hx hb hown (X.use ck_X8_283 rfl) dX8_refusedBy_5 ?_
    refine lv_goto (tgt := 12) hx hb dX8_refusedBy_8 (by decide) ?_
    exact hQ _ _ _ _ _ () (fun _ => 0) hf rfl w dX8_refusedBy_12
set_option maxHeartbeats 8000000 in
set_option maxRecDepth 100000 in
theorem ct_X8_doAct (l : Launch) (E : hm_E) (sz : Nat) (h0 : Nat) (r_t : Nat → Nat) (t_base t_taped t_at t_faultPlace t_number t_newBits t_newTold t_newDoings t_newThings t_opened t_sum t_heldAll t_onPaper t_turned t_wasConverted t_lastBits t_lastSum t_lastHeld t_lastLeft t_lastCode t_writtenLong t_codeMany t_acts t_done0 t_stoppedAt : Int32) (t_act : Nat → Int32) (t_actA : Nat → Int32) (t_actB : Nat → Int32) (t_all : Nat → Int32) (t_askedOf : Nat → Int32) (t_decided : Nat → Int32) (t_heldBehind : Nat → Int32) (t_last : Nat → Int32) (t_nextOff : Nat → Int32) (t_pile : Nat → Int32) (t_toldBy : Nat → Int32) (t_wasLate : Nat → Int32) (a1 : Int32) (R : Int32 × (Nat → Int32) × (Nat → Int32) × (Nat → Int32) × (Nat → Int32) × (Nat → Int32) × (Nat → Int32) × (Nat → Int32) × Int32 × Int32 × Int32 × Int32 × Int32 × Int32 × Int32 × Int32 × (Nat → Int32)) (hf : pf_X8_doAct a1 t_all t_base t_pile t_nextOff t_decided t_wasLate t_askedOf t_heldBehind t_sum t_heldAll t_onPaper t_turned t_wasConverted t_lastBits t_lastSum t_lastHeld t_lastLeft t_lastCode t_last t_act t_actA t_actB t_toldBy = some R) : hm_Mi l E yX8_doAct cX8_doAct 4 .int [] (hm_rr 6 145 0 0) [.ref h0, .int a1] sz [oc8 h0 r_t t_base t_taped t_at t_faultPlace t_number t_newBits t_newTold t_newDoings t_newThings t_opened t_sum t_heldAll t_onPaper t_turned t_wasConverted t_lastBits t_lastSum t_lastHeld t_lastLeft t_lastCode t_writtenLong t_codeMany t_acts t_done0 t_stoppedAt, ic E (r_t 48) 40 t_act, ic E (r_t 49) 40 t_actA, ic E (r_t 50) 40 t_actB, ic E (r_t 0) 800 t_all, ic E (r_t 27) 12 t_askedOf, ic E (r_t 25) 12 t_decided, ic E (r_t 28) 12 t_heldBehind, ic E (r_t 39) 48 t_last, ic E (r_t 24) 12 t_nextOff, ic E (r_t 23) 90 t_pile, ic E (r_t 51) 40 t_toldBy, zc E (r_t 26) 12 t_wasLate] R.1 (fun _ => [oc8 h0 r_t t_base t_taped t_at t_faultPlace t_number t_newBits t_newTold t_newDoings t_newThings t_opened (R.2.2.2.2.2.2.2.2.1) (R.2.2.2.2.2.2.2.2.2.1) t_onPaper t_turned (R.2.2.2.2.2.2.2.2.2.2.1) (R.2.2.2.2.2.2.2.2.2.2.2.1) (R.2.2.2.2.2.2.2.2.2.2.2.2.1) (R.2.2.2.2.2.2.2.2.2.2.2.2.2.1) (R.2.2.2.2.2.2.2.2.2.2.2.2.2.2.1) (R.2.2.2.2.2.2.2.2.2.2.2.2.2.2.2.1) t_writtenLong t_codeMany t_acts t_done0 t_stoppedAt, ic E (r_t 48) 40 t_act, ic E (r_t 49) 40 t_actA, ic E (r_t 50) 40 t_actB, ic E (r_t 0) 800 (R.2.1), ic E (r_t 27) 12 (R.2.2.2.2.2.2.1), ic E (r_t 25) 12 (R.2.2.2.2.1), ic E (r_t 28) 12 (R.2.2.2.2.2.2.2.1), ic E (r_t 39) 48 (R.2.2.2.2.2.2.2.2.2.2.2.2.2.2.2.2), ic E (r_t 24) 12 (R.2.2.2.1), ic E (r_t 23) 90 (R.2.2.1), ic E (r_t 51) 40 t_toldBy, zc E (r_t 26) 12 (R.2.2.2.2.2.1)]) := by
  refine hm_ct_i R (fun u _ => [oc8 h0 r_t t_base t_taped t_at t_faultPlace t_number t_newBits t_newTold t_newDoings t_newThings t_opened (u.2.2.2.2.2.2.2.1) (u.2.2.2.2.2.2.2.2.1) t_onPaper t_turned (u.2.2.2.2.2.2.2.2.2.1) (u.2.2.2.2.2.2.2.2.2.2.1) (u.2.2.2.2.2.2.2.2.2.2.2.1) (u.2.2.2.2.2.2.2.2.2.2.2.2.1) (u.2.2.2.2.2.2.2.2.2.2.2.2.2.1) (u.2.2.2.2.2.2.2.2.2.2.2.2.2.2.1) t_writtenLong t_codeMany t_acts t_done0 t_stoppedAt, ic E (r_t 48) 40 t_act, ic E (r_t 49) 40 t_actA, ic E (r_t 50) 40 t_actB, ic E (r_t 0) 800 (u.1), ic E (r_t 27) 12 (u.2.2.2.2.2.1), ic E (r_t 25) 12 (u.2.2.2.1), ic E (r_t 28) 12 (u.2.2.2.2.2.2.1), ic E (r_t 39) 48 (u.2.2.2.2.2.2.2.2.2.2.2.2.2.2.2), ic E (r_t 24) 12 (u.2.2.1), ic E (r_t 23) 90 (u.2.1), ic E (r_t 51) 40 t_toldBy, zc E (r_t 26) 12 (u.2.2.2.2.1)]) (by decide) (Nat.le_of_ble_eq_true rfl) (Or.inl rfl) ?_
  intro p e s m args below meth c A Q ls H locs hx hb hml hown X hA Y hex w hl hQ
  have hl : lv_has ls 4 [(0, .ref h0), (1, .int a1)] := hl
  unfold pf_X8_doAct at hf
  refine lv_aload_n hx hb dX8_doAct_0 rfl (lv_at hl 0 rfl) ?_
  refine hm_get cb_X8 hx hb hown X w 0 49 fl_X8_107 dX8_doAct_1 rfl (by decide) rfl ?_
  refine lv_iload_n hx hb dX8_doAct_4 rfl (lv_at hl 1 rfl) ?_
  obtain ⟨g5, hf⟩ := pf_ckI hf
  refine hm_iald hx hb X w 2 dX8_doAct_5 rfl g5 ?_
  refine lv_topi (fun x1 ex1 => ?_)
  have hf := pf_nm ex1 hf
  refine lv_istore_n (lv' := [(2, .int x1), (0, .ref h0), (1, .int a1)]) hx hb dX8_doAct_6 rfl hl (by decide) rfl (fun ls hl => ?_)
  refine lv_aload_n hx hb dX8_doAct_7 rfl (lv_at hl 1 rfl) ?_
  refine hm_get cb_X8 hx hb hown X w 0 50 fl_X8_110 dX8_doAct_8 rfl (by decide) rfl ?_
  refine lv_iload_n hx hb dX8_doAct_11 rfl (lv_at hl 2 rfl) ?_
  obtain ⟨g12, hf⟩ := pf_ckI hf
  refine hm_iald hx hb X w 3 dX8_doAct_12 rfl g12 ?_
  refine lv_topi (fun x2 ex2 => ?_)
  have hf := pf_nm ex2 hf
  refine lv_istore_n (lv' := [(3, .int x2), (2, .int x1), (0, .ref h0), (1, .int a1)]) hx hb dX8_doAct_13 rfl hl (by decide) rfl (fun ls hl => ?_)
  refine lv_aload_n hx hb dX8_doAct_14 rfl (lv_at hl 2 rfl) ?_
  refine hm_get cb_X8 hx hb hown X w 0 48 fl_X8_104 dX8_doAct_15 rfl (by decide) rfl ?_
  refine lv_iload_n hx hb dX8_doAct_18 rfl (lv_at hl 3 rfl) ?_
  obtain ⟨g19, hf⟩ := pf_ckI hf
  refine hm_iald hx hb X w 1 dX8_doAct_19 rfl g19 ?_
  refine lv_topi (fun x3 ex3 => ?_)
  have hf := pf_nm ex3 hf
  by_cases c20_99 : x3 = 99
  · have hf := pf_t c20_99 hf
    refine lv_tableIn (off := 104) (tgt := 124) hx hb dX8_doAct_20 (by rw [c20_99]; decide) (by rw [c20_99]; decide) (by rw [c20_99]; rfl) (by decide) ?_
    refine lv_aload_n hx hb dX8_doAct_124 rfl (lv_at hl 2 rfl) ?_
    refine lv_iload_n hx hb dX8_doAct_125 rfl (lv_at hl 1 rfl) ?_
    obtain ⟨r4, f5, f6, f7, f8, f9, x10, x11, x12, x13, x14, x15, x16, x17, f18, hc126, hf⟩ := pf_bi_14 hf
    refine hm_aft_i (ws' := fun _ => [oc8 h0 r_t t_base t_taped t_at t_faultPlace t_number t_newBits t_newTold t_newDoings t_newThings t_opened x10 x11 t_onPaper t_turned x12 x13 x14 x15 x16 x17 t_writtenLong t_codeMany t_acts t_done0 t_stoppedAt, ic E (r_t 48) 40 t_act, ic E (r_t 49) 40 t_actA, ic E (r_t 50) 40 t_actB, ic E (r_t 0) 800 f5, ic E (r_t 27) 12 f8, ic E (r_t 25) 12 f6, ic E (r_t 28) 12 f9, ic E (r_t 39) 48 f18, ic E (r_t 24) 12 t_nextOff, ic E (r_t 23) 90 t_pile, ic E (r_t 51) 40 t_toldBy, zc E (r_t 26) 12 f7]) (hm_runV (rest := []) hx hb hml hown X hA Y w 0 (ci := 7) (T := TX8) (N := 55) rfl rfl mw_X8_convert ml_X8_413 dX8_doAct_126 hm_ac0 [.int x1] rfl [0, 4, 5, 6, 7, 8, 12] rfl rfl (ct_X8_convert l E H.size h0 r_t t_base t_taped t_at t_faultPlace t_number t_newBits t_newTold t_newDoings t_newThings t_opened t_sum t_heldAll t_onPaper t_turned t_wasConverted t_lastBits t_lastSum t_lastHeld t_lastLeft t_lastCode t_writtenLong t_codeMany t_acts t_done0 t_stoppedAt t_all t_askedOf t_decided t_heldBehind t_last t_wasLate x1 (r4, f5, f6, f7, f8, f9, x10, x11, x12, x13, x14, x15, x16, x17, f18) hc126) rfl hl.1 ⟨⟨rfl, rfl⟩, ⟨Nat.le_of_ble_eq_true rfl, Nat.le_of_ble_eq_true rfl⟩, ⟨Nat.le_of_ble_eq_true rfl, Nat.le_of_ble_eq_true rfl⟩, Nat.le_of_ble_eq_true rfl⟩) hA w [0, 4, 5, 6, 7, 8, 12] [1, 2, 3, 9, 10, 11] [6, 0, 1, 2, 7, 8, 9, 10, 11, 3, 4, 5, 12] rfl rfl (by decide) (fun _ => rfl) (fun _ H locs w => ?_)
    exact hQ _ _ _ _ _ (f5, t_pile, t_nextOff, f6, f7, f8, f9, x10, x11, x12, x13, x14, x15, x16, x17, f18) (fun _ => 0) hf rfl w dX8_doAct_129
  · have hf := pf_e c20_99 hf
    by_cases c20_100 : x3 = 100
    · have hf := pf_t c20_100 hf
      refine lv_tableIn (off := 195) (tgt := 215) hx hb dX8_doAct_20 (by rw [c20_100]; decide) (by rw [c20_100]; decide) (by rw [c20_100]; rfl) (by decide) ?_
      refine lv_iload_n hx hb dX8_doAct_215 rfl (lv_at hl 3 rfl) ?_
      refine lv_if_le (tgt := 235) hx hb dX8_doAct_216 (by decide) (fun c216 => ?_) (fun c216 => ?_)
      · have hf := pf_t c216 hf
        refine lv_ldcw (v := (-1000000)) hx hb hown (X.use ck_X8_283 rfl) dX8_doAct_235 ?_
        exact hQ _ _ _ _ _ (t_all, t_pile, t_nextOff, t_decided, t_wasLate, t_askedOf, t_heldBehind, t_sum, t_heldAll, t_wasConverted, t_lastBits, t_lastSum, t_lastHeld, t_lastLeft, t_lastCode, t_last) (fun _ => 0) hf rfl w dX8_doAct_238
      · have hf := pf_e c216 hf
        refine lv_aload_n hx hb dX8_doAct_219 rfl (lv_at hl 2 rfl) ?_
        refine hm_get cb_X8 hx hb hown X w 0 51 fl_X8_113 dX8_doAct_220 rfl (by decide) rfl ?_
        refine lv_iload_n hx hb dX8_doAct_223 rfl (lv_at hl 3 rfl) ?_
        refine lv_iconst (v := 1) hx hb dX8_doAct_224 (by decide) ?_
        refine lv_isub hx hb dX8_doAct_225 ?_
        obtain ⟨g226, hf⟩ := pf_ckI hf
        refine hm_iald hx hb X w 11 dX8_doAct_226 rfl g226 ?_
        refine lv_iload_n hx hb dX8_doAct_227 rfl (lv_at hl 1 rfl) ?_
        refine lv_icmp_ne (tgt := 235) hx hb dX8_doAct_228 (by decide) (fun c228 => ?_) (fun c228 => ?_)
        · have hf := pf_e c228 hf
          refine lv_ldcw (v := (-1000000)) hx hb hown (X.use ck_X8_283 rfl) dX8_doAct_235 ?_
          exact hQ _ _ _ _ _ (t_all, t_pile, t_nextOff, t_decided, t_wasLate, t_askedOf, t_heldBehind, t_sum, t_heldAll, t_wasConverted, t_lastBits, t_lastSum, t_lastHeld, t_lastLeft, t_lastCode, t_last) (fun _ => 0) hf rfl w dX8_doAct_238
        · have hf := pf_t c228 hf
          refine lv_iload_n hx hb dX8_doAct_231 rfl (lv_at hl 1 rfl) ?_
          refine lv_goto (tgt := 238) hx hb dX8_doAct_232 (by decide) ?_
          exact hQ _ _ _ _ _ (t_all, t_pile, t_nextOff, t_decided, t_wasLate, t_askedOf, t_heldBehind, t_sum, t_heldAll, t_wasConverted, t_lastBits, t_lastSum, t_lastHeld, t_lastLeft, t_lastCode, t_last) (fun _ => 0) hf rfl w dX8_doAct_238
    · have hf := pf_e c20_100 hf
      by_cases c20_101 : x3 = 101
      · have hf := pf_t c20_101 hf
        refine lv_tableIn (off := 195) (tgt := 215) hx hb dX8_doAct_20 (by rw [c20_101]; decide) (by rw [c20_101]; decide) (by rw [c20_101]; rfl) (by decide) ?_
        refine lv_iload_n hx hb dX8_doAct_215 rfl (lv_at hl 3 rfl) ?_
        refine lv_if_le (tgt := 235) hx hb dX8_doAct_216 (by decide) (fun c216 => ?_) (fun c216 => ?_)
        · have hf := pf_t c216 hf
          refine lv_ldcw (v := (-1000000)) hx hb hown (X.use ck_X8_283 rfl) dX8_doAct_235 ?_
          exact hQ _ _ _ _ _ (t_all, t_pile, t_nextOff, t_decided, t_wasLate, t_askedOf, t_heldBehind, t_sum, t_heldAll, t_wasConverted, t_lastBits, t_lastSum, t_lastHeld, t_lastLeft, t_lastCode, t_last) (fun _ => 0) hf rfl w dX8_doAct_238
        · have hf := pf_e c216 hf
          refine lv_aload_n hx hb dX8_doAct_219 rfl (lv_at hl 2 rfl) ?_
          refine hm_get cb_X8 hx hb hown X w 0 51 fl_X8_113 dX8_doAct_220 rfl (by decide) rfl ?_
          refine lv_iload_n hx hb dX8_doAct_223 rfl (lv_at hl 3 rfl) ?_
          refine lv_iconst (v := 1) hx hb dX8_doAct_224 (by decide) ?_
          refine lv_isub hx hb dX8_doAct_225 ?_
          obtain ⟨g226, hf⟩ := pf_ckI hf
          refine hm_iald hx hb X w 11 dX8_doAct_226 rfl g226 ?_
          refine lv_iload_n hx hb dX8_doAct_227 rfl (lv_at hl 1 rfl) ?_
          refine lv_icmp_ne (tgt := 235) hx hb dX8_doAct_228 (by decide) (fun c228 => ?_) (fun c228 => ?_)
          · have hf := pf_e c228 hf
            refine lv_ldcw (v := (-1000000)) hx hb hown (X.use ck_X8_283 rfl) dX8_doAct_235 ?_
            exact hQ _ _ _ _ _ (t_all, t_pile, t_nextOff, t_decided, t_wasLate, t_askedOf, t_heldBehind, t_sum, t_heldAll, t_wasConverted, t_lastBits, t_lastSum, t_lastHeld, t_lastLeft, t_lastCode, t_last) (fun _ => 0) hf rfl w dX8_doAct_238
          · have hf := pf_t c228 hf
            refine lv_iload_n hx hb dX8_doAct_231 rfl (lv_at hl 1 rfl) ?_
            refine lv_goto (tgt := 238) hx hb dX8_doAct_232 (by decide) ?_
            exact hQ _ _ _ _ _ (t_all, t_pile, t_nextOff, t_decided, t_wasLate, t_askedOf, t_heldBehind, t_sum, t_heldAll, t_wasConverted, t_lastBits, t_lastSum, t_lastHeld, t_lastLeft, t_lastCode, t_last) (fun _ => 0) hf rfl w dX8_doAct_238
      · have hf := pf_e c20_101 hf
        by_cases c20_102 : x3 = 102
        · have hf := pf_t c20_102 hf
          refine lv_tableIn (off := 181) (tgt := 201) hx hb dX8_doAct_20 (by rw [c20_102]; decide) (by rw [c20_102]; decide) (by rw [c20_102]; rfl) (by decide) ?_
          refine lv_aload_n hx hb dX8_doAct_201 rfl (lv_at hl 2 rfl) ?_
          obtain ⟨r19, f20, hc202, hf⟩ := pf_bi_1 hf
          refine hm_aft_i (ws' := fun _ => [oc8 h0 r_t t_base t_taped t_at t_faultPlace t_number t_newBits t_newTold t_newDoings t_newThings t_opened t_sum t_heldAll t_onPaper t_turned t_wasConverted t_lastBits t_lastSum t_lastHeld t_lastLeft t_lastCode t_writtenLong t_codeMany t_acts t_done0 t_stoppedAt, ic E (r_t 48) 40 t_act, ic E (r_t 49) 40 t_actA, ic E (r_t 50) 40 t_actB, ic E (r_t 0) 800 f20, ic E (r_t 27) 12 t_askedOf, ic E (r_t 25) 12 t_decided, ic E (r_t 28) 12 t_heldBehind, ic E (r_t 39) 48 t_last, ic E (r_t 24) 12 t_nextOff, ic E (r_t 23) 90 t_pile, ic E (r_t 51) 40 t_toldBy, zc E (r_t 26) 12 t_wasLate]) (hm_runV (rest := []) hx hb hml hown X hA Y w 0 (ci := 7) (T := TX8) (N := 55) rfl rfl mw_X8_forget ml_X8_434 dX8_doAct_202 hm_ac0 [] rfl [0, 4] rfl rfl (ct_X8_forget l E H.size h0 r_t t_base t_taped t_at t_faultPlace t_number t_newBits t_newTold t_newDoings t_newThings t_opened t_sum t_heldAll t_onPaper t_turned t_wasConverted t_lastBits t_lastSum t_lastHeld t_lastLeft t_lastCode t_writtenLong t_codeMany t_acts t_done0 t_stoppedAt t_all (r19, f20) hc202) rfl hl.1 ⟨⟨rfl, rfl⟩, ⟨Nat.le_of_ble_eq_true rfl, Nat.le_of_ble_eq_true rfl⟩, ⟨Nat.le_of_ble_eq_true rfl, Nat.le_of_ble_eq_true rfl⟩, Nat.le_of_ble_eq_true rfl⟩) hA w [0, 4] [1, 2, 3, 5, 6, 7, 8, 9, 10, 11, 12] [11, 0, 1, 2, 12, 3, 4, 5, 6, 7, 8, 9, 10] rfl rfl (by decide) (fun _ => rfl) (fun _ H locs w => ?_)
          exact hQ _ _ _ _ _ (f20, t_pile, t_nextOff, t_decided, t_wasLate, t_askedOf, t_heldBehind, t_sum, t_heldAll, t_wasConverted, t_lastBits, t_lastSum, t_lastHeld, t_lastLeft, t_lastCode, t_last) (fun _ => 0) hf rfl w dX8_doAct_205
        · have hf := pf_e c20_102 hf
          by_cases c20_103 : x3 = 103
          · have hf := pf_t c20_103 hf
            refine lv_tableIn (off := 195) (tgt := 215) hx hb dX8_doAct_20 (by rw [c20_103]; decide) (by rw [c20_103]; decide) (by rw [c20_103]; rfl) (by decide) ?_
            refine lv_iload_n hx hb dX8_doAct_215 rfl (lv_at hl 3 rfl) ?_
            refine lv_if_le (tgt := 235) hx hb dX8_doAct_216 (by decide) (fun c216 => ?_) (fun c216 => ?_)
            · have hf := pf_t c216 hf
              refine lv_ldcw (v := (-1000000)) hx hb hown (X.use ck_X8_283 rfl) dX8_doAct_235 ?_
              exact hQ _ _ _ _ _ (t_all, t_pile, t_nextOff, t_decided, t_wasLate, t_askedOf, t_heldBehind, t_sum, t_heldAll, t_wasConverted, t_lastBits, t_lastSum, t_lastHeld, t_lastLeft, t_lastCode, t_last) (fun _ => 0) hf rfl w dX8_doAct_238
            · have hf := pf_e c216 hf
              refine lv_aload_n hx hb dX8_doAct_219 rfl (lv_at hl 2 rfl) ?_
              refine hm_get cb_X8 hx hb hown X w 0 51 fl_X8_113 dX8_doAct_220 rfl (by decide) rfl ?_
              refine lv_iload_n hx hb dX8_doAct_223 rfl (lv_at hl 3 rfl) ?_
              refine lv_iconst (v := 1) hx hb dX8_doAct_224 (by decide) ?_
              refine lv_isub hx hb dX8_doAct_225 ?_
              obtain ⟨g226, hf⟩ := pf_ckI hf
              refine hm_iald hx hb X w 11 dX8_doAct_226 rfl g226 ?_
              refine lv_iload_n hx hb dX8_doAct_227 rfl (lv_at hl 1 rfl) ?_
              refine lv_icmp_ne (tgt := 235) hx hb dX8_doAct_228 (by decide) (fun c228 => ?_) (fun c228 => ?_)
              · have hf := pf_e c228 hf
                refine lv_ldcw (v := (-1000000)) hx hb hown (X.use ck_X8_283 rfl) dX8_doAct_235 ?_
                exact hQ _ _ _ _ _ (t_all, t_pile, t_nextOff, t_decided, t_wasLate, t_askedOf, t_heldBehind, t_sum, t_heldAll, t_wasConverted, t_lastBits, t_lastSum, t_lastHeld, t_lastLeft, t_lastCode, t_last) (fun _ => 0) hf rfl w dX8_doAct_238
              · have hf := pf_t c228 hf
                refine lv_iload_n hx hb dX8_doAct_231 rfl (lv_at hl 1 rfl) ?_
                refine lv_goto (tgt := 238) hx hb dX8_doAct_232 (by decide) ?_
                exact hQ _ _ _ _ _ (t_all, t_pile, t_nextOff, t_decided, t_wasLate, t_askedOf, t_heldBehind, t_sum, t_heldAll, t_wasConverted, t_lastBits, t_lastSum, t_lastHeld, t_lastLeft, t_lastCode, t_last) (fun _ => 0) hf rfl w dX8_doAct_238
          · have hf := pf_e c20_103 hf
            by_cases c20_104 : x3 = 104
            · have hf := pf_t c20_104 hf
              refine lv_tableIn (off := 131) (tgt := 151) hx hb dX8_doAct_20 (by rw [c20_104]; decide) (by rw [c20_104]; decide) (by rw [c20_104]; rfl) (by decide) ?_
              refine lv_aload_n hx hb dX8_doAct_151 rfl (lv_at hl 2 rfl) ?_
              refine lv_iload_n hx hb dX8_doAct_152 rfl (lv_at hl 1 rfl) ?_
              obtain ⟨r21, f22, hc153, hf⟩ := pf_bi_1 hf
              refine hm_aft_i (ws' := fun _ => [oc8 h0 r_t t_base t_taped t_at t_faultPlace t_number t_newBits t_newTold t_newDoings t_newThings t_opened t_sum t_heldAll t_onPaper t_turned t_wasConverted t_lastBits t_lastSum t_lastHeld t_lastLeft t_lastCode t_writtenLong t_codeMany t_acts t_done0 t_stoppedAt, ic E (r_t 48) 40 t_act, ic E (r_t 49) 40 t_actA, ic E (r_t 50) 40 t_actB, ic E (r_t 0) 800 f22, ic E (r_t 27) 12 t_askedOf, ic E (r_t 25) 12 t_decided, ic E (r_t 28) 12 t_heldBehind, ic E (r_t 39) 48 t_last, ic E (r_t 24) 12 t_nextOff, ic E (r_t 23) 90 t_pile, ic E (r_t 51) 40 t_toldBy, zc E (r_t 26) 12 t_wasLate]) (hm_runV (rest := []) hx hb hml hown X hA Y w 0 (ci := 7) (T := TX8) (N := 55) rfl rfl mw_X8_heat ml_X8_425 dX8_doAct_153 hm_ac0 [.int x1] rfl [0, 4] rfl rfl (ct_X8_heat l E H.size h0 r_t t_base t_taped t_at t_faultPlace t_number t_newBits t_newTold t_newDoings t_newThings t_opened t_sum t_heldAll t_onPaper t_turned t_wasConverted t_lastBits t_lastSum t_lastHeld t_lastLeft t_lastCode t_writtenLong t_codeMany t_acts t_done0 t_stoppedAt t_all x1 (r21, f22) hc153) rfl hl.1 ⟨⟨rfl, rfl⟩, ⟨Nat.le_of_ble_eq_true rfl, Nat.le_of_ble_eq_true rfl⟩, ⟨Nat.le_of_ble_eq_true rfl, Nat.le_of_ble_eq_true rfl⟩, Nat.le_of_ble_eq_true rfl⟩) hA w [0, 4] [1, 2, 3, 5, 6, 7, 8, 9, 10, 11, 12] [11, 0, 1, 2, 12, 3, 4, 5, 6, 7, 8, 9, 10] rfl rfl (by decide) (fun _ => rfl) (fun _ H locs w => ?_)
              refine lv_if_eq (tgt := 163) hx hb dX8_doAct_156 (by decide) (fun c156 => ?_) (fun c156 => ?_)
              · have hf := pf_t c156 hf
                refine lv_ldcw (v := (-1000000)) hx hb hown (X.use ck_X8_283 rfl) dX8_doAct_163 ?_
                exact hQ _ _ _ _ _ (f22, t_pile, t_nextOff, t_decided, t_wasLate, t_askedOf, t_heldBehind, t_sum, t_heldAll, t_wasConverted, t_lastBits, t_lastSum, t_lastHeld, t_lastLeft, t_lastCode, t_last) (fun _ => 0) hf rfl w dX8_doAct_166
              · have hf := pf_e c156 hf
                refine lv_iconst (v := 1) hx hb dX8_doAct_159 (by decide) ?_
                refine lv_goto (tgt := 166) hx hb dX8_doAct_160 (by decide) ?_
                exact hQ _ _ _ _ _ (f22, t_pile, t_nextOff, t_decided, t_wasLate, t_askedOf, t_heldBehind, t_sum, t_heldAll, t_wasConverted, t_lastBits, t_lastSum, t_lastHeld, t_lastLeft, t_lastCode, t_last) (fun _ => 0) hf rfl w dX8_doAct_166
            · have hf := pf_e c20_104 hf
              by_cases c20_105 : x3 = 105
              · have hf := pf_t c20_105 hf
                refine lv_tableIn (off := 195) (tgt := 215) hx hb dX8_doAct_20 (by rw [c20_105]; decide) (by rw [c20_105]; decide) (by rw [c20_105]; rfl) (by decide) ?_
                refine lv_iload_n hx hb dX8_doAct_215 rfl (lv_at hl 3 rfl) ?_
                refine lv_if_le (tgt := 235) hx hb dX8_doAct_216 (by decide) (fun c216 => ?_) (fun c216 => ?_)
                · have hf := pf_t c216 hf
                  refine lv_ldcw (v := (-1000000)) hx hb hown (X.use ck_X8_283 rfl) dX8_doAct_235 ?_
                  exact hQ _ _ _ _ _ (t_all, t_pile, t_nextOff, t_decided, t_wasLate, t_askedOf, t_heldBehind, t_sum, t_heldAll, t_wasConverted, t_lastBits, t_lastSum, t_lastHeld, t_lastLeft, t_lastCode, t_last) (fun _ => 0) hf rfl w dX8_doAct_238
                · have hf := pf_e c216 hf
                  refine lv_aload_n hx hb dX8_doAct_219 rfl (lv_at hl 2 rfl) ?_
                  refine hm_get cb_X8 hx hb hown X w 0 51 fl_X8_113 dX8_doAct_220 rfl (by decide) rfl ?_
                  refine lv_iload_n hx hb dX8_doAct_223 rfl (lv_at hl 3 rfl) ?_
                  refine lv_iconst (v := 1) hx hb dX8_doAct_224 (by decide) ?_
                  refine lv_isub hx hb dX8_doAct_225 ?_
                  obtain ⟨g226, hf⟩ := pf_ckI hf
                  refine hm_iald hx hb X w 11 dX8_doAct_226 rfl g226 ?_
                  refine lv_iload_n hx hb dX8_doAct_227 rfl (lv_at hl 1 rfl) ?_
                  refine lv_icmp_ne (tgt := 235) hx hb dX8_doAct_228 (by decide) (fun c228 => ?_) (fun c228 => ?_)
                  · have hf := pf_e c228 hf
                    refine lv_ldcw (v := (-1000000)) hx hb hown (X.use ck_X8_283 rfl) dX8_doAct_235 ?_
                    exact hQ _ _ _ _ _ (t_all, t_pile, t_nextOff, t_decided, t_wasLate, t_askedOf, t_heldBehind, t_sum, t_heldAll, t_wasConverted, t_lastBits, t_lastSum, t_lastHeld, t_lastLeft, t_lastCode, t_last) (fun _ => 0) hf rfl w dX8_doAct_238
                  · have hf := pf_t c228 hf
                    refine lv_iload_n hx hb dX8_doAct_231 rfl (lv_at hl 1 rfl) ?_
                    refine lv_goto (tgt := 238) hx hb dX8_doAct_232 (by decide) ?_
                    exact hQ _ _ _ _ _ (t_all, t_pile, t_nextOff, t_decided, t_wasLate, t_askedOf, t_heldBehind, t_sum, t_heldAll, t_wasConverted, t_lastBits, t_lastSum, t_lastHeld, t_lastLeft, t_lastCode, t_last) (fun _ => 0) hf rfl w dX8_doAct_238
              · have hf := pf_e c20_105 hf
                by_cases c20_106 : x3 = 106
                · have hf := pf_t c20_106 hf
                  refine lv_tableIn (off := 195) (tgt := 215) hx hb dX8_doAct_20 (by rw [c20_106]; decide) (by rw [c20_106]; decide) (by rw [c20_106]; rfl) (by decide) ?_
                  refine lv_iload_n hx hb dX8_doAct_215 rfl (lv_at hl 3 rfl) ?_
                  refine lv_if_le (tgt := 235) hx hb dX8_doAct_216 (by decide) (fun c216 => ?_) (fun c216 => ?_)
                  · have hf := pf_t c216 hf
                    refine lv_ldcw (v := (-1000000)) hx hb hown (X.use ck_X8_283 rfl) dX8_doAct_235 ?_
                    exact hQ _ _ _ _ _ (t_all, t_pile, t_nextOff, t_decided, t_wasLate, t_askedOf, t_heldBehind, t_sum, t_heldAll, t_wasConverted, t_lastBits, t_lastSum, t_lastHeld, t_lastLeft, t_lastCode, t_last) (fun _ => 0) hf rfl w dX8_doAct_238
                  · have hf := pf_e c216 hf
                    refine lv_aload_n hx hb dX8_doAct_219 rfl (lv_at hl 2 rfl) ?_
                    refine hm_get cb_X8 hx hb hown X w 0 51 fl_X8_113 dX8_doAct_220 rfl (by decide) rfl ?_
                    refine lv_iload_n hx hb dX8_doAct_223 rfl (lv_at hl 3 rfl) ?_
                    refine lv_iconst (v := 1) hx hb dX8_doAct_224 (by decide) ?_
                    refine lv_isub hx hb dX8_doAct_225 ?_
                    obtain ⟨g226, hf⟩ := pf_ckI hf
                    refine hm_iald hx hb X w 11 dX8_doAct_226 rfl g226 ?_
                    refine lv_iload_n hx hb dX8_doAct_227 rfl (lv_at hl 1 rfl) ?_
                    refine lv_icmp_ne (tgt := 235) hx hb dX8_doAct_228 (by decide) (fun c228 => ?_) (fun c228 => ?_)
                    · have hf := pf_e c228 hf
                      refine lv_ldcw (v := (-1000000)) hx hb hown (X.use ck_X8_283 rfl) dX8_doAct_235 ?_
                      exact hQ _ _ _ _ _ (t_all, t_pile, t_nextOff, t_decided, t_wasLate, t_askedOf, t_heldBehind, t_sum, t_heldAll, t_wasConverted, t_lastBits, t_lastSum, t_lastHeld, t_lastLeft, t_lastCode, t_last) (fun _ => 0) hf rfl w dX8_doAct_238
                    · have hf := pf_t c228 hf
                      refine lv_iload_n hx hb dX8_doAct_231 rfl (lv_at hl 1 rfl) ?_
                      refine lv_goto (tgt := 238) hx hb dX8_doAct_232 (by decide) ?_
                      exact hQ _ _ _ _ _ (t_all, t_pile, t_nextOff, t_decided, t_wasLate, t_askedOf, t_heldBehind, t_sum, t_heldAll, t_wasConverted, t_lastBits, t_lastSum, t_lastHeld, t_lastLeft, t_lastCode, t_last) (fun _ => 0) hf rfl w dX8_doAct_238
                · have hf := pf_e c20_106 hf
                  by_cases c20_107 : x3 = 107
                  · have hf := pf_t c20_107 hf
                    refine lv_tableIn (off := 195) (tgt := 215) hx hb dX8_doAct_20 (by rw [c20_107]; decide) (by rw [c20_107]; decide) (by rw [c20_107]; rfl) (by decide) ?_
                    refine lv_iload_n hx hb dX8_doAct_215 rfl (lv_at hl 3 rfl) ?_
                    refine lv_if_le (tgt := 235) hx hb dX8_doAct_216 (by decide) (fun c216 => ?_) (fun c216 => ?_)
                    · have hf := pf_t c216 hf
                      refine lv_ldcw (v := (-1000000)) hx hb hown (X.use ck_X8_283 rfl) dX8_doAct_235 ?_
                      exact hQ _ _ _ _ _ (t_all, t_pile, t_nextOff, t_decided, t_wasLate, t_askedOf, t_heldBehind, t_sum, t_heldAll, t_wasConverted, t_lastBits, t_lastSum, t_lastHeld, t_lastLeft, t_lastCode, t_last) (fun _ => 0) hf rfl w dX8_doAct_238
                    · have hf := pf_e c216 hf
                      refine lv_aload_n hx hb dX8_doAct_219 rfl (lv_at hl 2 rfl) ?_
                      refine hm_get cb_X8 hx hb hown X w 0 51 fl_X8_113 dX8_doAct_220 rfl (by decide) rfl ?_
                      refine lv_iload_n hx hb dX8_doAct_223 rfl (lv_at hl 3 rfl) ?_
                      refine lv_iconst (v := 1) hx hb dX8_doAct_224 (by decide) ?_
                      refine lv_isub hx hb dX8_doAct_225 ?_
                      obtain ⟨g226, hf⟩ := pf_ckI hf
                      refine hm_iald hx hb X w 11 dX8_doAct_226 rfl g226 ?_
                      refine lv_iload_n hx hb dX8_doAct_227 rfl (lv_at hl 1 rfl) ?_
                      refine lv_icmp_ne (tgt := 235) hx hb dX8_doAct_228 (by decide) (fun c228 => ?_) (fun c228 => ?_)
                      · have hf := pf_e c228 hf
                        refine lv_ldcw (v := (-1000000)) hx hb hown (X.use ck_X8_283 rfl) dX8_doAct_235 ?_
                        exact hQ _ _ _ _ _ (t_all, t_pile, t_nextOff, t_decided, t_wasLate, t_askedOf, t_heldBehind, t_sum, t_heldAll, t_wasConverted, t_lastBits, t_lastSum, t_lastHeld, t_lastLeft, t_lastCode, t_last) (fun _ => 0) hf rfl w dX8_doAct_238
                      · have hf := pf_t c228 hf
                        refine lv_iload_n hx hb dX8_doAct_231 rfl (lv_at hl 1 rfl) ?_
                        refine lv_goto (tgt := 238) hx hb dX8_doAct_232 (by decide) ?_
                        exact hQ _ _ _ _ _ (t_all, t_pile, t_nextOff, t_decided, t_wasLate, t_askedOf, t_heldBehind, t_sum, t_heldAll, t_wasConverted, t_lastBits, t_lastSum, t_lastHeld, t_lastLeft, t_lastCode, t_last) (fun _ => 0) hf rfl w dX8_doAct_238
                  · have hf := pf_e c20_107 hf
                    by_cases c20_108 : x3 = 108
                    · have hf := pf_t c20_108 hf
                      refine lv_tableIn (off := 110) (tgt := 130) hx hb dX8_doAct_20 (by rw [c20_108]; decide) (by rw [c20_108]; decide) (by rw [c20_108]; rfl) (by decide) ?_
                      refine lv_aload_n hx hb dX8_doAct_130 rfl (lv_at hl 2 rfl) ?_
                      refine lv_iload_n hx hb dX8_doAct_131 rfl (lv_at hl 1 rfl) ?_
                      refine lv_iload_n hx hb dX8_doAct_132 rfl (lv_at hl 0 rfl) ?_
                      obtain ⟨r23, f24, f25, f26, f27, f28, x29, x30, hc133, hf⟩ := pf_bi_7 hf
                      refine hm_aft_i (ws' := fun _ => [oc8 h0 r_t t_base t_taped t_at t_faultPlace t_number t_newBits t_newTold t_newDoings t_newThings t_opened x29 x30 t_onPaper t_turned t_wasConverted t_lastBits t_lastSum t_lastHeld t_lastLeft t_lastCode t_writtenLong t_codeMany t_acts t_done0 t_stoppedAt, ic E (r_t 48) 40 t_act, ic E (r_t 49) 40 t_actA, ic E (r_t 50) 40 t_actB, ic E (r_t 0) 800 f24, ic E (r_t 27) 12 f27, ic E (r_t 25) 12 f25, ic E (r_t 28) 12 f28, ic E (r_t 39) 48 t_last, ic E (r_t 24) 12 t_nextOff, ic E (r_t 23) 90 t_pile, ic E (r_t 51) 40 t_toldBy, zc E (r_t 26) 12 f26]) (hm_runV (rest := []) hx hb hml hown X hA Y w 0 (ci := 7) (T := TX8) (N := 55) rfl rfl mw_X8_learn ml_X8_416 dX8_doAct_133 hm_ac0 [.int x1, .int x2] rfl [0, 4, 5, 6, 7, 12] rfl rfl (ct_X8_learn l E H.size h0 r_t t_base t_taped t_at t_faultPlace t_number t_newBits t_newTold t_newDoings t_newThings t_opened t_sum t_heldAll t_onPaper t_turned t_wasConverted t_lastBits t_lastSum t_lastHeld t_lastLeft t_lastCode t_writtenLong t_codeMany t_acts t_done0 t_stoppedAt t_all t_askedOf t_decided t_heldBehind t_wasLate x1 x2 (r23, f24, f25, f26, f27, f28, x29, x30) hc133) rfl hl.1 ⟨⟨rfl, rfl⟩, ⟨Nat.le_of_ble_eq_true rfl, Nat.le_of_ble_eq_true rfl⟩, ⟨Nat.le_of_ble_eq_true rfl, Nat.le_of_ble_eq_true rfl⟩, Nat.le_of_ble_eq_true rfl⟩) hA w [0, 4, 5, 6, 7, 12] [1, 2, 3, 8, 9, 10, 11] [7, 0, 1, 2, 8, 9, 10, 11, 3, 4, 5, 6, 12] rfl rfl (by decide) (fun _ => rfl) (fun _ H locs w => ?_)
                      refine lv_iconst (v := (-1)) hx hb dX8_doAct_136 (by decide) ?_
                      obtain ⟨r31, hc137, hf⟩ := pf_bi_0 hf
                      refine hm_aft_i (ws' := fun _ => [oc8 h0 r_t t_base t_taped t_at t_faultPlace t_number t_newBits t_newTold t_newDoings t_newThings t_opened x29 x30 t_onPaper t_turned t_wasConverted t_lastBits t_lastSum t_lastHeld t_lastLeft t_lastCode t_writtenLong t_codeMany t_acts t_done0 t_stoppedAt, ic E (r_t 48) 40 t_act, ic E (r_t 49) 40 t_actA, ic E (r_t 50) 40 t_actB, ic E (r_t 0) 800 f24, ic E (r_t 27) 12 f27, ic E (r_t 25) 12 f25, ic E (r_t 28) 12 f28, ic E (r_t 39) 48 t_last, ic E (r_t 24) 12 t_nextOff, ic E (r_t 23) 90 t_pile, ic E (r_t 51) 40 t_toldBy, zc E (r_t 26) 12 f26]) (hm_runS (rest := []) hx hb hml hown X hA Y w mw_X8_refusedBy ml_X8_419 dX8_doAct_137 hm_ac0 [.int r23, .int (-1)] rfl [] rfl rfl (ct_X8_refusedBy l E H.size r23 (-1) (r31, ()) hc137) rfl hl.1 ⟨⟨rfl, rfl⟩, ⟨Nat.le_of_ble_eq_true rfl, Nat.le_of_ble_eq_true rfl⟩, ⟨Nat.le_of_ble_eq_true rfl, Nat.le_of_ble_eq_true rfl⟩, Nat.le_of_ble_eq_true rfl⟩) hA w [] [0, 1, 2, 3, 4, 5, 6, 7, 8, 9, 10, 11, 12] [0, 1, 2, 3, 4, 5, 6, 7, 8, 9, 10, 11, 12] rfl rfl (by decide) (fun _ => rfl) (fun _ H locs w => ?_)
                      exact hQ _ _ _ _ _ (f24, t_pile, t_nextOff, f25, f26, f27, f28, x29, x30, t_wasConverted, t_lastBits, t_lastSum, t_lastHeld, t_lastLeft, t_lastCode, t_last) (fun _ => 0) hf rfl w dX8_doAct_140
                    · have hf := pf_e c20_108 hf
                      by_cases c20_109 : x3 = 109
                      · have hf := pf_t c20_109 hf
                        refine lv_tableIn (off := 195) (tgt := 215) hx hb dX8_doAct_20 (by rw [c20_109]; decide) (by rw [c20_109]; decide) (by rw [c20_109]; rfl) (by decide) ?_
                        refine lv_iload_n hx hb dX8_doAct_215 rfl (lv_at hl 3 rfl) ?_
                        refine lv_if_le (tgt := 235) hx hb dX8_doAct_216 (by decide) (fun c216 => ?_) (fun c216 => ?_)
                        · have hf := pf_t c216 hf
                          refine lv_ldcw (v := (-1000000)) hx hb hown (X.use ck_X8_283 rfl) dX8_doAct_235 ?_
                          exact hQ _ _ _ _ _ (t_all, t_pile, t_nextOff, t_decided, t_wasLate, t_askedOf, t_heldBehind, t_sum, t_heldAll, t_wasConverted, t_lastBits, t_lastSum, t_lastHeld, t_lastLeft, t_lastCode, t_last) (fun _ => 0) hf rfl w dX8_doAct_238
                        · have hf := pf_e c216 hf
                          refine lv_aload_n hx hb dX8_doAct_219 rfl (lv_at hl 2 rfl) ?_
                          refine hm_get cb_X8 hx hb hown X w 0 51 fl_X8_113 dX8_doAct_220 rfl (by decide) rfl ?_
                          refine lv_iload_n hx hb dX8_doAct_223 rfl (lv_at hl 3 rfl) ?_
                          refine lv_iconst (v := 1) hx hb dX8_doAct_224 (by decide) ?_
                          refine lv_isub hx hb dX8_doAct_225 ?_
                          obtain ⟨g226, hf⟩ := pf_ckI hf
                          refine hm_iald hx hb X w 11 dX8_doAct_226 rfl g226 ?_
                          refine lv_iload_n hx hb dX8_doAct_227 rfl (lv_at hl 1 rfl) ?_
                          refine lv_icmp_ne (tgt := 235) hx hb dX8_doAct_228 (by decide) (fun c228 => ?_) (fun c228 => ?_)
                          · have hf := pf_e c228 hf
                            refine lv_ldcw (v := (-1000000)) hx hb hown (X.use ck_X8_283 rfl) dX8_doAct_235 ?_
                            exact hQ _ _ _ _ _ (t_all, t_pile, t_nextOff, t_decided, t_wasLate, t_askedOf, t_heldBehind, t_sum, t_heldAll, t_wasConverted, t_lastBits, t_lastSum, t_lastHeld, t_lastLeft, t_lastCode, t_last) (fun _ => 0) hf rfl w dX8_doAct_238
                          · have hf := pf_t c228 hf
                            refine lv_iload_n hx hb dX8_doAct_231 rfl (lv_at hl 1 rfl) ?_
                            refine lv_goto (tgt := 238) hx hb dX8_doAct_232 (by decide) ?_
                            exact hQ _ _ _ _ _ (t_all, t_pile, t_nextOff, t_decided, t_wasLate, t_askedOf, t_heldBehind, t_sum, t_heldAll, t_wasConverted, t_lastBits, t_lastSum, t_lastHeld, t_lastLeft, t_lastCode, t_last) (fun _ => 0) hf rfl w dX8_doAct_238
                      · have hf := pf_e c20_109 hf
                        by_cases c20_110 : x3 = 110
                        · have hf := pf_t c20_110 hf
                          refine lv_tableIn (off := 195) (tgt := 215) hx hb dX8_doAct_20 (by rw [c20_110]; decide) (by rw [c20_110]; decide) (by rw [c20_110]; rfl) (by decide) ?_
                          refine lv_iload_n hx hb dX8_doAct_215 rfl (lv_at hl 3 rfl) ?_
                          refine lv_if_le (tgt := 235) hx hb dX8_doAct_216 (by decide) (fun c216 => ?_) (fun c216 => ?_)
                          · have hf := pf_t c216 hf
                            refine lv_ldcw (v := (-1000000)) hx hb hown (X.use ck_X8_283 rfl) dX8_doAct_235 ?_
                            exact hQ _ _ _ _ _ (t_all, t_pile, t_nextOff, t_decided, t_wasLate, t_askedOf, t_heldBehind, t_sum, t_heldAll, t_wasConverted, t_lastBits, t_lastSum, t_lastHeld, t_lastLeft, t_lastCode, t_last) (fun _ => 0) hf rfl w dX8_doAct_238
                          · have hf := pf_e c216 hf
                            refine lv_aload_n hx hb dX8_doAct_219 rfl (lv_at hl 2 rfl) ?_
                            refine hm_get cb_X8 hx hb hown X w 0 51 fl_X8_113 dX8_doAct_220 rfl (by decide) rfl ?_
                            refine lv_iload_n hx hb dX8_doAct_223 rfl (lv_at hl 3 rfl) ?_
                            refine lv_iconst (v := 1) hx hb dX8_doAct_224 (by decide) ?_
                            refine lv_isub hx hb dX8_doAct_225 ?_
                            obtain ⟨g226, hf⟩ := pf_ckI hf
                            refine hm_iald hx hb X w 11 dX8_doAct_226 rfl g226 ?_
                            refine lv_iload_n hx hb dX8_doAct_227 rfl (lv_at hl 1 rfl) ?_
                            refine lv_icmp_ne (tgt := 235) hx hb dX8_doAct_228 (by decide) (fun c228 => ?_) (fun c228 => ?_)
                            · have hf := pf_e c228 hf
                              refine lv_ldcw (v := (-1000000)) hx hb hown (X.use ck_X8_283 rfl) dX8_doAct_235 ?_
                              exact hQ _ _ _ _ _ (t_all, t_pile, t_nextOff, t_decided, t_wasLate, t_askedOf, t_heldBehind, t_sum, t_heldAll, t_wasConverted, t_lastBits, t_lastSum, t_lastHeld, t_lastLeft, t_lastCode, t_last) (fun _ => 0) hf rfl w dX8_doAct_238
                            · have hf := pf_t c228 hf
                              refine lv_iload_n hx hb dX8_doAct_231 rfl (lv_at hl 1 rfl) ?_
                              refine lv_goto (tgt := 238) hx hb dX8_doAct_232 (by decide) ?_
                              exact hQ _ _ _ _ _ (t_all, t_pile, t_nextOff, t_decided, t_wasLate, t_askedOf, t_heldBehind, t_sum, t_heldAll, t_wasConverted, t_lastBits, t_lastSum, t_lastHeld, t_lastLeft, t_lastCode, t_last) (fun _ => 0) hf rfl w dX8_doAct_238
                        · have hf := pf_e c20_110 hf
                          by_cases c20_111 : x3 = 111
                          · have hf := pf_t c20_111 hf
                            refine lv_tableIn (off := 164) (tgt := 184) hx hb dX8_doAct_20 (by rw [c20_111]; decide) (by rw [c20_111]; decide) (by rw [c20_111]; rfl) (by decide) ?_
                            refine lv_aload_n hx hb dX8_doAct_184 rfl (lv_at hl 2 rfl) ?_
                            refine lv_iload_n hx hb dX8_doAct_185 rfl (lv_at hl 1 rfl) ?_
                            refine lv_iload_n hx hb dX8_doAct_186 rfl (lv_at hl 0 rfl) ?_
                            obtain ⟨r32, f33, hc187, hf⟩ := pf_bi_1 hf
                            refine hm_aft_i (ws' := fun _ => [oc8 h0 r_t t_base t_taped t_at t_faultPlace t_number t_newBits t_newTold t_newDoings t_newThings t_opened t_sum t_heldAll t_onPaper t_turned t_wasConverted t_lastBits t_lastSum t_lastHeld t_lastLeft t_lastCode t_writtenLong t_codeMany t_acts t_done0 t_stoppedAt, ic E (r_t 48) 40 t_act, ic E (r_t 49) 40 t_actA, ic E (r_t 50) 40 t_actB, ic E (r_t 0) 800 f33, ic E (r_t 27) 12 t_askedOf, ic E (r_t 25) 12 t_decided, ic E (r_t 28) 12 t_heldBehind, ic E (r_t 39) 48 t_last, ic E (r_t 24) 12 t_nextOff, ic E (r_t 23) 90 t_pile, ic E (r_t 51) 40 t_toldBy, zc E (r_t 26) 12 t_wasLate]) (hm_runV (rest := []) hx hb hml hown X hA Y w 0 (ci := 7) (T := TX8) (N := 55) rfl rfl mw_X8_off ml_X8_431 dX8_doAct_187 hm_ac0 [.int x1, .int x2] rfl [0, 4] rfl rfl (ct_X8_off l E H.size h0 r_t t_base t_taped t_at t_faultPlace t_number t_newBits t_newTold t_newDoings t_newThings t_opened t_sum t_heldAll t_onPaper t_turned t_wasConverted t_lastBits t_lastSum t_lastHeld t_lastLeft t_lastCode t_writtenLong t_codeMany t_acts t_done0 t_stoppedAt t_all x1 x2 (r32, f33) hc187) rfl hl.1 ⟨⟨rfl, rfl⟩, ⟨Nat.le_of_ble_eq_true rfl, Nat.le_of_ble_eq_true rfl⟩, ⟨Nat.le_of_ble_eq_true rfl, Nat.le_of_ble_eq_true rfl⟩, Nat.le_of_ble_eq_true rfl⟩) hA w [0, 4] [1, 2, 3, 5, 6, 7, 8, 9, 10, 11, 12] [11, 0, 1, 2, 12, 3, 4, 5, 6, 7, 8, 9, 10] rfl rfl (by decide) (fun _ => rfl) (fun _ H locs w => ?_)
                            refine lv_if_eq (tgt := 197) hx hb dX8_doAct_190 (by decide) (fun c190 => ?_) (fun c190 => ?_)
                            · have hf := pf_t c190 hf
                              refine lv_ldcw (v := (-1000000)) hx hb hown (X.use ck_X8_283 rfl) dX8_doAct_197 ?_
                              exact hQ _ _ _ _ _ (f33, t_pile, t_nextOff, t_decided, t_wasLate, t_askedOf, t_heldBehind, t_sum, t_heldAll, t_wasConverted, t_lastBits, t_lastSum, t_lastHeld, t_lastLeft, t_lastCode, t_last) (fun _ => 0) hf rfl w dX8_doAct_200
                            · have hf := pf_e c190 hf
                              refine lv_iconst (v := 1) hx hb dX8_doAct_193 (by decide) ?_
                              refine lv_goto (tgt := 200) hx hb dX8_doAct_194 (by decide) ?_
                              exact hQ _ _ _ _ _ (f33, t_pile, t_nextOff, t_decided, t_wasLate, t_askedOf, t_heldBehind, t_sum, t_heldAll, t_wasConverted, t_lastBits, t_lastSum, t_lastHeld, t_lastLeft, t_lastCode, t_last) (fun _ => 0) hf rfl w dX8_doAct_200
                          · have hf := pf_e c20_111 hf
                            by_cases c20_112 : x3 = 112
                            · have hf := pf_t c20_112 hf
                              refine lv_tableIn (off := 121) (tgt := 141) hx hb dX8_doAct_20 (by rw [c20_112]; decide) (by rw [c20_112]; decide) (by rw [c20_112]; rfl) (by decide) ?_
                              refine lv_aload_n hx hb dX8_doAct_141 rfl (lv_at hl 2 rfl) ?_
                              refine lv_iload_n hx hb dX8_doAct_142 rfl (lv_at hl 1 rfl) ?_
                              obtain ⟨r34, f35, f36, f37, hc143, hf⟩ := pf_bi_3 hf
                              refine hm_aft_i (ws' := fun _ => [oc8 h0 r_t t_base t_taped t_at t_faultPlace t_number t_newBits t_newTold t_newDoings t_newThings t_opened t_sum t_heldAll t_onPaper t_turned t_wasConverted t_lastBits t_lastSum t_lastHeld t_lastLeft t_lastCode t_writtenLong t_codeMany t_acts t_done0 t_stoppedAt, ic E (r_t 48) 40 t_act, ic E (r_t 49) 40 t_actA, ic E (r_t 50) 40 t_actB, ic E (r_t 0) 800 f35, ic E (r_t 27) 12 t_askedOf, ic E (r_t 25) 12 t_decided, ic E (r_t 28) 12 t_heldBehind, ic E (r_t 39) 48 t_last, ic E (r_t 24) 12 f37, ic E (r_t 23) 90 f36, ic E (r_t 51) 40 t_toldBy, zc E (r_t 26) 12 t_wasLate]) (hm_runV (rest := []) hx hb hml hown X hA Y w 0 (ci := 7) (T := TX8) (N := 55) rfl rfl mw_X8_pass ml_X8_422 dX8_doAct_143 hm_ac0 [.int x1] rfl [0, 4, 9, 10] rfl rfl (ct_X8_pass l E H.size h0 r_t t_base t_taped t_at t_faultPlace t_number t_newBits t_newTold t_newDoings t_newThings t_opened t_sum t_heldAll t_onPaper t_turned t_wasConverted t_lastBits t_lastSum t_lastHeld t_lastLeft t_lastCode t_writtenLong t_codeMany t_acts t_done0 t_stoppedAt t_all t_nextOff t_pile x1 (r34, f35, f36, f37) hc143) rfl hl.1 ⟨⟨rfl, rfl⟩, ⟨Nat.le_of_ble_eq_true rfl, Nat.le_of_ble_eq_true rfl⟩, ⟨Nat.le_of_ble_eq_true rfl, Nat.le_of_ble_eq_true rfl⟩, Nat.le_of_ble_eq_true rfl⟩) hA w [0, 4, 9, 10] [1, 2, 3, 5, 6, 7, 8, 11, 12] [9, 0, 1, 2, 10, 3, 4, 5, 6, 11, 12, 7, 8] rfl rfl (by decide) (fun _ => rfl) (fun _ H locs w => ?_)
                              refine lv_iconst (v := (-1)) hx hb dX8_doAct_146 (by decide) ?_
                              obtain ⟨r38, hc147, hf⟩ := pf_bi_0 hf
                              refine hm_aft_i (ws' := fun _ => [oc8 h0 r_t t_base t_taped t_at t_faultPlace t_number t_newBits t_newTold t_newDoings t_newThings t_opened t_sum t_heldAll t_onPaper t_turned t_wasConverted t_lastBits t_lastSum t_lastHeld t_lastLeft t_lastCode t_writtenLong t_codeMany t_acts t_done0 t_stoppedAt, ic E (r_t 48) 40 t_act, ic E (r_t 49) 40 t_actA, ic E (r_t 50) 40 t_actB, ic E (r_t 0) 800 f35, ic E (r_t 27) 12 t_askedOf, ic E (r_t 25) 12 t_decided, ic E (r_t 28) 12 t_heldBehind, ic E (r_t 39) 48 t_last, ic E (r_t 24) 12 f37, ic E (r_t 23) 90 f36, ic E (r_t 51) 40 t_toldBy, zc E (r_t 26) 12 t_wasLate]) (hm_runS (rest := []) hx hb hml hown X hA Y w mw_X8_refusedBy ml_X8_419 dX8_doAct_147 hm_ac0 [.int r34, .int (-1)] rfl [] rfl rfl (ct_X8_refusedBy l E H.size r34 (-1) (r38, ()) hc147) rfl hl.1 ⟨⟨rfl, rfl⟩, ⟨Nat.le_of_ble_eq_true rfl, Nat.le_of_ble_eq_true rfl⟩, ⟨Nat.le_of_ble_eq_true rfl, Nat.le_of_ble_eq_true rfl⟩, Nat.le_of_ble_eq_true rfl⟩) hA w [] [0, 1, 2, 3, 4, 5, 6, 7, 8, 9, 10, 11, 12] [0, 1, 2, 3, 4, 5, 6, 7, 8, 9, 10, 11, 12] rfl rfl (by decide) (fun _ => rfl) (fun _ H locs w => ?_)
                              exact hQ _ _ _ _ _ (f35, f36, f37, t_decided, t_wasLate, t_askedOf, t_heldBehind, t_sum, t_heldAll, t_wasConverted, t_lastBits, t_lastSum, t_lastHeld, t_lastLeft, t_lastCode, t_last) (fun _ => 0) hf rfl w dX8_doAct_150
                            · have hf := pf_e c20_112 hf
                              by_cases c20_113 : x3 = 113
                              · have hf := pf_t c20_113 hf
                                refine lv_tableIn (off := 195) (tgt := 215) hx hb dX8_doAct_20 (by rw [c20_113]; decide) (by rw [c20_113]; decide) (by rw [c20_113]; rfl) (by decide) ?_
                                refine lv_iload_n hx hb dX8_doAct_215 rfl (lv_at hl 3 rfl) ?_
                                refine lv_if_le (tgt := 235) hx hb dX8_doAct_216 (by decide) (fun c216 => ?_) (fun c216 => ?_)
                                · have hf := pf_t c216 hf
                                  refine lv_ldcw (v := (-1000000)) hx hb hown (X.use ck_X8_283 rfl) dX8_doAct_235 ?_
                                  exact hQ _ _ _ _ _ (t_all, t_pile, t_nextOff, t_decided, t_wasLate, t_askedOf, t_heldBehind, t_sum, t_heldAll, t_wasConverted, t_lastBits, t_lastSum, t_lastHeld, t_lastLeft, t_lastCode, t_last) (fun _ => 0) hf rfl w dX8_doAct_238
                                · have hf := pf_e c216 hf
                                  refine lv_aload_n hx hb dX8_doAct_219 rfl (lv_at hl 2 rfl) ?_
                                  refine hm_get cb_X8 hx hb hown X w 0 51 fl_X8_113 dX8_doAct_220 rfl (by decide) rfl ?_
                                  refine lv_iload_n hx hb dX8_doAct_223 rfl (lv_at hl 3 rfl) ?_
                                  refine lv_iconst (v := 1) hx hb dX8_doAct_224 (by decide) ?_
                                  refine lv_isub hx hb dX8_doAct_225 ?_
                                  obtain ⟨g226, hf⟩ := pf_ckI hf
                                  refine hm_iald hx hb X w 11 dX8_doAct_226 rfl g226 ?_
                                  refine lv_iload_n hx hb dX8_doAct_227 rfl (lv_at hl 1 rfl) ?_
                                  refine lv_icmp_ne (tgt := 235) hx hb dX8_doAct_228 (by decide) (fun c228 => ?_) (fun c228 => ?_)
                                  · have hf := pf_e c228 hf
                                    refine lv_ldcw (v := (-1000000)) hx hb hown (X.use ck_X8_283 rfl) dX8_doAct_235 ?_
                                    exact hQ _ _ _ _ _ (t_all, t_pile, t_nextOff, t_decided, t_wasLate, t_askedOf, t_heldBehind, t_sum, t_heldAll, t_wasConverted, t_lastBits, t_lastSum, t_lastHeld, t_lastLeft, t_lastCode, t_last) (fun _ => 0) hf rfl w dX8_doAct_238
                                  · have hf := pf_t c228 hf
                                    refine lv_iload_n hx hb dX8_doAct_231 rfl (lv_at hl 1 rfl) ?_
                                    refine lv_goto (tgt := 238) hx hb dX8_doAct_232 (by decide) ?_
                                    exact hQ _ _ _ _ _ (t_all, t_pile, t_nextOff, t_decided, t_wasLate, t_askedOf, t_heldBehind, t_sum, t_heldAll, t_wasConverted, t_lastBits, t_lastSum, t_lastHeld, t_lastLeft, t_lastCode, t_last) (fun _ => 0) hf rfl w dX8_doAct_238
                              · have hf := pf_e c20_113 hf
                                by_cases c20_114 : x3 = 114
                                · have hf := pf_t c20_114 hf
                                  refine lv_tableIn (off := 195) (tgt := 215) hx hb dX8_doAct_20 (by rw [c20_114]; decide) (by rw [c20_114]; decide) (by rw [c20_114]; rfl) (by decide) ?_
                                  refine lv_iload_n hx hb dX8_doAct_215 rfl (lv_at hl 3 rfl) ?_
                                  refine lv_if_le (tgt := 235) hx hb dX8_doAct_216 (by decide) (fun c216 => ?_) (fun c216 => ?_)
                                  · have hf := pf_t c216 hf
                                    refine lv_ldcw (v := (-1000000)) hx hb hown (X.use ck_X8_283 rfl) dX8_doAct_235 ?_
                                    exact hQ _ _ _ _ _ (t_all, t_pile, t_nextOff, t_decided, t_wasLate, t_askedOf, t_heldBehind, t_sum, t_heldAll, t_wasConverted, t_lastBits, t_lastSum, t_lastHeld, t_lastLeft, t_lastCode, t_last) (fun _ => 0) hf rfl w dX8_doAct_238
                                  · have hf := pf_e c216 hf
                                    refine lv_aload_n hx hb dX8_doAct_219 rfl (lv_at hl 2 rfl) ?_
                                    refine hm_get cb_X8 hx hb hown X w 0 51 fl_X8_113 dX8_doAct_220 rfl (by decide) rfl ?_
                                    refine lv_iload_n hx hb dX8_doAct_223 rfl (lv_at hl 3 rfl) ?_
                                    refine lv_iconst (v := 1) hx hb dX8_doAct_224 (by decide) ?_
                                    refine lv_isub hx hb dX8_doAct_225 ?_
                                    obtain ⟨g226, hf⟩ := pf_ckI hf
                                    refine hm_iald hx hb X w 11 dX8_doAct_226 rfl g226 ?_
                                    refine lv_iload_n hx hb dX8_doAct_227 rfl (lv_at hl 1 rfl) ?_
                                    refine lv_icmp_ne (tgt := 235) hx hb dX8_doAct_228 (by decide) (fun c228 => ?_) (fun c228 => ?_)
                                    · have hf := pf_e c228 hf
                                      refine lv_ldcw (v := (-1000000)) hx hb hown (X.use ck_X8_283 rfl) dX8_doAct_235 ?_
                                      exact hQ _ _ _ _ _ (t_all, t_pile, t_nextOff, t_decided, t_wasLate, t_askedOf, t_heldBehind, t_sum, t_heldAll, t_wasConverted, t_lastBits, t_lastSum, t_lastHeld, t_lastLeft, t_lastCode, t_last) (fun _ => 0) hf rfl w dX8_doAct_238
                                    · have hf := pf_t c228 hf
                                      refine lv_iload_n hx hb dX8_doAct_231 rfl (lv_at hl 1 rfl) ?_
                                      refine lv_goto (tgt := 238) hx hb dX8_doAct_232 (by decide) ?_
                                      exact hQ _ _ _ _ _ (t_all, t_pile, t_nextOff, t_decided, t_wasLate, t_askedOf, t_heldBehind, t_sum, t_heldAll, t_wasConverted, t_lastBits, t_lastSum, t_lastHeld, t_lastLeft, t_lastCode, t_last) (fun _ => 0) hf rfl w dX8_doAct_238
                                · have hf := pf_e c20_114 hf
                                  by_cases c20_115 : x3 = 115
                                  · have hf := pf_t c20_115 hf
                                    refine lv_tableIn (off := 147) (tgt := 167) hx hb dX8_doAct_20 (by rw [c20_115]; decide) (by rw [c20_115]; decide) (by rw [c20_115]; rfl) (by decide) ?_
                                    refine lv_aload_n hx hb dX8_doAct_167 rfl (lv_at hl 2 rfl) ?_
                                    refine lv_iload_n hx hb dX8_doAct_168 rfl (lv_at hl 1 rfl) ?_
                                    refine lv_iload_n hx hb dX8_doAct_169 rfl (lv_at hl 0 rfl) ?_
                                    obtain ⟨r39, f40, hc170, hf⟩ := pf_bi_1 hf
                                    refine hm_aft_i (ws' := fun _ => [oc8 h0 r_t t_base t_taped t_at t_faultPlace t_number t_newBits t_newTold t_newDoings t_newThings t_opened t_sum t_heldAll t_onPaper t_turned t_wasConverted t_lastBits t_lastSum t_lastHeld t_lastLeft t_lastCode t_writtenLong t_codeMany t_acts t_done0 t_stoppedAt, ic E (r_t 48) 40 t_act, ic E (r_t 49) 40 t_actA, ic E (r_t 50) 40 t_actB, ic E (r_t 0) 800 f40, ic E (r_t 27) 12 t_askedOf, ic E (r_t 25) 12 t_decided, ic E (r_t 28) 12 t_heldBehind, ic E (r_t 39) 48 t_last, ic E (r_t 24) 12 t_nextOff, ic E (r_t 23) 90 t_pile, ic E (r_t 51) 40 t_toldBy, zc E (r_t 26) 12 t_wasLate]) (hm_runV (rest := []) hx hb hml hown X hA Y w 0 (ci := 7) (T := TX8) (N := 55) rfl rfl mw_X8_stick ml_X8_428 dX8_doAct_170 hm_ac0 [.int x1, .int x2] rfl [0, 4] rfl rfl (ct_X8_stick l E H.size h0 r_t t_base t_taped t_at t_faultPlace t_number t_newBits t_newTold t_newDoings t_newThings t_opened t_sum t_heldAll t_onPaper t_turned t_wasConverted t_lastBits t_lastSum t_lastHeld t_lastLeft t_lastCode t_writtenLong t_codeMany t_acts t_done0 t_stoppedAt t_all x1 x2 (r39, f40) hc170) rfl hl.1 ⟨⟨rfl, rfl⟩, ⟨Nat.le_of_ble_eq_true rfl, Nat.le_of_ble_eq_true rfl⟩, ⟨Nat.le_of_ble_eq_true rfl, Nat.le_of_ble_eq_true rfl⟩, Nat.le_of_ble_eq_true rfl⟩) hA w [0, 4] [1, 2, 3, 5, 6, 7, 8, 9, 10, 11, 12] [11, 0, 1, 2, 12, 3, 4, 5, 6, 7, 8, 9, 10] rfl rfl (by decide) (fun _ => rfl) (fun _ H locs w => ?_)
                                    refine lv_if_eq (tgt := 180) hx hb dX8_doAct_173 (by decide) (fun c173 => ?_) (fun c173 => ?_)
                                    · have hf := pf_t c173 hf
                                      refine lv_ldcw (v := (-1000000)) hx hb hown (X.use ck_X8_283 rfl) dX8_doAct_180 ?_
                                      exact hQ _ _ _ _ _ (f40, t_pile, t_nextOff, t_decided, t_wasLate, t_askedOf, t_heldBehind, t_sum, t_heldAll, t_wasConverted, t_lastBits, t_lastSum, t_lastHeld, t_lastLeft, t_lastCode, t_last) (fun _ => 0) hf rfl w dX8_doAct_183
                                    · have hf := pf_e c173 hf
                                      refine lv_iconst (v := 1) hx hb dX8_doAct_176 (by decide) ?_
                                      refine lv_goto (tgt := 183) hx hb dX8_doAct_177 (by decide) ?_
                                      exact hQ _ _ _ _ _ (f40, t_pile, t_nextOff, t_decided, t_wasLate, t_askedOf, t_heldBehind, t_sum, t_heldAll, t_wasConverted, t_lastBits, t_lastSum, t_lastHeld, t_lastLeft, t_lastCode, t_last) (fun _ => 0) hf rfl w dX8_doAct_183
                                  · have hf := pf_e c20_115 hf
                                    by_cases c20_116 : x3 = 116
                                    · have hf := pf_t c20_116 hf
                                      refine lv_tableIn (off := 195) (tgt := 215) hx hb dX8_doAct_20 (by rw [c20_116]; decide) (by rw [c20_116]; decide) (by rw [c20_116]; rfl) (by decide) ?_
                                      refine lv_iload_n hx hb dX8_doAct_215 rfl (lv_at hl 3 rfl) ?_
                                      refine lv_if_le (tgt := 235) hx hb dX8_doAct_216 (by decide) (fun c216 => ?_) (fun c216 => ?_)
                                      · have hf := pf_t c216 hf
                                        refine lv_ldcw (v := (-1000000)) hx hb hown (X.use ck_X8_283 rfl) dX8_doAct_235 ?_
                                        exact hQ _ _ _ _ _ (t_all, t_pile, t_nextOff, t_decided, t_wasLate, t_askedOf, t_heldBehind, t_sum, t_heldAll, t_wasConverted, t_lastBits, t_lastSum, t_lastHeld, t_lastLeft, t_lastCode, t_last) (fun _ => 0) hf rfl w dX8_doAct_238
                                      · have hf := pf_e c216 hf
                                        refine lv_aload_n hx hb dX8_doAct_219 rfl (lv_at hl 2 rfl) ?_
                                        refine hm_get cb_X8 hx hb hown X w 0 51 fl_X8_113 dX8_doAct_220 rfl (by decide) rfl ?_
                                        refine lv_iload_n hx hb dX8_doAct_223 rfl (lv_at hl 3 rfl) ?_
                                        refine lv_iconst (v := 1) hx hb dX8_doAct_224 (by decide) ?_
                                        refine lv_isub hx hb dX8_doAct_225 ?_
                                        obtain ⟨g226, hf⟩ := pf_ckI hf
                                        refine hm_iald hx hb X w 11 dX8_doAct_226 rfl g226 ?_
                                        refine lv_iload_n hx hb dX8_doAct_227 rfl (lv_at hl 1 rfl) ?_
                                        refine lv_icmp_ne (tgt := 235) hx hb dX8_doAct_228 (by decide) (fun c228 => ?_) (fun c228 => ?_)
                                        · have hf := pf_e c228 hf
                                          refine lv_ldcw (v := (-1000000)) hx hb hown (X.use ck_X8_283 rfl) dX8_doAct_235 ?_
                                          exact hQ _ _ _ _ _ (t_all, t_pile, t_nextOff, t_decided, t_wasLate, t_askedOf, t_heldBehind, t_sum, t_heldAll, t_wasConverted, t_lastBits, t_lastSum, t_lastHeld, t_lastLeft, t_lastCode, t_last) (fun _ => 0) hf rfl w dX8_doAct_238
                                        · have hf := pf_t c228 hf
                                          refine lv_iload_n hx hb dX8_doAct_231 rfl (lv_at hl 1 rfl) ?_
                                          refine lv_goto (tgt := 238) hx hb dX8_doAct_232 (by decide) ?_
                                          exact hQ _ _ _ _ _ (t_all, t_pile, t_nextOff, t_decided, t_wasLate, t_askedOf, t_heldBehind, t_sum, t_heldAll, t_wasConverted, t_lastBits, t_lastSum, t_lastHeld, t_lastLeft, t_lastCode, t_last) (fun _ => 0) hf rfl w dX8_doAct_238
                                    · have hf := pf_e c20_116 hf
                                      by_cases c20_117 : x3 = 117
                                      · have hf := pf_t c20_117 hf
                                        refine lv_tableIn (off := 195) (tgt := 215) hx hb dX8_doAct_20 (by rw [c20_117]; decide) (by rw [c20_117]; decide) (by rw [c20_117]; rfl) (by decide) ?_
                                        refine lv_iload_n hx hb dX8_doAct_215 rfl (lv_at hl 3 rfl) ?_
                                        refine lv_if_le (tgt := 235) hx hb dX8_doAct_216 (by decide) (fun c216 => ?_) (fun c216 => ?_)
                                        · have hf := pf_t c216 hf
                                          refine lv_ldcw (v := (-1000000)) hx hb hown (X.use ck_X8_283 rfl) dX8_doAct_235 ?_
                                          exact hQ _ _ _ _ _ (t_all, t_pile, t_nextOff, t_decided, t_wasLate, t_askedOf, t_heldBehind, t_sum, t_heldAll, t_wasConverted, t_lastBits, t_lastSum, t_lastHeld, t_lastLeft, t_lastCode, t_last) (fun _ => 0) hf rfl w dX8_doAct_238
                                        · have hf := pf_e c216 hf
                                          refine lv_aload_n hx hb dX8_doAct_219 rfl (lv_at hl 2 rfl) ?_
                                          refine hm_get cb_X8 hx hb hown X w 0 51 fl_X8_113 dX8_doAct_220 rfl (by decide) rfl ?_
                                          refine lv_iload_n hx hb dX8_doAct_223 rfl (lv_at hl 3 rfl) ?_
                                          refine lv_iconst (v := 1) hx hb dX8_doAct_224 (by decide) ?_
                                          refine lv_isub hx hb dX8_doAct_225 ?_
                                          obtain ⟨g226, hf⟩ := pf_ckI hf
                                          refine hm_iald hx hb X w 11 dX8_doAct_226 rfl g226 ?_
                                          refine lv_iload_n hx hb dX8_doAct_227 rfl (lv_at hl 1 rfl) ?_
                                          refine lv_icmp_ne (tgt := 235) hx hb dX8_doAct_228 (by decide) (fun c228 => ?_) (fun c228 => ?_)
                                          · have hf := pf_e c228 hf
                                            refine lv_ldcw (v := (-1000000)) hx hb hown (X.use ck_X8_283 rfl) dX8_doAct_235 ?_
                                            exact hQ _ _ _ _ _ (t_all, t_pile, t_nextOff, t_decided, t_wasLate, t_askedOf, t_heldBehind, t_sum, t_heldAll, t_wasConverted, t_lastBits, t_lastSum, t_lastHeld, t_lastLeft, t_lastCode, t_last) (fun _ => 0) hf rfl w dX8_doAct_238
                                          · have hf := pf_t c228 hf
                                            refine lv_iload_n hx hb dX8_doAct_231 rfl (lv_at hl 1 rfl) ?_
                                            refine lv_goto (tgt := 238) hx hb dX8_doAct_232 (by decide) ?_
                                            exact hQ _ _ _ _ _ (t_all, t_pile, t_nextOff, t_decided, t_wasLate, t_askedOf, t_heldBehind, t_sum, t_heldAll, t_wasConverted, t_lastBits, t_lastSum, t_lastHeld, t_lastLeft, t_lastCode, t_last) (fun _ => 0) hf rfl w dX8_doAct_238
                                      · have hf := pf_e c20_117 hf
                                        by_cases c20_118 : x3 = 118
                                        · have hf := pf_t c20_118 hf
                                          refine lv_tableIn (off := 195) (tgt := 215) hx hb dX8_doAct_20 (by rw [c20_118]; decide) (by rw [c20_118]; decide) (by rw [c20_118]; rfl) (by decide) ?_
                                          refine lv_iload_n hx hb dX8_doAct_215 rfl (lv_at hl 3 rfl) ?_
                                          refine lv_if_le (tgt := 235) hx hb dX8_doAct_216 (by decide) (fun c216 => ?_) (fun c216 => ?_)
                                          · have hf := pf_t c216 hf
                                            refine lv_ldcw (v := (-1000000)) hx hb hown (X.use ck_X8_283 rfl) dX8_doAct_235 ?_
                                            exact hQ _ _ _ _ _ (t_all, t_pile, t_nextOff, t_decided, t_wasLate, t_askedOf, t_heldBehind, t_sum, t_heldAll, t_wasConverted, t_lastBits, t_lastSum, t_lastHeld, t_lastLeft, t_lastCode, t_last) (fun _ => 0) hf rfl w dX8_doAct_238
                                          · have hf := pf_e c216 hf
                                            refine lv_aload_n hx hb dX8_doAct_219 rfl (lv_at hl 2 rfl) ?_
                                            refine hm_get cb_X8 hx hb hown X w 0 51 fl_X8_113 dX8_doAct_220 rfl (by decide) rfl ?_
                                            refine lv_iload_n hx hb dX8_doAct_223 rfl (lv_at hl 3 rfl) ?_
                                            refine lv_iconst (v := 1) hx hb dX8_doAct_224 (by decide) ?_
                                            refine lv_isub hx hb dX8_doAct_225 ?_
                                            obtain ⟨g226, hf⟩ := pf_ckI hf
                                            refine hm_iald hx hb X w 11 dX8_doAct_226 rfl g226 ?_
                                            refine lv_iload_n hx hb dX8_doAct_227 rfl (lv_at hl 1 rfl) ?_
                                            refine lv_icmp_ne (tgt := 235) hx hb dX8_doAct_228 (by decide) (fun c228 => ?_) (fun c228 => ?_)
                                            · have hf := pf_e c228 hf
                                              refine lv_ldcw (v := (-1000000)) hx hb hown (X.use ck_X8_283 rfl) dX8_doAct_235 ?_
                                              exact hQ _ _ _ _ _ (t_all, t_pile, t_nextOff, t_decided, t_wasLate, t_askedOf, t_heldBehind, t_sum, t_heldAll, t_wasConverted, t_lastBits, t_lastSum, t_lastHeld, t_lastLeft, t_lastCode, t_last) (fun _ => 0) hf rfl w dX8_doAct_238
                                            · have hf := pf_t c228 hf
                                              refine lv_iload_n hx hb dX8_doAct_231 rfl (lv_at hl 1 rfl) ?_
                                              refine lv_goto (tgt := 238) hx hb dX8_doAct_232 (by decide) ?_
                                              exact hQ _ _ _ _ _ (t_all, t_pile, t_nextOff, t_decided, t_wasLate, t_askedOf, t_heldBehind, t_sum, t_heldAll, t_wasConverted, t_lastBits, t_lastSum, t_lastHeld, t_lastLeft, t_lastCode, t_last) (fun _ => 0) hf rfl w dX8_doAct_238
                                        · have hf := pf_e c20_118 hf
                                          by_cases c20_119 : x3 = 119
                                          · have hf := pf_t c20_119 hf
                                            refine lv_tableIn (off := 195) (tgt := 215) hx hb dX8_doAct_20 (by rw [c20_119]; decide) (by rw [c20_119]; decide) (by rw [c20_119]; rfl) (by decide) ?_
                                            refine lv_iload_n hx hb dX8_doAct_215 rfl (lv_at hl 3 rfl) ?_
                                            refine lv_if_le (tgt := 235) hx hb dX8_doAct_216 (by decide) (fun c216 => ?_) (fun c216 => ?_)
                                            · have hf := pf_t c216 hf
                                              refine lv_ldcw (v := (-1000000)) hx hb hown (X.use ck_X8_283 rfl) dX8_doAct_235 ?_
                                              exact hQ _ _ _ _ _ (t_all, t_pile, t_nextOff, t_decided, t_wasLate, t_askedOf, t_heldBehind, t_sum, t_heldAll, t_wasConverted, t_lastBits, t_lastSum, t_lastHeld, t_lastLeft, t_lastCode, t_last) (fun _ => 0) hf rfl w dX8_doAct_238
                                            · have hf := pf_e c216 hf
                                              refine lv_aload_n hx hb dX8_doAct_219 rfl (lv_at hl 2 rfl) ?_
                                              refine hm_get cb_X8 hx hb hown X w 0 51 fl_X8_113 dX8_doAct_220 rfl (by decide) rfl ?_
                                              refine lv_iload_n hx hb dX8_doAct_223 rfl (lv_at hl 3 rfl) ?_
                                              refine lv_iconst (v := 1) hx hb dX8_doAct_224 (by decide) ?_
                                              refine lv_isub hx hb dX8_doAct_225 ?_
                                              obtain ⟨g226, hf⟩ := pf_ckI hf
                                              refine hm_iald hx hb X w 11 dX8_doAct_226 rfl g226 ?_
                                              refine lv_iload_n hx hb dX8_doAct_227 rfl (lv_at hl 1 rfl) ?_
                                              refine lv_icmp_ne (tgt := 235) hx hb dX8_doAct_228 (by decide) (fun c228 => ?_) (fun c228 => ?_)
                                              · have hf := pf_e c228 hf
                                                refine lv_ldcw (v := (-1000000)) hx hb hown (X.use ck_X8_283 rfl) dX8_doAct_235 ?_
                                                exact hQ _ _ _ _ _ (t_all, t_pile, t_nextOff, t_decided, t_wasLate, t_askedOf, t_heldBehind, t_sum, t_heldAll, t_wasConverted, t_lastBits, t_lastSum, t_lastHeld, t_lastLeft, t_lastCode, t_last) (fun _ => 0) hf rfl w dX8_doAct_238
                                              · have hf := pf_t c228 hf
                                                refine lv_iload_n hx hb dX8_doAct_231 rfl (lv_at hl 1 rfl) ?_
                                                refine lv_goto (tgt := 238) hx hb dX8_doAct_232 (by decide) ?_
                                                exact hQ _ _ _ _ _ (t_all, t_pile, t_nextOff, t_decided, t_wasLate, t_askedOf, t_heldBehind, t_sum, t_heldAll, t_wasConverted, t_lastBits, t_lastSum, t_lastHeld, t_lastLeft, t_lastCode, t_last) (fun _ => 0) hf rfl w dX8_doAct_238
                                          · have hf := pf_e c20_119 hf
                                            by_cases c20_120 : x3 = 120
                                            · have hf := pf_t c20_120 hf
                                              refine lv_tableIn (off := 186) (tgt := 206) hx hb dX8_doAct_20 (by rw [c20_120]; decide) (by rw [c20_120]; decide) (by rw [c20_120]; rfl) (by decide) ?_
                                              refine lv_aload_n hx hb dX8_doAct_206 rfl (lv_at hl 2 rfl) ?_
                                              refine lv_bipush (v := 6) hx hb dX8_doAct_207 (by decide) ?_
                                              refine lv_iload_n hx hb dX8_doAct_209 rfl (lv_at hl 1 rfl) ?_
                                              obtain ⟨f41, hc210, hf⟩ := pf_bv_1 hf
                                              refine hm_aft_v (ws' := fun _ => [oc8 h0 r_t t_base t_taped t_at t_faultPlace t_number t_newBits t_newTold t_newDoings t_newThings t_opened t_sum t_heldAll t_onPaper t_turned t_wasConverted t_lastBits t_lastSum t_lastHeld t_lastLeft t_lastCode t_writtenLong t_codeMany t_acts t_done0 t_stoppedAt, ic E (r_t 48) 40 t_act, ic E (r_t 49) 40 t_actA, ic E (r_t 50) 40 t_actB, ic E (r_t 0) 800 f41, ic E (r_t 27) 12 t_askedOf, ic E (r_t 25) 12 t_decided, ic E (r_t 28) 12 t_heldBehind, ic E (r_t 39) 48 t_last, ic E (r_t 24) 12 t_nextOff, ic E (r_t 23) 90 t_pile, ic E (r_t 51) 40 t_toldBy, zc E (r_t 26) 12 t_wasLate]) (hm_runV (rest := []) hx hb hml hown X hA Y w 0 (ci := 7) (T := TX8) (N := 55) rfl rfl mw_X8_put ml_X8_119 dX8_doAct_210 hm_ac0 [.int 6, .int x1] rfl [0, 4] rfl rfl (ct_X8_put l E H.size h0 r_t t_base t_taped t_at t_faultPlace t_number t_newBits t_newTold t_newDoings t_newThings t_opened t_sum t_heldAll t_onPaper t_turned t_wasConverted t_lastBits t_lastSum t_lastHeld t_lastLeft t_lastCode t_writtenLong t_codeMany t_acts t_done0 t_stoppedAt t_all 6 x1 f41 hc210) rfl hl.1 ⟨⟨rfl, rfl⟩, ⟨Nat.le_of_ble_eq_true rfl, Nat.le_of_ble_eq_true rfl⟩, ⟨Nat.le_of_ble_eq_true rfl, Nat.le_of_ble_eq_true rfl⟩, Nat.le_of_ble_eq_true rfl⟩) hA w [0, 4] [1, 2, 3, 5, 6, 7, 8, 9, 10, 11, 12] [11, 0, 1, 2, 12, 3, 4, 5, 6, 7, 8, 9, 10] rfl rfl (by decide) (fun _ => rfl) (fun _ H locs w => ?_)
                                              refine lv_iconst (v := 1) hx hb dX8_doAct_213 (by decide) ?_
                                              exact hQ _ _ _ _ _ (f41, t_pile, t_nextOff, t_decided, t_wasLate, t_askedOf, t_heldBehind, t_sum, t_heldAll, t_wasConverted, t_lastBits, t_lastSum, t_lastHeld, t_lastLeft, t_lastCode, t_last) (fun _ => 0) hf rfl w dX8_doAct_214
                                            · have hf := pf_e c20_120 hf
                                              refine lv_tableOut (tgt := 215) hx hb dX8_doAct_20 (hm_out (fun k h1 h2 => by have u := And.intro h1 h2; have v99 := hm_ti c20_99; rw [show (99 : Int32).toInt = 99 from by decide] at v99; have v100 := hm_ti c20_100; rw [show (100 : Int32).toInt = 100 from by decide] at v100; have v101 := hm_ti c20_101; rw [show (101 : Int32).toInt = 101 from by decide] at v101; have v102 := hm_ti c20_102; rw [show (102 : Int32).toInt = 102 from by decide] at v102; have v103 := hm_ti c20_103; rw [show (103 : Int32).toInt = 103 from by decide] at v103; have v104 := hm_ti c20_104; rw [show (104 : Int32).toInt = 104 from by decide] at v104; have v105 := hm_ti c20_105; rw [show (105 : Int32).toInt = 105 from by decide] at v105; have v106 := hm_ti c20_106; rw [show (106 : Int32).toInt = 106 from by decide] at v106; have v107 := hm_ti c20_107; rw [show (107 : Int32).toInt = 107 from by decide] at v107; have v108 := hm_ti c20_108; rw [show (108 : Int32).toInt = 108 from by decide] at v108; have v109 := hm_ti c20_109; rw [show (109 : Int32).toInt = 109 from by decide] at v109; have v110 := hm_ti c20_110; rw [show (110 : Int32).toInt = 110 from by decide] at v110; have v111 := hm_ti c20_111; rw [show (111 : Int32).toInt = 111 from by decide] at v111; have v112 := hm_ti c20_112; rw [show (112 : Int32).toInt = 112 from by decide] at v112; have v113 := hm_ti c20_113; rw [show (113 : Int32).toInt = 113 from by decide] at v113; have v114 := hm_ti c20_114; rw [show (114 : Int32).toInt = 114 from by decide] at v114; have v115 := hm_ti c20_115; rw [show (115 : Int32).toInt = 115 from by decide] at v115; have v116 := hm_ti c20_116; rw [show (116 : Int32).toInt = 116 from by decide] at v116; have v117 := hm_ti c20_117; rw [show (117 : Int32).toInt = 117 from by decide] at v117; have v118 := hm_ti c20_118; rw [show (118 : Int32).toInt = 118 from by decide] at v118; have v119 := hm_ti c20_119; rw [show (119 : Int32).toInt = 119 from by decide] at v119; have v120 := hm_ti c20_120; rw [show (120 : Int32).toInt = 120 from by decide] at v120; omega)) (by decide) ?_
                                              refine lv_iload_n hx hb dX8_doAct_215 rfl (lv_at hl 3 rfl) ?_
                                              refine lv_if_le (tgt := 235) hx hb dX8_doAct_216 (by decide) (fun c216 => ?_) (fun c216 => ?_)
                                              · have hf := pf_t c216 hf
                                                refine lv_ldcw (v := (-1000000)) hx hb hown (X.use ck_X8_283 rfl) dX8_doAct_235 ?_
                                                exact hQ _ _ _ _ _ (t_all, t_pile, t_nextOff, t_decided, t_wasLate, t_askedOf, t_heldBehind, t_sum, t_heldAll, t_wasConverted, t_lastBits, t_lastSum, t_lastHeld, t_lastLeft, t_lastCode, t_last) (fun _ => 0) hf rfl w dX8_doAct_238
                                              · have hf := pf_e c216 hf
                                                refine lv_aload_n hx hb dX8_doAct_219 rfl (lv_at hl 2 rfl) ?_
                                                refine hm_get cb_X8 hx hb hown X w 0 51 fl_X8_113 dX8_doAct_220 rfl (by decide) rfl ?_
                                                refine lv_iload_n hx hb dX8_doAct_223 rfl (lv_at hl 3 rfl) ?_
                                                refine lv_iconst (v := 1) hx hb dX8_doAct_224 (by decide) ?_
                                                refine lv_isub hx hb dX8_doAct_225 ?_
                                                obtain ⟨g226, hf⟩ := pf_ckI hf
                                                refine hm_iald hx hb X w 11 dX8_doAct_226 rfl g226 ?_
                                                refine lv_iload_n hx hb dX8_doAct_227 rfl (lv_at hl 1 rfl) ?_
                                                refine lv_icmp_ne (tgt := 235) hx hb dX8_doAct_228 (by decide) (fun c228 => ?_) (fun c228 => ?_)
                                                · have hf := pf_e c228 hf
                                                  refine lv_ldcw (v := (-1000000)) hx hb hown (X.use ck_X8_283 rfl) dX8_doAct_235 ?_
                                                  exact hQ _ _ _ _ _ (t_all, t_pile, t_nextOff, t_decided, t_wasLate, t_askedOf, t_heldBehind, t_sum, t_heldAll, t_wasConverted, t_lastBits, t_lastSum, t_lastHeld, t_lastLeft, t_lastCode, t_last) (fun _ => 0) hf rfl w dX8_doAct_238
                                                · have hf := pf_t c228 hf
                                                  refine lv_iload_n hx hb dX8_doAct_231 rfl (lv_at hl 1 rfl) ?_
                                                  refine lv_goto (tgt := 238) hx hb dX8_doAct_232 (by decide) ?_
                                                  exact hQ _ _ _ _ _ (t_all, t_pile, t_nextOff, t_decided, t_wasLate, t_askedOf, t_heldBehind, t_sum, t_heldAll, t_wasConverted, t_lastBits, t_lastSum, t_lastHeld, t_lastLeft, t_lastCode, t_last) (fun _ => 0) hf rfl w dX8_doAct_238