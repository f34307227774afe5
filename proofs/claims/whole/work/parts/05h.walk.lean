set_option maxHeartbeats 8000000 in
set_option maxRecDepth 100000 in
theorem ct_X8_is (l : Launch) (E : hm_E) (sz : Nat) (h0 : Nat) (r_t : Nat → Nat) (t_base t_taped t_at t_faultPlace t_number t_newBits t_newTold t_newDoings t_newThings t_opened t_sum t_heldAll t_onPaper t_turned t_wasConverted t_lastBits t_lastSum t_lastHeld t_lastLeft t_lastCode t_writtenLong t_codeMany t_acts t_done0 t_stoppedAt : Int32) (t_all : Nat → Int32) (a1 : Int32) (R : Int32 × Unit) (hf : pf_X8_is a1 t_all t_base t_taped = some R) : hm_Mi l E yX8_is cX8_is 3 .int [] (hm_rr 3 66 0 0) [.ref h0, .int a1] sz [oc8 h0 r_t t_base t_taped t_at t_faultPlace t_number t_newBits t_newTold t_newDoings t_newThings t_opened t_sum t_heldAll t_onPaper t_turned t_wasConverted t_lastBits t_lastSum t_lastHeld t_lastLeft t_lastCode t_writtenLong t_codeMany t_acts t_done0 t_stoppedAt, ic E (r_t 0) 800 t_all] R.1 (fun _ => [oc8 h0 r_t t_base t_taped t_at t_faultPlace t_number t_newBits t_newTold t_newDoings t_newThings t_opened t_sum t_heldAll t_onPaper t_turned t_wasConverted t_lastBits t_lastSum t_lastHeld t_lastLeft t_lastCode t_writtenLong t_codeMany t_acts t_done0 t_stoppedAt, ic E (r_t 0) 800 t_all]) := by
  refine hm_ct_i R (fun u qs => [oc8 h0 r_t t_base t_taped t_at t_faultPlace t_number t_newBits t_newTold t_newDoings t_newThings t_opened t_sum t_heldAll t_onPaper t_turned t_wasConverted t_lastBits t_lastSum t_lastHeld t_lastLeft t_lastCode t_writtenLong t_codeMany t_acts t_done0 t_stoppedAt, ic E (r_t 0) 800 t_all]) (by decide) (Nat.le_of_ble_eq_true rfl) (Or.inl rfl) ?_
  intro p e s m args below meth c A Q ls H locs hx hb hml hown X hA Y hex w hl hQ
  have hl : lv_has ls 3 [(0, .ref h0), (1, .int a1)] := hl
  unfold pf_X8_is at hf
  refine lv_aload_n hx hb dX8_is_0 rfl (lv_at hl 0 rfl) ?_
  refine lv_iconst (v := 0) hx hb dX8_is_1 (by decide) ?_
  obtain ⟨r1, hc2, hf⟩ := pf_bi_0 hf
  refine hm_aft_i (ws' := fun _ => [oc8 h0 r_t t_base t_taped t_at t_faultPlace t_number t_newBits t_newTold t_newDoings t_newThings t_opened t_sum t_heldAll t_onPaper t_turned t_wasConverted t_lastBits t_lastSum t_lastHeld t_lastLeft t_lastCode t_writtenLong t_codeMany t_acts t_done0 t_stoppedAt, ic E (r_t 0) 800 t_all]) (hm_runV (rest := []) hx hb hml hown X hA Y w 0 (ci := 7) (T := TX8) (N := 55) rfl rfl mw_X8_get ml_X8_221 dX8_is_2 hm_ac0 [.int 0] rfl [0, 1] rfl rfl (ct_X8_get l E H.size h0 r_t t_base t_taped t_at t_faultPlace t_number t_newBits t_newTold t_newDoings t_newThings t_opened t_sum t_heldAll t_onPaper t_turned t_wasConverted t_lastBits t_lastSum t_lastHeld t_lastLeft t_lastCode t_writtenLong t_codeMany t_acts t_done0 t_stoppedAt t_all 0 (r1, ()) hc2) rfl hl.1 ⟨⟨rfl, rfl⟩, ⟨Nat.le_of_ble_eq_true rfl, Nat.le_of_ble_eq_true rfl⟩, ⟨Nat.le_of_ble_eq_true rfl, Nat.le_of_ble_eq_true rfl⟩, Nat.le_of_ble_eq_true rfl⟩) hA w [0, 1] [] [0, 1] rfl rfl (by decide) (fun _ => rfl) (fun _ H locs w => ?_)
  refine lv_istore_n (lv' := [(2, .int r1), (0, .ref h0), (1, .int a1)]) hx hb dX8_is_5 rfl hl (by decide) rfl (fun ls hl => ?_)
  refine lv_iload_n hx hb dX8_is_6 rfl (lv_at hl 2 rfl) ?_
  refine lv_iconst (v := 1) hx hb dX8_is_7 (by decide) ?_
  refine lv_bipush (v := 6) hx hb dX8_is_8 (by decide) ?_
  obtain ⟨r2, hc10, hf⟩ := pf_bi_0 hf
  refine hm_aft_i (ws' := fun _ => [oc8 h0 r_t t_base t_taped t_at t_faultPlace t_number t_newBits t_newTold t_newDoings t_newThings t_opened t_sum t_heldAll t_onPaper t_turned t_wasConverted t_lastBits t_lastSum t_lastHeld t_lastLeft t_lastCode t_writtenLong t_codeMany t_acts t_done0 t_stoppedAt, ic E (r_t 0) 800 t_all]) (hm_runS (rest := []) hx hb hml hown X hA Y w mw_X8_isIn ml_X8_129 dX8_is_10 hm_ac0 [.int a1, .int 1, .int 6] rfl [] rfl rfl (ct_X8_isIn l E H.size a1 1 6 (r2, ()) hc10) rfl hl.1 ⟨⟨rfl, rfl⟩, ⟨Nat.le_of_ble_eq_true rfl, Nat.le_of_ble_eq_true rfl⟩, ⟨Nat.le_of_ble_eq_true rfl, Nat.le_of_ble_eq_true rfl⟩, Nat.le_of_ble_eq_true rfl⟩) hA w [] [0, 1] [0, 1] rfl rfl (by decide) (fun _ => rfl) (fun _ H locs w => ?_)
  refine lv_if_eq (tgt := 22) hx hb dX8_is_13 (by decide) (fun c13 => ?_) (fun c13 => ?_)
  · have hf := pf_t c13 hf
    refine lv_iload_n hx hb dX8_is_22 rfl (lv_at hl 2 rfl) ?_
    by_cases c23_0 : a1 = 0
    · have hf := pf_t c23_0 hf
      refine lv_tableIn (off := 65) (tgt := 88) hx hb dX8_is_23 (by rw [c23_0]; decide) (by rw [c23_0]; decide) (by rw [c23_0]; rfl) (by decide) ?_
      refine lv_iload_n hx hb dX8_is_88 rfl (lv_at hl 0 rfl) ?_
      exact hQ _ _ _ _ _ () (fun _ => 0) hf rfl w dX8_is_89
    · have hf := pf_e c23_0 hf
      by_cases c23_1 : a1 = 1
      · have hf := pf_t c23_1 hf
        refine lv_tableIn (off := 107) (tgt := 130) hx hb dX8_is_23 (by rw [c23_1]; decide) (by rw [c23_1]; decide) (by rw [c23_1]; rfl) (by decide) ?_
        refine lv_ldc (v := (-100000)) hx hb hown (X.use ck_X8_250 rfl) dX8_is_130 ?_
        exact hQ _ _ _ _ _ () (fun _ => 0) hf rfl w dX8_is_132
      · have hf := pf_e c23_1 hf
        by_cases c23_2 : a1 = 2
        · have hf := pf_t c23_2 hf
          refine lv_tableIn (off := 107) (tgt := 130) hx hb dX8_is_23 (by rw [c23_2]; decide) (by rw [c23_2]; decide) (by rw [c23_2]; rfl) (by decide) ?_
          refine lv_ldc (v := (-100000)) hx hb hown (X.use ck_X8_250 rfl) dX8_is_130 ?_
          exact hQ _ _ _ _ _ () (fun _ => 0) hf rfl w dX8_is_132
        · have hf := pf_e c23_2 hf
          by_cases c23_3 : a1 = 3
          · have hf := pf_t c23_3 hf
            refine lv_tableIn (off := 107) (tgt := 130) hx hb dX8_is_23 (by rw [c23_3]; decide) (by rw [c23_3]; decide) (by rw [c23_3]; rfl) (by decide) ?_
            refine lv_ldc (v := (-100000)) hx hb hown (X.use ck_X8_250 rfl) dX8_is_130 ?_
            exact hQ _ _ _ _ _ () (fun _ => 0) hf rfl w dX8_is_132
          · have hf := pf_e c23_3 hf
            by_cases c23_4 : a1 = 4
            · have hf := pf_t c23_4 hf
              refine lv_tableIn (off := 107) (tgt := 130) hx hb dX8_is_23 (by rw [c23_4]; decide) (by rw [c23_4]; decide) (by rw [c23_4]; rfl) (by decide) ?_
              refine lv_ldc (v := (-100000)) hx hb hown (X.use ck_X8_250 rfl) dX8_is_130 ?_
              exact hQ _ _ _ _ _ () (fun _ => 0) hf rfl w dX8_is_132
            · have hf := pf_e c23_4 hf
              by_cases c23_5 : a1 = 5
              · have hf := pf_t c23_5 hf
                refine lv_tableIn (off := 107) (tgt := 130) hx hb dX8_is_23 (by rw [c23_5]; decide) (by rw [c23_5]; decide) (by rw [c23_5]; rfl) (by decide) ?_
                refine lv_ldc (v := (-100000)) hx hb hown (X.use ck_X8_250 rfl) dX8_is_130 ?_
                exact hQ _ _ _ _ _ () (fun _ => 0) hf rfl w dX8_is_132
              · have hf := pf_e c23_5 hf
                by_cases c23_6 : a1 = 6
                · have hf := pf_t c23_6 hf
                  refine lv_tableIn (off := 107) (tgt := 130) hx hb dX8_is_23 (by rw [c23_6]; decide) (by rw [c23_6]; decide) (by rw [c23_6]; rfl) (by decide) ?_
                  refine lv_ldc (v := (-100000)) hx hb hown (X.use ck_X8_250 rfl) dX8_is_130 ?_
                  exact hQ _ _ _ _ _ () (fun _ => 0) hf rfl w dX8_is_132
                · have hf := pf_e c23_6 hf
                  by_cases c23_7 : a1 = 7
                  · have hf := pf_t c23_7 hf
                    refine lv_tableIn (off := 67) (tgt := 90) hx hb dX8_is_23 (by rw [c23_7]; decide) (by rw [c23_7]; decide) (by rw [c23_7]; rfl) (by decide) ?_
                    refine lv_aload_n hx hb dX8_is_90 rfl (lv_at hl 1 rfl) ?_
                    refine lv_bipush (v := 57) hx hb dX8_is_91 (by decide) ?_
                    obtain ⟨r3, hc93, hf⟩ := pf_bi_0 hf
                    refine hm_aft_i (ws' := fun _ => [oc8 h0 r_t t_base t_taped t_at t_faultPlace t_number t_newBits t_newTold t_newDoings t_newThings t_opened t_sum t_heldAll t_onPaper t_turned t_wasConverted t_lastBits t_lastSum t_lastHeld t_lastLeft t_lastCode t_writtenLong t_codeMany t_acts t_done0 t_stoppedAt, ic E (r_t 0) 800 t_all]) (hm_runV (rest := []) hx hb hml hown X hA Y w 0 (ci := 7) (T := TX8) (N := 55) rfl rfl mw_X8_get ml_X8_221 dX8_is_93 hm_ac0 [.int 57] rfl [0, 1] rfl rfl (ct_X8_get l E H.size h0 r_t t_base t_taped t_at t_faultPlace t_number t_newBits t_newTold t_newDoings t_newThings t_opened t_sum t_heldAll t_onPaper t_turned t_wasConverted t_lastBits t_lastSum t_lastHeld t_lastLeft t_lastCode t_writtenLong t_codeMany t_acts t_done0 t_stoppedAt t_all 57 (r3, ()) hc93) rfl hl.1 ⟨⟨rfl, rfl⟩, ⟨Nat.le_of_ble_eq_true rfl, Nat.le_of_ble_eq_true rfl⟩, ⟨Nat.le_of_ble_eq_true rfl, Nat.le_of_ble_eq_true rfl⟩, Nat.le_of_ble_eq_true rfl⟩) hA w [0, 1] [] [0, 1] rfl rfl (by decide) (fun _ => rfl) (fun _ H locs w => ?_)
                    exact hQ _ _ _ _ _ () (fun _ => 0) hf rfl w dX8_is_96
                  · have hf := pf_e c23_7 hf
                    by_cases c23_8 : a1 = 8
                    · have hf := pf_t c23_8 hf
                      refine lv_tableIn (off := 74) (tgt := 97) hx hb dX8_is_23 (by rw [c23_8]; decide) (by rw [c23_8]; decide) (by rw [c23_8]; rfl) (by decide) ?_
                      refine lv_aload_n hx hb dX8_is_97 rfl (lv_at hl 1 rfl) ?_
                      refine hm_get cb_X8 hx hb hown X w 0 3 fl_X8_122 dX8_is_98 rfl (by decide) rfl ?_
                      exact hQ _ _ _ _ _ () (fun _ => 0) hf rfl w dX8_is_101
                    · have hf := pf_e c23_8 hf
                      by_cases c23_9 : a1 = 9
                      · have hf := pf_t c23_9 hf
                        refine lv_tableIn (off := 79) (tgt := 102) hx hb dX8_is_23 (by rw [c23_9]; decide) (by rw [c23_9]; decide) (by rw [c23_9]; rfl) (by decide) ?_
                        refine lv_aload_n hx hb dX8_is_102 rfl (lv_at hl 1 rfl) ?_
                        refine lv_iload_n hx hb dX8_is_103 rfl (lv_at hl 0 rfl) ?_
                        obtain ⟨r4, hc104, hf⟩ := pf_bi_0 hf
                        refine hm_aft_i (ws' := fun _ => [oc8 h0 r_t t_base t_taped t_at t_faultPlace t_number t_newBits t_newTold t_newDoings t_newThings t_opened t_sum t_heldAll t_onPaper t_turned t_wasConverted t_lastBits t_lastSum t_lastHeld t_lastLeft t_lastCode t_writtenLong t_codeMany t_acts t_done0 t_stoppedAt, ic E (r_t 0) 800 t_all]) (hm_runV (rest := []) hx hb hml hown X hA Y w 0 (ci := 7) (T := TX8) (N := 55) rfl rfl mw_X8_reach ml_X8_247 dX8_is_104 hm_ac0 [.int r1] rfl [0, 1] rfl rfl (ct_X8_reach l E H.size h0 r_t t_base t_taped t_at t_faultPlace t_number t_newBits t_newTold t_newDoings t_newThings t_opened t_sum t_heldAll t_onPaper t_turned t_wasConverted t_lastBits t_lastSum t_lastHeld t_lastLeft t_lastCode t_writtenLong t_codeMany t_acts t_done0 t_stoppedAt t_all r1 (r4, ()) hc104) rfl hl.1 ⟨⟨rfl, rfl⟩, ⟨Nat.le_of_ble_eq_true rfl, Nat.le_of_ble_eq_true rfl⟩, ⟨Nat.le_of_ble_eq_true rfl, Nat.le_of_ble_eq_true rfl⟩, Nat.le_of_ble_eq_true rfl⟩) hA w [0, 1] [] [0, 1] rfl rfl (by decide) (fun _ => rfl) (fun _ H locs w => ?_)
                        exact hQ _ _ _ _ _ () (fun _ => 0) hf rfl w dX8_is_107
                      · have hf := pf_e c23_9 hf
                        by_cases c23_10 : a1 = 10
                        · have hf := pf_t c23_10 hf
                          refine lv_tableIn (off := 85) (tgt := 108) hx hb dX8_is_23 (by rw [c23_10]; decide) (by rw [c23_10]; decide) (by rw [c23_10]; rfl) (by decide) ?_
                          refine lv_aload_n hx hb dX8_is_108 rfl (lv_at hl 1 rfl) ?_
                          refine lv_bipush (v := 33) hx hb dX8_is_109 (by decide) ?_
                          refine lv_iload_n hx hb dX8_is_111 rfl (lv_at hl 0 rfl) ?_
                          obtain ⟨r5, hc112, hf⟩ := pf_bi_0 hf
                          refine hm_aft_i (ws' := fun _ => [oc8 h0 r_t t_base t_taped t_at t_faultPlace t_number t_newBits t_newTold t_newDoings t_newThings t_opened t_sum t_heldAll t_onPaper t_turned t_wasConverted t_lastBits t_lastSum t_lastHeld t_lastLeft t_lastCode t_writtenLong t_codeMany t_acts t_done0 t_stoppedAt, ic E (r_t 0) 800 t_all]) (hm_runV (rest := []) hx hb hml hown X hA Y w 0 (ci := 7) (T := TX8) (N := 55) rfl rfl mw_X8_sumOf ml_X8_244 dX8_is_112 hm_ac0 [.int 33, .int r1] rfl [0, 1] rfl rfl (ct_X8_sumOf l E H.size h0 r_t t_base t_taped t_at t_faultPlace t_number t_newBits t_newTold t_newDoings t_newThings t_opened t_sum t_heldAll t_onPaper t_turned t_wasConverted t_lastBits t_lastSum t_lastHeld t_lastLeft t_lastCode t_writtenLong t_codeMany t_acts t_done0 t_stoppedAt t_all 33 r1 (r5, ()) hc112) rfl hl.1 ⟨⟨rfl, rfl⟩, ⟨Nat.le_of_ble_eq_true rfl, Nat.le_of_ble_eq_true rfl⟩, ⟨Nat.le_of_ble_eq_true rfl, Nat.le_of_ble_eq_true rfl⟩, Nat.le_of_ble_eq_true rfl⟩) hA w [0, 1] [] [0, 1] rfl rfl (by decide) (fun _ => rfl) (fun _ H locs w => ?_)
                          exact hQ _ _ _ _ _ () (fun _ => 0) hf rfl w dX8_is_115
                        · have hf := pf_e c23_10 hf
                          by_cases c23_11 : a1 = 11
                          · have hf := pf_t c23_11 hf
                            refine lv_tableIn (off := 93) (tgt := 116) hx hb dX8_is_23 (by rw [c23_11]; decide) (by rw [c23_11]; decide) (by rw [c23_11]; rfl) (by decide) ?_
                            refine lv_aload_n hx hb dX8_is_116 rfl (lv_at hl 1 rfl) ?_
                            refine lv_bipush (v := 7) hx hb dX8_is_117 (by decide) ?_
                            obtain ⟨r6, hc119, hf⟩ := pf_bi_0 hf
                            refine hm_aft_i (ws' := fun _ => [oc8 h0 r_t t_base t_taped t_at t_faultPlace t_number t_newBits t_newTold t_newDoings t_newThings t_opened t_sum t_heldAll t_onPaper t_turned t_wasConverted t_lastBits t_lastSum t_lastHeld t_lastLeft t_lastCode t_writtenLong t_codeMany t_acts t_done0 t_stoppedAt, ic E (r_t 0) 800 t_all]) (hm_runV (rest := []) hx hb hml hown X hA Y w 0 (ci := 7) (T := TX8) (N := 55) rfl rfl mw_X8_get ml_X8_221 dX8_is_119 hm_ac0 [.int 7] rfl [0, 1] rfl rfl (ct_X8_get l E H.size h0 r_t t_base t_taped t_at t_faultPlace t_number t_newBits t_newTold t_newDoings t_newThings t_opened t_sum t_heldAll t_onPaper t_turned t_wasConverted t_lastBits t_lastSum t_lastHeld t_lastLeft t_lastCode t_writtenLong t_codeMany t_acts t_done0 t_stoppedAt t_all 7 (r6, ()) hc119) rfl hl.1 ⟨⟨rfl, rfl⟩, ⟨Nat.le_of_ble_eq_true rfl, Nat.le_of_ble_eq_true rfl⟩, ⟨Nat.le_of_ble_eq_true rfl, Nat.le_of_ble_eq_true rfl⟩, Nat.le_of_ble_eq_true rfl⟩) hA w [0, 1] [] [0, 1] rfl rfl (by decide) (fun _ => rfl) (fun _ H locs w => ?_)
                            exact hQ _ _ _ _ _ () (fun _ => 0) hf rfl w dX8_is_122
                          · have hf := pf_e c23_11 hf
                            by_cases c23_12 : a1 = 12
                            · have hf := pf_t c23_12 hf
                              refine lv_tableIn (off := 100) (tgt := 123) hx hb dX8_is_23 (by rw [c23_12]; decide) (by rw [c23_12]; decide) (by rw [c23_12]; rfl) (by decide) ?_
                              refine lv_aload_n hx hb dX8_is_123 rfl (lv_at hl 1 rfl) ?_
                              refine lv_bipush (v := 8) hx hb dX8_is_124 (by decide) ?_
                              obtain ⟨r7, hc126, hf⟩ := pf_bi_0 hf
                              refine hm_aft_i (ws' := fun _ => [oc8 h0 r_t t_base t_taped t_at t_faultPlace t_number t_newBits t_newTold t_newDoings t_newThings t_opened t_sum t_heldAll t_onPaper t_turned t_wasConverted t_lastBits t_lastSum t_lastHeld t_lastLeft t_lastCode t_writtenLong t_codeMany t_acts t_done0 t_stoppedAt, ic E (r_t 0) 800 t_all]) (hm_runV (rest := []) hx hb hml hown X hA Y w 0 (ci := 7) (T := TX8) (N := 55) rfl rfl mw_X8_get ml_X8_221 dX8_is_126 hm_ac0 [.int 8] rfl [0, 1] rfl rfl (ct_X8_get l E H.size h0 r_t t_base t_taped t_at t_faultPlace t_number t_newBits t_newTold t_newDoings t_newThings t_opened t_sum t_heldAll t_onPaper t_turned t_wasConverted t_lastBits t_lastSum t_lastHeld t_lastLeft t_lastCode t_writtenLong t_codeMany t_acts t_done0 t_stoppedAt t_all 8 (r7, ()) hc126) rfl hl.1 ⟨⟨rfl, rfl⟩, ⟨Nat.le_of_ble_eq_true rfl, Nat.le_of_ble_eq_true rfl⟩, ⟨Nat.le_of_ble_eq_true rfl, Nat.le_of_ble_eq_true rfl⟩, Nat.le_of_ble_eq_true rfl⟩) hA w [0, 1] [] [0, 1] rfl rfl (by decide) (fun _ => rfl) (fun _ H locs w => ?_)
                              exact hQ _ _ _ _ _ () (fun _ => 0) hf rfl w dX8_is_129
                            · have hf := pf_e c23_12 hf
                              refine lv_tableOut (tgt := 130) hx hb dX8_is_23 (hm_out (fun k h1 h2 => by have u := And.intro h1 h2; have v0 := hm_ti c23_0; rw [show (0 : Int32).toInt = 0 from by decide] at v0; have v1 := hm_ti c23_1; rw [show (1 : Int32).toInt = 1 from by decide] at v1; have v2 := hm_ti c23_2; rw [show (2 : Int32).toInt = 2 from by decide] at v2; have v3 := hm_ti c23_3; rw [show (3 : Int32).toInt = 3 from by decide] at v3; have v4 := hm_ti c23_4; rw [show (4 : Int32).toInt = 4 from by decide] at v4; have v5 := hm_ti c23_5; rw [show (5 : Int32).toInt = 5 from by decide] at v5; have v6 := hm_ti c23_6; rw [show (6 : Int32).toInt = 6 from by decide] at v6; have v7 := hm_ti c23_7; rw [show (7 : Int32).toInt = 7 from by decide] at v7; have v8 := hm_ti c23_8; rw [show (8 : Int32).toInt = 8 from by decide] at v8; have v9 := hm_ti c23_9; rw [show (9 : Int32).toInt = 9 from by decide] at v9; have v10 := hm_ti c23_10; rw [show (10 : Int32).toInt = 10 from by decide] at v10; have v11 := hm_ti c23_11; rw [show (11 : Int32).toInt = 11 from by decide] at v11; have v12 := hm_ti c23_12; rw [show (12 : Int32).toInt = 12 from by decide] at v12; omega)) (by decide) ?_
                              refine lv_ldc (v := (-100000)) hx hb hown (X.use ck_X8_250 rfl) dX8_is_130 ?_
                              exact hQ _ _ _ _ _ () (fun _ => 0) hf rfl w dX8_is_132
  · have hf := pf_e c13 hf
    refine lv_aload_n hx hb dX8_is_16 rfl (lv_at hl 1 rfl) ?_
    refine lv_iload_n hx hb dX8_is_17 rfl (lv_at hl 2 rfl) ?_
    obtain ⟨r8, hc18, hf⟩ := pf_bi_0 hf
    refine hm_aft_i (ws' := fun _ => [oc8 h0 r_t t_base t_taped t_at t_faultPlace t_number t_newBits t_newTold t_newDoings t_newThings t_opened t_sum t_heldAll t_onPaper t_turned t_wasConverted t_lastBits t_lastSum t_lastHeld t_lastLeft t_lastCode t_writtenLong t_codeMany t_acts t_done0 t_stoppedAt, ic E (r_t 0) 800 t_all]) (hm_runV (rest := []) hx hb hml hown X hA Y w 0 (ci := 7) (T := TX8) (N := 55) rfl rfl mw_X8_get ml_X8_221 dX8_is_18 hm_ac0 [.int a1] rfl [0, 1] rfl rfl (ct_X8_get l E H.size h0 r_t t_base t_taped t_at t_faultPlace t_number t_newBits t_newTold t_newDoings t_newThings t_opened t_sum t_heldAll t_onPaper t_turned t_wasConverted t_lastBits t_lastSum t_lastHeld t_lastLeft t_lastCode t_writtenLong t_codeMany t_acts t_done0 t_stoppedAt t_all a1 (r8, ()) hc18) rfl hl.1 ⟨⟨rfl, rfl⟩, ⟨Nat.le_of_ble_eq_true rfl, Nat.le_of_ble_eq_true rfl⟩, ⟨Nat.le_of_ble_eq_true rfl, Nat.le_of_ble_eq_true rfl⟩, Nat.le_of_ble_eq_true rfl⟩) hA w [0, 1] [] [0, 1] rfl rfl (by decide) (fun _ => rfl) (fun _ H locs w => ?_)
    exact hQ _ _ _ _ _ () (fun _ => 0) hf rfl w dX8_is_21
set_option maxHeartbeats 8000000 in
set_option maxRecDepth 100000 in
theorem ct_X8_isBit (l : Launch) (E : hm_E) (sz : Nat) (h0 : Nat) (r_t : Nat → Nat) (t_base t_taped t_at t_faultPlace t_number t_newBits t_newTold t_newDoings t_newThings t_opened t_sum t_heldAll t_onPaper t_turned t_wasConverted t_lastBits t_lastSum t_lastHeld t_lastLeft t_lastCode t_writtenLong t_codeMany t_acts t_done0 t_stoppedAt : Int32) (t_all : Nat → Int32) (a1 : Int32) (R : Int32 × Unit) (hf : pf_X8_isBit a1 t_all t_base = some R) : hm_Mi l E yX8_isBit cX8_isBit 2 .boolean [] (hm_rr 1 22 0 0) [.ref h0, .int a1] sz [oc8 h0 r_t t_base t_taped t_at t_faultPlace t_number t_newBits t_newTold t_newDoings t_newThings t_opened t_sum t_heldAll t_onPaper t_turned t_wasConverted t_lastBits t_lastSum t_lastHeld t_lastLeft t_lastCode t_writtenLong t_codeMany t_acts t_done0 t_stoppedAt, ic E (r_t 0) 800 t_all] R.1 (fun _ => [oc8 h0 r_t t_base t_taped t_at t_faultPlace t_number t_newBits t_newTold t_newDoings t_newThings t_opened t_sum t_heldAll t_onPaper t_turned t_wasConverted t_lastBits t_lastSum t_lastHeld t_lastLeft t_lastCode t_writtenLong t_codeMany t_acts t_done0 t_stoppedAt, ic E (r_t 0) 800 t_all]) := by
  refine hm_ct_i R (fun u qs => [oc8 h0 r_t t_base t_taped t_at t_faultPlace t_number t_newBits t_newTold t_newDoings t_newThings t_opened t_sum t_heldAll t_onPaper t_turned t_wasConverted t_lastBits t_lastSum t_lastHeld t_lastLeft t_lastCode t_writtenLong t_codeMany t_acts t_done0 t_stoppedAt, ic E (r_t 0) 800 t_all]) (by decide) (Nat.le_of_ble_eq_true rfl) (Or.inr rfl) ?_
  intro p e s m args below meth c A Q ls H locs hx hb hml hown X hA Y hex w hl hQ
  have hl : lv_has ls 2 [(0, .ref h0), (1, .int a1)] := hl
  unfold pf_X8_isBit at hf
  refine lv_iload_n hx hb dX8_isBit_0 rfl (lv_at hl 1 rfl) ?_
  refine lv_iconst (v := 0) hx hb dX8_isBit_1 (by decide) ?_
  refine lv_aload_n hx hb dX8_isBit_2 rfl (lv_at hl 0 rfl) ?_
  refine lv_iconst (v := 0) hx hb dX8_isBit_3 (by decide) ?_
  obtain ⟨r1, hc4, hf⟩ := pf_bi_0 hf
  refine hm_aft_i (ws' := fun _ => [oc8 h0 r_t t_base t_taped t_at t_faultPlace t_number t_newBits t_newTold t_newDoings t_newThings t_opened t_sum t_heldAll t_onPaper t_turned t_wasConverted t_lastBits t_lastSum t_lastHeld t_lastLeft t_lastCode t_writtenLong t_codeMany t_acts t_done0 t_stoppedAt, ic E (r_t 0) 800 t_all]) (hm_runV (rest := [.int 0, .int a1]) hx hb hml hown X hA Y w 0 (ci := 7) (T := TX8) (N := 55) rfl rfl mw_X8_get ml_X8_221 dX8_isBit_4 hm_ac0 [.int 0] rfl [0, 1] rfl rfl (ct_X8_get l E H.size h0 r_t t_base t_taped t_at t_faultPlace t_number t_newBits t_newTold t_newDoings t_newThings t_opened t_sum t_heldAll t_onPaper t_turned t_wasConverted t_lastBits t_lastSum t_lastHeld t_lastLeft t_lastCode t_writtenLong t_codeMany t_acts t_done0 t_stoppedAt t_all 0 (r1, ()) hc4) rfl hl.1 ⟨⟨rfl, rfl⟩, ⟨Nat.le_of_ble_eq_true rfl, Nat.le_of_ble_eq_true rfl⟩, ⟨Nat.le_of_ble_eq_true rfl, Nat.le_of_ble_eq_true rfl⟩, Nat.le_of_ble_eq_true rfl⟩) hA w [0, 1] [] [0, 1] rfl rfl (by decide) (fun _ => rfl) (fun _ H locs w => ?_)
  refine lv_iconst (v := 1) hx hb dX8_isBit_7 (by decide) ?_
  refine lv_isub hx hb dX8_isBit_8 ?_
  obtain ⟨r2, hc9, hf⟩ := pf_bi_0 hf
  refine hm_aft_i (ws' := fun _ => [oc8 h0 r_t t_base t_taped t_at t_faultPlace t_number t_newBits t_newTold t_newDoings t_newThings t_opened t_sum t_heldAll t_onPaper t_turned t_wasConverted t_lastBits t_lastSum t_lastHeld t_lastLeft t_lastCode t_writtenLong t_codeMany t_acts t_done0 t_stoppedAt, ic E (r_t 0) 800 t_all]) (hm_runS (rest := []) hx hb hml hown X hA Y w mw_X8_isIn ml_X8_129 dX8_isBit_9 hm_ac0 [.int a1, .int 0, .int (r1 - 1)] rfl [] rfl rfl (ct_X8_isIn l E H.size a1 0 (r1 - 1) (r2, ()) hc9) rfl hl.1 ⟨⟨rfl, rfl⟩, ⟨Nat.le_of_ble_eq_true rfl, Nat.le_of_ble_eq_true rfl⟩, ⟨Nat.le_of_ble_eq_true rfl, Nat.le_of_ble_eq_true rfl⟩, Nat.le_of_ble_eq_true rfl⟩) hA w [] [0, 1] [0, 1] rfl rfl (by decide) (fun _ => rfl) (fun _ H locs w => ?_)
  obtain ⟨g12, hf⟩ := pf_ckZ hf
  exact hQ _ _ _ _ _ () (fun _ => 0) hf (hm_z g12) w dX8_isBit_12
set_option maxHeartbeats 8000000 in
set_option maxRecDepth 100000 in
theorem ct_X8_isShort (l : Launch) (E : hm_E) (sz : Nat) (h0 : Nat) (r_t : Nat → Nat) (t_base t_taped t_at t_faultPlace t_number t_newBits t_newTold t_newDoings t_newThings t_opened t_sum t_heldAll t_onPaper t_turned t_wasConverted t_lastBits t_lastSum t_lastHeld t_lastLeft t_lastCode t_writtenLong t_codeMany t_acts t_done0 t_stoppedAt : Int32) (t_all : Nat → Int32) (a1 : Int32) (R : Int32 × Unit) (hf : pf_X8_isShort a1 t_all t_base = some R) : hm_Mi l E yX8_isShort cX8_isShort 2 .boolean [] (hm_rr 3 66 0 0) [.ref h0, .int a1] sz [oc8 h0 r_t t_base t_taped t_at t_faultPlace t_number t_newBits t_newTold t_newDoings t_newThings t_opened t_sum t_heldAll t_onPaper t_turned t_wasConverted t_lastBits t_lastSum t_lastHeld t_lastLeft t_lastCode t_writtenLong t_codeMany t_acts t_done0 t_stoppedAt, ic E (r_t 0) 800 t_all] R.1 (fun _ => [oc8 h0 r_t t_base t_taped t_at t_faultPlace t_number t_newBits t_newTold t_newDoings t_newThings t_opened t_sum t_heldAll t_onPaper t_turned t_wasConverted t_lastBits t_lastSum t_lastHeld t_lastLeft t_lastCode t_writtenLong t_codeMany t_acts t_done0 t_stoppedAt, ic E (r_t 0) 800 t_all]) := by
  refine hm_ct_i R (fun u qs => [oc8 h0 r_t t_base t_taped t_at t_faultPlace t_number t_newBits t_newTold t_newDoings t_newThings t_opened t_sum t_heldAll t_onPaper t_turned t_wasConverted t_lastBits t_lastSum t_lastHeld t_lastLeft t_lastCode t_writtenLong t_codeMany t_acts t_done0 t_stoppedAt, ic E (r_t 0) 800 t_all]) (by decide) (Nat.le_of_ble_eq_true rfl) (Or.inr rfl) ?_
  intro p e s m args below meth c A Q ls H locs hx hb hml hown X hA Y hex w hl hQ
  have hl : lv_has ls 2 [(0, .ref h0), (1, .int a1)] := hl
  unfold pf_X8_isShort at hf
  refine lv_aload_n hx hb dX8_isShort_0 rfl (lv_at hl 0 rfl) ?_
  refine lv_iload_n hx hb dX8_isShort_1 rfl (lv_at hl 1 rfl) ?_
  obtain ⟨r1, hc2, hf⟩ := pf_bi_0 hf
  refine hm_aft_i (ws' := fun _ => [oc8 h0 r_t t_base t_taped t_at t_faultPlace t_number t_newBits t_newTold t_newDoings t_newThings t_opened t_sum t_heldAll t_onPaper t_turned t_wasConverted t_lastBits t_lastSum t_lastHeld t_lastLeft t_lastCode t_writtenLong t_codeMany t_acts t_done0 t_stoppedAt, ic E (r_t 0) 800 t_all]) (hm_runV (rest := []) hx hb hml hown X hA Y w 0 (ci := 7) (T := TX8) (N := 55) rfl rfl mw_X8_weight ml_X8_224 dX8_isShort_2 hm_ac0 [.int a1] rfl [0, 1] rfl rfl (ct_X8_weight l E H.size h0 r_t t_base t_taped t_at t_faultPlace t_number t_newBits t_newTold t_newDoings t_newThings t_opened t_sum t_heldAll t_onPaper t_turned t_wasConverted t_lastBits t_lastSum t_lastHeld t_lastLeft t_lastCode t_writtenLong t_codeMany t_acts t_done0 t_stoppedAt t_all a1 (r1, ()) hc2) rfl hl.1 ⟨⟨rfl, rfl⟩, ⟨Nat.le_of_ble_eq_true rfl, Nat.le_of_ble_eq_true rfl⟩, ⟨Nat.le_of_ble_eq_true rfl, Nat.le_of_ble_eq_true rfl⟩, Nat.le_of_ble_eq_true rfl⟩) hA w [0, 1] [] [0, 1] rfl rfl (by decide) (fun _ => rfl) (fun _ H locs w => ?_)
  refine lv_aload_n hx hb dX8_isShort_5 rfl (lv_at hl 0 rfl) ?_
  refine lv_iload_n hx hb dX8_isShort_6 rfl (lv_at hl 1 rfl) ?_
  obtain ⟨r2, hc7, hf⟩ := pf_bi_0 hf
  refine hm_aft_i (ws' := fun _ => [oc8 h0 r_t t_base t_taped t_at t_faultPlace t_number t_newBits t_newTold t_newDoings t_newThings t_opened t_sum t_heldAll t_onPaper t_turned t_wasConverted t_lastBits t_lastSum t_lastHeld t_lastLeft t_lastCode t_writtenLong t_codeMany t_acts t_done0 t_stoppedAt, ic E (r_t 0) 800 t_all]) (hm_runV (rest := [.int r1]) hx hb hml hown X hA Y w 0 (ci := 7) (T := TX8) (N := 55) rfl rfl mw_X8_reach ml_X8_247 dX8_isShort_7 hm_ac0 [.int a1] rfl [0, 1] rfl rfl (ct_X8_reach l E H.size h0 r_t t_base t_taped t_at t_faultPlace t_number t_newBits t_newTold t_newDoings t_newThings t_opened t_sum t_heldAll t_onPaper t_turned t_wasConverted t_lastBits t_lastSum t_lastHeld t_lastLeft t_lastCode t_writtenLong t_codeMany t_acts t_done0 t_stoppedAt t_all a1 (r2, ()) hc7) rfl hl.1 ⟨⟨rfl, rfl⟩, ⟨Nat.le_of_ble_eq_true rfl, Nat.le_of_ble_eq_true rfl⟩, ⟨Nat.le_of_ble_eq_true rfl, Nat.le_of_ble_eq_true rfl⟩, Nat.le_of_ble_eq_true rfl⟩) hA w [0, 1] [] [0, 1] rfl rfl (by decide) (fun _ => rfl) (fun _ H locs w => ?_)
  refine lv_icmp_le (tgt := 17) hx hb dX8_isShort_10 (by decide) (fun c10 => ?_) (fun c10 => ?_)
  · have hf := pf_t c10 hf
    refine lv_iconst (v := 0) hx hb dX8_isShort_17 (by decide) ?_
    exact hQ _ _ _ _ _ () (fun _ => 0) hf rfl w dX8_isShort_18
  · have hf := pf_e c10 hf
    refine lv_iconst (v := 1) hx hb dX8_isShort_13 (by decide) ?_
    refine lv_goto (tgt := 18) hx hb dX8_isShort_14 (by decide) ?_
    exact hQ _ _ _ _ _ () (fun _ => 0) hf rfl w dX8_isShort_18
set_option maxHeartbeats 8000000 in
set_option maxRecDepth 100000 in
theorem ct_X8_bit (l : Launch) (E : hm_E) (sz : Nat) (h0 : Nat) (r_t : Nat → Nat) (t_base t_taped t_at t_faultPlace t_number t_newBits t_newTold t_newDoings t_newThings t_opened t_sum t_heldAll t_onPaper t_turned t_wasConverted t_lastBits t_lastSum t_lastHeld t_lastLeft t_lastCode t_writtenLong t_codeMany t_acts t_done0 t_stoppedAt : Int32) (t_all : Nat → Int32) (a1 : Int32) (a2 : Int32) (R : Int32 × Unit) (hf : pf_X8_bit a1 a2 t_all t_base = some R) : hm_Mi l E yX8_bit cX8_bit 3 .int [] (hm_rr 4 87 0 0) [.ref h0, .int a1, .int a2] sz [oc8 h0 r_t t_base t_taped t_at t_faultPlace t_number t_newBits t_newTold t_newDoings t_newThings t_opened t_sum t_heldAll t_onPaper t_turned t_wasConverted t_lastBits t_lastSum t_lastHeld t_lastLeft t_lastCode t_writtenLong t_codeMany t_acts t_done0 t_stoppedAt, ic E (r_t 0) 800 t_all] R.1 (fun _ => [oc8 h0 r_t t_base t_taped t_at t_faultPlace t_number t_newBits t_newTold t_newDoings t_newThings t_opened t_sum t_heldAll t_onPaper t_turned t_wasConverted t_lastBits t_lastSum t_lastHeld t_lastLeft t_lastCode t_writtenLong t_codeMany t_acts t_done0 t_stoppedAt, ic E (r_t 0) 800 t_all]) := by
  refine hm_ct_i R (fun u qs => [oc8 h0 r_t t_base t_taped t_at t_faultPlace t_number t_newBits t_newTold t_newDoings t_newThings t_opened t_sum t_heldAll t_onPaper t_turned t_wasConverted t_lastBits t_lastSum t_lastHeld t_lastLeft t_lastCode t_writtenLong t_codeMany t_acts t_done0 t_stoppedAt, ic E (r_t 0) 800 t_all]) (by decide) (Nat.le_of_ble_eq_true rfl) (Or.inl rfl) ?_
  intro p e s m args below meth c A Q ls H locs hx hb hml hown X hA Y hex w hl hQ
  have hl : lv_has ls 3 [(0, .ref h0), (1, .int a1), (2, .int a2)] := hl
  unfold pf_X8_bit at hf
  refine lv_aload_n hx hb dX8_bit_0 rfl (lv_at hl 0 rfl) ?_
  refine lv_iload_n hx hb dX8_bit_1 rfl (lv_at hl 1 rfl) ?_
  obtain ⟨r1, hc2, hf⟩ := pf_bi_0 hf
  refine hm_aft_i (ws' := fun _ => [oc8 h0 r_t t_base t_taped t_at t_faultPlace t_number t_newBits t_newTold t_newDoings t_newThings t_opened t_sum t_heldAll t_onPaper t_turned t_wasConverted t_lastBits t_lastSum t_lastHeld t_lastLeft t_lastCode t_writtenLong t_codeMany t_acts t_done0 t_stoppedAt, ic E (r_t 0) 800 t_all]) (hm_runV (rest := []) hx hb hml hown X hA Y w 0 (ci := 7) (T := TX8) (N := 55) rfl rfl mw_X8_isBit ml_X8_251 dX8_bit_2 hm_ac0 [.int a1] rfl [0, 1] rfl rfl (ct_X8_isBit l E H.size h0 r_t t_base t_taped t_at t_faultPlace t_number t_newBits t_newTold t_newDoings t_newThings t_opened t_sum t_heldAll t_onPaper t_turned t_wasConverted t_lastBits t_lastSum t_lastHeld t_lastLeft t_lastCode t_writtenLong t_codeMany t_acts t_done0 t_stoppedAt t_all a1 (r1, ()) hc2) rfl hl.1 ⟨⟨rfl, rfl⟩, ⟨Nat.le_of_ble_eq_true rfl, Nat.le_of_ble_eq_true rfl⟩, ⟨Nat.le_of_ble_eq_true rfl, Nat.le_of_ble_eq_true rfl⟩, Nat.le_of_ble_eq_true rfl⟩) hA w [0, 1] [] [0, 1] rfl rfl (by decide) (fun _ => rfl) (fun _ H locs w => ?_)
  refine lv_if_ne (tgt := 11) hx hb dX8_bit_5 (by decide) (fun c5 => ?_) (fun c5 => ?_)
  · have hf := pf_e c5 hf
    refine lv_iload_n hx hb dX8_bit_11 rfl (lv_at hl 2 rfl) ?_
    by_cases c12_0 : a2 = 0
    · have hf := pf_t c12_0 hf
      refine lv_tableIn (off := 40) (tgt := 52) hx hb dX8_bit_12 (by rw [c12_0]; decide) (by rw [c12_0]; decide) (by rw [c12_0]; rfl) (by decide) ?_
      refine lv_aload_n hx hb dX8_bit_52 rfl (lv_at hl 0 rfl) ?_
      refine lv_bipush (v := 9) hx hb dX8_bit_53 (by decide) ?_
      refine lv_iload_n hx hb dX8_bit_55 rfl (lv_at hl 1 rfl) ?_
      refine lv_iadd hx hb dX8_bit_56 ?_
      obtain ⟨r2, hc57, hf⟩ := pf_bi_0 hf
      refine hm_aft_i (ws' := fun _ => [oc8 h0 r_t t_base t_taped t_at t_faultPlace t_number t_newBits t_newTold t_newDoings t_newThings t_opened t_sum t_heldAll t_onPaper t_turned t_wasConverted t_lastBits t_lastSum t_lastHeld t_lastLeft t_lastCode t_writtenLong t_codeMany t_acts t_done0 t_stoppedAt, ic E (r_t 0) 800 t_all]) (hm_runV (rest := []) hx hb hml hown X hA Y w 0 (ci := 7) (T := TX8) (N := 55) rfl rfl mw_X8_get ml_X8_221 dX8_bit_57 hm_ac0 [.int (9 + a1)] rfl [0, 1] rfl rfl (ct_X8_get l E H.size h0 r_t t_base t_taped t_at t_faultPlace t_number t_newBits t_newTold t_newDoings t_newThings t_opened t_sum t_heldAll t_onPaper t_turned t_wasConverted t_lastBits t_lastSum t_lastHeld t_lastLeft t_lastCode t_writtenLong t_codeMany t_acts t_done0 t_stoppedAt t_all (9 + a1) (r2, ()) hc57) rfl hl.1 ⟨⟨rfl, rfl⟩, ⟨Nat.le_of_ble_eq_true rfl, Nat.le_of_ble_eq_true rfl⟩, ⟨Nat.le_of_ble_eq_true rfl, Nat.le_of_ble_eq_true rfl⟩, Nat.le_of_ble_eq_true rfl⟩) hA w [0, 1] [] [0, 1] rfl rfl (by decide) (fun _ => rfl) (fun _ H locs w => ?_)
      exact hQ _ _ _ _ _ () (fun _ => 0) hf rfl w dX8_bit_60
    · have hf := pf_e c12_0 hf
      by_cases c12_1 : a2 = 1
      · have hf := pf_t c12_1 hf
        refine lv_tableIn (off := 49) (tgt := 61) hx hb dX8_bit_12 (by rw [c12_1]; decide) (by rw [c12_1]; decide) (by rw [c12_1]; rfl) (by decide) ?_
        refine lv_aload_n hx hb dX8_bit_61 rfl (lv_at hl 0 rfl) ?_
        refine lv_bipush (v := 21) hx hb dX8_bit_62 (by decide) ?_
        refine lv_iload_n hx hb dX8_bit_64 rfl (lv_at hl 1 rfl) ?_
        refine lv_iadd hx hb dX8_bit_65 ?_
        obtain ⟨r3, hc66, hf⟩ := pf_bi_0 hf
        refine hm_aft_i (ws' := fun _ => [oc8 h0 r_t t_base t_taped t_at t_faultPlace t_number t_newBits t_newTold t_newDoings t_newThings t_opened t_sum t_heldAll t_onPaper t_turned t_wasConverted t_lastBits t_lastSum t_lastHeld t_lastLeft t_lastCode t_writtenLong t_codeMany t_acts t_done0 t_stoppedAt, ic E (r_t 0) 800 t_all]) (hm_runV (rest := []) hx hb hml hown X hA Y w 0 (ci := 7) (T := TX8) (N := 55) rfl rfl mw_X8_get ml_X8_221 dX8_bit_66 hm_ac0 [.int (21 + a1)] rfl [0, 1] rfl rfl (ct_X8_get l E H.size h0 r_t t_base t_taped t_at t_faultPlace t_number t_newBits t_newTold t_newDoings t_newThings t_opened t_sum t_heldAll t_onPaper t_turned t_wasConverted t_lastBits t_lastSum t_lastHeld t_lastLeft t_lastCode t_writtenLong t_codeMany t_acts t_done0 t_stoppedAt t_all (21 + a1) (r3, ()) hc66) rfl hl.1 ⟨⟨rfl, rfl⟩, ⟨Nat.le_of_ble_eq_true rfl, Nat.le_of_ble_eq_true rfl⟩, ⟨Nat.le_of_ble_eq_true rfl, Nat.le_of_ble_eq_true rfl⟩, Nat.le_of_ble_eq_true rfl⟩) hA w [0, 1] [] [0, 1] rfl rfl (by decide) (fun _ => rfl) (fun _ H locs w => ?_)
        exact hQ _ _ _ _ _ () (fun _ => 0) hf rfl w dX8_bit_69
      · have hf := pf_e c12_1 hf
        by_cases c12_2 : a2 = 2
        · have hf := pf_t c12_2 hf
          refine lv_tableIn (off := 58) (tgt := 70) hx hb dX8_bit_12 (by rw [c12_2]; decide) (by rw [c12_2]; decide) (by rw [c12_2]; rfl) (by decide) ?_
          refine lv_aload_n hx hb dX8_bit_70 rfl (lv_at hl 0 rfl) ?_
          refine lv_bipush (v := 33) hx hb dX8_bit_71 (by decide) ?_
          refine lv_iload_n hx hb dX8_bit_73 rfl (lv_at hl 1 rfl) ?_
          refine lv_iadd hx hb dX8_bit_74 ?_
          obtain ⟨r4, hc75, hf⟩ := pf_bi_0 hf
          refine hm_aft_i (ws' := fun _ => [oc8 h0 r_t t_base t_taped t_at t_faultPlace t_number t_newBits t_newTold t_newDoings t_newThings t_opened t_sum t_heldAll t_onPaper t_turned t_wasConverted t_lastBits t_lastSum t_lastHeld t_lastLeft t_lastCode t_writtenLong t_codeMany t_acts t_done0 t_stoppedAt, ic E (r_t 0) 800 t_all]) (hm_runV (rest := []) hx hb hml hown X hA Y w 0 (ci := 7) (T := TX8) (N := 55) rfl rfl mw_X8_get ml_X8_221 dX8_bit_75 hm_ac0 [.int (33 + a1)] rfl [0, 1] rfl rfl (ct_X8_get l E H.size h0 r_t t_base t_taped t_at t_faultPlace t_number t_newBits t_newTold t_newDoings t_newThings t_opened t_sum t_heldAll t_onPaper t_turned t_wasConverted t_lastBits t_lastSum t_lastHeld t_lastLeft t_lastCode t_writtenLong t_codeMany t_acts t_done0 t_stoppedAt t_all (33 + a1) (r4, ()) hc75) rfl hl.1 ⟨⟨rfl, rfl⟩, ⟨Nat.le_of_ble_eq_true rfl, Nat.le_of_ble_eq_true rfl⟩, ⟨Nat.le_of_ble_eq_true rfl, Nat.le_of_ble_eq_true rfl⟩, Nat.le_of_ble_eq_true rfl⟩) hA w [0, 1] [] [0, 1] rfl rfl (by decide) (fun _ => rfl) (fun _ H locs w => ?_)
          exact hQ _ _ _ _ _ () (fun _ => 0) hf rfl w dX8_bit_78
        · have hf := pf_e c12_2 hf
          by_cases c12_3 : a2 = 3
          · have hf := pf_t c12_3 hf
            refine lv_tableIn (off := 67) (tgt := 79) hx hb dX8_bit_12 (by rw [c12_3]; decide) (by rw [c12_3]; decide) (by rw [c12_3]; rfl) (by decide) ?_
            refine lv_aload_n hx hb dX8_bit_79 rfl (lv_at hl 0 rfl) ?_
            refine lv_bipush (v := 45) hx hb dX8_bit_80 (by decide) ?_
            refine lv_iload_n hx hb dX8_bit_82 rfl (lv_at hl 1 rfl) ?_
            refine lv_iadd hx hb dX8_bit_83 ?_
            obtain ⟨r5, hc84, hf⟩ := pf_bi_0 hf
            refine hm_aft_i (ws' := fun _ => [oc8 h0 r_t t_base t_taped t_at t_faultPlace t_number t_newBits t_newTold t_newDoings t_newThings t_opened t_sum t_heldAll t_onPaper t_turned t_wasConverted t_lastBits t_lastSum t_lastHeld t_lastLeft t_lastCode t_writtenLong t_codeMany t_acts t_done0 t_stoppedAt, ic E (r_t 0) 800 t_all]) (hm_runV (rest := []) hx hb hml hown X hA Y w 0 (ci := 7) (T := TX8) (N := 55) rfl rfl mw_X8_get ml_X8_221 dX8_bit_84 hm_ac0 [.int (45 + a1)] rfl [0, 1] rfl rfl (ct_X8_get l E H.size h0 r_t t_base t_taped t_at t_faultPlace t_number t_newBits t_newTold t_newDoings t_newThings t_opened t_sum t_heldAll t_onPaper t_turned t_wasConverted t_lastBits t_lastSum t_lastHeld t_lastLeft t_lastCode t_writtenLong t_codeMany t_acts t_done0 t_stoppedAt t_all (45 + a1) (r5, ()) hc84) rfl hl.1 ⟨⟨rfl, rfl⟩, ⟨Nat.le_of_ble_eq_true rfl, Nat.le_of_ble_eq_true rfl⟩, ⟨Nat.le_of_ble_eq_true rfl, Nat.le_of_ble_eq_true rfl⟩, Nat.le_of_ble_eq_true rfl⟩) hA w [0, 1] [] [0, 1] rfl rfl (by decide) (fun _ => rfl) (fun _ H locs w => ?_)
            exact hQ _ _ _ _ _ () (fun _ => 0) hf rfl w dX8_bit_87
          · have hf := pf_e c12_3 hf
            by_cases c12_4 : a2 = 4
            · have hf := pf_t c12_4 hf
              refine lv_tableIn (off := 76) (tgt := 88) hx hb dX8_bit_12 (by rw [c12_4]; decide) (by rw [c12_4]; decide) (by rw [c12_4]; rfl) (by decide) ?_
              refine lv_aload_n hx hb dX8_bit_88 rfl (lv_at hl 0 rfl) ?_
              refine lv_iload_n hx hb dX8_bit_89 rfl (lv_at hl 1 rfl) ?_
              obtain ⟨r6, hc90, hf⟩ := pf_bi_0 hf
              refine hm_aft_i (ws' := fun _ => [oc8 h0 r_t t_base t_taped t_at t_faultPlace t_number t_newBits t_newTold t_newDoings t_newThings t_opened t_sum t_heldAll t_onPaper t_turned t_wasConverted t_lastBits t_lastSum t_lastHeld t_lastLeft t_lastCode t_writtenLong t_codeMany t_acts t_done0 t_stoppedAt, ic E (r_t 0) 800 t_all]) (hm_runV (rest := []) hx hb hml hown X hA Y w 0 (ci := 7) (T := TX8) (N := 55) rfl rfl mw_X8_weight ml_X8_224 dX8_bit_90 hm_ac0 [.int a1] rfl [0, 1] rfl rfl (ct_X8_weight l E H.size h0 r_t t_base t_taped t_at t_faultPlace t_number t_newBits t_newTold t_newDoings t_newThings t_opened t_sum t_heldAll t_onPaper t_turned t_wasConverted t_lastBits t_lastSum t_lastHeld t_lastLeft t_lastCode t_writtenLong t_codeMany t_acts t_done0 t_stoppedAt t_all a1 (r6, ()) hc90) rfl hl.1 ⟨⟨rfl, rfl⟩, ⟨Nat.le_of_ble_eq_true rfl, Nat.le_of_ble_eq_true rfl⟩, ⟨Nat.le_of_ble_eq_true rfl, Nat.le_of_ble_eq_true rfl⟩, Nat.le_of_ble_eq_true rfl⟩) hA w [0, 1] [] [0, 1] rfl rfl (by decide) (fun _ => rfl) (fun _ H locs w => ?_)
              exact hQ _ _ _ _ _ () (fun _ => 0) hf rfl w dX8_bit_93
            · have hf := pf_e c12_4 hf
              by_cases c12_5 : a2 = 5
              · have hf := pf_t c12_5 hf
                refine lv_tableIn (off := 82) (tgt := 94) hx hb dX8_bit_12 (by rw [c12_5]; decide) (by rw [c12_5]; decide) (by rw [c12_5]; rfl) (by decide) ?_
                refine lv_aload_n hx hb dX8_bit_94 rfl (lv_at hl 0 rfl) ?_
                refine lv_iload_n hx hb dX8_bit_95 rfl (lv_at hl 1 rfl) ?_
                obtain ⟨r7, hc96, hf⟩ := pf_bi_0 hf
                refine hm_aft_i (ws' := fun _ => [oc8 h0 r_t t_base t_taped t_at t_faultPlace t_number t_newBits t_newTold t_newDoings t_newThings t_opened t_sum t_heldAll t_onPaper t_turned t_wasConverted t_lastBits t_lastSum t_lastHeld t_lastLeft t_lastCode t_writtenLong t_codeMany t_acts t_done0 t_stoppedAt, ic E (r_t 0) 800 t_all]) (hm_runV (rest := []) hx hb hml hown X hA Y w 0 (ci := 7) (T := TX8) (N := 55) rfl rfl mw_X8_isShort ml_X8_254 dX8_bit_96 hm_ac0 [.int a1] rfl [0, 1] rfl rfl (ct_X8_isShort l E H.size h0 r_t t_base t_taped t_at t_faultPlace t_number t_newBits t_newTold t_newDoings t_newThings t_opened t_sum t_heldAll t_onPaper t_turned t_wasConverted t_lastBits t_lastSum t_lastHeld t_lastLeft t_lastCode t_writtenLong t_codeMany t_acts t_done0 t_stoppedAt t_all a1 (r7, ()) hc96) rfl hl.1 ⟨⟨rfl, rfl⟩, ⟨Nat.le_of_ble_eq_true rfl, Nat.le_of_ble_eq_true rfl⟩, ⟨Nat.le_of_ble_eq_true rfl, Nat.le_of_ble_eq_true rfl⟩, Nat.le_of_ble_eq_true rfl⟩) hA w [0, 1] [] [0, 1] rfl rfl (by decide) (fun _ => rfl) (fun _ H locs w => ?_)
                refine lv_if_eq (tgt := 106) hx hb dX8_bit_99 (by decide) (fun c99 => ?_) (fun c99 => ?_)
                · have hf := pf_t c99 hf
                  refine lv_iconst (v := 0) hx hb dX8_bit_106 (by decide) ?_
                  exact hQ _ _ _ _ _ () (fun _ => 0) hf rfl w dX8_bit_107
                · have hf := pf_e c99 hf
                  refine lv_iconst (v := 1) hx hb dX8_bit_102 (by decide) ?_
                  refine lv_goto (tgt := 107) hx hb dX8_bit_103 (by decide) ?_
                  exact hQ _ _ _ _ _ () (fun _ => 0) hf rfl w dX8_bit_107
              · have hf := pf_e c12_5 hf
                refine lv_tableOut (tgt := 108) hx hb dX8_bit_12 (hm_out (fun k h1 h2 => by have u := And.intro h1 h2; have v0 := hm_ti c12_0; rw [show (0 : Int32).toInt = 0 from by decide] at v0; have v1 := hm_ti c12_1; rw [show (1 : Int32).toInt = 1 from by decide] at v1; have v2 := hm_ti c12_2; rw [show (2 : Int32).toInt = 2 from by decide] at v2; have v3 := hm_ti c12_3; rw [show (3 : Int32).toInt = 3 from by decide] at v3; have v4 := hm_ti c12_4; rw [show (4 : Int32).toInt = 4 from by decide] at v4; have v5 := hm_ti c12_5; rw [show (5 : Int32).toInt = 5 from by decide] at v5; omega)) (by decide) ?_
                refine lv_ldc (v := (-100000)) hx hb hown (X.use ck_X8_250 rfl) dX8_bit_108 ?_
                exact hQ _ _ _ _ _ () (fun _ => 0) hf rfl w dX8_bit_110
  · have hf := pf_t c5 hf
    refine lv_ldc (v := (-100000)) hx hb hown (X.use ck_X8_250 rfl) dX8_bit_8 ?_
    exact hQ _ _ _ _ _ () (fun _ => 0) hf rfl w dX8_bit_10
set_option maxHeartbeats 8000000 in
set_option maxRecDepth 100000 in
theorem ct_X8_off (l : Launch) (E : hm_E) (sz : Nat) (h0 : Nat) (r_t : Nat → Nat) (t_base t_taped t_at t_faultPlace t_number t_newBits t_newTold t_newDoings t_newThings t_opened t_sum t_heldAll t_onPaper t_turned t_wasConverted t_lastBits t_lastSum t_lastHeld t_lastLeft t_lastCode t_writtenLong t_codeMany t_acts t_done0 t_stoppedAt : Int32) (t_all : Nat → Int32) (a1 : Int32) (a2 : Int32) (R : Int32 × (Nat → Int32)) (hf : pf_X8_off a1 a2 t_all t_base = some R) : hm_Mi l E yX8_off cX8_off 3 .boolean [] (hm_rr 2 43 0 0) [.ref h0, .int a1, .int a2] sz [oc8 h0 r_t t_base t_taped t_at t_faultPlace t_number t_newBits t_newTold t_newDoings t_newThings t_opened t_sum t_heldAll t_onPaper t_turned t_wasConverted t_lastBits t_lastSum t_lastHeld t_lastLeft t_lastCode t_writtenLong t_codeMany t_acts t_done0 t_stoppedAt, ic E (r_t 0) 800 t_all] R.1 (fun _ => [oc8 h0 r_t t_base t_taped t_at t_faultPlace t_number t_newBits t_newTold t_newDoings t_newThings t_opened t_sum t_heldAll t_onPaper t_turned t_wasConverted t_lastBits t_lastSum t_lastHeld t_lastLeft t_lastCode t_writtenLong t_codeMany t_acts t_done0 t_stoppedAt, ic E (r_t 0) 800 R.2]) := by
  refine hm_ct_i R (fun u qs => [oc8 h0 r_t t_base t_taped t_at t_faultPlace t_number t_newBits t_newTold t_newDoings t_newThings t_opened t_sum t_heldAll t_onPaper t_turned t_wasConverted t_lastBits t_lastSum t_lastHeld t_lastLeft t_lastCode t_writtenLong t_codeMany t_acts t_done0 t_stoppedAt, ic E (r_t 0) 800 u]) (by decide) (Nat.le_of_ble_eq_true rfl) (Or.inr rfl) ?_
  intro p e s m args below meth c A Q ls H locs hx hb hml hown X hA Y hex w hl hQ
  have hl : lv_has ls 3 [(0, .ref h0), (1, .int a1), (2, .int a2)] := hl
  unfold pf_X8_off at hf
  refine lv_aload_n hx hb dX8_off_0 rfl (lv_at hl 0 rfl) ?_
  refine lv_iload_n hx hb dX8_off_1 rfl (lv_at hl 1 rfl) ?_
  obtain ⟨r1, hc2, hf⟩ := pf_bi_0 hf
  refine hm_aft_i (ws' := fun _ => [oc8 h0 r_t t_base t_taped t_at t_faultPlace t_number t_newBits t_newTold t_newDoings t_newThings t_opened t_sum t_heldAll t_onPaper t_turned t_wasConverted t_lastBits t_lastSum t_lastHeld t_lastLeft t_lastCode t_writtenLong t_codeMany t_acts t_done0 t_stoppedAt, ic E (r_t 0) 800 t_all]) (hm_runV (rest := []) hx hb hml hown X hA Y w 0 (ci := 7) (T := TX8) (N := 55) rfl rfl mw_X8_isBit ml_X8_251 dX8_off_2 hm_ac0 [.int a1] rfl [0, 1] rfl rfl (ct_X8_isBit l E H.size h0 r_t t_base t_taped t_at t_faultPlace t_number t_newBits t_newTold t_newDoings t_newThings t_opened t_sum t_heldAll t_onPaper t_turned t_wasConverted t_lastBits t_lastSum t_lastHeld t_lastLeft t_lastCode t_writtenLong t_codeMany t_acts t_done0 t_stoppedAt t_all a1 (r1, ()) hc2) rfl hl.1 ⟨⟨rfl, rfl⟩, ⟨Nat.le_of_ble_eq_true rfl, Nat.le_of_ble_eq_true rfl⟩, ⟨Nat.le_of_ble_eq_true rfl, Nat.le_of_ble_eq_true rfl⟩, Nat.le_of_ble_eq_true rfl⟩) hA w [0, 1] [] [0, 1] rfl rfl (by decide) (fun _ => rfl) (fun _ H locs w => ?_)
  refine lv_if_eq (tgt := 33) hx hb dX8_off_5 (by decide) (fun c5 => ?_) (fun c5 => ?_)
  · have hf := pf_t c5 hf
    refine lv_iconst (v := 0) hx hb dX8_off_33 (by decide) ?_
    exact hQ _ _ _ _ _ t_all (fun _ => 0) hf rfl w dX8_off_34
  · have hf := pf_e c5 hf
    refine lv_iload_n hx hb dX8_off_8 rfl (lv_at hl 2 rfl) ?_
    refine lv_bipush (v := (-99)) hx hb dX8_off_9 (by decide) ?_
    refine lv_bipush (v := 99) hx hb dX8_off_11 (by decide) ?_
    obtain ⟨r2, hc13, hf⟩ := pf_bi_0 hf
    refine hm_aft_i (ws' := fun _ => [oc8 h0 r_t t_base t_taped t_at t_faultPlace t_number t_newBits t_newTold t_newDoings t_newThings t_opened t_sum t_heldAll t_onPaper t_turned t_wasConverted t_lastBits t_lastSum t_lastHeld t_lastLeft t_lastCode t_writtenLong t_codeMany t_acts t_done0 t_stoppedAt, ic E (r_t 0) 800 t_all]) (hm_runS (rest := []) hx hb hml hown X hA Y w mw_X8_isIn ml_X8_129 dX8_off_13 hm_ac0 [.int a2, .int (-99), .int 99] rfl [] rfl rfl (ct_X8_isIn l E H.size a2 (-99) 99 (r2, ()) hc13) rfl hl.1 ⟨⟨rfl, rfl⟩, ⟨Nat.le_of_ble_eq_true rfl, Nat.le_of_ble_eq_true rfl⟩, ⟨Nat.le_of_ble_eq_true rfl, Nat.le_of_ble_eq_true rfl⟩, Nat.le_of_ble_eq_true rfl⟩) hA w [] [0, 1] [0, 1] rfl rfl (by decide) (fun _ => rfl) (fun _ H locs w => ?_)
    refine lv_if_eq (tgt := 33) hx hb dX8_off_16 (by decide) (fun c16 => ?_) (fun c16 => ?_)
    · have hf := pf_t c16 hf
      refine lv_iconst (v := 0) hx hb dX8_off_33 (by decide) ?_
      exact hQ _ _ _ _ _ t_all (fun _ => 0) hf rfl w dX8_off_34
    · have hf := pf_e c16 hf
      refine lv_aload_n hx hb dX8_off_19 rfl (lv_at hl 0 rfl) ?_
      refine lv_bipush (v := 9) hx hb dX8_off_20 (by decide) ?_
      refine lv_iload_n hx hb dX8_off_22 rfl (lv_at hl 1 rfl) ?_
      refine lv_iadd hx hb dX8_off_23 ?_
      obtain ⟨r3, hc24, hf⟩ := pf_bi_0 hf
      refine hm_aft_i (ws' := fun _ => [oc8 h0 r_t t_base t_taped t_at t_faultPlace t_number t_newBits t_newTold t_newDoings t_newThings t_opened t_sum t_heldAll t_onPaper t_turned t_wasConverted t_lastBits t_lastSum t_lastHeld t_lastLeft t_lastCode t_writtenLong t_codeMany t_acts t_done0 t_stoppedAt, ic E (r_t 0) 800 t_all]) (hm_runV (rest := []) hx hb hml hown X hA Y w 0 (ci := 7) (T := TX8) (N := 55) rfl rfl mw_X8_get ml_X8_221 dX8_off_24 hm_ac0 [.int (9 + a1)] rfl [0, 1] rfl rfl (ct_X8_get l E H.size h0 r_t t_base t_taped t_at t_faultPlace t_number t_newBits t_newTold t_newDoings t_newThings t_opened t_sum t_heldAll t_onPaper t_turned t_wasConverted t_lastBits t_lastSum t_lastHeld t_lastLeft t_lastCode t_writtenLong t_codeMany t_acts t_done0 t_stoppedAt t_all (9 + a1) (r3, ()) hc24) rfl hl.1 ⟨⟨rfl, rfl⟩, ⟨Nat.le_of_ble_eq_true rfl, Nat.le_of_ble_eq_true rfl⟩, ⟨Nat.le_of_ble_eq_true rfl, Nat.le_of_ble_eq_true rfl⟩, Nat.le_of_ble_eq_true rfl⟩) hA w [0, 1] [] [0, 1] rfl rfl (by decide) (fun _ => rfl) (fun _ H locs w => ?_)
      refine lv_iload_n hx hb dX8_off_27 rfl (lv_at hl 2 rfl) ?_
      refine lv_iadd hx hb dX8_off_28 ?_
      refine lv_iconst (v := 1) hx hb dX8_off_29 (by decide) ?_
      refine lv_icmp_ge (tgt := 35) hx hb dX8_off_30 (by decide) (fun c30 => ?_) (fun c30 => ?_)
      · have hf := pf_t c30 hf
        refine lv_aload_n hx hb dX8_off_35 rfl (lv_at hl 0 rfl) ?_
        refine lv_bipush (v := 21) hx hb dX8_off_36 (by decide) ?_
        refine lv_iload_n hx hb dX8_off_38 rfl (lv_at hl 1 rfl) ?_
        refine lv_iadd hx hb dX8_off_39 ?_
        refine lv_iload_n hx hb dX8_off_40 rfl (lv_at hl 2 rfl) ?_
        obtain ⟨f4, hc41, hf⟩ := pf_bv_1 hf
        refine hm_aft_v (ws' := fun _ => [oc8 h0 r_t t_base t_taped t_at t_faultPlace t_number t_newBits t_newTold t_newDoings t_newThings t_opened t_sum t_heldAll t_onPaper t_turned t_wasConverted t_lastBits t_lastSum t_lastHeld t_lastLeft t_lastCode t_writtenLong t_codeMany t_acts t_done0 t_stoppedAt, ic E (r_t 0) 800 f4]) (hm_runV (rest := []) hx hb hml hown X hA Y w 0 (ci := 7) (T := TX8) (N := 55) rfl rfl mw_X8_put ml_X8_119 dX8_off_41 hm_ac0 [.int (21 + a1), .int a2] rfl [0, 1] rfl rfl (ct_X8_put l E H.size h0 r_t t_base t_taped t_at t_faultPlace t_number t_newBits t_newTold t_newDoings t_newThings t_opened t_sum t_heldAll t_onPaper t_turned t_wasConverted t_lastBits t_lastSum t_lastHeld t_lastLeft t_lastCode t_writtenLong t_codeMany t_acts t_done0 t_stoppedAt t_all (21 + a1) a2 f4 hc41) rfl hl.1 ⟨⟨rfl, rfl⟩, ⟨Nat.le_of_ble_eq_true rfl, Nat.le_of_ble_eq_true rfl⟩, ⟨Nat.le_of_ble_eq_true rfl, Nat.le_of_ble_eq_true rfl⟩, Nat.le_of_ble_eq_true rfl⟩) hA w [0, 1] [] [0, 1] rfl rfl (by decide) (fun _ => rfl) (fun _ H locs w => ?_)
        refine lv_iconst (v := 1) hx hb dX8_off_44 (by decide) ?_
        exact hQ _ _ _ _ _ f4 (fun _ => 0) hf rfl w dX8_off_45
      · have hf := pf_e c30 hf
        refine lv_iconst (v := 0) hx hb dX8_off_33 (by decide) ?_
        exact hQ _ _ _ _ _ t_all (fun _ => 0) hf rfl w dX8_off_34
set_option maxHeartbeats 8000000 in
set_option maxRecDepth 100000 in
theorem ct_X8_set (l : Launch) (E : hm_E) (sz : Nat) (h0 : Nat) (r_t : Nat → Nat) (t_base t_taped t_at t_faultPlace t_number t_newBits t_newTold t_newDoings t_newThings t_opened t_sum t_heldAll t_onPaper t_turned t_wasConverted t_lastBits t_lastSum t_lastHeld t_lastLeft t_lastCode t_writtenLong t_codeMany t_acts t_done0 t_stoppedAt : Int32) (t_all : Nat → Int32) (t_lows : Nat → Int32) (t_tops : Nat → Int32) (a1 : Int32) (a2 : Int32) (R : Int32 × (Nat → Int32)) (hf : pf_X8_set a1 a2 t_all t_base t_lows t_tops = some R) : hm_Mi l E yX8_set cX8_set 3 .boolean [] (hm_rr 1 22 0 0) [.ref h0, .int a1, .int a2] sz [oc8 h0 r_t t_base t_taped t_at t_faultPlace t_number t_newBits t_newTold t_newDoings t_newThings t_opened t_sum t_heldAll t_onPaper t_turned t_wasConverted t_lastBits t_lastSum t_lastHeld t_lastLeft t_lastCode t_writtenLong t_codeMany t_acts t_done0 t_stoppedAt, ic E (r_t 0) 800 t_all, ic E (r_t 7) 5 t_lows, ic E (r_t 8) 5 t_tops] R.1 (fun _ => [oc8 h0 r_t t_base t_taped t_at t_faultPlace t_number t_newBits t_newTold t_newDoings t_newThings t_opened t_sum t_heldAll t_onPaper t_turned t_wasConverted t_lastBits t_lastSum t_lastHeld t_lastLeft t_lastCode t_writtenLong t_codeMany t_acts t_done0 t_stoppedAt, ic E (r_t 0) 800 R.2, ic E (r_t 7) 5 t_lows, ic E (r_t 8) 5 t_tops]) := by
  refine hm_ct_i R (fun u qs => [oc8 h0 r_t t_base t_taped t_at t_faultPlace t_number t_newBits t_newTold t_newDoings t_newThings t_opened t_sum t_heldAll t_onPaper t_turned t_wasConverted t_lastBits t_lastSum t_lastHeld t_lastLeft t_lastCode t_writtenLong t_codeMany t_acts t_done0 t_stoppedAt, ic E (r_t 0) 800 u, ic E (r_t 7) 5 t_lows, ic E (r_t 8) 5 t_tops]) (by decide) (Nat.le_of_ble_eq_true rfl) (Or.inr rfl) ?_
  intro p e s m args below meth c A Q ls H locs hx hb hml hown X hA Y hex w hl hQ
  have hl : lv_has ls 3 [(0, .ref h0), (1, .int a1), (2, .int a2)] := hl
  unfold pf_X8_set at hf
  refine lv_iload_n hx hb dX8_set_0 rfl (lv_at hl 1 rfl) ?_
  refine lv_iconst (v := 0) hx hb dX8_set_1 (by decide) ?_
  refine lv_iconst (v := 4) hx hb dX8_set_2 (by decide) ?_
  obtain ⟨r1, hc3, hf⟩ := pf_bi_0 hf
  refine hm_aft_i (ws' := fun _ => [oc8 h0 r_t t_base t_taped t_at t_faultPlace t_number t_newBits t_newTold t_newDoings t_newThings t_opened t_sum t_heldAll t_onPaper t_turned t_wasConverted t_lastBits t_lastSum t_lastHeld t_lastLeft t_lastCode t_writtenLong t_codeMany t_acts t_done0 t_stoppedAt, ic E (r_t 0) 800 t_all, ic E (r_t 7) 5 t_lows, ic E (r_t 8) 5 t_tops]) (hm_runS (rest := []) hx hb hml hown X hA Y w mw_X8_isIn ml_X8_129 dX8_set_3 hm_ac0 [.int a1, .int 0, .int 4] rfl [] rfl rfl (ct_X8_isIn l E H.size a1 0 4 (r1, ()) hc3) rfl hl.1 ⟨⟨rfl, rfl⟩, ⟨Nat.le_of_ble_eq_true rfl, Nat.le_of_ble_eq_true rfl⟩, ⟨Nat.le_of_ble_eq_true rfl, Nat.le_of_ble_eq_true rfl⟩, Nat.le_of_ble_eq_true rfl⟩) hA w [] [0, 1, 2, 3] [0, 1, 2, 3] rfl rfl (by decide) (fun _ => rfl) (fun _ H locs w => ?_)
  refine lv_if_eq (tgt := 28) hx hb dX8_set_6 (by decide) (fun c6 => ?_) (fun c6 => ?_)
  · have hf := pf_t c6 hf
    refine lv_iconst (v := 0) hx hb dX8_set_28 (by decide) ?_
    exact hQ _ _ _ _ _ t_all (fun _ => 0) hf rfl w dX8_set_29
  · have hf := pf_e c6 hf
    refine lv_iload_n hx hb dX8_set_9 rfl (lv_at hl 2 rfl) ?_
    refine lv_aload_n hx hb dX8_set_10 rfl (lv_at hl 0 rfl) ?_
    refine hm_get cb_X8 hx hb hown X w 0 7 fl_X8_28 dX8_set_11 rfl (by decide) rfl ?_
    refine lv_iload_n hx hb dX8_set_14 rfl (lv_at hl 1 rfl) ?_
    obtain ⟨g15, hf⟩ := pf_ckI hf
    refine hm_iald hx hb X w 2 dX8_set_15 rfl g15 ?_
    refine lv_aload_n hx hb dX8_set_16 rfl (lv_at hl 0 rfl) ?_
    refine hm_get cb_X8 hx hb hown X w 0 8 fl_X8_31 dX8_set_17 rfl (by decide) rfl ?_
    refine lv_iload_n hx hb dX8_set_20 rfl (lv_at hl 1 rfl) ?_
    obtain ⟨g21, hf⟩ := pf_ckI hf
    refine hm_iald hx hb X w 3 dX8_set_21 rfl g21 ?_
    obtain ⟨r2, hc22, hf⟩ := pf_bi_0 hf
    refine hm_aft_i (ws' := fun _ => [oc8 h0 r_t t_base t_taped t_at t_faultPlace t_number t_newBits t_newTold t_newDoings t_newThings t_opened t_sum t_heldAll t_onPaper t_turned t_wasConverted t_lastBits t_lastSum t_lastHeld t_lastLeft t_lastCode t_writtenLong t_codeMany t_acts t_done0 t_stoppedAt, ic E (r_t 0) 800 t_all, ic E (r_t 7) 5 t_lows, ic E (r_t 8) 5 t_tops]) (hm_runS (rest := []) hx hb hml hown X hA Y w mw_X8_isIn ml_X8_129 dX8_set_22 hm_ac0 [.int a2, .int (t_lows a1.toNatClampNeg), .int (t_tops a1.toNatClampNeg)] rfl [] rfl rfl (ct_X8_isIn l E H.size a2 (t_lows a1.toNatClampNeg) (t_tops a1.toNatClampNeg) (r2, ()) hc22) rfl hl.1 ⟨⟨rfl, rfl⟩, ⟨Nat.le_of_ble_eq_true rfl, Nat.le_of_ble_eq_true rfl⟩, ⟨Nat.le_of_ble_eq_true rfl, Nat.le_of_ble_eq_true rfl⟩, Nat.le_of_ble_eq_true rfl⟩) hA w [] [0, 1, 2, 3] [0, 1, 2, 3] rfl rfl (by decide) (fun _ => rfl) (fun _ H locs w => ?_)
    refine lv_if_ne (tgt := 30) hx hb dX8_set_25 (by decide) (fun c25 => ?_) (fun c25 => ?_)
    · have hf := pf_e c25 hf
      refine lv_aload_n hx hb dX8_set_30 rfl (lv_at hl 0 rfl) ?_
      refine lv_iconst (v := 1) hx hb dX8_set_31 (by decide) ?_
      refine lv_iload_n hx hb dX8_set_32 rfl (lv_at hl 1 rfl) ?_
      refine lv_iadd hx hb dX8_set_33 ?_
      refine lv_iload_n hx hb dX8_set_34 rfl (lv_at hl 2 rfl) ?_
      obtain ⟨f3, hc35, hf⟩ := pf_bv_1 hf
      refine hm_aft_v (ws' := fun _ => [oc8 h0 r_t t_base t_taped t_at t_faultPlace t_number t_newBits t_newTold t_newDoings t_newThings t_opened t_sum t_heldAll t_onPaper t_turned t_wasConverted t_lastBits t_lastSum t_lastHeld t_lastLeft t_lastCode t_writtenLong t_codeMany t_acts t_done0 t_stoppedAt, ic E (r_t 0) 800 f3, ic E (r_t 7) 5 t_lows, ic E (r_t 8) 5 t_tops]) (hm_runV (rest := []) hx hb hml hown X hA Y w 0 (ci := 7) (T := TX8) (N := 55) rfl rfl mw_X8_put ml_X8_119 dX8_set_35 hm_ac0 [.int (1 + a1), .int a2] rfl [0, 1] rfl rfl (ct_X8_put l E H.size h0 r_t t_base t_taped t_at t_faultPlace t_number t_newBits t_newTold t_newDoings t_newThings t_opened t_sum t_heldAll t_onPaper t_turned t_wasConverted t_lastBits t_lastSum t_lastHeld t_lastLeft t_lastCode t_writtenLong t_codeMany t_acts t_done0 t_stoppedAt t_all (1 + a1) a2 f3 hc35) rfl hl.1 ⟨⟨rfl, rfl⟩, ⟨Nat.le_of_ble_eq_true rfl, Nat.le_of_ble_eq_true rfl⟩, ⟨Nat.le_of_ble_eq_true rfl, Nat.le_of_ble_eq_true rfl⟩, Nat.le_of_ble_eq_true rfl⟩) hA w [0, 1] [2, 3] [2, 3, 0, 1] rfl rfl (by decide) (fun _ => rfl) (fun _ H locs w => ?_)
      refine lv_iconst (v := 1) hx hb dX8_set_38 (by decide) ?_
      exact hQ _ _ _ _ _ f3 (fun _ => 0) hf rfl w dX8_set_39
    · have hf := pf_t c25 hf
      refine lv_iconst (v := 0) hx hb dX8_set_28 (by decide) ?_
      exact hQ _ _ _ _ _ t_all (fun _ => 0) hf rfl w dX8_set_29
set_option maxHeartbeats 8000000 in
set_option maxRecDepth 100000 in
theorem ct_X8_stick (l : Launch) (E : hm_E) (sz : Nat) (h0 : Nat) (r_t : Nat → Nat) (t_base t_taped t_at t_faultPlace t_number t_newBits t_newTold t_newDoings t_newThings t_opened t_sum t_heldAll t_onPaper t_turned t_wasConverted t_lastBits t_lastSum t_lastHeld t_lastLeft t_lastCode t_writtenLong t_codeMany t_acts t_done0 t_stoppedAt : Int32) (t_all : Nat → Int32) (a1 : Int32) (a2 : Int32) (R : Int32 × (Nat → Int32)) (hf : pf_X8_stick a1 a2 t_all t_base = some R) : hm_Mi l E yX8_stick cX8_stick 3 .boolean [] (hm_rr 2 43 0 0) [.ref h0, .int a1, .int a2] sz [oc8 h0 r_t t_base t_taped t_at t_faultPlace t_number t_newBits t_newTold t_newDoings t_newThings t_opened t_sum t_heldAll t_onPaper t_turned t_wasConverted t_lastBits t_lastSum t_lastHeld t_lastLeft t_lastCode t_writtenLong t_codeMany t_acts t_done0 t_stoppedAt, ic E (r_t 0) 800 t_all] R.1 (fun _ => [oc8 h0 r_t t_base t_taped t_at t_faultPlace t_number t_newBits t_newTold t_newDoings t_newThings t_opened t_sum t_heldAll t_onPaper t_turned t_wasConverted t_lastBits t_lastSum t_lastHeld t_lastLeft t_lastCode t_writtenLong t_codeMany t_acts t_done0 t_stoppedAt, ic E (r_t 0) 800 R.2]) := by
  refine hm_ct_i R (fun u qs => [oc8 h0 r_t t_base t_taped t_at t_faultPlace t_number t_newBits t_newTold t_newDoings t_newThings t_opened t_sum t_heldAll t_onPaper t_turned t_wasConverted t_lastBits t_lastSum t_lastHeld t_lastLeft t_lastCode t_writtenLong t_codeMany t_acts t_done0 t_stoppedAt, ic E (r_t 0) 800 u]) (by decide) (Nat.le_of_ble_eq_true rfl) (Or.inr rfl) ?_
  intro p e s m args below meth c A Q ls H locs hx hb hml hown X hA Y hex w hl hQ
  have hl : lv_has ls 3 [(0, .ref h0), (1, .int a1), (2, .int a2)] := hl
  unfold pf_X8_stick at hf
  refine lv_aload_n hx hb dX8_stick_0 rfl (lv_at hl 0 rfl) ?_
  refine lv_iload_n hx hb dX8_stick_1 rfl (lv_at hl 1 rfl) ?_
  obtain ⟨r1, hc2, hf⟩ := pf_bi_0 hf
  refine hm_aft_i (ws' := fun _ => [oc8 h0 r_t t_base t_taped t_at t_faultPlace t_number t_newBits t_newTold t_newDoings t_newThings t_opened t_sum t_heldAll t_onPaper t_turned t_wasConverted t_lastBits t_lastSum t_lastHeld t_lastLeft t_lastCode t_writtenLong t_codeMany t_acts t_done0 t_stoppedAt, ic E (r_t 0) 800 t_all]) (hm_runV (rest := []) hx hb hml hown X hA Y w 0 (ci := 7) (T := TX8) (N := 55) rfl rfl mw_X8_isBit ml_X8_251 dX8_stick_2 hm_ac0 [.int a1] rfl [0, 1] rfl rfl (ct_X8_isBit l E H.size h0 r_t t_base t_taped t_at t_faultPlace t_number t_newBits t_newTold t_newDoings t_newThings t_opened t_sum t_heldAll t_onPaper t_turned t_wasConverted t_lastBits t_lastSum t_lastHeld t_lastLeft t_lastCode t_writtenLong t_codeMany t_acts t_done0 t_stoppedAt t_all a1 (r1, ()) hc2) rfl hl.1 ⟨⟨rfl, rfl⟩, ⟨Nat.le_of_ble_eq_true rfl, Nat.le_of_ble_eq_true rfl⟩, ⟨Nat.le_of_ble_eq_true rfl, Nat.le_of_ble_eq_true rfl⟩, Nat.le_of_ble_eq_true rfl⟩) hA w [0, 1] [] [0, 1] rfl rfl (by decide) (fun _ => rfl) (fun _ H locs w => ?_)
  refine lv_if_eq (tgt := 17) hx hb dX8_stick_5 (by decide) (fun c5 => ?_) (fun c5 => ?_)
  · have hf := pf_t c5 hf
    refine lv_iconst (v := 0) hx hb dX8_stick_17 (by decide) ?_
    exact hQ _ _ _ _ _ t_all (fun _ => 0) hf rfl w dX8_stick_18
  · have hf := pf_e c5 hf
    refine lv_iload_n hx hb dX8_stick_8 rfl (lv_at hl 2 rfl) ?_
    refine lv_iconst (v := (-1)) hx hb dX8_stick_9 (by decide) ?_
    refine lv_iconst (v := 1) hx hb dX8_stick_10 (by decide) ?_
    obtain ⟨r2, hc11, hf⟩ := pf_bi_0 hf
    refine hm_aft_i (ws' := fun _ => [oc8 h0 r_t t_base t_taped t_at t_faultPlace t_number t_newBits t_newTold t_newDoings t_newThings t_opened t_sum t_heldAll t_onPaper t_turned t_wasConverted t_lastBits t_lastSum t_lastHeld t_lastLeft t_lastCode t_writtenLong t_codeMany t_acts t_done0 t_stoppedAt, ic E (r_t 0) 800 t_all]) (hm_runS (rest := []) hx hb hml hown X hA Y w mw_X8_isIn ml_X8_129 dX8_stick_11 hm_ac0 [.int a2, .int (-1), .int 1] rfl [] rfl rfl (ct_X8_isIn l E H.size a2 (-1) 1 (r2, ()) hc11) rfl hl.1 ⟨⟨rfl, rfl⟩, ⟨Nat.le_of_ble_eq_true rfl, Nat.le_of_ble_eq_true rfl⟩, ⟨Nat.le_of_ble_eq_true rfl, Nat.le_of_ble_eq_true rfl⟩, Nat.le_of_ble_eq_true rfl⟩) hA w [] [0, 1] [0, 1] rfl rfl (by decide) (fun _ => rfl) (fun _ H locs w => ?_)
    refine lv_if_ne (tgt := 19) hx hb dX8_stick_14 (by decide) (fun c14 => ?_) (fun c14 => ?_)
    · have hf := pf_e c14 hf
      refine lv_aload_n hx hb dX8_stick_19 rfl (lv_at hl 0 rfl) ?_
      refine lv_bipush (v := 45) hx hb dX8_stick_20 (by decide) ?_
      refine lv_iload_n hx hb dX8_stick_22 rfl (lv_at hl 1 rfl) ?_
      refine lv_iadd hx hb dX8_stick_23 ?_
      refine lv_iload_n hx hb dX8_stick_24 rfl (lv_at hl 2 rfl) ?_
      obtain ⟨f3, hc25, hf⟩ := pf_bv_1 hf
      refine hm_aft_v (ws' := fun _ => [oc8 h0 r_t t_base t_taped t_at t_faultPlace t_number t_newBits t_newTold t_newDoings t_newThings t_opened t_sum t_heldAll t_onPaper t_turned t_wasConverted t_lastBits t_lastSum t_lastHeld t_lastLeft t_lastCode t_writtenLong t_codeMany t_acts t_done0 t_stoppedAt, ic E (r_t 0) 800 f3]) (hm_runV (rest := []) hx hb hml hown X hA Y w 0 (ci := 7) (T := TX8) (N := 55) rfl rfl mw_X8_put ml_X8_119 dX8_stick_25 hm_ac0 [.int (45 + a1), .int a2] rfl [0, 1] rfl rfl (ct_X8_put l E H.size h0 r_t t_base t_taped t_at t_faultPlace t_number t_newBits t_newTold t_newDoings t_newThings t_opened t_sum t_heldAll t_onPaper t_turned t_wasConverted t_lastBits t_lastSum t_lastHeld t_lastLeft t_lastCode t_writtenLong t_codeMany t_acts t_done0 t_stoppedAt t_all (45 + a1) a2 f3 hc25) rfl hl.1 ⟨⟨rfl, rfl⟩, ⟨Nat.le_of_ble_eq_true rfl, Nat.le_of_ble_eq_true rfl⟩, ⟨Nat.le_of_ble_eq_true rfl, Nat.le_of_ble_eq_true rfl⟩, Nat.le_of_ble_eq_true rfl⟩) hA w [0, 1] [] [0, 1] rfl rfl (by decide) (fun _ => rfl) (fun _ H locs w => ?_)
      refine lv_iconst (v := 1) hx hb dX8_stick_28 (by decide) ?_
      exact hQ _ _ _ _ _ f3 (fun _ => 0) hf rfl w dX8_stick_29
    · have hf := pf_t c14 hf
      refine lv_iconst (v := 0) hx hb dX8_stick_17 (by decide) ?_
      exact hQ _ _ _ _ _ t_all (fun _ => 0) hf rfl w dX8_stick_18
set_option maxHeartbeats 8000000 in
set_option maxRecDepth 100000 in
theorem ct_X8_seed (l : Launch) (E : hm_E) (sz : Nat) (h0 : Nat) (r_t : Nat → Nat) (t_base t_taped t_at t_faultPlace t_number t_newBits t_newTold t_newDoings t_newThings t_opened t_sum t_heldAll t_onPaper t_turned t_wasConverted t_lastBits t_lastSum t_lastHeld t_lastLeft t_lastCode t_writtenLong t_codeMany t_acts t_done0 t_stoppedAt : Int32) (t_all : Nat → Int32) (a1 : Int32) (R : Int32 × (Nat → Int32)) (hf : pf_X8_seed a1 t_all t_base = some R) : hm_Mi l E yX8_seed cX8_seed 3 .int [] (hm_rr 1 22 0 0) [.ref h0, .int a1] sz [oc8 h0 r_t t_base t_taped t_at t_faultPlace t_number t_newBits t_newTold t_newDoings t_newThings t_opened t_sum t_heldAll t_onPaper t_turned t_wasConverted t_lastBits t_lastSum t_lastHeld t_lastLeft t_lastCode t_writtenLong t_codeMany t_acts t_done0 t_stoppedAt, ic E (r_t 0) 800 t_all] R.1 (fun _ => [oc8 h0 r_t t_base t_taped t_at t_faultPlace t_number t_newBits t_newTold t_newDoings t_newThings t_opened t_sum t_heldAll t_onPaper t_turned t_wasConverted t_lastBits t_lastSum t_lastHeld t_lastLeft t_lastCode t_writtenLong t_codeMany t_acts t_done0 t_stoppedAt, ic E (r_t 0) 800 R.2]) := by
  refine hm_ct_i R (fun u qs => [oc8 h0 r_t t_base t_taped t_at t_faultPlace t_number t_newBits t_newTold t_newDoings t_newThings t_opened t_sum t_heldAll t_onPaper t_turned t_wasConverted t_lastBits t_lastSum t_lastHeld t_lastLeft t_lastCode t_writtenLong t_codeMany t_acts t_done0 t_stoppedAt, ic E (r_t 0) 800 u]) (by decide) (Nat.le_of_ble_eq_true rfl) (Or.inl rfl) ?_
  intro p e s m args below meth c A Q ls H locs hx hb hml hown X hA Y hex w hl hQ
  have hl : lv_has ls 3 [(0, .ref h0), (1, .int a1)] := hl
  unfold pf_X8_seed at hf
  refine lv_aload_n hx hb dX8_seed_0 rfl (lv_at hl 0 rfl) ?_
  refine lv_bipush (v := 6) hx hb dX8_seed_1 (by decide) ?_
  obtain ⟨r1, hc3, hf⟩ := pf_bi_0 hf
  refine hm_aft_i (ws' := fun _ => [oc8 h0 r_t t_base t_taped t_at t_faultPlace t_number t_newBits t_newTold t_newDoings t_newThings t_opened t_sum t_heldAll t_onPaper t_turned t_wasConverted t_lastBits t_lastSum t_lastHeld t_lastLeft t_lastCode t_writtenLong t_codeMany t_acts t_done0 t_stoppedAt, ic E (r_t 0) 800 t_all]) (hm_runV (rest := []) hx hb hml hown X hA Y w 0 (ci := 7) (T := TX8) (N := 55) rfl rfl mw_X8_get ml_X8_221 dX8_seed_3 hm_ac0 [.int 6] rfl [0, 1] rfl rfl (ct_X8_get l E H.size h0 r_t t_base t_taped t_at t_faultPlace t_number t_newBits t_newTold t_newDoings t_newThings t_opened t_sum t_heldAll t_onPaper t_turned t_wasConverted t_lastBits t_lastSum t_lastHeld t_lastLeft t_lastCode t_writtenLong t_codeMany t_acts t_done0 t_stoppedAt t_all 6 (r1, ()) hc3) rfl hl.1 ⟨⟨rfl, rfl⟩, ⟨Nat.le_of_ble_eq_true rfl, Nat.le_of_ble_eq_true rfl⟩, ⟨Nat.le_of_ble_eq_true rfl, Nat.le_of_ble_eq_true rfl⟩, Nat.le_of_ble_eq_true rfl⟩) hA w [0, 1] [] [0, 1] rfl rfl (by decide) (fun _ => rfl) (fun _ H locs w => ?_)
  refine lv_istore_n (lv' := [(2, .int r1), (0, .ref h0), (1, .int a1)]) hx hb dX8_seed_6 rfl hl (by decide) rfl (fun ls hl => ?_)
  refine lv_aload_n hx hb dX8_seed_7 rfl (lv_at hl 1 rfl) ?_
  refine lv_bipush (v := 6) hx hb dX8_seed_8 (by decide) ?_
  refine lv_iload_n hx hb dX8_seed_10 rfl (lv_at hl 2 rfl) ?_
  obtain ⟨f2, hc11, hf⟩ := pf_bv_1 hf
  refine hm_aft_v (ws' := fun _ => [oc8 h0 r_t t_base t_taped t_at t_faultPlace t_number t_newBits t_newTold t_newDoings t_newThings t_opened t_sum t_heldAll t_onPaper t_turned t_wasConverted t_lastBits t_lastSum t_lastHeld t_lastLeft t_lastCode t_writtenLong t_codeMany t_acts t_done0 t_stoppedAt, ic E (r_t 0) 800 f2]) (hm_runV (rest := []) hx hb hml hown X hA Y w 0 (ci := 7) (T := TX8) (N := 55) rfl rfl mw_X8_put ml_X8_119 dX8_seed_11 hm_ac0 [.int 6, .int a1] rfl [0, 1] rfl rfl (ct_X8_put l E H.size h0 r_t t_base t_taped t_at t_faultPlace t_number t_newBits t_newTold t_newDoings t_newThings t_opened t_sum t_heldAll t_onPaper t_turned t_wasConverted t_lastBits t_lastSum t_lastHeld t_lastLeft t_lastCode t_writtenLong t_codeMany t_acts t_done0 t_stoppedAt t_all 6 a1 f2 hc11) rfl hl.1 ⟨⟨rfl, rfl⟩, ⟨Nat.le_of_ble_eq_true rfl, Nat.le_of_ble_eq_true rfl⟩, ⟨Nat.le_of_ble_eq_true rfl, Nat.le_of_ble_eq_true rfl⟩, Nat.le_of_ble_eq_true rfl⟩) hA w [0, 1] [] [0, 1] rfl rfl (by decide) (fun _ => rfl) (fun _ H locs w => ?_)
  refine lv_iload_n hx hb dX8_seed_14 rfl (lv_at hl 0 rfl) ?_
  exact hQ _ _ _ _ _ f2 (fun _ => 0) hf rfl w dX8_seed_15
set_option maxHeartbeats 8000000 in
set_option maxRecDepth 100000 in
theorem ct_X8_draw (l : Launch) (E : hm_E) (sz : Nat) (h0 : Nat) (r_t : Nat → Nat) (t_base t_taped t_at t_faultPlace t_number t_newBits t_newTold t_newDoings t_newThings t_opened t_sum t_heldAll t_onPaper t_turned t_wasConverted t_lastBits t_lastSum t_lastHeld t_lastLeft t_lastCode t_writtenLong t_codeMany t_acts t_done0 t_stoppedAt : Int32) (t_all : Nat → Int32) (a1 : Int32) (R : Int32 × (Nat → Int32)) (hf : pf_X8_draw a1 t_all t_base = some R) : hm_Mi l E yX8_draw cX8_draw 2 .int [] (hm_rr 1 22 0 0) [.ref h0, .int a1] sz [oc8 h0 r_t t_base t_taped t_at t_faultPlace t_number t_newBits t_newTold t_newDoings t_newThings t_opened t_sum t_heldAll t_onPaper t_turned t_wasConverted t_lastBits t_lastSum t_lastHeld t_lastLeft t_lastCode t_writtenLong t_codeMany t_acts t_done0 t_stoppedAt, ic E (r_t 0) 800 t_all] R.1 (fun _ => [oc8 h0 r_t t_base t_taped t_at t_faultPlace t_number t_newBits t_newTold t_newDoings t_newThings t_opened t_sum t_heldAll t_onPaper t_turned t_wasConverted t_lastBits t_lastSum t_lastHeld t_lastLeft t_lastCode t_writtenLong t_codeMany t_acts t_done0 t_stoppedAt, ic E (r_t 0) 800 R.2]) := by
  refine hm_ct_i R (fun u qs => [oc8 h0 r_t t_base t_taped t_at t_faultPlace t_number t_newBits t_newTold t_newDoings t_newThings t_opened t_sum t_heldAll t_onPaper t_turned t_wasConverted t_lastBits t_lastSum t_lastHeld t_lastLeft t_lastCode t_writtenLong t_codeMany t_acts t_done0 t_stoppedAt, ic E (r_t 0) 800 u]) (by decide) (Nat.le_of_ble_eq_true rfl) (Or.inl rfl) ?_
  intro p e s m args below meth c A Q ls H locs hx hb hml hown X hA Y hex w hl hQ
  have hl : lv_has ls 2 [(0, .ref h0), (1, .int a1)] := hl
  unfold pf_X8_draw at hf
  refine lv_aload_n hx hb dX8_draw_0 rfl (lv_at hl 0 rfl) ?_
  refine lv_bipush (v := 6) hx hb dX8_draw_1 (by decide) ?_
  refine lv_aload_n hx hb dX8_draw_3 rfl (lv_at hl 0 rfl) ?_
  refine lv_bipush (v := 6) hx hb dX8_draw_4 (by decide) ?_
  obtain ⟨r1, hc6, hf⟩ := pf_bi_0 hf
  refine hm_aft_i (ws' := fun _ => [oc8 h0 r_t t_base t_taped t_at t_faultPlace t_number t_newBits t_newTold t_newDoings t_newThings t_opened t_sum t_heldAll t_onPaper t_turned t_wasConverted t_lastBits t_lastSum t_lastHeld t_lastLeft t_lastCode t_writtenLong t_codeMany t_acts t_done0 t_stoppedAt, ic E (r_t 0) 800 t_all]) (hm_runV (rest := [.int 6, .ref h0]) hx hb hml hown X hA Y w 0 (ci := 7) (T := TX8) (N := 55) rfl rfl mw_X8_get ml_X8_221 dX8_draw_6 hm_ac0 [.int 6] rfl [0, 1] rfl rfl (ct_X8_get l E H.size h0 r_t t_base t_taped t_at t_faultPlace t_number t_newBits t_newTold t_newDoings t_newThings t_opened t_sum t_heldAll t_onPaper t_turned t_wasConverted t_lastBits t_lastSum t_lastHeld t_lastLeft t_lastCode t_writtenLong t_codeMany t_acts t_done0 t_stoppedAt t_all 6 (r1, ()) hc6) rfl hl.1 ⟨⟨rfl, rfl⟩, ⟨Nat.le_of_ble_eq_true rfl, Nat.le_of_ble_eq_true rfl⟩, ⟨Nat.le_of_ble_eq_true rfl, Nat.le_of_ble_eq_true rfl⟩, Nat.le_of_ble_eq_true rfl⟩) hA w [0, 1] [] [0, 1] rfl rfl (by decide) (fun _ => rfl) (fun _ H locs w => ?_)
  refine lv_ldcw (v := 1103515245) hx hb hown (X.use ck_X8_257 rfl) dX8_draw_9 ?_
  refine lv_imul hx hb dX8_draw_12 ?_
  refine lv_sipush (v := 12345) hx hb dX8_draw_13 (by decide) ?_
  refine lv_iadd hx hb dX8_draw_16 ?_
  obtain ⟨f2, hc17, hf⟩ := pf_bv_1 hf
  refine hm_aft_v (ws' := fun _ => [oc8 h0 r_t t_base t_taped t_at t_faultPlace t_number t_newBits t_newTold t_newDoings t_newThings t_opened t_sum t_heldAll t_onPaper t_turned t_wasConverted t_lastBits t_lastSum t_lastHeld t_lastLeft t_lastCode t_writtenLong t_codeMany t_acts t_done0 t_stoppedAt, ic E (r_t 0) 800 f2]) (hm_runV (rest := []) hx hb hml hown X hA Y w 0 (ci := 7) (T := TX8) (N := 55) rfl rfl mw_X8_put ml_X8_119 dX8_draw_17 hm_ac0 [.int 6, .int ((r1 * 1103515245) + 12345)] rfl [0, 1] rfl rfl (ct_X8_put l E H.size h0 r_t t_base t_taped t_at t_faultPlace t_number t_newBits t_newTold t_newDoings t_newThings t_opened t_sum t_heldAll t_onPaper t_turned t_wasConverted t_lastBits t_lastSum t_lastHeld t_lastLeft t_lastCode t_writtenLong t_codeMany t_acts t_done0 t_stoppedAt t_all 6 ((r1 * 1103515245) + 12345) f2 hc17) rfl hl.1 ⟨⟨rfl, rfl⟩, ⟨Nat.le_of_ble_eq_true rfl, Nat.le_of_ble_eq_true rfl⟩, ⟨Nat.le_of_ble_eq_true rfl, Nat.le_of_ble_eq_true rfl⟩, Nat.le_of_ble_eq_true rfl⟩) hA w [0, 1] [] [0, 1] rfl rfl (by decide) (fun _ => rfl) (fun _ H locs w => ?_)
  refine lv_aload_n hx hb dX8_draw_20 rfl (lv_at hl 0 rfl) ?_
  refine lv_bipush (v := 6) hx hb dX8_draw_21 (by decide) ?_
  obtain ⟨r3, hc23, hf⟩ := pf_bi_0 hf
  refine hm_aft_i (ws' := fun _ => [oc8 h0 r_t t_base t_taped t_at t_faultPlace t_number t_newBits t_newTold t_newDoings t_newThings t_opened t_sum t_heldAll t_onPaper t_turned t_wasConverted t_lastBits t_lastSum t_lastHeld t_lastLeft t_lastCode t_writtenLong t_codeMany t_acts t_done0 t_stoppedAt, ic E (r_t 0) 800 f2]) (hm_runV (rest := []) hx hb hml hown X hA Y w 0 (ci := 7) (T := TX8) (N := 55) rfl rfl mw_X8_get ml_X8_221 dX8_draw_23 hm_ac0 [.int 6] rfl [0, 1] rfl rfl (ct_X8_get l E H.size h0 r_t t_base t_taped t_at t_faultPlace t_number t_newBits t_newTold t_newDoings t_newThings t_opened t_sum t_heldAll t_onPaper t_turned t_wasConverted t_lastBits t_lastSum t_lastHeld t_lastLeft t_lastCode t_writtenLong t_codeMany t_acts t_done0 t_stoppedAt f2 6 (r3, ()) hc23) rfl hl.1 ⟨⟨rfl, rfl⟩, ⟨Nat.le_of_ble_eq_true rfl, Nat.le_of_ble_eq_true rfl⟩, ⟨Nat.le_of_ble_eq_true rfl, Nat.le_of_ble_eq_true rfl⟩, Nat.le_of_ble_eq_true rfl⟩) hA w [0, 1] [] [0, 1] rfl rfl (by decide) (fun _ => rfl) (fun _ H locs w => ?_)
  refine lv_bipush (v := 16) hx hb dX8_draw_26 (by decide) ?_
  refine lv_iushr (v := ((r3).toUInt32 >>> ((16 : Int32).toUInt32 &&& Int32.toUInt32 31)).toInt32) hx hb dX8_draw_28 rfl ?_
  refine lv_iload_n hx hb dX8_draw_29 rfl (lv_at hl 1 rfl) ?_
  obtain ⟨g30, hf⟩ := pf_ckD hf
  refine lv_irem hx hb dX8_draw_30 g30 ?_
  exact hQ _ _ _ _ _ f2 (fun _ => 0) hf rfl w dX8_draw_31
set_option maxHeartbeats 8000000 in
set_option maxRecDepth 100000 in
theorem ct_X8_decide (l : Launch) (E : hm_E) (sz : Nat) (h0 : Nat) (r_t : Nat → Nat) (t_base t_taped t_at t_faultPlace t_number t_newBits t_newTold t_newDoings t_newThings t_opened t_sum t_heldAll t_onPaper t_turned t_wasConverted t_lastBits t_lastSum t_lastHeld t_lastLeft t_lastCode t_writtenLong t_codeMany t_acts t_done0 t_stoppedAt : Int32) (t_all : Nat → Int32) (t_wasLate : Nat → Int32) (a1 : Int32) (a2 : Int32) (R : Int32 × (Nat → Int32) × (Nat → Int32)) (hf : pf_X8_decide a1 a2 t_all t_base t_wasLate t_onPaper t_turned = some R) : hm_Mi l E yX8_decide cX8_decide 5 .int [] (hm_rr 2 43 0 0) [.ref h0, .int a1, .int a2] sz [oc8 h0 r_t t_base t_taped t_at t_faultPlace t_number t_newBits t_newTold t_newDoings t_newThings t_opened t_sum t_heldAll t_onPaper t_turned t_wasConverted t_lastBits t_lastSum t_lastHeld t_lastLeft t_lastCode t_writtenLong t_codeMany t_acts t_done0 t_stoppedAt, ic E (r_t 0) 800 t_all, zc E (r_t 26) 12 t_wasLate] R.1 (fun _ => [oc8 h0 r_t t_base t_taped t_at t_faultPlace t_number t_newBits t_newTold t_newDoings t_newThings t_opened t_sum t_heldAll t_onPaper t_turned t_wasConverted t_lastBits t_lastSum t_lastHeld t_lastLeft t_lastCode t_writtenLong t_codeMany t_acts t_done0 t_stoppedAt, ic E (r_t 0) 800 (R.2.1), zc E (r_t 26) 12 (R.2.2)]) := by
  refine hm_ct_i R (fun u qs => [oc8 h0 r_t t_base t_taped t_at t_faultPlace t_number t_newBits t_newTold t_newDoings t_newThings t_opened t_sum t_heldAll t_onPaper t_turned t_wasConverted t_lastBits t_lastSum t_lastHeld t_lastLeft t_lastCode t_writtenLong t_codeMany t_acts t_done0 t_stoppedAt, ic E (r_t 0) 800 (u.1), zc E (r_t 26) 12 (u.2)]) (by decide) (Nat.le_of_ble_eq_true rfl) (Or.inl rfl) ?_
  intro p e s m args below meth c A Q ls H locs hx hb hml hown X hA Y hex w hl hQ
  have hl : lv_has ls 5 [(0, .ref h0), (1, .int a1), (2, .int a2)] := hl
  unfold pf_X8_decide at hf
  refine lv_aload_n hx hb dX8_decide_0 rfl (lv_at hl 0 rfl) ?_
  refine lv_iconst (v := 2) hx hb dX8_decide_1 (by decide) ?_
  obtain ⟨r1, hc2, hf⟩ := pf_bi_0 hf
  refine hm_aft_i (ws' := fun _ => [oc8 h0 r_t t_base t_taped t_at t_faultPlace t_number t_newBits t_newTold t_newDoings t_newThings t_opened t_sum t_heldAll t_onPaper t_turned t_wasConverted t_lastBits t_lastSum t_lastHeld t_lastLeft t_lastCode t_writtenLong t_codeMany t_acts t_done0 t_stoppedAt, ic E (r_t 0) 800 t_all, zc E (r_t 26) 12 t_wasLate]) (hm_runV (rest := []) hx hb hml hown X hA Y w 0 (ci := 7) (T := TX8) (N := 55) rfl rfl mw_X8_get ml_X8_221 dX8_decide_2 hm_ac0 [.int 2] rfl [0, 1] rfl rfl (ct_X8_get l E H.size h0 r_t t_base t_taped t_at t_faultPlace t_number t_newBits t_newTold t_newDoings t_newThings t_opened t_sum t_heldAll t_onPaper t_turned t_wasConverted t_lastBits t_lastSum t_lastHeld t_lastLeft t_lastCode t_writtenLong t_codeMany t_acts t_done0 t_stoppedAt t_all 2 (r1, ()) hc2) rfl hl.1 ⟨⟨rfl, rfl⟩, ⟨Nat.le_of_ble_eq_true rfl, Nat.le_of_ble_eq_true rfl⟩, ⟨Nat.le_of_ble_eq_true rfl, Nat.le_of_ble_eq_true rfl⟩, Nat.le_of_ble_eq_true rfl⟩) hA w [0, 1] [2] [1, 2, 0] rfl rfl (by decide) (fun _ => rfl) (fun _ H locs w => ?_)
  refine lv_istore_n (lv' := [(3, .int r1), (0, .ref h0), (1, .int a1), (2, .int a2)]) hx hb dX8_decide_5 rfl hl (by decide) rfl (fun ls hl => ?_)
  refine lv_aload_n hx hb dX8_decide_6 rfl (lv_at hl 1 rfl) ?_
  refine hm_get cb_X8 hx hb hown X w 0 26 fl_X8_70 dX8_decide_7 rfl (by decide) rfl ?_
  refine lv_iload_n hx hb dX8_decide_10 rfl (lv_at hl 2 rfl) ?_
  refine lv_aload_n hx hb dX8_decide_11 rfl (lv_at hl 1 rfl) ?_
  refine lv_bipush (v := 45) hx hb dX8_decide_12 (by decide) ?_
  refine lv_iload_n hx hb dX8_decide_14 rfl (lv_at hl 2 rfl) ?_
  refine lv_iadd hx hb dX8_decide_15 ?_
  obtain ⟨r2, hc16, hf⟩ := pf_bi_0 hf
  refine hm_aft_i (ws' := fun _ => [oc8 h0 r_t t_base t_taped t_at t_faultPlace t_number t_newBits t_newTold t_newDoings t_newThings t_opened t_sum t_heldAll t_onPaper t_turned t_wasConverted t_lastBits t_lastSum t_lastHeld t_lastLeft t_lastCode t_writtenLong t_codeMany t_acts t_done0 t_stoppedAt, ic E (r_t 0) 800 t_all, zc E (r_t 26) 12 t_wasLate]) (hm_runV (rest := [.int a1, .ref (r_t 26)]) hx hb hml hown X hA Y w 0 (ci := 7) (T := TX8) (N := 55) rfl rfl mw_X8_get ml_X8_221 dX8_decide_16 hm_ac0 [.int (45 + a1)] rfl [0, 1] rfl rfl (ct_X8_get l E H.size h0 r_t t_base t_taped t_at t_faultPlace t_number t_newBits t_newTold t_newDoings t_newThings t_opened t_sum t_heldAll t_onPaper t_turned t_wasConverted t_lastBits t_lastSum t_lastHeld t_lastLeft t_lastCode t_writtenLong t_codeMany t_acts t_done0 t_stoppedAt t_all (45 + a1) (r2, ()) hc16) rfl hl.1 ⟨⟨rfl, rfl⟩, ⟨Nat.le_of_ble_eq_true rfl, Nat.le_of_ble_eq_true rfl⟩, ⟨Nat.le_of_ble_eq_true rfl, Nat.le_of_ble_eq_true rfl⟩, Nat.le_of_ble_eq_true rfl⟩) hA w [0, 1] [2] [1, 2, 0] rfl rfl (by decide) (fun _ => rfl) (fun _ H locs w => ?_)
  refine lv_iconst (v := (-1)) hx hb dX8_decide_19 (by decide) ?_
  obtain ⟨J39, hJ39, hf⟩ := pf_jn hf
  have kJ39 : ∀ (x3 : Int32) (H : Heap) (locs : List Loc) (ls : Array Slot), J39 x3 = some R → hm_W E A s.heap [oc8 h0 r_t t_base t_taped t_at t_faultPlace t_number t_newBits t_newTold t_newDoings t_newThings t_opened t_sum t_heldAll t_onPaper t_turned t_wasConverted t_lastBits t_lastSum t_lastHeld t_lastLeft t_lastCode t_writtenLong t_codeMany t_acts t_done0 t_stoppedAt, ic E (r_t 0) 800 t_all, zc E (r_t 26) 12 t_wasLate] H locs → lv_has ls 5 [(0, .ref h0), (1, .int a1), (2, .int a2)] → W p l e (hm_rr 2 43 0 0) s m args below meth c H locs 0 0 Q (F0 m 39 ls [.int x3, .int a1, .ref (r_t 26)]) := by
    intro x3 H locs ls hf w hl
    have hf := pf_j1 hJ39 hf
    obtain ⟨g39, hf⟩ := pf_ckI hf
    refine hm_zast (ws' := [oc8 h0 r_t t_base t_taped t_at t_faultPlace t_number t_newBits t_newTold t_newDoings t_newThings t_opened t_sum t_heldAll t_onPaper t_turned t_wasConverted t_lastBits t_lastSum t_lastHeld t_lastLeft t_lastCode t_writtenLong t_codeMany t_acts t_done0 t_stoppedAt, ic E (r_t 0) 800 t_all, zc E (r_t 26) 12 (upd t_wasLate a1.toNatClampNeg (vp_nar .boolean x3))]) hx hb X w 2 dX8_decide_39 rfl g39 rfl (fun H locs w => ?_)
    refine lv_iload_n hx hb dX8_decide_40 rfl (lv_at hl 2 rfl) ?_
    obtain ⟨J49, hJ49, hf⟩ := pf_jn hf
    have kJ49 : ∀ (x4 : Int32) (H : Heap) (locs : List Loc) (ls : Array Slot), J49 x4 = some R → hm_W E A s.heap [oc8 h0 r_t t_base t_taped t_at t_faultPlace t_number t_newBits t_newTold t_newDoings t_newThings t_opened t_sum t_heldAll t_onPaper t_turned t_wasConverted t_lastBits t_lastSum t_lastHeld t_lastLeft t_lastCode t_writtenLong t_codeMany t_acts t_done0 t_stoppedAt, ic E (r_t 0) 800 t_all, zc E (r_t 26) 12 (upd t_wasLate a1.toNatClampNeg (vp_nar .boolean x3))] H locs → lv_has ls 5 [(0, .ref h0), (1, .int a1)] → W p l e (hm_rr 2 43 0 0) s m args below meth c H locs 0 0 Q (F0 m 49 ls [.int x4]) := by
      intro x4 H locs ls hf w hl
      have hf := pf_j1 hJ49 hf
      refine lv_istore (lv' := [(4, .int x4), (0, .ref h0), (1, .int a1)]) hx hb dX8_decide_49 hl (by decide) rfl (fun ls hl => ?_)
      refine lv_aload_n hx hb dX8_decide_51 rfl (lv_at hl 1 rfl) ?_
      refine lv_bipush (v := 45) hx hb dX8_decide_52 (by decide) ?_
      refine lv_iload_n hx hb dX8_decide_54 rfl (lv_at hl 2 rfl) ?_
      refine lv_iadd hx hb dX8_decide_55 ?_
      obtain ⟨r5, hc56, hf⟩ := pf_bi_0 hf
      refine hm_aft_i (ws' := fun _ => [oc8 h0 r_t t_base t_taped t_at t_faultPlace t_number t_newBits t_newTold t_newDoings t_newThings t_opened t_sum t_heldAll t_onPaper t_turned t_wasConverted t_lastBits t_lastSum t_lastHeld t_lastLeft t_lastCode t_writtenLong t_codeMany t_acts t_done0 t_stoppedAt, ic E (r_t 0) 800 t_all, zc E (r_t 26) 12 (upd t_wasLate a1.toNatClampNeg (vp_nar .boolean x3))]) (hm_runV (rest := []) hx hb hml hown X hA Y w 0 (ci := 7) (T := TX8) (N := 55) rfl rfl mw_X8_get ml_X8_221 dX8_decide_56 hm_ac0 [.int (45 + a1)] rfl [0, 1] rfl rfl (ct_X8_get l E H.size h0 r_t t_base t_taped t_at t_faultPlace t_number t_newBits t_newTold t_newDoings t_newThings t_opened t_sum t_heldAll t_onPaper t_turned t_wasConverted t_lastBits t_lastSum t_lastHeld t_lastLeft t_lastCode t_writtenLong t_codeMany t_acts t_done0 t_stoppedAt t_all (45 + a1) (r5, ()) hc56) rfl hl.1 ⟨⟨rfl, rfl⟩, ⟨Nat.le_of_ble_eq_true rfl, Nat.le_of_ble_eq_true rfl⟩, ⟨Nat.le_of_ble_eq_true rfl, Nat.le_of_ble_eq_true rfl⟩, Nat.le_of_ble_eq_true rfl⟩) hA w [0, 1] [2] [1, 2, 0] rfl rfl (by decide) (fun _ => rfl) (fun _ H locs w => ?_)
      refine lv_iconst (v := (-1)) hx hb dX8_decide_59 (by decide) ?_
      obtain ⟨J127, hJ127, hf⟩ := pf_jn hf
      have kJ127 : ∀ (x6 : Int32) (f7 : Nat → Int32) (H : Heap) (locs : List Loc) (ls : Array Slot), J127 x6 f7 = some R → hm_W E A s.heap [oc8 h0 r_t t_base t_taped t_at t_faultPlace t_number t_newBits t_newTold t_newDoings t_newThings t_opened t_sum t_heldAll t_onPaper t_turned t_wasConverted t_lastBits t_lastSum t_lastHeld t_lastLeft t_lastCode t_writtenLong t_codeMany t_acts t_done0 t_stoppedAt, ic E (r_t 0) 800 f7, zc E (r_t 26) 12 (upd t_wasLate a1.toNatClampNeg (vp_nar .boolean x3))] H locs → lv_has ls 5 [(0, .ref h0), (1, .int a1), (4, .int x6)] → W p l e (hm_rr 2 43 0 0) s m args below meth c H locs 0 0 Q (F0 m 127 ls []) := by
        intro x6 f7 H locs ls hf w hl
        have hf := pf_j2 hJ127 hf
        refine lv_iload_n hx hb dX8_decide_127 rfl (lv_at hl 1 rfl) ?_
        refine lv_aload_n hx hb dX8_decide_128 rfl (lv_at hl 0 rfl) ?_
        refine hm_get cb_X8 hx hb hown X w 0 32 fl_X8_80 dX8_decide_129 rfl (by decide) rfl ?_
        refine lv_icmp_ne (tgt := 142) hx hb dX8_decide_132 (by decide) (fun c132 => ?_) (fun c132 => ?_)
        · have hf := pf_e c132 hf
          refine lv_iload hx hb dX8_decide_142 (lv_at hl 2 rfl) ?_
          exact hQ _ _ _ _ _ (f7, (upd t_wasLate a1.toNatClampNeg (vp_nar .boolean x3))) (fun _ => 0) hf rfl w dX8_decide_144
        · have hf := pf_t c132 hf
          refine lv_iconst (v := 1) hx hb dX8_decide_135 (by decide) ?_
          refine lv_iload hx hb dX8_decide_136 (lv_at hl 2 rfl) ?_
          refine lv_isub hx hb dX8_decide_138 ?_
          refine lv_goto (tgt := 144) hx hb dX8_decide_139 (by decide) ?_
          exact hQ _ _ _ _ _ (f7, (upd t_wasLate a1.toNatClampNeg (vp_nar .boolean x3))) (fun _ => 0) hf rfl w dX8_decide_144
      refine lv_icmp_eq (tgt := 76) hx hb dX8_decide_60 (by decide) (fun c60 => ?_) (fun c60 => ?_)
      · have hf := pf_t c60 hf
        refine lv_aload_n hx hb dX8_decide_76 rfl (lv_at hl 1 rfl) ?_
        refine hm_get cb_X8 hx hb hown X w 0 26 fl_X8_70 dX8_decide_77 rfl (by decide) rfl ?_
        refine lv_iload_n hx hb dX8_decide_80 rfl (lv_at hl 2 rfl) ?_
        obtain ⟨g81, hf⟩ := pf_ckI hf
        refine hm_zald hx hb X w 2 dX8_decide_81 rfl g81 ?_
        refine lv_if_eq (tgt := 127) hx hb dX8_decide_82 (by decide) (fun c82 => ?_) (fun c82 => ?_)
        · have hf := pf_t c82 hf
          exact kJ127 _ _ _ _ _ hf w (lv_sub hl [1, 2, 0] rfl)
        · have hf := pf_e c82 hf
          refine lv_aload_n hx hb dX8_decide_85 rfl (lv_at hl 1 rfl) ?_
          refine hm_get cb_X8 hx hb hown X w 0 31 fl_X8_258 dX8_decide_86 rfl (by decide) rfl ?_
          refine lv_if_ne (tgt := 127) hx hb dX8_decide_89 (by decide) (fun c89 => ?_) (fun c89 => ?_)
          · have hf := pf_e c89 hf
            exact kJ127 _ _ _ _ _ hf w (lv_sub hl [1, 2, 0] rfl)
          · have hf := pf_t c89 hf
            refine lv_aload_n hx hb dX8_decide_92 rfl (lv_at hl 1 rfl) ?_
            refine lv_iconst (v := 3) hx hb dX8_decide_93 (by decide) ?_
            obtain ⟨r8, hc94, hf⟩ := pf_bi_0 hf
            refine hm_aft_i (ws' := fun _ => [oc8 h0 r_t t_base t_taped t_at t_faultPlace t_number t_newBits t_newTold t_newDoings t_newThings t_opened t_sum t_heldAll t_onPaper t_turned t_wasConverted t_lastBits t_lastSum t_lastHeld t_lastLeft t_lastCode t_writtenLong t_codeMany t_acts t_done0 t_stoppedAt, ic E (r_t 0) 800 t_all, zc E (r_t 26) 12 (upd t_wasLate a1.toNatClampNeg (vp_nar .boolean x3))]) (hm_runV (rest := []) hx hb hml hown X hA Y w 0 (ci := 7) (T := TX8) (N := 55) rfl rfl mw_X8_get ml_X8_221 dX8_decide_94 hm_ac0 [.int 3] rfl [0, 1] rfl rfl (ct_X8_get l E H.size h0 r_t t_base t_taped t_at t_faultPlace t_number t_newBits t_newTold t_newDoings t_newThings t_opened t_sum t_heldAll t_onPaper t_turned t_wasConverted t_lastBits t_lastSum t_lastHeld t_lastLeft t_lastCode t_writtenLong t_codeMany t_acts t_done0 t_stoppedAt t_all 3 (r8, ()) hc94) rfl hl.1 ⟨⟨rfl, rfl⟩, ⟨Nat.le_of_ble_eq_true rfl, Nat.le_of_ble_eq_true rfl⟩, ⟨Nat.le_of_ble_eq_true rfl, Nat.le_of_ble_eq_true rfl⟩, Nat.le_of_ble_eq_true rfl⟩) hA w [0, 1] [2] [1, 2, 0] rfl rfl (by decide) (fun _ => rfl) (fun _ H locs w => ?_)
            refine lv_iconst (v := 3) hx hb dX8_decide_97 (by decide) ?_
            refine lv_icmp_ge (tgt := 127) hx hb dX8_decide_98 (by decide) (fun c98 => ?_) (fun c98 => ?_)
            · have hf := pf_t c98 hf
              exact kJ127 _ _ _ _ _ hf w (lv_sub hl [1, 2, 0] rfl)
            · have hf := pf_e c98 hf
              refine lv_aload_n hx hb dX8_decide_101 rfl (lv_at hl 1 rfl) ?_
              refine lv_iconst (v := 3) hx hb dX8_decide_102 (by decide) ?_
              obtain ⟨r9, hc103, hf⟩ := pf_bi_0 hf
              refine hm_aft_i (ws' := fun _ => [oc8 h0 r_t t_base t_taped t_at t_faultPlace t_number t_newBits t_newTold t_newDoings t_newThings t_opened t_sum t_heldAll t_onPaper t_turned t_wasConverted t_lastBits t_lastSum t_lastHeld t_lastLeft t_lastCode t_writtenLong t_codeMany t_acts t_done0 t_stoppedAt, ic E (r_t 0) 800 t_all, zc E (r_t 26) 12 (upd t_wasLate a1.toNatClampNeg (vp_nar .boolean x3))]) (hm_runV (rest := []) hx hb hml hown X hA Y w 0 (ci := 7) (T := TX8) (N := 55) rfl rfl mw_X8_get ml_X8_221 dX8_decide_103 hm_ac0 [.int 3] rfl [0, 1] rfl rfl (ct_X8_get l E H.size h0 r_t t_base t_taped t_at t_faultPlace t_number t_newBits t_newTold t_newDoings t_newThings t_opened t_sum t_heldAll t_onPaper t_turned t_wasConverted t_lastBits t_lastSum t_lastHeld t_lastLeft t_lastCode t_writtenLong t_codeMany t_acts t_done0 t_stoppedAt t_all 3 (r9, ()) hc103) rfl hl.1 ⟨⟨rfl, rfl⟩, ⟨Nat.le_of_ble_eq_true rfl, Nat.le_of_ble_eq_true rfl⟩, ⟨Nat.le_of_ble_eq_true rfl, Nat.le_of_ble_eq_true rfl⟩, Nat.le_of_ble_eq_true rfl⟩) hA w [0, 1] [2] [1, 2, 0] rfl rfl (by decide) (fun _ => rfl) (fun _ H locs w => ?_)
              refine lv_iconst (v := 2) hx hb dX8_decide_106 (by decide) ?_
              obtain ⟨J125, hJ125, hf⟩ := pf_jn hf
              have kJ125 : ∀ (x10 : Int32) (f11 : Nat → Int32) (H : Heap) (locs : List Loc) (ls : Array Slot), J125 x10 f11 = some R → hm_W E A s.heap [oc8 h0 r_t t_base t_taped t_at t_faultPlace t_number t_newBits t_newTold t_newDoings t_newThings t_opened t_sum t_heldAll t_onPaper t_turned t_wasConverted t_lastBits t_lastSum t_lastHeld t_lastLeft t_lastCode t_writtenLong t_codeMany t_acts t_done0 t_stoppedAt, ic E (r_t 0) 800 f11, zc E (r_t 26) 12 (upd t_wasLate a1.toNatClampNeg (vp_nar .boolean x3))] H locs → lv_has ls 5 [(0, .ref h0), (1, .int a1)] → W p l e (hm_rr 2 43 0 0) s m args below meth c H locs 0 0 Q (F0 m 125 ls [.int x10]) := by
                intro x10 f11 H locs ls hf w hl
                have hf := pf_j2 hJ125 hf
                refine lv_istore (lv' := [(4, .int x10), (0, .ref h0), (1, .int a1)]) hx hb dX8_decide_125 hl (by decide) rfl (fun ls hl => ?_)
                exact kJ127 _ _ _ _ _ hf w (lv_sub hl [1, 2, 0] rfl)
              refine lv_icmp_ne (tgt := 118) hx hb dX8_decide_107 (by decide) (fun c107 => ?_) (fun c107 => ?_)
              · have hf := pf_e c107 hf
                refine lv_iconst (v := 1) hx hb dX8_decide_118 (by decide) ?_
                refine lv_aload_n hx hb dX8_decide_119 rfl (lv_at hl 1 rfl) ?_
                refine lv_iconst (v := 3) hx hb dX8_decide_120 (by decide) ?_
                obtain ⟨r12, hc121, hf⟩ := pf_bi_0 hf
                refine hm_aft_i (ws' := fun _ => [oc8 h0 r_t t_base t_taped t_at t_faultPlace t_number t_newBits t_newTold t_newDoings t_newThings t_opened t_sum t_heldAll t_onPaper t_turned t_wasConverted t_lastBits t_lastSum t_lastHeld t_lastLeft t_lastCode t_writtenLong t_codeMany t_acts t_done0 t_stoppedAt, ic E (r_t 0) 800 t_all, zc E (r_t 26) 12 (upd t_wasLate a1.toNatClampNeg (vp_nar .boolean x3))]) (hm_runV (rest := [.int 1]) hx hb hml hown X hA Y w 0 (ci := 7) (T := TX8) (N := 55) rfl rfl mw_X8_get ml_X8_221 dX8_decide_121 hm_ac0 [.int 3] rfl [0, 1] rfl rfl (ct_X8_get l E H.size h0 r_t t_base t_taped t_at t_faultPlace t_number t_newBits t_newTold t_newDoings t_newThings t_opened t_sum t_heldAll t_onPaper t_turned t_wasConverted t_lastBits t_lastSum t_lastHeld t_lastLeft t_lastCode t_writtenLong t_codeMany t_acts t_done0 t_stoppedAt t_all 3 (r12, ()) hc121) rfl hl.1 ⟨⟨rfl, rfl⟩, ⟨Nat.le_of_ble_eq_true rfl, Nat.le_of_ble_eq_true rfl⟩, ⟨Nat.le_of_ble_eq_true rfl, Nat.le_of_ble_eq_true rfl⟩, Nat.le_of_ble_eq_true rfl⟩) hA w [0, 1] [2] [1, 2, 0] rfl rfl (by decide) (fun _ => rfl) (fun _ H locs w => ?_)
                refine lv_isub hx hb dX8_decide_124 ?_
                exact kJ125 _ _ _ _ _ hf w (lv_sub hl [1, 2] rfl)
              · have hf := pf_t c107 hf
                refine lv_aload_n hx hb dX8_decide_110 rfl (lv_at hl 1 rfl) ?_
                refine lv_iconst (v := 2) hx hb dX8_decide_111 (by decide) ?_
                obtain ⟨r13, f14, hc112, hf⟩ := pf_bi_1 hf
                refine hm_aft_i (ws' := fun _ => [oc8 h0 r_t t_base t_taped t_at t_faultPlace t_number t_newBits t_newTold t_newDoings t_newThings t_opened t_sum t_heldAll t_onPaper t_turned t_wasConverted t_lastBits t_lastSum t_lastHeld t_lastLeft t_lastCode t_writtenLong t_codeMany t_acts t_done0 t_stoppedAt, ic E (r_t 0) 800 f14, zc E (r_t 26) 12 (upd t_wasLate a1.toNatClampNeg (vp_nar .boolean x3))]) (hm_runV (rest := []) hx hb hml hown X hA Y w 0 (ci := 7) (T := TX8) (N := 55) rfl rfl mw_X8_draw ml_X8_261 dX8_decide_112 hm_ac0 [.int 2] rfl [0, 1] rfl rfl (ct_X8_draw l E H.size h0 r_t t_base t_taped t_at t_faultPlace t_number t_newBits t_newTold t_newDoings t_newThings t_opened t_sum t_heldAll t_onPaper t_turned t_wasConverted t_lastBits t_lastSum t_lastHeld t_lastLeft t_lastCode t_writtenLong t_codeMany t_acts t_done0 t_stoppedAt t_all 2 (r13, f14) hc112) rfl hl.1 ⟨⟨rfl, rfl⟩, ⟨Nat.le_of_ble_eq_true rfl, Nat.le_of_ble_eq_true rfl⟩, ⟨Nat.le_of_ble_eq_true rfl, Nat.le_of_ble_eq_true rfl⟩, Nat.le_of_ble_eq_true rfl⟩) hA w [0, 1] [2] [1, 2, 0] rfl rfl (by decide) (fun _ => rfl) (fun _ H locs w => ?_)
                refine lv_goto (tgt := 125) hx hb dX8_decide_115 (by decide) ?_
                exact kJ125 _ _ _ _ _ hf w (lv_sub hl [1, 2] rfl)
      · have hf := pf_e c60 hf
        refine lv_aload_n hx hb dX8_decide_63 rfl (lv_at hl 1 rfl) ?_
        refine lv_bipush (v := 45) hx hb dX8_decide_64 (by decide) ?_
        refine lv_iload_n hx hb dX8_decide_66 rfl (lv_at hl 2 rfl) ?_
        refine lv_iadd hx hb dX8_decide_67 ?_
        obtain ⟨r15, hc68, hf⟩ := pf_bi_0 hf
        refine hm_aft_i (ws' := fun _ => [oc8 h0 r_t t_base t_taped t_at t_faultPlace t_number t_newBits t_newTold t_newDoings t_newThings t_opened t_sum t_heldAll t_onPaper t_turned t_wasConverted t_lastBits t_lastSum t_lastHeld t_lastLeft t_lastCode t_writtenLong t_codeMany t_acts t_done0 t_stoppedAt, ic E (r_t 0) 800 t_all, zc E (r_t 26) 12 (upd t_wasLate a1.toNatClampNeg (vp_nar .boolean x3))]) (hm_runV (rest := []) hx hb hml hown X hA Y w 0 (ci := 7) (T := TX8) (N := 55) rfl rfl mw_X8_get ml_X8_221 dX8_decide_68 hm_ac0 [.int (45 + a1)] rfl [0, 1] rfl rfl (ct_X8_get l E H.size h0 r_t t_base t_taped t_at t_faultPlace t_number t_newBits t_newTold t_newDoings t_newThings t_opened t_sum t_heldAll t_onPaper t_turned t_wasConverted t_lastBits t_lastSum t_lastHeld t_lastLeft t_lastCode t_writtenLong t_codeMany t_acts t_done0 t_stoppedAt t_all (45 + a1) (r15, ()) hc68) rfl hl.1 ⟨⟨rfl, rfl⟩, ⟨Nat.le_of_ble_eq_true rfl, Nat.le_of_ble_eq_true rfl⟩, ⟨Nat.le_of_ble_eq_true rfl, Nat.le_of_ble_eq_true rfl⟩, Nat.le_of_ble_eq_true rfl⟩) hA w [0, 1] [2] [1, 2, 0] rfl rfl (by decide) (fun _ => rfl) (fun _ H locs w => ?_)
        refine lv_istore (lv' := [(4, .int r15), (0, .ref h0), (1, .int a1)]) hx hb dX8_decide_71 hl (by decide) rfl (fun ls hl => ?_)
        refine lv_goto (tgt := 127) hx hb dX8_decide_73 (by decide) ?_
        exact kJ127 _ _ _ _ _ hf w (lv_sub hl [1, 2, 0] rfl)
    refine lv_if_lt (tgt := 48) hx hb dX8_decide_41 (by decide) (fun c41 => ?_) (fun c41 => ?_)
    · have hf := pf_t c41 hf
      refine lv_iconst (v := 0) hx hb dX8_decide_48 (by decide) ?_
      exact kJ49 _ _ _ _ hf w (lv_sub hl [0, 1] rfl)
    · have hf := pf_e c41 hf
      refine lv_iconst (v := 1) hx hb dX8_decide_44 (by decide) ?_
      refine lv_goto (tgt := 49) hx hb dX8_decide_45 (by decide) ?_
      exact kJ49 _ _ _ _ hf w (lv_sub hl [0, 1] rfl)
  obtain ⟨J38, hJ38, hf⟩ := pf_jn hf
  have kJ38 : ∀ (H : Heap) (locs : List Loc) (ls : Array Slot), J38 = some R → hm_W E A s.heap [oc8 h0 r_t t_base t_taped t_at t_faultPlace t_number t_newBits t_newTold t_newDoings t_newThings t_opened t_sum t_heldAll t_onPaper t_turned t_wasConverted t_lastBits t_lastSum t_lastHeld t_lastLeft t_lastCode t_writtenLong t_codeMany t_acts t_done0 t_stoppedAt, ic E (r_t 0) 800 t_all, zc E (r_t 26) 12 t_wasLate] H locs → lv_has ls 5 [(0, .ref h0), (1, .int a1), (2, .int a2)] → W p l e (hm_rr 2 43 0 0) s m args below meth c H locs 0 0 Q (F0 m 38 ls [.int a1, .ref (r_t 26)]) := by
    intro H locs ls hf w hl
    have hf := pf_j0 hJ38 hf
    refine lv_iconst (v := 0) hx hb dX8_decide_38 (by decide) ?_
    exact kJ39 _ _ _ _ hf w (lv_sub hl [0, 1, 2] rfl)
  refine lv_icmp_ne (tgt := 38) hx hb dX8_decide_20 (by decide) (fun c20 => ?_) (fun c20 => ?_)
  · have hf := pf_e c20 hf
    exact kJ38 _ _ _ hf w (lv_sub hl [1, 2, 3] rfl)
  · have hf := pf_t c20 hf
    refine lv_iload_n hx hb dX8_decide_23 rfl (lv_at hl 3 rfl) ?_
    refine lv_iload_n hx hb dX8_decide_24 rfl (lv_at hl 0 rfl) ?_
    refine lv_ineg hx hb dX8_decide_25 ?_
    refine lv_icmp_le (tgt := 38) hx hb dX8_decide_26 (by decide) (fun c26 => ?_) (fun c26 => ?_)
    · have hf := pf_t c26 hf
      exact kJ38 _ _ _ hf w (lv_sub hl [1, 2, 3] rfl)
    · have hf := pf_e c26 hf
      refine lv_iload_n hx hb dX8_decide_29 rfl (lv_at hl 3 rfl) ?_
      refine lv_iload_n hx hb dX8_decide_30 rfl (lv_at hl 0 rfl) ?_
      refine lv_icmp_ge (tgt := 38) hx hb dX8_decide_31 (by decide) (fun c31 => ?_) (fun c31 => ?_)
      · have hf := pf_t c31 hf
        exact kJ38 _ _ _ hf w (lv_sub hl [1, 2, 3] rfl)
      · have hf := pf_e c31 hf
        refine lv_iconst (v := 1) hx hb dX8_decide_34 (by decide) ?_
        refine lv_goto (tgt := 39) hx hb dX8_decide_35 (by decide) ?_
        exact kJ39 _ _ _ _ hf w (lv_sub hl [1, 2, 3] rfl)
set_option maxHeartbeats 8000000 in
set_option maxRecDepth 100000 in
theorem ct_X8_goThrough (l : Launch) (E : hm_E) (sz : Nat) (h0 : Nat) (r_t : Nat → Nat) (t_base t_taped t_at t_faultPlace t_number t_newBits t_newTold t_newDoings t_newThings t_opened t_sum t_heldAll t_onPaper t_turned t_wasConverted t_lastBits t_lastSum t_lastHeld t_lastLeft t_lastCode t_writtenLong t_codeMany t_acts t_done0 t_stoppedAt : Int32) (t_all : Nat → Int32) (t_askedOf : Nat → Int32) (t_decided : Nat → Int32) (t_heldBehind : Nat → Int32) (t_wasLate : Nat → Int32) (a1 : Int32) (a2 : Int32) (a3 : Int32) (R : (Nat → Int32) × (Nat → Int32) × (Nat → Int32) × (Nat → Int32) × (Nat → Int32) × Int32 × Int32) (hf : pf_X8_goThrough a1 a2 a3 t_all t_base t_decided t_wasLate t_askedOf t_heldBehind t_onPaper t_turned = some R) : hm_Mv l E yX8_goThrough cX8_goThrough 8 [] (hm_rr 3 67 0 0) [.ref h0, .int a1, .int a2, .int a3] sz [oc8 h0 r_t t_base t_taped t_at t_faultPlace t_number t_newBits t_newTold t_newDoings t_newThings t_opened t_sum t_heldAll t_onPaper t_turned t_wasConverted t_lastBits t_lastSum t_lastHeld t_lastLeft t_lastCode t_writtenLong t_codeMany t_acts t_done0 t_stoppedAt, ic E (r_t 0) 800 t_all, ic E (r_t 27) 12 t_askedOf, ic E (r_t 25) 12 t_decided, ic E (r_t 28) 12 t_heldBehind, zc E (r_t 26) 12 t_wasLate] (fun _ => [oc8 h0 r_t t_base t_taped t_at t_faultPlace t_number t_newBits t_newTold t_newDoings t_newThings t_opened (R.2.2.2.2.2.1) (R.2.2.2.2.2.2) t_onPaper t_turned t_wasConverted t_lastBits t_lastSum t_lastHeld t_lastLeft t_lastCode t_writtenLong t_codeMany t_acts t_done0 t_stoppedAt, ic E (r_t 0) 800 (R.1), ic E (r_t 27) 12 (R.2.2.2.1), ic E (r_t 25) 12 (R.2.1), ic E (r_t 28) 12 (R.2.2.2.2.1), zc E (r_t 26) 12 (R.2.2.1)]) := by
  refine hm_ct_v R (fun u _ => [oc8 h0 r_t t_base t_taped t_at t_faultPlace t_number t_newBits t_newTold t_newDoings t_newThings t_opened (u.2.2.2.2.2.1) (u.2.2.2.2.2.2) t_onPaper t_turned t_wasConverted t_lastBits t_lastSum t_lastHeld t_lastLeft t_lastCode t_writtenLong t_codeMany t_acts t_done0 t_stoppedAt, ic E (r_t 0) 800 (u.1), ic E (r_t 27) 12 (u.2.2.2.1), ic E (r_t 25) 12 (u.2.1), ic E (r_t 28) 12 (u.2.2.2.2.1), zc E (r_t 26) 12 (u.2.2.1)]) (by decide) (Nat.le_of_ble_eq_true rfl) ?_
  intro p e s m args below meth c A Q ls H locs hx hb hml hown X hA Y hex hin w hl hQ
  have hl : lv_has ls 8 [(0, .ref h0), (1, .int a1), (2, .int a2), (3, .int a3)] := hl
  unfold pf_X8_goThrough at hf
  refine lv_aload_n hx hb dX8_goThrough_0 rfl (lv_at hl 0 rfl) ?_
  refine lv_iconst (v := 0) hx hb dX8_goThrough_1 (by decide) ?_
  refine hm_put (ws' := [oc8 h0 r_t t_base t_taped t_at t_faultPlace t_number t_newBits t_newTold t_newDoings t_newThings t_opened 0 t_heldAll t_onPaper t_turned t_wasConverted t_lastBits t_lastSum t_lastHeld t_lastLeft t_lastCode t_writtenLong t_codeMany t_acts t_done0 t_stoppedAt, ic E (r_t 0) 800 t_all, ic E (r_t 27) 12 t_askedOf, ic E (r_t 25) 12 t_decided, ic E (r_t 28) 12 t_heldBehind, zc E (r_t 26) 12 t_wasLate]) cb_X8 hx hb hown X w 0 29 fl_X8_264 dX8_goThrough_2 rfl (by decide) (Nat.le_of_ble_eq_true rfl) rfl rfl rfl rfl (fun H locs w => ?_)
  refine lv_aload_n hx hb dX8_goThrough_5 rfl (lv_at hl 0 rfl) ?_
  refine lv_iconst (v := 0) hx hb dX8_goThrough_6 (by decide) ?_
  refine hm_put (ws' := [oc8 h0 r_t t_base t_taped t_at t_faultPlace t_number t_newBits t_newTold t_newDoings t_newThings t_opened 0 0 t_onPaper t_turned t_wasConverted t_lastBits t_lastSum t_lastHeld t_lastLeft t_lastCode t_writtenLong t_codeMany t_acts t_done0 t_stoppedAt, ic E (r_t 0) 800 t_all, ic E (r_t 27) 12 t_askedOf, ic E (r_t 25) 12 t_decided, ic E (r_t 28) 12 t_heldBehind, zc E (r_t 26) 12 t_wasLate]) cb_X8 hx hb hown X w 0 30 fl_X8_267 dX8_goThrough_7 rfl (by decide) (Nat.le_of_ble_eq_true rfl) rfl rfl rfl rfl (fun H locs w => ?_)
  refine lv_aload_n hx hb dX8_goThrough_10 rfl (lv_at hl 0 rfl) ?_
  refine hm_get cb_X8 hx hb hown X w 0 31 fl_X8_258 dX8_goThrough_11 rfl (by decide) rfl ?_
  obtain ⟨J26, hJ26, hf⟩ := pf_jn hf
  have kJ26 : ∀ (x1 : Int32) (H : Heap) (locs : List Loc) (ls : Array Slot), J26 x1 = some R → hm_W E A s.heap [oc8 h0 r_t t_base t_taped t_at t_faultPlace t_number t_newBits t_newTold t_newDoings t_newThings t_opened 0 0 t_onPaper t_turned t_wasConverted t_lastBits t_lastSum t_lastHeld t_lastLeft t_lastCode t_writtenLong t_codeMany t_acts t_done0 t_stoppedAt, ic E (r_t 0) 800 t_all, ic E (r_t 27) 12 t_askedOf, ic E (r_t 25) 12 t_decided, ic E (r_t 28) 12 t_heldBehind, zc E (r_t 26) 12 t_wasLate] H locs → lv_has ls 8 [(0, .ref h0), (1, .int a1), (2, .int a2), (3, .int a3)] → W p l e (hm_rr 3 67 0 0) s m args below meth c H locs 0 0 Q (F0 m 26 ls [.int x1]) := by
    intro x1 H locs ls hf w hl
    have hf := pf_j1 hJ26 hf
    refine lv_istore (lv' := [(4, .int x1), (0, .ref h0), (1, .int a1), (2, .int a2), (3, .int a3)]) hx hb dX8_goThrough_26 hl (by decide) rfl (fun ls hl => ?_)
    refine lv_iload_n hx hb dX8_goThrough_28 rfl (lv_at hl 3 rfl) ?_
    refine lv_iconst (v := 1) hx hb dX8_goThrough_29 (by decide) ?_
    refine lv_isub hx hb dX8_goThrough_30 ?_
    refine lv_topi (fun x2 ex2 => ?_)
    have hf := pf_nm ex2 hf
    refine lv_istore (lv' := [(5, .int x2), (4, .int x1), (0, .ref h0), (1, .int a1), (2, .int a2), (3, .int a3)]) hx hb dX8_goThrough_31 hl (by decide) rfl (fun ls hl => ?_)
    have klp_X8_goThrough_33 : ∀ (n : Nat) (x3 : Int32) (f4 : Nat → Int32) (f5 : Nat → Int32) (f6 : Nat → Int32) (f7 : Nat → Int32) (f8 : Nat → Int32) (x9 : Int32) (x10 : Int32) (H : Heap) (locs : List Loc) (ls : Array Slot), lp_X8_goThrough_33 a1 a3 t_base t_onPaper t_turned x1 n x3 f4 f5 f6 f7 f8 x9 x10 = some R → hm_W E A s.heap [oc8 h0 r_t t_base t_taped t_at t_faultPlace t_number t_newBits t_newTold t_newDoings t_newThings t_opened x9 x10 t_onPaper t_turned t_wasConverted t_lastBits t_lastSum t_lastHeld t_lastLeft t_lastCode t_writtenLong t_codeMany t_acts t_done0 t_stoppedAt, ic E (r_t 0) 800 f4, ic E (r_t 27) 12 f7, ic E (r_t 25) 12 f5, ic E (r_t 28) 12 f8, zc E (r_t 26) 12 f6] H locs → lv_has ls 8 [(0, .ref h0), (1, .int a1), (3, .int a3), (4, .int x1), (5, .int x3)] → W p l e (hm_rr 3 67 0 0) s m args below meth c H locs 0 0 Q (F0 m 33 ls []) := by
      intro n
      induction n with
      | zero =>
        intro x3 f4 f5 f6 f7 f8 x9 x10 H locs ls hf w hl
        exact pf_no hf
      | succ n ih33 =>
        intro x3 f4 f5 f6 f7 f8 x9 x10 H locs ls hf w hl
        rw [lp_X8_goThrough_33] at hf
        refine lv_iload hx hb dX8_goThrough_33 (lv_at hl 4 rfl) ?_
        refine lv_if_lt (tgt := 162) hx hb dX8_goThrough_35 (by decide) (fun c35 => ?_) (fun c35 => ?_)
        · have hf := pf_t c35 hf
          exact hQ _ _ _ _ (f4, f5, f6, f7, f8, x9, x10) (fun _ => 0) hf w dX8_goThrough_162
        · have hf := pf_e c35 hf
          refine lv_iload_n hx hb dX8_goThrough_38 rfl (lv_at hl 1 rfl) ?_
          refine lv_iload_n hx hb dX8_goThrough_39 rfl (lv_at hl 2 rfl) ?_
          refine lv_iadd hx hb dX8_goThrough_40 ?_
          refine lv_aload_n hx hb dX8_goThrough_41 rfl (lv_at hl 0 rfl) ?_
          refine hm_get cb_X8 hx hb hown X w 0 30 fl_X8_267 dX8_goThrough_42 rfl (by decide) rfl ?_
          refine lv_isub hx hb dX8_goThrough_45 ?_
          refine lv_aload_n hx hb dX8_goThrough_46 rfl (lv_at hl 0 rfl) ?_
          refine lv_iload hx hb dX8_goThrough_47 (lv_at hl 4 rfl) ?_
          obtain ⟨r11, hc49, hf⟩ := pf_bi_0 hf
          refine hm_aft_i (ws' := fun _ => [oc8 h0 r_t t_base t_taped t_at t_faultPlace t_number t_newBits t_newTold t_newDoings t_newThings t_opened x9 x10 t_onPaper t_turned t_wasConverted t_lastBits t_lastSum t_lastHeld t_lastLeft t_lastCode t_writtenLong t_codeMany t_acts t_done0 t_stoppedAt, ic E (r_t 0) 800 f4, ic E (r_t 27) 12 f7, ic E (r_t 25) 12 f5, ic E (r_t 28) 12 f8, zc E (r_t 26) 12 f6]) (hm_runV (rest := [.int ((a1 + a3) - x10)]) hx hb hml hown X hA Y w 0 (ci := 7) (T := TX8) (N := 55) rfl rfl mw_X8_weight ml_X8_224 dX8_goThrough_49 hm_ac0 [.int x3] rfl [0, 1] rfl rfl (ct_X8_weight l E H.size h0 r_t t_base t_taped t_at t_faultPlace t_number t_newBits t_newTold t_newDoings t_newThings t_opened x9 x10 t_onPaper t_turned t_wasConverted t_lastBits t_lastSum t_lastHeld t_lastLeft t_lastCode t_writtenLong t_codeMany t_acts t_done0 t_stoppedAt f4 x3 (r11, ()) hc49) rfl hl.1 ⟨⟨rfl, rfl⟩, ⟨Nat.le_of_ble_eq_true rfl, Nat.le_of_ble_eq_true rfl⟩, ⟨Nat.le_of_ble_eq_true rfl, Nat.le_of_ble_eq_true rfl⟩, Nat.le_of_ble_eq_true rfl⟩) hA w [0, 1] [2, 3, 4, 5] [4, 5, 0, 1, 2, 3] rfl rfl (by decide) (fun _ => rfl) (fun _ H locs w => ?_)
          refine lv_isub hx hb dX8_goThrough_52 ?_
          refine lv_topi (fun x12 ex12 => ?_)
          have hf := pf_nm ex12 hf
          refine lv_istore (lv' := [(6, .int x12), (0, .ref h0), (1, .int a1), (3, .int a3), (4, .int x1), (5, .int x3)]) hx hb dX8_goThrough_53 hl (by decide) rfl (fun ls hl => ?_)
          refine lv_iload hx hb dX8_goThrough_55 (lv_at hl 4 rfl) ?_
          obtain ⟨J78, hJ78, hf⟩ := pf_jn hf
          have kJ78 : ∀ (x13 : Int32) (f14 : Nat → Int32) (H : Heap) (locs : List Loc) (ls : Array Slot), J78 x13 f14 = some R → hm_W E A s.heap [oc8 h0 r_t t_base t_taped t_at t_faultPlace t_number t_newBits t_newTold t_newDoings t_newThings t_opened x9 x10 t_onPaper t_turned t_wasConverted t_lastBits t_lastSum t_lastHeld t_lastLeft t_lastCode t_writtenLong t_codeMany t_acts t_done0 t_stoppedAt, ic E (r_t 0) 800 f14, ic E (r_t 27) 12 f7, ic E (r_t 25) 12 f5, ic E (r_t 28) 12 f8, zc E (r_t 26) 12 f6] H locs → lv_has ls 8 [(0, .ref h0), (1, .int a1), (3, .int a3), (4, .int x1), (5, .int x3), (6, .int x13)] → W p l e (hm_rr 3 67 0 0) s m args below meth c H locs 0 0 Q (F0 m 78 ls []) := by
            intro x13 f14 H locs ls hf w hl
            have hf := pf_j2 hJ78 hf
            refine lv_aload_n hx hb dX8_goThrough_78 rfl (lv_at hl 0 rfl) ?_
            refine lv_iload hx hb dX8_goThrough_79 (lv_at hl 4 rfl) ?_
            refine lv_iload hx hb dX8_goThrough_81 (lv_at hl 5 rfl) ?_
            obtain ⟨r15, f16, f17, hc83, hf⟩ := pf_bi_2 hf
            refine hm_aft_i (ws' := fun _ => [oc8 h0 r_t t_base t_taped t_at t_faultPlace t_number t_newBits t_newTold t_newDoings t_newThings t_opened x9 x10 t_onPaper t_turned t_wasConverted t_lastBits t_lastSum t_lastHeld t_lastLeft t_lastCode t_writtenLong t_codeMany t_acts t_done0 t_stoppedAt, ic E (r_t 0) 800 f16, ic E (r_t 27) 12 f7, ic E (r_t 25) 12 f5, ic E (r_t 28) 12 f8, zc E (r_t 26) 12 f17]) (hm_runV (rest := []) hx hb hml hown X hA Y w 0 (ci := 7) (T := TX8) (N := 55) rfl rfl mw_X8_decide ml_X8_270 dX8_goThrough_83 hm_ac0 [.int x3, .int x13] rfl [0, 1, 5] rfl rfl (ct_X8_decide l E H.size h0 r_t t_base t_taped t_at t_faultPlace t_number t_newBits t_newTold t_newDoings t_newThings t_opened x9 x10 t_onPaper t_turned t_wasConverted t_lastBits t_lastSum t_lastHeld t_lastLeft t_lastCode t_writtenLong t_codeMany t_acts t_done0 t_stoppedAt f14 f6 x3 x13 (r15, f16, f17) hc83) rfl hl.1 ⟨⟨rfl, rfl⟩, ⟨Nat.le_of_ble_eq_true rfl, Nat.le_of_ble_eq_true rfl⟩, ⟨Nat.le_of_ble_eq_true rfl, Nat.le_of_ble_eq_true rfl⟩, Nat.le_of_ble_eq_true rfl⟩) hA w [0, 1, 5] [2, 3, 4] [3, 4, 0, 1, 2, 5] rfl rfl (by decide) (fun _ => rfl) (fun _ H locs w => ?_)
            refine lv_istore (lv' := [(7, .int r15), (0, .ref h0), (1, .int a1), (3, .int a3), (4, .int x1), (5, .int x3), (6, .int x13)]) hx hb dX8_goThrough_86 hl (by decide) rfl (fun ls hl => ?_)
            refine lv_aload_n hx hb dX8_goThrough_88 rfl (lv_at hl 1 rfl) ?_
            refine hm_get cb_X8 hx hb hown X w 0 25 fl_X8_67 dX8_goThrough_89 rfl (by decide) rfl ?_
            refine lv_iload hx hb dX8_goThrough_92 (lv_at hl 5 rfl) ?_
            refine lv_iload hx hb dX8_goThrough_94 (lv_at hl 0 rfl) ?_
            obtain ⟨g96, hf⟩ := pf_ckI hf
            refine hm_iast (ws' := [oc8 h0 r_t t_base t_taped t_at t_faultPlace t_number t_newBits t_newTold t_newDoings t_newThings t_opened x9 x10 t_onPaper t_turned t_wasConverted t_lastBits t_lastSum t_lastHeld t_lastLeft t_lastCode t_writtenLong t_codeMany t_acts t_done0 t_stoppedAt, ic E (r_t 0) 800 f16, ic E (r_t 27) 12 f7, ic E (r_t 25) 12 (upd f5 x3.toNatClampNeg r15), ic E (r_t 28) 12 f8, zc E (r_t 26) 12 f17]) hx hb X w 3 dX8_goThrough_96 rfl g96 rfl (fun H locs w => ?_)
            refine lv_aload_n hx hb dX8_goThrough_97 rfl (lv_at hl 1 rfl) ?_
            refine hm_get cb_X8 hx hb hown X w 0 27 fl_X8_74 dX8_goThrough_98 rfl (by decide) rfl ?_
            refine lv_iload hx hb dX8_goThrough_101 (lv_at hl 5 rfl) ?_
            refine lv_iload hx hb dX8_goThrough_103 (lv_at hl 6 rfl) ?_
            obtain ⟨g105, hf⟩ := pf_ckI hf
            refine hm_iast (ws' := [oc8 h0 r_t t_base t_taped t_at t_faultPlace t_number t_newBits t_newTold t_newDoings t_newThings t_opened x9 x10 t_onPaper t_turned t_wasConverted t_lastBits t_lastSum t_lastHeld t_lastLeft t_lastCode t_writtenLong t_codeMany t_acts t_done0 t_stoppedAt, ic E (r_t 0) 800 f16, ic E (r_t 27) 12 (upd f7 x3.toNatClampNeg x13), ic E (r_t 25) 12 (upd f5 x3.toNatClampNeg r15), ic E (r_t 28) 12 f8, zc E (r_t 26) 12 f17]) hx hb X w 2 dX8_goThrough_105 rfl g105 rfl (fun H locs w => ?_)
            refine lv_iload hx hb dX8_goThrough_106 (lv_at hl 0 rfl) ?_
            refine lv_iconst (v := 1) hx hb dX8_goThrough_108 (by decide) ?_
            obtain ⟨J145, hJ145, hf⟩ := pf_jn hf
            have kJ145 : ∀ (x18 : Int32) (x19 : Int32) (H : Heap) (locs : List Loc) (ls : Array Slot), J145 x18 x19 = some R → hm_W E A s.heap [oc8 h0 r_t t_base t_taped t_at t_faultPlace t_number t_newBits t_newTold t_newDoings t_newThings t_opened x18 x19 t_onPaper t_turned t_wasConverted t_lastBits t_lastSum t_lastHeld t_lastLeft t_lastCode t_writtenLong t_codeMany t_acts t_done0 t_stoppedAt, ic E (r_t 0) 800 f16, ic E (r_t 27) 12 (upd f7 x3.toNatClampNeg x13), ic E (r_t 25) 12 (upd f5 x3.toNatClampNeg r15), ic E (r_t 28) 12 f8, zc E (r_t 26) 12 f17] H locs → lv_has ls 8 [(0, .ref h0), (1, .int a1), (3, .int a3), (4, .int x1), (5, .int x3)] → W p l e (hm_rr 3 67 0 0) s m args below meth c H locs 0 0 Q (F0 m 145 ls []) := by
              intro x18 x19 H locs ls hf w hl
              have hf := pf_j2 hJ145 hf
              refine lv_aload_n hx hb dX8_goThrough_145 rfl (lv_at hl 0 rfl) ?_
              refine hm_get cb_X8 hx hb hown X w 0 28 fl_X8_77 dX8_goThrough_146 rfl (by decide) rfl ?_
              refine lv_iload hx hb dX8_goThrough_149 (lv_at hl 4 rfl) ?_
              refine lv_aload_n hx hb dX8_goThrough_151 rfl (lv_at hl 0 rfl) ?_
              refine hm_get cb_X8 hx hb hown X w 0 30 fl_X8_267 dX8_goThrough_152 rfl (by decide) rfl ?_
              obtain ⟨g155, hf⟩ := pf_ckI hf
              refine hm_iast (ws' := [oc8 h0 r_t t_base t_taped t_at t_faultPlace t_number t_newBits t_newTold t_newDoings t_newThings t_opened x18 x19 t_onPaper t_turned t_wasConverted t_lastBits t_lastSum t_lastHeld t_lastLeft t_lastCode t_writtenLong t_codeMany t_acts t_done0 t_stoppedAt, ic E (r_t 0) 800 f16, ic E (r_t 27) 12 (upd f7 x3.toNatClampNeg x13), ic E (r_t 25) 12 (upd f5 x3.toNatClampNeg r15), ic E (r_t 28) 12 (upd f8 x3.toNatClampNeg x19), zc E (r_t 26) 12 f17]) hx hb X w 4 dX8_goThrough_155 rfl g155 rfl (fun H locs w => ?_)
              obtain ⟨x20, ex20⟩ : ∃ y : Int32, y = (x3 + (-1)) := ⟨_, rfl⟩
              have hf := pf_nm ex20 hf
              refine lv_iinc (v := x20) (lv' := [(5, .int x20), (0, .ref h0), (1, .int a1), (3, .int a3), (4, .int x1)]) hx hb dX8_goThrough_156 hl (k := 4) rfl (by rw [ex20]; rfl) (by decide) rfl (fun ls hl => ?_)
              refine lv_goto (tgt := 33) hx hb dX8_goThrough_159 (by decide) ?_
              exact ih33 _ _ _ _ _ _ _ _ _ _ _ hf w (lv_sub hl [1, 2, 3, 4, 0] rfl)
            refine lv_icmp_ne (tgt := 145) hx hb dX8_goThrough_109 (by decide) (fun c109 => ?_) (fun c109 => ?_)
            · have hf := pf_e c109 hf
              exact kJ145 _ _ _ _ _ hf w (lv_sub hl [1, 2, 3, 4, 5] rfl)
            · have hf := pf_t c109 hf
              refine lv_aload_n hx hb dX8_goThrough_112 rfl (lv_at hl 1 rfl) ?_
              refine lv_dup hx hb dX8_goThrough_113 rfl ?_
              refine hm_get cb_X8 hx hb hown X w 0 30 fl_X8_267 dX8_goThrough_114 rfl (by decide) rfl ?_
              refine lv_aload_n hx hb dX8_goThrough_117 rfl (lv_at hl 1 rfl) ?_
              refine lv_iload hx hb dX8_goThrough_118 (lv_at hl 5 rfl) ?_
              obtain ⟨r21, hc120, hf⟩ := pf_bi_0 hf
              refine hm_aft_i (ws' := fun _ => [oc8 h0 r_t t_base t_taped t_at t_faultPlace t_number t_newBits t_newTold t_newDoings t_newThings t_opened x9 x10 t_onPaper t_turned t_wasConverted t_lastBits t_lastSum t_lastHeld t_lastLeft t_lastCode t_writtenLong t_codeMany t_acts t_done0 t_stoppedAt, ic E (r_t 0) 800 f16, ic E (r_t 27) 12 (upd f7 x3.toNatClampNeg x13), ic E (r_t 25) 12 (upd f5 x3.toNatClampNeg r15), ic E (r_t 28) 12 f8, zc E (r_t 26) 12 f17]) (hm_runV (rest := [.int x10, .ref h0]) hx hb hml hown X hA Y w 0 (ci := 7) (T := TX8) (N := 55) rfl rfl mw_X8_weight ml_X8_224 dX8_goThrough_120 hm_ac0 [.int x3] rfl [0, 1] rfl rfl (ct_X8_weight l E H.size h0 r_t t_base t_taped t_at t_faultPlace t_number t_newBits t_newTold t_newDoings t_newThings t_opened x9 x10 t_onPaper t_turned t_wasConverted t_lastBits t_lastSum t_lastHeld t_lastLeft t_lastCode t_writtenLong t_codeMany t_acts t_done0 t_stoppedAt f16 x3 (r21, ()) hc120) rfl hl.1 ⟨⟨rfl, rfl⟩, ⟨Nat.le_of_ble_eq_true rfl, Nat.le_of_ble_eq_true rfl⟩, ⟨Nat.le_of_ble_eq_true rfl, Nat.le_of_ble_eq_true rfl⟩, Nat.le_of_ble_eq_true rfl⟩) hA w [0, 1] [2, 3, 4, 5] [4, 5, 0, 1, 2, 3] rfl rfl (by decide) (fun _ => rfl) (fun _ H locs w => ?_)
              refine lv_iadd hx hb dX8_goThrough_123 ?_
              refine lv_topi (fun x22 ex22 => ?_)
              have hf := pf_nm ex22 hf
              refine hm_put (ws' := [oc8 h0 r_t t_base t_taped t_at t_faultPlace t_number t_newBits t_newTold t_newDoings t_newThings t_opened x9 x22 t_onPaper t_turned t_wasConverted t_lastBits t_lastSum t_lastHeld t_lastLeft t_lastCode t_writtenLong t_codeMany t_acts t_done0 t_stoppedAt, ic E (r_t 0) 800 f16, ic E (r_t 27) 12 (upd f7 x3.toNatClampNeg x13), ic E (r_t 25) 12 (upd f5 x3.toNatClampNeg r15), ic E (r_t 28) 12 f8, zc E (r_t 26) 12 f17]) cb_X8 hx hb hown X w 0 30 fl_X8_267 dX8_goThrough_124 rfl (by decide) (Nat.le_of_ble_eq_true rfl) rfl rfl rfl rfl (fun H locs w => ?_)
              refine lv_aload_n hx hb dX8_goThrough_127 rfl (lv_at hl 1 rfl) ?_
              refine lv_dup hx hb dX8_goThrough_128 rfl ?_
              refine hm_get cb_X8 hx hb hown X w 0 29 fl_X8_264 dX8_goThrough_129 rfl (by decide) rfl ?_
              refine lv_aload_n hx hb dX8_goThrough_132 rfl (lv_at hl 1 rfl) ?_
              refine lv_bipush (v := 33) hx hb dX8_goThrough_133 (by decide) ?_
              refine lv_iload hx hb dX8_goThrough_135 (lv_at hl 5 rfl) ?_
              refine lv_iadd hx hb dX8_goThrough_137 ?_
              obtain ⟨r23, hc138, hf⟩ := pf_bi_0 hf
              refine hm_aft_i (ws' := fun _ => [oc8 h0 r_t t_base t_taped t_at t_faultPlace t_number t_newBits t_newTold t_newDoings t_newThings t_opened x9 x22 t_onPaper t_turned t_wasConverted t_lastBits t_lastSum t_lastHeld t_lastLeft t_lastCode t_writtenLong t_codeMany t_acts t_done0 t_stoppedAt, ic E (r_t 0) 800 f16, ic E (r_t 27) 12 (upd f7 x3.toNatClampNeg x13), ic E (r_t 25) 12 (upd f5 x3.toNatClampNeg r15), ic E (r_t 28) 12 f8, zc E (r_t 26) 12 f17]) (hm_runV (rest := [.int x9, .ref h0]) hx hb hml hown X hA Y w 0 (ci := 7) (T := TX8) (N := 55) rfl rfl mw_X8_get ml_X8_221 dX8_goThrough_138 hm_ac0 [.int (33 + x3)] rfl [0, 1] rfl rfl (ct_X8_get l E H.size h0 r_t t_base t_taped t_at t_faultPlace t_number t_newBits t_newTold t_newDoings t_newThings t_opened x9 x22 t_onPaper t_turned t_wasConverted t_lastBits t_lastSum t_lastHeld t_lastLeft t_lastCode t_writtenLong t_codeMany t_acts t_done0 t_stoppedAt f16 (33 + x3) (r23, ()) hc138) rfl hl.1 ⟨⟨rfl, rfl⟩, ⟨Nat.le_of_ble_eq_true rfl, Nat.le_of_ble_eq_true rfl⟩, ⟨Nat.le_of_ble_eq_true rfl, Nat.le_of_ble_eq_true rfl⟩, Nat.le_of_ble_eq_true rfl⟩) hA w [0, 1] [2, 3, 4, 5] [4, 5, 0, 1, 2, 3] rfl rfl (by decide) (fun _ => rfl) (fun _ H locs w => ?_)
              refine lv_iadd hx hb dX8_goThrough_141 ?_
              refine lv_topi (fun x24 ex24 => ?_)
              have hf := pf_nm ex24 hf
              refine hm_put (ws' := [oc8 h0 r_t t_base t_taped t_at t_faultPlace t_number t_newBits t_newTold t_newDoings t_newThings t_opened x24 x22 t_onPaper t_turned t_wasConverted t_lastBits t_lastSum t_lastHeld t_lastLeft t_lastCode t_writtenLong t_codeMany t_acts t_done0 t_stoppedAt, ic E (r_t 0) 800 f16, ic E (r_t 27) 12 (upd f7 x3.toNatClampNeg x13), ic E (r_t 25) 12 (upd f5 x3.toNatClampNeg r15), ic E (r_t 28) 12 f8, zc E (r_t 26) 12 f17]) cb_X8 hx hb hown X w 0 29 fl_X8_264 dX8_goThrough_142 rfl (by decide) (Nat.le_of_ble_eq_true rfl) rfl rfl rfl rfl (fun H locs w => ?_)
              exact kJ145 _ _ _ _ _ hf w (lv_sub hl [1, 2, 3, 4, 5] rfl)
          refine lv_if_le (tgt := 78) hx hb dX8_goThrough_57 (by decide) (fun c57 => ?_) (fun c57 => ?_)
          · have hf := pf_t c57 hf
            exact kJ78 _ _ _ _ _ hf w (lv_sub hl [1, 2, 3, 4, 5, 0] rfl)
          · have hf := pf_e c57 hf
            refine lv_iload hx hb dX8_goThrough_60 (lv_at hl 0 rfl) ?_
            refine lv_aload_n hx hb dX8_goThrough_62 rfl (lv_at hl 1 rfl) ?_
            refine lv_iload hx hb dX8_goThrough_63 (lv_at hl 4 rfl) ?_
            refine lv_iconst (v := 2) hx hb dX8_goThrough_65 (by decide) ?_
            refine lv_imul hx hb dX8_goThrough_66 ?_
            refine lv_iconst (v := 1) hx hb dX8_goThrough_67 (by decide) ?_
            refine lv_iadd hx hb dX8_goThrough_68 ?_
            obtain ⟨r25, f26, hc69, hf⟩ := pf_bi_1 hf
            refine hm_aft_i (ws' := fun _ => [oc8 h0 r_t t_base t_taped t_at t_faultPlace t_number t_newBits t_newTold t_newDoings t_newThings t_opened x9 x10 t_onPaper t_turned t_wasConverted t_lastBits t_lastSum t_lastHeld t_lastLeft t_lastCode t_writtenLong t_codeMany t_acts t_done0 t_stoppedAt, ic E (r_t 0) 800 f26, ic E (r_t 27) 12 f7, ic E (r_t 25) 12 f5, ic E (r_t 28) 12 f8, zc E (r_t 26) 12 f6]) (hm_runV (rest := [.int x12]) hx hb hml hown X hA Y w 0 (ci := 7) (T := TX8) (N := 55) rfl rfl mw_X8_draw ml_X8_261 dX8_goThrough_69 hm_ac0 [.int ((x1 * 2) + 1)] rfl [0, 1] rfl rfl (ct_X8_draw l E H.size h0 r_t t_base t_taped t_at t_faultPlace t_number t_newBits t_newTold t_newDoings t_newThings t_opened x9 x10 t_onPaper t_turned t_wasConverted t_lastBits t_lastSum t_lastHeld t_lastLeft t_lastCode t_writtenLong t_codeMany t_acts t_done0 t_stoppedAt f4 ((x1 * 2) + 1) (r25, f26) hc69) rfl hl.1 ⟨⟨rfl, rfl⟩, ⟨Nat.le_of_ble_eq_true rfl, Nat.le_of_ble_eq_true rfl⟩, ⟨Nat.le_of_ble_eq_true rfl, Nat.le_of_ble_eq_true rfl⟩, Nat.le_of_ble_eq_true rfl⟩) hA w [0, 1] [2, 3, 4, 5] [4, 5, 0, 1, 2, 3] rfl rfl (by decide) (fun _ => rfl) (fun _ H locs w => ?_)
            refine lv_iload hx hb dX8_goThrough_72 (lv_at hl 4 rfl) ?_
            refine lv_isub hx hb dX8_goThrough_74 ?_
            refine lv_iadd hx hb dX8_goThrough_75 ?_
            refine lv_topi (fun x27 ex27 => ?_)
            have hf := pf_nm ex27 hf
            refine lv_istore (lv' := [(6, .int x27), (0, .ref h0), (1, .int a1), (3, .int a3), (4, .int x1), (5, .int x3)]) hx hb dX8_goThrough_76 hl (by decide) rfl (fun ls hl => ?_)
            exact kJ78 _ _ _ _ _ hf w (lv_sub hl [1, 2, 3, 4, 5, 0] rfl)
    exact klp_X8_goThrough_33 FU _ _ _ _ _ _ _ _ _ _ _ hf w (lv_sub hl [2, 3, 5, 1, 0] rfl)
  refine lv_if_eq (tgt := 21) hx hb dX8_goThrough_14 (by decide) (fun c14 => ?_) (fun c14 => ?_)
  · have hf := pf_t c14 hf
    refine lv_aload_n hx hb dX8_goThrough_21 rfl (lv_at hl 0 rfl) ?_
    refine lv_iconst (v := 4) hx hb dX8_goThrough_22 (by decide) ?_
    obtain ⟨r28, hc23, hf⟩ := pf_bi_0 hf
    refine hm_aft_i (ws' := fun _ => [oc8 h0 r_t t_base t_taped t_at t_faultPlace t_number t_newBits t_newTold t_newDoings t_newThings t_opened 0 0 t_onPaper t_turned t_wasConverted t_lastBits t_lastSum t_lastHeld t_lastLeft t_lastCode t_writtenLong t_codeMany t_acts t_done0 t_stoppedAt, ic E (r_t 0) 800 t_all, ic E (r_t 27) 12 t_askedOf, ic E (r_t 25) 12 t_decided, ic E (r_t 28) 12 t_heldBehind, zc E (r_t 26) 12 t_wasLate]) (hm_runV (rest := []) hx hb hml hown X hA Y w 0 (ci := 7) (T := TX8) (N := 55) rfl rfl mw_X8_get ml_X8_221 dX8_goThrough_23 hm_ac0 [.int 4] rfl [0, 1] rfl rfl (ct_X8_get l E H.size h0 r_t t_base t_taped t_at t_faultPlace t_number t_newBits t_newTold t_newDoings t_newThings t_opened 0 0 t_onPaper t_turned t_wasConverted t_lastBits t_lastSum t_lastHeld t_lastLeft t_lastCode t_writtenLong t_codeMany t_acts t_done0 t_stoppedAt t_all 4 (r28, ()) hc23) rfl hl.1 ⟨⟨rfl, rfl⟩, ⟨Nat.le_of_ble_eq_true rfl, Nat.le_of_ble_eq_true rfl⟩, ⟨Nat.le_of_ble_eq_true rfl, Nat.le_of_ble_eq_true rfl⟩, Nat.le_of_ble_eq_true rfl⟩) hA w [0, 1] [2, 3, 4, 5] [4, 5, 0, 1, 2, 3] rfl rfl (by decide) (fun _ => rfl) (fun _ H locs w => ?_)
    exact kJ26 _ _ _ _ hf w (lv_sub hl [0, 1, 2, 3] rfl)
  · have hf := pf_e c14 hf
    refine lv_iconst (v := 0) hx hb dX8_goThrough_17 (by decide) ?_
    refine lv_goto (tgt := 26) hx hb dX8_goThrough_18 (by decide) ?_
    exact kJ26 _ _ _ _ hf w (lv_sub hl [0, 1, 2, 3] rfl)
set_option maxHeartbeats 8000000 in
set_option maxRecDepth 100000 in
theorem ct_X8_codeNow (l : Launch) (E : hm_E) (sz : Nat) (h0 : Nat) (r_t : Nat → Nat) (t_base t_taped t_at t_faultPlace t_number t_newBits t_newTold t_newDoings t_newThings t_opened t_sum t_heldAll t_onPaper t_turned t_wasConverted t_lastBits t_lastSum t_lastHeld t_lastLeft t_lastCode t_writtenLong t_codeMany t_acts t_done0 t_stoppedAt : Int32) (t_all : Nat → Int32) (R : Int32 × Unit) (hf : pf_X8_codeNow t_all t_base t_sum = some R) : hm_Mi l E yX8_codeNow cX8_codeNow 1 .int [] (hm_rr 1 21 0 0) [.ref h0] sz [oc8 h0 r_t t_base t_taped t_at t_faultPlace t_number t_newBits t_newTold t_newDoings t_newThings t_opened t_sum t_heldAll t_onPaper t_turned t_wasConverted t_lastBits t_lastSum t_lastHeld t_lastLeft t_lastCode t_writtenLong t_codeMany t_acts t_done0 t_stoppedAt, ic E (r_t 0) 800 t_all] R.1 (fun _ => [oc8 h0 r_t t_base t_taped t_at t_faultPlace t_number t_newBits t_newTold t_newDoings t_newThings t_opened t_sum t_heldAll t_onPaper t_turned t_wasConverted t_lastBits t_lastSum t_lastHeld t_lastLeft t_lastCode t_writtenLong t_codeMany t_acts t_done0 t_stoppedAt, ic E (r_t 0) 800 t_all]) := by
  refine hm_ct_i R (fun u qs => [oc8 h0 r_t t_base t_taped t_at t_faultPlace t_number t_newBits t_newTold t_newDoings t_newThings t_opened t_sum t_heldAll t_onPaper t_turned t_wasConverted t_lastBits t_lastSum t_lastHeld t_lastLeft t_lastCode t_writtenLong t_codeMany t_acts t_done0 t_stoppedAt, ic E (r_t 0) 800 t_all]) (by decide) (Nat.le_of_ble_eq_true rfl) (Or.inl rfl) ?_
  intro p e s m args below meth c A Q ls H locs hx hb hml hown X hA Y hex w hl hQ
  have hl : lv_has ls 1 [(0, .ref h0)] := hl
  unfold pf_X8_codeNow at hf
  refine lv_aload_n hx hb dX8_codeNow_0 rfl (lv_at hl 0 rfl) ?_
  refine hm_get cb_X8 hx hb hown X w 0 29 fl_X8_264 dX8_codeNow_1 rfl (by decide) rfl ?_
  refine lv_iconst (v := 2) hx hb dX8_codeNow_4 (by decide) ?_
  refine lv_imul hx hb dX8_codeNow_5 ?_
  refine lv_aload_n hx hb dX8_codeNow_6 rfl (lv_at hl 0 rfl) ?_
  refine lv_iconst (v := 5) hx hb dX8_codeNow_7 (by decide) ?_
  obtain ⟨r1, hc8, hf⟩ := pf_bi_0 hf
  refine hm_aft_i (ws' := fun _ => [oc8 h0 r_t t_base t_taped t_at t_faultPlace t_number t_newBits t_newTold t_newDoings t_newThings t_opened t_sum t_heldAll t_onPaper t_turned t_wasConverted t_lastBits t_lastSum t_lastHeld t_lastLeft t_lastCode t_writtenLong t_codeMany t_acts t_done0 t_stoppedAt, ic E (r_t 0) 800 t_all]) (hm_runV (rest := [.int (t_sum * 2)]) hx hb hml hown X hA Y w 0 (ci := 7) (T := TX8) (N := 55) rfl rfl mw_X8_get ml_X8_221 dX8_codeNow_8 hm_ac0 [.int 5] rfl [0, 1] rfl rfl (ct_X8_get l E H.size h0 r_t t_base t_taped t_at t_faultPlace t_number t_newBits t_newTold t_newDoings t_newThings t_opened t_sum t_heldAll t_onPaper t_turned t_wasConverted t_lastBits t_lastSum t_lastHeld t_lastLeft t_lastCode t_writtenLong t_codeMany t_acts t_done0 t_stoppedAt t_all 5 (r1, ()) hc8) rfl hl.1 ⟨⟨rfl, rfl⟩, ⟨Nat.le_of_ble_eq_true rfl, Nat.le_of_ble_eq_true rfl⟩, ⟨Nat.le_of_ble_eq_true rfl, Nat.le_of_ble_eq_true rfl⟩, Nat.le_of_ble_eq_true rfl⟩) hA w [0, 1] [] [0, 1] rfl rfl (by decide) (fun _ => rfl) (fun _ H locs w => ?_)
  refine lv_iadd hx hb dX8_codeNow_11 ?_
  refine lv_aload_n hx hb dX8_codeNow_12 rfl (lv_at hl 0 rfl) ?_
  refine lv_iconst (v := 5) hx hb dX8_codeNow_13 (by decide) ?_
  obtain ⟨r2, hc14, hf⟩ := pf_bi_0 hf
  refine hm_aft_i (ws' := fun _ => [oc8 h0 r_t t_base t_taped t_at t_faultPlace t_number t_newBits t_newTold t_newDoings t_newThings t_opened t_sum t_heldAll t_onPaper t_turned t_wasConverted t_lastBits t_lastSum t_lastHeld t_lastLeft t_lastCode t_writtenLong t_codeMany t_acts t_done0 t_stoppedAt, ic E (r_t 0) 800 t_all]) (hm_runV (rest := [.int ((t_sum * 2) + r1)]) hx hb hml hown X hA Y w 0 (ci := 7) (T := TX8) (N := 55) rfl rfl mw_X8_get ml_X8_221 dX8_codeNow_14 hm_ac0 [.int 5] rfl [0, 1] rfl rfl (ct_X8_get l E H.size h0 r_t t_base t_taped t_at t_faultPlace t_number t_newBits t_newTold t_newDoings t_newThings t_opened t_sum t_heldAll t_onPaper t_turned t_wasConverted t_lastBits t_lastSum t_lastHeld t_lastLeft t_lastCode t_writtenLong t_codeMany t_acts t_done0 t_stoppedAt t_all 5 (r2, ()) hc14) rfl hl.1 ⟨⟨rfl, rfl⟩, ⟨Nat.le_of_ble_eq_true rfl, Nat.le_of_ble_eq_true rfl⟩, ⟨Nat.le_of_ble_eq_true rfl, Nat.le_of_ble_eq_true rfl⟩, Nat.le_of_ble_eq_true rfl⟩) hA w [0, 1] [] [0, 1] rfl rfl (by decide) (fun _ => rfl) (fun _ H locs w => ?_)
  refine lv_iconst (v := 2) hx hb dX8_codeNow_17 (by decide) ?_
  refine lv_imul hx hb dX8_codeNow_18 ?_
  obtain ⟨g19, hf⟩ := pf_ckD hf
  refine lv_idiv hx hb dX8_codeNow_19 g19 ?_
  exact hQ _ _ _ _ _ () (fun _ => 0) hf rfl w dX8_codeNow_20
set_option maxHeartbeats 8000000 in
set_option maxRecDepth 100000 in
theorem ct_X8_paperCode (l : Launch) (E : hm_E) (sz : Nat) (h0 : Nat) (r_t : Nat → Nat) (t_base t_taped t_at t_faultPlace t_number t_newBits t_newTold t_newDoings t_newThings t_opened t_sum t_heldAll t_onPaper t_turned t_wasConverted t_lastBits t_lastSum t_lastHeld t_lastLeft t_lastCode t_writtenLong t_codeMany t_acts t_done0 t_stoppedAt : Int32) (t_all : Nat → Int32) (t_askedOf : Nat → Int32) (t_decided : Nat → Int32) (t_heldBehind : Nat → Int32) (t_wasLate : Nat → Int32) (a1 : Int32) (R : Int32 × (Nat → Int32) × (Nat → Int32) × (Nat → Int32) × (Nat → Int32) × (Nat → Int32) × Int32 × Int32 × Int32) (hf : pf_X8_paperCode a1 t_all t_base t_decided t_wasLate t_askedOf t_heldBehind t_turned = some R) : hm_Mi l E yX8_paperCode cX8_paperCode 2 .int [] (hm_rr 4 94 0 0) [.ref h0, .int a1] sz [oc8 h0 r_t t_base t_taped t_at t_faultPlace t_number t_newBits t_newTold t_newDoings t_newThings t_opened t_sum t_heldAll t_onPaper t_turned t_wasConverted t_lastBits t_lastSum t_lastHeld t_lastLeft t_lastCode t_writtenLong t_codeMany t_acts t_done0 t_stoppedAt, ic E (r_t 0) 800 t_all, ic E (r_t 27) 12 t_askedOf, ic E (r_t 25) 12 t_decided, ic E (r_t 28) 12 t_heldBehind, zc E (r_t 26) 12 t_wasLate] R.1 (fun _ => [oc8 h0 r_t t_base t_taped t_at t_faultPlace t_number t_newBits t_newTold t_newDoings t_newThings t_opened (R.2.2.2.2.2.2.1) (R.2.2.2.2.2.2.2.1) (R.2.2.2.2.2.2.2.2) t_turned t_wasConverted t_lastBits t_lastSum t_lastHeld t_lastLeft t_lastCode t_writtenLong t_codeMany t_acts t_done0 t_stoppedAt, ic E (r_t 0) 800 (R.2.1), ic E (r_t 27) 12 (R.2.2.2.2.1), ic E (r_t 25) 12 (R.2.2.1), ic E (r_t 28) 12 (R.2.2.2.2.2.1), zc E (r_t 26) 12 (R.2.2.2.1)]) := by
  refine hm_ct_i R (fun u qs => [oc8 h0 r_t t_base t_taped t_at t_faultPlace t_number t_newBits t_newTold t_newDoings t_newThings t_opened (u.2.2.2.2.2.1) (u.2.2.2.2.2.2.1) (u.2.2.2.2.2.2.2) t_turned t_wasConverted t_lastBits t_lastSum t_lastHeld t_lastLeft t_lastCode t_writtenLong t_codeMany t_acts t_done0 t_stoppedAt, ic E (r_t 0) 800 (u.1), ic E (r_t 27) 12 (u.2.2.2.1), ic E (r_t 25) 12 (u.2.1), ic E (r_t 28) 12 (u.2.2.2.2.1), zc E (r_t 26) 12 (u.2.2.1)]) (by decide) (Nat.le_of_ble_eq_true rfl) (Or.inl rfl) ?_
  intro p e s m args below meth c A Q ls H locs hx hb hml hown X hA Y hex w hl hQ
  have hl : lv_has ls 2 [(0, .ref h0), (1, .int a1)] := hl
  unfold pf_X8_paperCode at hf
  refine lv_aload_n hx hb dX8_paperCode_0 rfl (lv_at hl 0 rfl) ?_
  refine lv_iconst (v := 1) hx hb dX8_paperCode_1 (by decide) ?_
  refine hm_put (ws' := [oc8 h0 r_t t_base t_taped t_at t_faultPlace t_number t_newBits t_newTold t_newDoings t_newThings t_opened t_sum t_heldAll 1 t_turned t_wasConverted t_lastBits t_lastSum t_lastHeld t_lastLeft t_lastCode t_writtenLong t_codeMany t_acts t_done0 t_stoppedAt, ic E (r_t 0) 800 t_all, ic E (r_t 27) 12 t_askedOf, ic E (r_t 25) 12 t_decided, ic E (r_t 28) 12 t_heldBehind, zc E (r_t 26) 12 t_wasLate]) cb_X8 hx hb hown X w 0 31 fl_X8_258 dX8_paperCode_2 rfl (by decide) (Nat.le_of_ble_eq_true rfl) rfl rfl rfl rfl (fun H locs w => ?_)
  refine lv_aload_n hx hb dX8_paperCode_5 rfl (lv_at hl 0 rfl) ?_
  refine lv_iload_n hx hb dX8_paperCode_6 rfl (lv_at hl 1 rfl) ?_
  refine lv_aload_n hx hb dX8_paperCode_7 rfl (lv_at hl 0 rfl) ?_
  refine lv_iconst (v := 0) hx hb dX8_paperCode_8 (by decide) ?_
  obtain ⟨r1, hc9, hf⟩ := pf_bi_0 hf
  refine hm_aft_i (ws' := fun _ => [oc8 h0 r_t t_base t_taped t_at t_faultPlace t_number t_newBits t_newTold t_newDoings t_newThings t_opened t_sum t_heldAll 1 t_turned t_wasConverted t_lastBits t_lastSum t_lastHeld t_lastLeft t_lastCode t_writtenLong t_codeMany t_acts t_done0 t_stoppedAt, ic E (r_t 0) 800 t_all, ic E (r_t 27) 12 t_askedOf, ic E (r_t 25) 12 t_decided, ic E (r_t 28) 12 t_heldBehind, zc E (r_t 26) 12 t_wasLate]) (hm_runV (rest := [.int a1, .ref h0]) hx hb hml hown X hA Y w 0 (ci := 7) (T := TX8) (N := 55) rfl rfl mw_X8_get ml_X8_221 dX8_paperCode_9 hm_ac0 [.int 0] rfl [0, 1] rfl rfl (ct_X8_get l E H.size h0 r_t t_base t_taped t_at t_faultPlace t_number t_newBits t_newTold t_newDoings t_newThings t_opened t_sum t_heldAll 1 t_turned t_wasConverted t_lastBits t_lastSum t_lastHeld t_lastLeft t_lastCode t_writtenLong t_codeMany t_acts t_done0 t_stoppedAt t_all 0 (r1, ()) hc9) rfl hl.1 ⟨⟨rfl, rfl⟩, ⟨Nat.le_of_ble_eq_true rfl, Nat.le_of_ble_eq_true rfl⟩, ⟨Nat.le_of_ble_eq_true rfl, Nat.le_of_ble_eq_true rfl⟩, Nat.le_of_ble_eq_true rfl⟩) hA w [0, 1] [2, 3, 4, 5] [4, 5, 0, 1, 2, 3] rfl rfl (by decide) (fun _ => rfl) (fun _ H locs w => ?_)
  refine lv_aload_n hx hb dX8_paperCode_12 rfl (lv_at hl 0 rfl) ?_
  refine lv_iconst (v := 1) hx hb dX8_paperCode_13 (by decide) ?_
  obtain ⟨r2, hc14, hf⟩ := pf_bi_0 hf
  refine hm_aft_i (ws' := fun _ => [oc8 h0 r_t t_base t_taped t_at t_faultPlace t_number t_newBits t_newTold t_newDoings t_newThings t_opened t_sum t_heldAll 1 t_turned t_wasConverted t_lastBits t_lastSum t_lastHeld t_lastLeft t_lastCode t_writtenLong t_codeMany t_acts t_done0 t_stoppedAt, ic E (r_t 0) 800 t_all, ic E (r_t 27) 12 t_askedOf, ic E (r_t 25) 12 t_decided, ic E (r_t 28) 12 t_heldBehind, zc E (r_t 26) 12 t_wasLate]) (hm_runV (rest := [.int r1, .int a1, .ref h0]) hx hb hml hown X hA Y w 0 (ci := 7) (T := TX8) (N := 55) rfl rfl mw_X8_get ml_X8_221 dX8_paperCode_14 hm_ac0 [.int 1] rfl [0, 1] rfl rfl (ct_X8_get l E H.size h0 r_t t_base t_taped t_at t_faultPlace t_number t_newBits t_newTold t_newDoings t_newThings t_opened t_sum t_heldAll 1 t_turned t_wasConverted t_lastBits t_lastSum t_lastHeld t_lastLeft t_lastCode t_writtenLong t_codeMany t_acts t_done0 t_stoppedAt t_all 1 (r2, ()) hc14) rfl hl.1 ⟨⟨rfl, rfl⟩, ⟨Nat.le_of_ble_eq_true rfl, Nat.le_of_ble_eq_true rfl⟩, ⟨Nat.le_of_ble_eq_true rfl, Nat.le_of_ble_eq_true rfl⟩, Nat.le_of_ble_eq_true rfl⟩) hA w [0, 1] [2, 3, 4, 5] [4, 5, 0, 1, 2, 3] rfl rfl (by decide) (fun _ => rfl) (fun _ H locs w => ?_)
  obtain ⟨f3, f4, f5, f6, f7, x8, x9, hc17, hf⟩ := pf_bv_7 hf
  refine hm_aft_v (ws' := fun _ => [oc8 h0 r_t t_base t_taped t_at t_faultPlace t_number t_newBits t_newTold t_newDoings t_newThings t_opened x8 x9 1 t_turned t_wasConverted t_lastBits t_lastSum t_lastHeld t_lastLeft t_lastCode t_writtenLong t_codeMany t_acts t_done0 t_stoppedAt, ic E (r_t 0) 800 f3, ic E (r_t 27) 12 f6, ic E (r_t 25) 12 f4, ic E (r_t 28) 12 f7, zc E (r_t 26) 12 f5]) (hm_runV (rest := []) hx hb hml hown X hA Y w 0 (ci := 7) (T := TX8) (N := 55) rfl rfl mw_X8_goThrough ml_X8_273 dX8_paperCode_17 hm_ac0 [.int a1, .int r1, .int r2] rfl [0, 1, 2, 3, 4, 5] rfl rfl (ct_X8_goThrough l E H.size h0 r_t t_base t_taped t_at t_faultPlace t_number t_newBits t_newTold t_newDoings t_newThings t_opened t_sum t_heldAll 1 t_turned t_wasConverted t_lastBits t_lastSum t_lastHeld t_lastLeft t_lastCode t_writtenLong t_codeMany t_acts t_done0 t_stoppedAt t_all t_askedOf t_decided t_heldBehind t_wasLate a1 r1 r2 (f3, f4, f5, f6, f7, x8, x9) hc17) rfl hl.1 ⟨⟨rfl, rfl⟩, ⟨Nat.le_of_ble_eq_true rfl, Nat.le_of_ble_eq_true rfl⟩, ⟨Nat.le_of_ble_eq_true rfl, Nat.le_of_ble_eq_true rfl⟩, Nat.le_of_ble_eq_true rfl⟩) hA w [0, 1, 2, 3, 4, 5] [] [0, 1, 2, 3, 4, 5] rfl rfl (by decide) (fun _ => rfl) (fun _ H locs w => ?_)
  refine lv_aload_n hx hb dX8_paperCode_20 rfl (lv_at hl 0 rfl) ?_
  refine lv_iconst (v := 0) hx hb dX8_paperCode_21 (by decide) ?_
  refine hm_put (ws' := [oc8 h0 r_t t_base t_taped t_at t_faultPlace t_number t_newBits t_newTold t_newDoings t_newThings t_opened x8 x9 0 t_turned t_wasConverted t_lastBits t_lastSum t_lastHeld t_lastLeft t_lastCode t_writtenLong t_codeMany t_acts t_done0 t_stoppedAt, ic E (r_t 0) 800 f3, ic E (r_t 27) 12 f6, ic E (r_t 25) 12 f4, ic E (r_t 28) 12 f7, zc E (r_t 26) 12 f5]) cb_X8 hx hb hown X w 0 31 fl_X8_258 dX8_paperCode_22 rfl (by decide) (Nat.le_of_ble_eq_true rfl) rfl rfl rfl rfl (fun H locs w => ?_)
  refine lv_aload_n hx hb dX8_paperCode_25 rfl (lv_at hl 0 rfl) ?_
  obtain ⟨r10, hc26, hf⟩ := pf_bi_0 hf
  refine hm_aft_i (ws' := fun _ => [oc8 h0 r_t t_base t_taped t_at t_faultPlace t_number t_newBits t_newTold t_newDoings t_newThings t_opened x8 x9 0 t_turned t_wasConverted t_lastBits t_lastSum t_lastHeld t_lastLeft t_lastCode t_writtenLong t_codeMany t_acts t_done0 t_stoppedAt, ic E (r_t 0) 800 f3, ic E (r_t 27) 12 f6, ic E (r_t 25) 12 f4, ic E (r_t 28) 12 f7, zc E (r_t 26) 12 f5]) (hm_runV (rest := []) hx hb hml hown X hA Y w 0 (ci := 7) (T := TX8) (N := 55) rfl rfl mw_X8_codeNow ml_X8_276 dX8_paperCode_26 hm_ac0 [] rfl [0, 1] rfl rfl (ct_X8_codeNow l E H.size h0 r_t t_base t_taped t_at t_faultPlace t_number t_newBits t_newTold t_newDoings t_newThings t_opened x8 x9 0 t_turned t_wasConverted t_lastBits t_lastSum t_lastHeld t_lastLeft t_lastCode t_writtenLong t_codeMany t_acts t_done0 t_stoppedAt f3 (r10, ()) hc26) rfl hl.1 ⟨⟨rfl, rfl⟩, ⟨Nat.le_of_ble_eq_true rfl, Nat.le_of_ble_eq_true rfl⟩, ⟨Nat.le_of_ble_eq_true rfl, Nat.le_of_ble_eq_true rfl⟩, Nat.le_of_ble_eq_true rfl⟩) hA w [0, 1] [2, 3, 4, 5] [4, 5, 0, 1, 2, 3] rfl rfl (by decide) (fun _ => rfl) (fun _ H locs w => ?_)
  exact hQ _ _ _ _ _ (f3, f4, f5, f6, f7, x8, x9, 0) (fun _ => 0) hf rfl w dX8_paperCode_29
set_option maxHeartbeats 8000000 in
set_option maxRecDepth 100000 in
theorem ct_X8_isX (l : Launch) (E : hm_E) (sz : Nat) (a0 : Int32) (R : Int32 × Unit) (hf : pf_X8_isX a0 = some R) : hm_Mi l E yX8_isX cX8_isX 1 .boolean [] (hm_rr 1 22 0 0) [.int a0] sz [] R.1 (fun _ => []) := by
  refine hm_ct_i R (fun u qs => []) (by decide) (Nat.le_of_ble_eq_true rfl) (Or.inr rfl) ?_
  intro p e s m args below meth c A Q ls H locs hx hb hml hown X hA Y hex w hl hQ
  have hl : lv_has ls 1 [(0, .int a0)] := hl
  unfold pf_X8_isX at hf
  refine lv_iload_n hx hb dX8_isX_0 rfl (lv_at hl 0 rfl) ?_
  refine lv_ldc (v := (-100000)) hx hb hown (X.use ck_X8_250 rfl) dX8_isX_1 ?_
  refine lv_ldcw (v := 100000) hx hb hown (X.use ck_X8_279 rfl) dX8_isX_3 ?_
  obtain ⟨r1, hc6, hf⟩ := pf_bi_0 hf
  refine hm_aft_i (ws' := fun _ => []) (hm_runS (rest := []) hx hb hml hown X hA Y w mw_X8_isIn ml_X8_129 dX8_isX_6 hm_ac0 [.int a0, .int (-100000), .int 100000] rfl [] rfl rfl (ct_X8_isIn l E H.size a0 (-100000) 100000 (r1, ()) hc6) rfl hl.1 ⟨⟨rfl, rfl⟩, ⟨Nat.le_of_ble_eq_true rfl, Nat.le_of_ble_eq_true rfl⟩, ⟨Nat.le_of_ble_eq_true rfl, Nat.le_of_ble_eq_true rfl⟩, Nat.le_of_ble_eq_true rfl⟩) hA w [] [] [] rfl rfl (by decide) (fun _ => rfl) (fun _ H locs w => ?_)
  obtain ⟨g9, hf⟩ := pf_ckZ hf
  exact hQ _ _ _ _ _ () (fun _ => 0) hf (hm_z g9) w dX8_isX_9
set_option maxHeartbeats 8000000 in
set_option maxRecDepth 100000 in
theorem ct_X8_convert (l : Launch) (E : hm_E) (sz : Nat) (h0 : Nat) (r_t : Nat → Nat) (t_base t_taped t_at t_faultPlace t_number t_newBits t_newTold t_newDoings t_newThings t_opened t_sum t_heldAll t_onPaper t_turned t_wasConverted t_lastBits t_lastSum t_lastHeld t_lastLeft t_lastCode t_writtenLong t_codeMany t_acts t_done0 t_stoppedAt : Int32) (t_all : Nat → Int32) (t_askedOf : Nat → Int32) (t_decided : Nat → Int32) (t_heldBehind : Nat → Int32) (t_last : Nat → Int32) (t_wasLate : Nat → Int32) (a1 : Int32) (R : Int32 × (Nat → Int32) × (Nat → Int32) × (Nat → Int32) × (Nat → Int32) × (Nat → Int32) × Int32 × Int32 × Int32 × Int32 × Int32 × Int32 × Int32 × Int32 × (Nat → Int32)) (hf : pf_X8_convert a1 t_all t_base t_decided t_wasLate t_askedOf t_heldBehind t_sum t_heldAll t_onPaper t_turned t_wasConverted t_lastBits t_lastSum t_lastHeld t_lastLeft t_lastCode t_last = some R) : hm_Mi l E yX8_convert cX8_convert 3 .int [] (hm_rr 4 94 0 0) [.ref h0, .int a1] sz [oc8 h0 r_t t_base t_taped t_at t_faultPlace t_number t_newBits t_newTold t_newDoings t_newThings t_opened t_sum t_heldAll t_onPaper t_turned t_wasConverted t_lastBits t_lastSum t_lastHeld t_lastLeft t_lastCode t_writtenLong t_codeMany t_acts t_done0 t_stoppedAt, ic E (r_t 0) 800 t_all, ic E (r_t 27) 12 t_askedOf, ic E (r_t 25) 12 t_decided, ic E (r_t 28) 12 t_heldBehind, ic E (r_t 39) 48 t_last, zc E (r_t 26) 12 t_wasLate] R.1 (fun _ => [oc8 h0 r_t t_base t_taped t_at t_faultPlace t_number t_newBits t_newTold t_newDoings t_newThings t_opened (R.2.2.2.2.2.2.1) (R.2.2.2.2.2.2.2.1) t_onPaper t_turned (R.2.2.2.2.2.2.2.2.1) (R.2.2.2.2.2.2.2.2.2.1) (R.2.2.2.2.2.2.2.2.2.2.1) (R.2.2.2.2.2.2.2.2.2.2.2.1) (R.2.2.2.2.2.2.2.2.2.2.2.2.1) (R.2.2.2.2.2.2.2.2.2.2.2.2.2.1) t_writtenLong t_codeMany t_acts t_done0 t_stoppedAt, ic E (r_t 0) 800 (R.2.1), ic E (r_t 27) 12 (R.2.2.2.2.1), ic E (r_t 25) 12 (R.2.2.1), ic E (r_t 28) 12 (R.2.2.2.2.2.1), ic E (r_t 39) 48 (R.2.2.2.2.2.2.2.2.2.2.2.2.2.2), zc E (r_t 26) 12 (R.2.2.2.1)]) := by
  refine hm_ct_i R (fun u qs => [oc8 h0 r_t t_base t_taped t_at t_faultPlace t_number t_newBits t_newTold t_newDoings t_newThings t_opened (u.2.2.2.2.2.1) (u.2.2.2.2.2.2.1) t_onPaper t_turned (u.2.2.2.2.2.2.2.1) (u.2.2.2.2.2.2.2.2.1) (u.2.2.2.2.2.2.2.2.2.1) (u.2.2.2.2.2.2.2.2.2.2.1) (u.2.2.2.2.2.2.2.2.2.2.2.1) (u.2.2.2.2.2.2.2.2.2.2.2.2.1) t_writtenLong t_codeMany t_acts t_done0 t_stoppedAt, ic E (r_t 0) 800 (u.1), ic E (r_t 27) 12 (u.2.2.2.1), ic E (r_t 25) 12 (u.2.1), ic E (r_t 28) 12 (u.2.2.2.2.1), ic E (r_t 39) 48 (u.2.2.2.2.2.2.2.2.2.2.2.2.2), zc E (r_t 26) 12 (u.2.2.1)]) (by decide) (Nat.le_of_ble_eq_true rfl) (Or.inl rfl) ?_
  intro p e s m args below meth c A Q ls H locs hx hb hml hown X hA Y hex w hl hQ
  have hl : lv_has ls 3 [(0, .ref h0), (1, .int a1)] := hl
  unfold pf_X8_convert at hf
  refine lv_iload_n hx hb dX8_convert_0 rfl (lv_at hl 1 rfl) ?_
  obtain ⟨r1, hc1, hf⟩ := pf_bi_0 hf
  refine hm_aft_i (ws' := fun _ => [oc8 h0 r_t t_base t_taped t_at t_faultPlace t_number t_newBits t_newTold t_newDoings t_newThings t_opened t_sum t_heldAll t_onPaper t_turned t_wasConverted t_lastBits t_lastSum t_lastHeld t_lastLeft t_lastCode t_writtenLong t_codeMany t_acts t_done0 t_stoppedAt, ic E (r_t 0) 800 t_all, ic E (r_t 27) 12 t_askedOf, ic E (r_t 25) 12 t_decided, ic E (r_t 28) 12 t_heldBehind, ic E (r_t 39) 48 t_last, zc E (r_t 26) 12 t_wasLate]) (hm_runS (rest := []) hx hb hml hown X hA Y w mw_X8_isX ml_X8_280 dX8_convert_1 hm_ac0 [.int a1] rfl [] rfl rfl (ct_X8_isX l E H.size a1 (r1, ()) hc1) rfl hl.1 ⟨⟨rfl, rfl⟩, ⟨Nat.le_of_ble_eq_true rfl, Nat.le_of_ble_eq_true rfl⟩, ⟨Nat.le_of_ble_eq_true rfl, Nat.le_of_ble_eq_true rfl⟩, Nat.le_of_ble_eq_true rfl⟩) hA w [] [0, 1, 2, 3, 4, 5, 6] [0, 1, 2, 3, 4, 5, 6] rfl rfl (by decide) (fun _ => rfl) (fun _ H locs w => ?_)
  refine lv_if_eq (tgt := 15) hx hb dX8_convert_4 (by decide) (fun c4 => ?_) (fun c4 => ?_)
  · have hf := pf_t c4 hf
    refine lv_ldcw (v := (-1000000)) hx hb hown (X.use ck_X8_283 rfl) dX8_convert_15 ?_
    exact hQ _ _ _ _ _ (t_all, t_decided, t_wasLate, t_askedOf, t_heldBehind, t_sum, t_heldAll, t_wasConverted, t_lastBits, t_lastSum, t_lastHeld, t_lastLeft, t_lastCode, t_last) (fun _ => 0) hf rfl w dX8_convert_18
  · have hf := pf_e c4 hf
    refine lv_aload_n hx hb dX8_convert_7 rfl (lv_at hl 0 rfl) ?_
    refine lv_iconst (v := 0) hx hb dX8_convert_8 (by decide) ?_
    obtain ⟨r2, hc9, hf⟩ := pf_bi_0 hf
    refine hm_aft_i (ws' := fun _ => [oc8 h0 r_t t_base t_taped t_at t_faultPlace t_number t_newBits t_newTold t_newDoings t_newThings t_opened t_sum t_heldAll t_onPaper t_turned t_wasConverted t_lastBits t_lastSum t_lastHeld t_lastLeft t_lastCode t_writtenLong t_codeMany t_acts t_done0 t_stoppedAt, ic E (r_t 0) 800 t_all, ic E (r_t 27) 12 t_askedOf, ic E (r_t 25) 12 t_decided, ic E (r_t 28) 12 t_heldBehind, ic E (r_t 39) 48 t_last, zc E (r_t 26) 12 t_wasLate]) (hm_runV (rest := []) hx hb hml hown X hA Y w 0 (ci := 7) (T := TX8) (N := 55) rfl rfl mw_X8_get ml_X8_221 dX8_convert_9 hm_ac0 [.int 0] rfl [0, 1] rfl rfl (ct_X8_get l E H.size h0 r_t t_base t_taped t_at t_faultPlace t_number t_newBits t_newTold t_newDoings t_newThings t_opened t_sum t_heldAll t_onPaper t_turned t_wasConverted t_lastBits t_lastSum t_lastHeld t_lastLeft t_lastCode t_writtenLong t_codeMany t_acts t_done0 t_stoppedAt t_all 0 (r2, ()) hc9) rfl hl.1 ⟨⟨rfl, rfl⟩, ⟨Nat.le_of_ble_eq_true rfl, Nat.le_of_ble_eq_true rfl⟩, ⟨Nat.le_of_ble_eq_true rfl, Nat.le_of_ble_eq_true rfl⟩, Nat.le_of_ble_eq_true rfl⟩) hA w [0, 1] [2, 3, 4, 5, 6] [5, 6, 0, 1, 2, 3, 4] rfl rfl (by decide) (fun _ => rfl) (fun _ H locs w => ?_)
    refine lv_if_ne (tgt := 19) hx hb dX8_convert_12 (by decide) (fun c12 => ?_) (fun c12 => ?_)
    · have hf := pf_e c12 hf
      refine lv_aload_n hx hb dX8_convert_19 rfl (lv_at hl 0 rfl) ?_
      refine lv_iload_n hx hb dX8_convert_20 rfl (lv_at hl 1 rfl) ?_
      refine lv_aload_n hx hb dX8_convert_21 rfl (lv_at hl 0 rfl) ?_
      refine lv_iconst (v := 0) hx hb dX8_convert_22 (by decide) ?_
      obtain ⟨r3, hc23, hf⟩ := pf_bi_0 hf
      refine hm_aft_i (ws' := fun _ => [oc8 h0 r_t t_base t_taped t_at t_faultPlace t_number t_newBits t_newTold t_newDoings t_newThings t_opened t_sum t_heldAll t_onPaper t_turned t_wasConverted t_lastBits t_lastSum t_lastHeld t_lastLeft t_lastCode t_writtenLong t_codeMany t_acts t_done0 t_stoppedAt, ic E (r_t 0) 800 t_all, ic E (r_t 27) 12 t_askedOf, ic E (r_t 25) 12 t_decided, ic E (r_t 28) 12 t_heldBehind, ic E (r_t 39) 48 t_last, zc E (r_t 26) 12 t_wasLate]) (hm_runV (rest := [.int a1, .ref h0]) hx hb hml hown X hA Y w 0 (ci := 7) (T := TX8) (N := 55) rfl rfl mw_X8_get ml_X8_221 dX8_convert_23 hm_ac0 [.int 0] rfl [0, 1] rfl rfl (ct_X8_get l E H.size h0 r_t t_base t_taped t_at t_faultPlace t_number t_newBits t_newTold t_newDoings t_newThings t_opened t_sum t_heldAll t_onPaper t_turned t_wasConverted t_lastBits t_lastSum t_lastHeld t_lastLeft t_lastCode t_writtenLong t_codeMany t_acts t_done0 t_stoppedAt t_all 0 (r3, ()) hc23) rfl hl.1 ⟨⟨rfl, rfl⟩, ⟨Nat.le_of_ble_eq_true rfl, Nat.le_of_ble_eq_true rfl⟩, ⟨Nat.le_of_ble_eq_true rfl, Nat.le_of_ble_eq_true rfl⟩, Nat.le_of_ble_eq_true rfl⟩) hA w [0, 1] [2, 3, 4, 5, 6] [5, 6, 0, 1, 2, 3, 4] rfl rfl (by decide) (fun _ => rfl) (fun _ H locs w => ?_)
      refine lv_aload_n hx hb dX8_convert_26 rfl (lv_at hl 0 rfl) ?_
      refine lv_iconst (v := 1) hx hb dX8_convert_27 (by decide) ?_
      obtain ⟨r4, hc28, hf⟩ := pf_bi_0 hf
      refine hm_aft_i (ws' := fun _ => [oc8 h0 r_t t_base t_taped t_at t_faultPlace t_number t_newBits t_newTold t_newDoings t_newThings t_opened t_sum t_heldAll t_onPaper t_turned t_wasConverted t_lastBits t_lastSum t_lastHeld t_lastLeft t_lastCode t_writtenLong t_codeMany t_acts t_done0 t_stoppedAt, ic E (r_t 0) 800 t_all, ic E (r_t 27) 12 t_askedOf, ic E (r_t 25) 12 t_decided, ic E (r_t 28) 12 t_heldBehind, ic E (r_t 39) 48 t_last, zc E (r_t 26) 12 t_wasLate]) (hm_runV (rest := [.int r3, .int a1, .ref h0]) hx hb hml hown X hA Y w 0 (ci := 7) (T := TX8) (N := 55) rfl rfl mw_X8_get ml_X8_221 dX8_convert_28 hm_ac0 [.int 1] rfl [0, 1] rfl rfl (ct_X8_get l E H.size h0 r_t t_base t_taped t_at t_faultPlace t_number t_newBits t_newTold t_newDoings t_newThings t_opened t_sum t_heldAll t_onPaper t_turned t_wasConverted t_lastBits t_lastSum t_lastHeld t_lastLeft t_lastCode t_writtenLong t_codeMany t_acts t_done0 t_stoppedAt t_all 1 (r4, ()) hc28) rfl hl.1 ⟨⟨rfl, rfl⟩, ⟨Nat.le_of_ble_eq_true rfl, Nat.le_of_ble_eq_true rfl⟩, ⟨Nat.le_of_ble_eq_true rfl, Nat.le_of_ble_eq_true rfl⟩, Nat.le_of_ble_eq_true rfl⟩) hA w [0, 1] [2, 3, 4, 5, 6] [5, 6, 0, 1, 2, 3, 4] rfl rfl (by decide) (fun _ => rfl) (fun _ H locs w => ?_)
      obtain ⟨f5, f6, f7, f8, f9, x10, x11, hc31, hf⟩ := pf_bv_7 hf
      refine hm_aft_v (ws' := fun _ => [oc8 h0 r_t t_base t_taped t_at t_faultPlace t_number t_newBits t_newTold t_newDoings t_newThings t_opened x10 x11 t_onPaper t_turned t_wasConverted t_lastBits t_lastSum t_lastHeld t_lastLeft t_lastCode t_writtenLong t_codeMany t_acts t_done0 t_stoppedAt, ic E (r_t 0) 800 f5, ic E (r_t 27) 12 f8, ic E (r_t 25) 12 f6, ic E (r_t 28) 12 f9, ic E (r_t 39) 48 t_last, zc E (r_t 26) 12 f7]) (hm_runV (rest := []) hx hb hml hown X hA Y w 0 (ci := 7) (T := TX8) (N := 55) rfl rfl mw_X8_goThrough ml_X8_273 dX8_convert_31 hm_ac0 [.int a1, .int r3, .int r4] rfl [0, 1, 2, 3, 4, 6] rfl rfl (ct_X8_goThrough l E H.size h0 r_t t_base t_taped t_at t_faultPlace t_number t_newBits t_newTold t_newDoings t_newThings t_opened t_sum t_heldAll t_onPaper t_turned t_wasConverted t_lastBits t_lastSum t_lastHeld t_lastLeft t_lastCode t_writtenLong t_codeMany t_acts t_done0 t_stoppedAt t_all t_askedOf t_decided t_heldBehind t_wasLate a1 r3 r4 (f5, f6, f7, f8, f9, x10, x11) hc31) rfl hl.1 ⟨⟨rfl, rfl⟩, ⟨Nat.le_of_ble_eq_true rfl, Nat.le_of_ble_eq_true rfl⟩, ⟨Nat.le_of_ble_eq_true rfl, Nat.le_of_ble_eq_true rfl⟩, Nat.le_of_ble_eq_true rfl⟩) hA w [0, 1, 2, 3, 4, 6] [5] [1, 2, 3, 4, 5, 0, 6] rfl rfl (by decide) (fun _ => rfl) (fun _ H locs w => ?_)
      refine lv_aload_n hx hb dX8_convert_34 rfl (lv_at hl 0 rfl) ?_
      refine lv_iconst (v := 1) hx hb dX8_convert_35 (by decide) ?_
      refine hm_put (ws' := [oc8 h0 r_t t_base t_taped t_at t_faultPlace t_number t_newBits t_newTold t_newDoings t_newThings t_opened x10 x11 t_onPaper t_turned 1 t_lastBits t_lastSum t_lastHeld t_lastLeft t_lastCode t_writtenLong t_codeMany t_acts t_done0 t_stoppedAt, ic E (r_t 0) 800 f5, ic E (r_t 27) 12 f8, ic E (r_t 25) 12 f6, ic E (r_t 28) 12 f9, ic E (r_t 39) 48 t_last, zc E (r_t 26) 12 f7]) cb_X8 hx hb hown X w 0 33 fl_X8_181 dX8_convert_36 rfl (by decide) (Nat.le_of_ble_eq_true rfl) rfl rfl rfl rfl (fun H locs w => ?_)
      refine lv_aload_n hx hb dX8_convert_39 rfl (lv_at hl 0 rfl) ?_
      refine lv_aload_n hx hb dX8_convert_40 rfl (lv_at hl 0 rfl) ?_
      refine lv_iconst (v := 0) hx hb dX8_convert_41 (by decide) ?_
      obtain ⟨r12, hc42, hf⟩ := pf_bi_0 hf
      refine hm_aft_i (ws' := fun _ => [oc8 h0 r_t t_base t_taped t_at t_faultPlace t_number t_newBits t_newTold t_newDoings t_newThings t_opened x10 x11 t_onPaper t_turned 1 t_lastBits t_lastSum t_lastHeld t_lastLeft t_lastCode t_writtenLong t_codeMany t_acts t_done0 t_stoppedAt, ic E (r_t 0) 800 f5, ic E (r_t 27) 12 f8, ic E (r_t 25) 12 f6, ic E (r_t 28) 12 f9, ic E (r_t 39) 48 t_last, zc E (r_t 26) 12 f7]) (hm_runV (rest := [.ref h0]) hx hb hml hown X hA Y w 0 (ci := 7) (T := TX8) (N := 55) rfl rfl mw_X8_get ml_X8_221 dX8_convert_42 hm_ac0 [.int 0] rfl [0, 1] rfl rfl (ct_X8_get l E H.size h0 r_t t_base t_taped t_at t_faultPlace t_number t_newBits t_newTold t_newDoings t_newThings t_opened x10 x11 t_onPaper t_turned 1 t_lastBits t_lastSum t_lastHeld t_lastLeft t_lastCode t_writtenLong t_codeMany t_acts t_done0 t_stoppedAt f5 0 (r12, ()) hc42) rfl hl.1 ⟨⟨rfl, rfl⟩, ⟨Nat.le_of_ble_eq_true rfl, Nat.le_of_ble_eq_true rfl⟩, ⟨Nat.le_of_ble_eq_true rfl, Nat.le_of_ble_eq_true rfl⟩, Nat.le_of_ble_eq_true rfl⟩) hA w [0, 1] [2, 3, 4, 5, 6] [5, 6, 0, 1, 2, 3, 4] rfl rfl (by decide) (fun _ => rfl) (fun _ H locs w => ?_)
      refine hm_put (ws' := [oc8 h0 r_t t_base t_taped t_at t_faultPlace t_number t_newBits t_newTold t_newDoings t_newThings t_opened x10 x11 t_onPaper t_turned 1 r12 t_lastSum t_lastHeld t_lastLeft t_lastCode t_writtenLong t_codeMany t_acts t_done0 t_stoppedAt, ic E (r_t 0) 800 f5, ic E (r_t 27) 12 f8, ic E (r_t 25) 12 f6, ic E (r_t 28) 12 f9, ic E (r_t 39) 48 t_last, zc E (r_t 26) 12 f7]) cb_X8 hx hb hown X w 0 34 fl_X8_284 dX8_convert_45 rfl (by decide) (Nat.le_of_ble_eq_true rfl) rfl rfl rfl rfl (fun H locs w => ?_)
      refine lv_aload_n hx hb dX8_convert_48 rfl (lv_at hl 0 rfl) ?_
      refine lv_aload_n hx hb dX8_convert_49 rfl (lv_at hl 0 rfl) ?_
      refine hm_get cb_X8 hx hb hown X w 0 29 fl_X8_264 dX8_convert_50 rfl (by decide) rfl ?_
      refine hm_put (ws' := [oc8 h0 r_t t_base t_taped t_at t_faultPlace t_number t_newBits t_newTold t_newDoings t_newThings t_opened x10 x11 t_onPaper t_turned 1 r12 x10 t_lastHeld t_lastLeft t_lastCode t_writtenLong t_codeMany t_acts t_done0 t_stoppedAt, ic E (r_t 0) 800 f5, ic E (r_t 27) 12 f8, ic E (r_t 25) 12 f6, ic E (r_t 28) 12 f9, ic E (r_t 39) 48 t_last, zc E (r_t 26) 12 f7]) cb_X8 hx hb hown X w 0 35 fl_X8_287 dX8_convert_53 rfl (by decide) (Nat.le_of_ble_eq_true rfl) rfl rfl rfl rfl (fun H locs w => ?_)
      refine lv_aload_n hx hb dX8_convert_56 rfl (lv_at hl 0 rfl) ?_
      refine lv_aload_n hx hb dX8_convert_57 rfl (lv_at hl 0 rfl) ?_
      refine hm_get cb_X8 hx hb hown X w 0 30 fl_X8_267 dX8_convert_58 rfl (by decide) rfl ?_
      refine hm_put (ws' := [oc8 h0 r_t t_base t_taped t_at t_faultPlace t_number t_newBits t_newTold t_newDoings t_newThings t_opened x10 x11 t_onPaper t_turned 1 r12 x10 x11 t_lastLeft t_lastCode t_writtenLong t_codeMany t_acts t_done0 t_stoppedAt, ic E (r_t 0) 800 f5, ic E (r_t 27) 12 f8, ic E (r_t 25) 12 f6, ic E (r_t 28) 12 f9, ic E (r_t 39) 48 t_last, zc E (r_t 26) 12 f7]) cb_X8 hx hb hown X w 0 36 fl_X8_290 dX8_convert_61 rfl (by decide) (Nat.le_of_ble_eq_true rfl) rfl rfl rfl rfl (fun H locs w => ?_)
      refine lv_aload_n hx hb dX8_convert_64 rfl (lv_at hl 0 rfl) ?_
      refine lv_iload_n hx hb dX8_convert_65 rfl (lv_at hl 1 rfl) ?_
      refine lv_aload_n hx hb dX8_convert_66 rfl (lv_at hl 0 rfl) ?_
      refine lv_iconst (v := 1) hx hb dX8_convert_67 (by decide) ?_
      obtain ⟨r13, hc68, hf⟩ := pf_bi_0 hf
      refine hm_aft_i (ws' := fun _ => [oc8 h0 r_t t_base t_taped t_at t_faultPlace t_number t_newBits t_newTold t_newDoings t_newThings t_opened x10 x11 t_onPaper t_turned 1 r12 x10 x11 t_lastLeft t_lastCode t_writtenLong t_codeMany t_acts t_done0 t_stoppedAt, ic E (r_t 0) 800 f5, ic E (r_t 27) 12 f8, ic E (r_t 25) 12 f6, ic E (r_t 28) 12 f9, ic E (r_t 39) 48 t_last, zc E (r_t 26) 12 f7]) (hm_runV (rest := [.int a1, .ref h0]) hx hb hml hown X hA Y w 0 (ci := 7) (T := TX8) (N := 55) rfl rfl mw_X8_get ml_X8_221 dX8_convert_68 hm_ac0 [.int 1] rfl [0, 1] rfl rfl (ct_X8_get l E H.size h0 r_t t_base t_taped t_at t_faultPlace t_number t_newBits t_newTold t_newDoings t_newThings t_opened x10 x11 t_onPaper t_turned 1 r12 x10 x11 t_lastLeft t_lastCode t_writtenLong t_codeMany t_acts t_done0 t_stoppedAt f5 1 (r13, ()) hc68) rfl hl.1 ⟨⟨rfl, rfl⟩, ⟨Nat.le_of_ble_eq_true rfl, Nat.le_of_ble_eq_true rfl⟩, ⟨Nat.le_of_ble_eq_true rfl, Nat.le_of_ble_eq_true rfl⟩, Nat.le_of_ble_eq_true rfl⟩) hA w [0, 1] [2, 3, 4, 5, 6] [5, 6, 0, 1, 2, 3, 4] rfl rfl (by decide) (fun _ => rfl) (fun _ H locs w => ?_)
      refine lv_iadd hx hb dX8_convert_71 ?_
      refine lv_aload_n hx hb dX8_convert_72 rfl (lv_at hl 0 rfl) ?_
      refine hm_get cb_X8 hx hb hown X w 0 30 fl_X8_267 dX8_convert_73 rfl (by decide) rfl ?_
      refine lv_isub hx hb dX8_convert_76 ?_
      refine lv_topi (fun x14 ex14 => ?_)
      have hf := pf_nm ex14 hf
      refine hm_put (ws' := [oc8 h0 r_t t_base t_taped t_at t_faultPlace t_number t_newBits t_newTold t_newDoings t_newThings t_opened x10 x11 t_onPaper t_turned 1 r12 x10 x11 x14 t_lastCode t_writtenLong t_codeMany t_acts t_done0 t_stoppedAt, ic E (r_t 0) 800 f5, ic E (r_t 27) 12 f8, ic E (r_t 25) 12 f6, ic E (r_t 28) 12 f9, ic E (r_t 39) 48 t_last, zc E (r_t 26) 12 f7]) cb_X8 hx hb hown X w 0 37 fl_X8_293 dX8_convert_77 rfl (by decide) (Nat.le_of_ble_eq_true rfl) rfl rfl rfl rfl (fun H locs w => ?_)
      refine lv_aload_n hx hb dX8_convert_80 rfl (lv_at hl 0 rfl) ?_
      refine lv_aload_n hx hb dX8_convert_81 rfl (lv_at hl 0 rfl) ?_
      obtain ⟨r15, hc82, hf⟩ := pf_bi_0 hf
      refine hm_aft_i (ws' := fun _ => [oc8 h0 r_t t_base t_taped t_at t_faultPlace t_number t_newBits t_newTold t_newDoings t_newThings t_opened x10 x11 t_onPaper t_turned 1 r12 x10 x11 x14 t_lastCode t_writtenLong t_codeMany t_acts t_done0 t_stoppedAt, ic E (r_t 0) 800 f5, ic E (r_t 27) 12 f8, ic E (r_t 25) 12 f6, ic E (r_t 28) 12 f9, ic E (r_t 39) 48 t_last, zc E (r_t 26) 12 f7]) (hm_runV (rest := [.ref h0]) hx hb hml hown X hA Y w 0 (ci := 7) (T := TX8) (N := 55) rfl rfl mw_X8_codeNow ml_X8_276 dX8_convert_82 hm_ac0 [] rfl [0, 1] rfl rfl (ct_X8_codeNow l E H.size h0 r_t t_base t_taped t_at t_faultPlace t_number t_newBits t_newTold t_newDoings t_newThings t_opened x10 x11 t_onPaper t_turned 1 r12 x10 x11 x14 t_lastCode t_writtenLong t_codeMany t_acts t_done0 t_stoppedAt f5 (r15, ()) hc82) rfl hl.1 ⟨⟨rfl, rfl⟩, ⟨Nat.le_of_ble_eq_true rfl, Nat.le_of_ble_eq_true rfl⟩, ⟨Nat.le_of_ble_eq_true rfl, Nat.le_of_ble_eq_true rfl⟩, Nat.le_of_ble_eq_true rfl⟩) hA w [0, 1] [2, 3, 4, 5, 6] [5, 6, 0, 1, 2, 3, 4] rfl rfl (by decide) (fun _ => rfl) (fun _ H locs w => ?_)
      refine hm_put (ws' := [oc8 h0 r_t t_base t_taped t_at t_faultPlace t_number t_newBits t_newTold t_newDoings t_newThings t_opened x10 x11 t_onPaper t_turned 1 r12 x10 x11 x14 r15 t_writtenLong t_codeMany t_acts t_done0 t_stoppedAt, ic E (r_t 0) 800 f5, ic E (r_t 27) 12 f8, ic E (r_t 25) 12 f6, ic E (r_t 28) 12 f9, ic E (r_t 39) 48 t_last, zc E (r_t 26) 12 f7]) cb_X8 hx hb hown X w 0 38 fl_X8_296 dX8_convert_85 rfl (by decide) (Nat.le_of_ble_eq_true rfl) rfl rfl rfl rfl (fun H locs w => ?_)
      refine lv_iconst (v := 0) hx hb dX8_convert_88 (by decide) ?_
      refine lv_istore_n (lv' := [(2, .int 0), (0, .ref h0), (1, .int a1)]) hx hb dX8_convert_89 rfl hl (by decide) rfl (fun ls hl => ?_)
      have klp_X8_convert_90 : ∀ (n : Nat) (x16 : Int32) (f17 : Nat → Int32) (H : Heap) (locs : List Loc) (ls : Array Slot), lp_X8_convert_90 f5 f6 f7 f8 f9 x10 x11 r12 x14 r15 n x16 f17 = some R → hm_W E A s.heap [oc8 h0 r_t t_base t_taped t_at t_faultPlace t_number t_newBits t_newTold t_newDoings t_newThings t_opened x10 x11 t_onPaper t_turned 1 r12 x10 x11 x14 r15 t_writtenLong t_codeMany t_acts t_done0 t_stoppedAt, ic E (r_t 0) 800 f5, ic E (r_t 27) 12 f8, ic E (r_t 25) 12 f6, ic E (r_t 28) 12 f9, ic E (r_t 39) 48 f17, zc E (r_t 26) 12 f7] H locs → lv_has ls 3 [(0, .ref h0), (2, .int x16)] → W p l e (hm_rr 4 94 0 0) s m args below meth c H locs 0 0 Q (F0 m 90 ls []) := by
        intro n
        induction n with
        | zero =>
          intro x16 f17 H locs ls hf w hl
          exact pf_no hf
        | succ n ih90 =>
          intro x16 f17 H locs ls hf w hl
          rw [lp_X8_convert_90] at hf
          refine lv_iload_n hx hb dX8_convert_90 rfl (lv_at hl 1 rfl) ?_
          refine lv_aload_n hx hb dX8_convert_91 rfl (lv_at hl 0 rfl) ?_
          refine hm_get cb_X8 hx hb hown X w 0 34 fl_X8_284 dX8_convert_92 rfl (by decide) rfl ?_
          refine lv_icmp_ge (tgt := 169) hx hb dX8_convert_95 (by decide) (fun c95 => ?_) (fun c95 => ?_)
          · have hf := pf_t c95 hf
            refine lv_aload_n hx hb dX8_convert_169 rfl (lv_at hl 0 rfl) ?_
            refine hm_get cb_X8 hx hb hown X w 0 38 fl_X8_296 dX8_convert_170 rfl (by decide) rfl ?_
            exact hQ _ _ _ _ _ (f5, f6, f7, f8, f9, x10, x11, 1, r12, x10, x11, x14, r15, f17) (fun _ => 0) hf rfl w dX8_convert_173
          · have hf := pf_e c95 hf
            refine lv_aload_n hx hb dX8_convert_98 rfl (lv_at hl 0 rfl) ?_
            refine hm_get cb_X8 hx hb hown X w 0 39 fl_X8_83 dX8_convert_99 rfl (by decide) rfl ?_
            refine lv_iload_n hx hb dX8_convert_102 rfl (lv_at hl 1 rfl) ?_
            refine lv_aload_n hx hb dX8_convert_103 rfl (lv_at hl 0 rfl) ?_
            refine hm_get cb_X8 hx hb hown X w 0 25 fl_X8_67 dX8_convert_104 rfl (by decide) rfl ?_
            refine lv_iload_n hx hb dX8_convert_107 rfl (lv_at hl 1 rfl) ?_
            obtain ⟨g108, hf⟩ := pf_ckI hf
            refine hm_iald hx hb X w 3 dX8_convert_108 rfl g108 ?_
            refine lv_topi (fun x18 ex18 => ?_)
            have hf := pf_nm ex18 hf
            obtain ⟨g109, hf⟩ := pf_ckI hf
            refine hm_iast (ws' := [oc8 h0 r_t t_base t_taped t_at t_faultPlace t_number t_newBits t_newTold t_newDoings t_newThings t_opened x10 x11 t_onPaper t_turned 1 r12 x10 x11 x14 r15 t_writtenLong t_codeMany t_acts t_done0 t_stoppedAt, ic E (r_t 0) 800 f5, ic E (r_t 27) 12 f8, ic E (r_t 25) 12 f6, ic E (r_t 28) 12 f9, ic E (r_t 39) 48 (upd f17 x16.toNatClampNeg x18), zc E (r_t 26) 12 f7]) hx hb X w 5 dX8_convert_109 rfl g109 rfl (fun H locs w => ?_)
            refine lv_aload_n hx hb dX8_convert_110 rfl (lv_at hl 0 rfl) ?_
            refine hm_get cb_X8 hx hb hown X w 0 39 fl_X8_83 dX8_convert_111 rfl (by decide) rfl ?_
            refine lv_bipush (v := 12) hx hb dX8_convert_114 (by decide) ?_
            refine lv_iload_n hx hb dX8_convert_116 rfl (lv_at hl 1 rfl) ?_
            refine lv_iadd hx hb dX8_convert_117 ?_
            refine lv_aload_n hx hb dX8_convert_118 rfl (lv_at hl 0 rfl) ?_
            refine hm_get cb_X8 hx hb hown X w 0 26 fl_X8_70 dX8_convert_119 rfl (by decide) rfl ?_
            refine lv_iload_n hx hb dX8_convert_122 rfl (lv_at hl 1 rfl) ?_
            obtain ⟨g123, hf⟩ := pf_ckI hf
            refine hm_zald hx hb X w 6 dX8_convert_123 rfl g123 ?_
            obtain ⟨J132, hJ132, hf⟩ := pf_jn hf
            have kJ132 : ∀ (x19 : Int32) (H : Heap) (locs : List Loc) (ls : Array Slot), J132 x19 = some R → hm_W E A s.heap [oc8 h0 r_t t_base t_taped t_at t_faultPlace t_number t_newBits t_newTold t_newDoings t_newThings t_opened x10 x11 t_onPaper t_turned 1 r12 x10 x11 x14 r15 t_writtenLong t_codeMany t_acts t_done0 t_stoppedAt, ic E (r_t 0) 800 f5, ic E (r_t 27) 12 f8, ic E (r_t 25) 12 f6, ic E (r_t 28) 12 f9, ic E (r_t 39) 48 (upd f17 x16.toNatClampNeg x18), zc E (r_t 26) 12 f7] H locs → lv_has ls 3 [(0, .ref h0), (2, .int x16)] → W p l e (hm_rr 4 94 0 0) s m args below meth c H locs 0 0 Q (F0 m 132 ls [.int x19, .int (12 + x16), .ref (r_t 39)]) := by
              intro x19 H locs ls hf w hl
              have hf := pf_j1 hJ132 hf
              obtain ⟨g132, hf⟩ := pf_ckI hf
              refine hm_iast (ws' := [oc8 h0 r_t t_base t_taped t_at t_faultPlace t_number t_newBits t_newTold t_newDoings t_newThings t_opened x10 x11 t_onPaper t_turned 1 r12 x10 x11 x14 r15 t_writtenLong t_codeMany t_acts t_done0 t_stoppedAt, ic E (r_t 0) 800 f5, ic E (r_t 27) 12 f8, ic E (r_t 25) 12 f6, ic E (r_t 28) 12 f9, ic E (r_t 39) 48 (upd (upd f17 x16.toNatClampNeg x18) (12 + x16).toNatClampNeg x19), zc E (r_t 26) 12 f7]) hx hb X w 5 dX8_convert_132 rfl g132 rfl (fun H locs w => ?_)
              refine lv_aload_n hx hb dX8_convert_133 rfl (lv_at hl 0 rfl) ?_
              refine hm_get cb_X8 hx hb hown X w 0 39 fl_X8_83 dX8_convert_134 rfl (by decide) rfl ?_
              refine lv_bipush (v := 24) hx hb dX8_convert_137 (by decide) ?_
              refine lv_iload_n hx hb dX8_convert_139 rfl (lv_at hl 1 rfl) ?_
              refine lv_iadd hx hb dX8_convert_140 ?_
              refine lv_aload_n hx hb dX8_convert_141 rfl (lv_at hl 0 rfl) ?_
              refine hm_get cb_X8 hx hb hown X w 0 27 fl_X8_74 dX8_convert_142 rfl (by decide) rfl ?_
              refine lv_iload_n hx hb dX8_convert_145 rfl (lv_at hl 1 rfl) ?_
              obtain ⟨g146, hf⟩ := pf_ckI hf
              refine hm_iald hx hb X w 2 dX8_convert_146 rfl g146 ?_
              refine lv_topi (fun x20 ex20 => ?_)
              have hf := pf_nm ex20 hf
              obtain ⟨g147, hf⟩ := pf_ckI hf
              refine hm_iast (ws' := [oc8 h0 r_t t_base t_taped t_at t_faultPlace t_number t_newBits t_newTold t_newDoings t_newThings t_opened x10 x11 t_onPaper t_turned 1 r12 x10 x11 x14 r15 t_writtenLong t_codeMany t_acts t_done0 t_stoppedAt, ic E (r_t 0) 800 f5, ic E (r_t 27) 12 f8, ic E (r_t 25) 12 f6, ic E (r_t 28) 12 f9, ic E (r_t 39) 48 (upd (upd (upd f17 x16.toNatClampNeg x18) (12 + x16).toNatClampNeg x19) (24 + x16).toNatClampNeg x20), zc E (r_t 26) 12 f7]) hx hb X w 5 dX8_convert_147 rfl g147 rfl (fun H locs w => ?_)
              refine lv_aload_n hx hb dX8_convert_148 rfl (lv_at hl 0 rfl) ?_
              refine hm_get cb_X8 hx hb hown X w 0 39 fl_X8_83 dX8_convert_149 rfl (by decide) rfl ?_
              refine lv_bipush (v := 36) hx hb dX8_convert_152 (by decide) ?_
              refine lv_iload_n hx hb dX8_convert_154 rfl (lv_at hl 1 rfl) ?_
              refine lv_iadd hx hb dX8_convert_155 ?_
              refine lv_aload_n hx hb dX8_convert_156 rfl (lv_at hl 0 rfl) ?_
              refine hm_get cb_X8 hx hb hown X w 0 28 fl_X8_77 dX8_convert_157 rfl (by decide) rfl ?_
              refine lv_iload_n hx hb dX8_convert_160 rfl (lv_at hl 1 rfl) ?_
              obtain ⟨g161, hf⟩ := pf_ckI hf
              refine hm_iald hx hb X w 4 dX8_convert_161 rfl g161 ?_
              refine lv_topi (fun x21 ex21 => ?_)
              have hf := pf_nm ex21 hf
              obtain ⟨g162, hf⟩ := pf_ckI hf
              refine hm_iast (ws' := [oc8 h0 r_t t_base t_taped t_at t_faultPlace t_number t_newBits t_newTold t_newDoings t_newThings t_opened x10 x11 t_onPaper t_turned 1 r12 x10 x11 x14 r15 t_writtenLong t_codeMany t_acts t_done0 t_stoppedAt, ic E (r_t 0) 800 f5, ic E (r_t 27) 12 f8, ic E (r_t 25) 12 f6, ic E (r_t 28) 12 f9, ic E (r_t 39) 48 (upd (upd (upd (upd f17 x16.toNatClampNeg x18) (12 + x16).toNatClampNeg x19) (24 + x16).toNatClampNeg x20) (36 + x16).toNatClampNeg x21), zc E (r_t 26) 12 f7]) hx hb X w 5 dX8_convert_162 rfl g162 rfl (fun H locs w => ?_)
              obtain ⟨x22, ex22⟩ : ∃ y : Int32, y = (x16 + 1) := ⟨_, rfl⟩
              have hf := pf_nm ex22 hf
              refine lv_iinc (v := x22) (lv' := [(2, .int x22), (0, .ref h0)]) hx hb dX8_convert_163 hl (k := 1) rfl (by rw [ex22]; rfl) (by decide) rfl (fun ls hl => ?_)
              refine lv_goto (tgt := 90) hx hb dX8_convert_166 (by decide) ?_
              exact ih90 _ _ _ _ _ hf w (lv_sub hl [1, 0] rfl)
            refine lv_if_eq (tgt := 131) hx hb dX8_convert_124 (by decide) (fun c124 => ?_) (fun c124 => ?_)
            · have hf := pf_t c124 hf
              refine lv_iconst (v := 0) hx hb dX8_convert_131 (by decide) ?_
              exact kJ132 _ _ _ _ hf w (lv_sub hl [0, 1] rfl)
            · have hf := pf_e c124 hf
              refine lv_iconst (v := 1) hx hb dX8_convert_127 (by decide) ?_
              refine lv_goto (tgt := 132) hx hb dX8_convert_128 (by decide) ?_
              exact kJ132 _ _ _ _ hf w (lv_sub hl [0, 1] rfl)
      exact klp_X8_convert_90 FU _ _ _ _ _ hf w (lv_sub hl [1, 0] rfl)
    · have hf := pf_t c12 hf
      refine lv_ldcw (v := (-1000000)) hx hb hown (X.use ck_X8_283 rfl) dX8_convert_15 ?_
      exact hQ _ _ _ _ _ (t_all, t_decided, t_wasLate, t_askedOf, t_heldBehind, t_sum, t_heldAll, t_wasConverted, t_lastBits, t_lastSum, t_lastHeld, t_lastLeft, t_lastCode, t_last) (fun _ => 0) hf rfl w dX8_convert_18
set_option maxHeartbeats 8000000 in
set_option maxRecDepth 100000 in
theorem ct_X8_decision (l : Launch) (E : hm_E) (sz : Nat) (h0 : Nat) (r_t : Nat → Nat) (t_base t_taped t_at t_faultPlace t_number t_newBits t_newTold t_newDoings t_newThings t_opened t_sum t_heldAll t_onPaper t_turned t_wasConverted t_lastBits t_lastSum t_lastHeld t_lastLeft t_lastCode t_writtenLong t_codeMany t_acts t_done0 t_stoppedAt : Int32) (t_last : Nat → Int32) (a1 : Int32) (a2 : Int32) (R : Int32 × Unit) (hf : pf_X8_decision a1 a2 t_wasConverted t_lastBits t_last = some R) : hm_Mi l E yX8_decision cX8_decision 3 .int [] (hm_rr 1 22 0 0) [.ref h0, .int a1, .int a2] sz [oc8 h0 r_t t_base t_taped t_at t_faultPlace t_number t_newBits t_newTold t_newDoings t_newThings t_opened t_sum t_heldAll t_onPaper t_turned t_wasConverted t_lastBits t_lastSum t_lastHeld t_lastLeft t_lastCode t_writtenLong t_codeMany t_acts t_done0 t_stoppedAt, ic E (r_t 39) 48 t_last] R.1 (fun _ => [oc8 h0 r_t t_base t_taped t_at t_faultPlace t_number t_newBits t_newTold t_newDoings t_newThings t_opened t_sum t_heldAll t_onPaper t_turned t_wasConverted t_lastBits t_lastSum t_lastHeld t_lastLeft t_lastCode t_writtenLong t_codeMany t_acts t_done0 t_stoppedAt, ic E (r_t 39) 48 t_last]) := by
  refine hm_ct_i R (fun u qs => [oc8 h0 r_t t_base t_taped t_at t_faultPlace t_number t_newBits t_newTold t_newDoings t_newThings t_opened t_sum t_heldAll t_onPaper t_turned t_wasConverted t_lastBits t_lastSum t_lastHeld t_lastLeft t_lastCode t_writtenLong t_codeMany t_acts t_done0 t_stoppedAt, ic E (r_t 39) 48 t_last]) (by decide) (Nat.le_of_ble_eq_true rfl) (Or.inl rfl) ?_
  intro p e s m args below meth c A Q ls H locs hx hb hml hown X hA Y hex w hl hQ
  have hl : lv_has ls 3 [(0, .ref h0), (1, .int a1), (2, .int a2)] := hl
  unfold pf_X8_decision at hf
  refine lv_aload_n hx hb dX8_decision_0 rfl (lv_at hl 0 rfl) ?_
  refine hm_get cb_X8 hx hb hown X w 0 33 fl_X8_181 dX8_decision_1 rfl (by decide) rfl ?_
  refine lv_if_eq (tgt := 44) hx hb dX8_decision_4 (by decide) (fun c4 => ?_) (fun c4 => ?_)
  · have hf := pf_t c4 hf
    refine lv_ldcw (v := (-1000000)) hx hb hown (X.use ck_X8_283 rfl) dX8_decision_44 ?_
    exact hQ _ _ _ _ _ () (fun _ => 0) hf rfl w dX8_decision_47
  · have hf := pf_e c4 hf
    refine lv_iload_n hx hb dX8_decision_7 rfl (lv_at hl 1 rfl) ?_
    refine lv_iconst (v := 0) hx hb dX8_decision_8 (by decide) ?_
    refine lv_aload_n hx hb dX8_decision_9 rfl (lv_at hl 0 rfl) ?_
    refine hm_get cb_X8 hx hb hown X w 0 34 fl_X8_284 dX8_decision_10 rfl (by decide) rfl ?_
    refine lv_iconst (v := 1) hx hb dX8_decision_13 (by decide) ?_
    refine lv_isub hx hb dX8_decision_14 ?_
    obtain ⟨r1, hc15, hf⟩ := pf_bi_0 hf
    refine hm_aft_i (ws' := fun _ => [oc8 h0 r_t t_base t_taped t_at t_faultPlace t_number t_newBits t_newTold t_newDoings t_newThings t_opened t_sum t_heldAll t_onPaper t_turned t_wasConverted t_lastBits t_lastSum t_lastHeld t_lastLeft t_lastCode t_writtenLong t_codeMany t_acts t_done0 t_stoppedAt, ic E (r_t 39) 48 t_last]) (hm_runS (rest := []) hx hb hml hown X hA Y w mw_X8_isIn ml_X8_129 dX8_decision_15 hm_ac0 [.int a1, .int 0, .int (t_lastBits - 1)] rfl [] rfl rfl (ct_X8_isIn l E H.size a1 0 (t_lastBits - 1) (r1, ()) hc15) rfl hl.1 ⟨⟨rfl, rfl⟩, ⟨Nat.le_of_ble_eq_true rfl, Nat.le_of_ble_eq_true rfl⟩, ⟨Nat.le_of_ble_eq_true rfl, Nat.le_of_ble_eq_true rfl⟩, Nat.le_of_ble_eq_true rfl⟩) hA w [] [0, 1] [0, 1] rfl rfl (by decide) (fun _ => rfl) (fun _ H locs w => ?_)
    refine lv_if_eq (tgt := 44) hx hb dX8_decision_18 (by decide) (fun c18 => ?_) (fun c18 => ?_)
    · have hf := pf_t c18 hf
      refine lv_ldcw (v := (-1000000)) hx hb hown (X.use ck_X8_283 rfl) dX8_decision_44 ?_
      exact hQ _ _ _ _ _ () (fun _ => 0) hf rfl w dX8_decision_47
    · have hf := pf_e c18 hf
      refine lv_iload_n hx hb dX8_decision_21 rfl (lv_at hl 2 rfl) ?_
      refine lv_iconst (v := 0) hx hb dX8_decision_22 (by decide) ?_
      refine lv_iconst (v := 3) hx hb dX8_decision_23 (by decide) ?_
      obtain ⟨r2, hc24, hf⟩ := pf_bi_0 hf
      refine hm_aft_i (ws' := fun _ => [oc8 h0 r_t t_base t_taped t_at t_faultPlace t_number t_newBits t_newTold t_newDoings t_newThings t_opened t_sum t_heldAll t_onPaper t_turned t_wasConverted t_lastBits t_lastSum t_lastHeld t_lastLeft t_lastCode t_writtenLong t_codeMany t_acts t_done0 t_stoppedAt, ic E (r_t 39) 48 t_last]) (hm_runS (rest := []) hx hb hml hown X hA Y w mw_X8_isIn ml_X8_129 dX8_decision_24 hm_ac0 [.int a2, .int 0, .int 3] rfl [] rfl rfl (ct_X8_isIn l E H.size a2 0 3 (r2, ()) hc24) rfl hl.1 ⟨⟨rfl, rfl⟩, ⟨Nat.le_of_ble_eq_true rfl, Nat.le_of_ble_eq_true rfl⟩, ⟨Nat.le_of_ble_eq_true rfl, Nat.le_of_ble_eq_true rfl⟩, Nat.le_of_ble_eq_true rfl⟩) hA w [] [0, 1] [0, 1] rfl rfl (by decide) (fun _ => rfl) (fun _ H locs w => ?_)
      refine lv_if_eq (tgt := 44) hx hb dX8_decision_27 (by decide) (fun c27 => ?_) (fun c27 => ?_)
      · have hf := pf_t c27 hf
        refine lv_ldcw (v := (-1000000)) hx hb hown (X.use ck_X8_283 rfl) dX8_decision_44 ?_
        exact hQ _ _ _ _ _ () (fun _ => 0) hf rfl w dX8_decision_47
      · have hf := pf_e c27 hf
        refine lv_aload_n hx hb dX8_decision_30 rfl (lv_at hl 0 rfl) ?_
        refine hm_get cb_X8 hx hb hown X w 0 39 fl_X8_83 dX8_decision_31 rfl (by decide) rfl ?_
        refine lv_bipush (v := 12) hx hb dX8_decision_34 (by decide) ?_
        refine lv_iload_n hx hb dX8_decision_36 rfl (lv_at hl 2 rfl) ?_
        refine lv_imul hx hb dX8_decision_37 ?_
        refine lv_iload_n hx hb dX8_decision_38 rfl (lv_at hl 1 rfl) ?_
        refine lv_iadd hx hb dX8_decision_39 ?_
        obtain ⟨g40, hf⟩ := pf_ckI hf
        refine hm_iald hx hb X w 1 dX8_decision_40 rfl g40 ?_
        refine lv_goto (tgt := 47) hx hb dX8_decision_41 (by decide) ?_
        exact hQ _ _ _ _ _ () (fun _ => 0) hf rfl w dX8_decision_47
set_option maxHeartbeats 8000000 in
set_option maxRecDepth 100000 in
theorem ct_X8_countLast (l : Launch) (E : hm_E) (sz : Nat) (h0 : Nat) (r_t : Nat → Nat) (t_base t_taped t_at t_faultPlace t_number t_newBits t_newTold t_newDoings t_newThings t_opened t_sum t_heldAll t_onPaper t_turned t_wasConverted t_lastBits t_lastSum t_lastHeld t_lastLeft t_lastCode t_writtenLong t_codeMany t_acts t_done0 t_stoppedAt : Int32) (t_last : Nat → Int32) (a1 : Int32) (R : Int32 × Unit) (hf : pf_X8_countLast a1 t_lastBits t_last = some R) : hm_Mi l E yX8_countLast cX8_countLast 4 .int [] (hm_rr 0 0 0 0) [.ref h0, .int a1] sz [oc8 h0 r_t t_base t_taped t_at t_faultPlace t_number t_newBits t_newTold t_newDoings t_newThings t_opened t_sum t_heldAll t_onPaper t_turned t_wasConverted t_lastBits t_lastSum t_lastHeld t_lastLeft t_lastCode t_writtenLong t_codeMany t_acts t_done0 t_stoppedAt, ic E (r_t 39) 48 t_last] R.1 (fun _ => [oc8 h0 r_t t_base t_taped t_at t_faultPlace t_number t_newBits t_newTold t_newDoings t_newThings t_opened t_sum t_heldAll t_onPaper t_turned t_wasConverted t_lastBits t_lastSum t_lastHeld t_lastLeft t_lastCode t_writtenLong t_codeMany t_acts t_done0 t_stoppedAt, ic E (r_t 39) 48 t_last]) := by
  refine hm_ct_i R (fun u qs => [oc8 h0 r_t t_base t_taped t_at t_faultPlace t_number t_newBits t_newTold t_newDoings t_newThings t_opened t_sum t_heldAll t_onPaper t_turned t_wasConverted t_lastBits t_lastSum t_lastHeld t_lastLeft t_lastCode t_writtenLong t_codeMany t_acts t_done0 t_stoppedAt, ic E (r_t 39) 48 t_last]) (by decide) (Nat.le_of_ble_eq_true rfl) (Or.inl rfl) ?_
  intro p e s m args below meth c A Q ls H locs hx hb hml hown X hA Y hex w hl hQ
  have hl : lv_has ls 4 [(0, .ref h0), (1, .int a1)] := hl
  unfold pf_X8_countLast at hf
  refine lv_iconst (v := 0) hx hb dX8_countLast_0 (by decide) ?_
  refine lv_istore_n (lv' := [(2, .int 0), (0, .ref h0), (1, .int a1)]) hx hb dX8_countLast_1 rfl hl (by decide) rfl (fun ls hl => ?_)
  refine lv_iconst (v := 0) hx hb dX8_countLast_2 (by decide) ?_
  refine lv_istore_n (lv' := [(3, .int 0), (2, .int 0), (0, .ref h0), (1, .int a1)]) hx hb dX8_countLast_3 rfl hl (by decide) rfl (fun ls hl => ?_)
  have klp_X8_countLast_4 : ∀ (n : Nat) (x1 : Int32) (x2 : Int32) (H : Heap) (locs : List Loc) (ls : Array Slot), lp_X8_countLast_4 a1 t_lastBits t_last n x1 x2 = some R → hm_W E A s.heap [oc8 h0 r_t t_base t_taped t_at t_faultPlace t_number t_newBits t_newTold t_newDoings t_newThings t_opened t_sum t_heldAll t_onPaper t_turned t_wasConverted t_lastBits t_lastSum t_lastHeld t_lastLeft t_lastCode t_writtenLong t_codeMany t_acts t_done0 t_stoppedAt, ic E (r_t 39) 48 t_last] H locs → lv_has ls 4 [(0, .ref h0), (1, .int a1), (2, .int x1), (3, .int x2)] → W p l e (hm_rr 0 0 0 0) s m args below meth c H locs 0 0 Q (F0 m 4 ls []) := by
    intro n
    induction n with
    | zero =>
      intro x1 x2 H locs ls hf w hl
      exact pf_no hf
    | succ n ih4 =>
      intro x1 x2 H locs ls hf w hl
      rw [lp_X8_countLast_4] at hf
      refine lv_iload_n hx hb dX8_countLast_4 rfl (lv_at hl 3 rfl) ?_
      refine lv_aload_n hx hb dX8_countLast_5 rfl (lv_at hl 0 rfl) ?_
      refine hm_get cb_X8 hx hb hown X w 0 34 fl_X8_284 dX8_countLast_6 rfl (by decide) rfl ?_
      refine lv_icmp_ge (tgt := 32) hx hb dX8_countLast_9 (by decide) (fun c9 => ?_) (fun c9 => ?_)
      · have hf := pf_t c9 hf
        refine lv_iload_n hx hb dX8_countLast_32 rfl (lv_at hl 2 rfl) ?_
        exact hQ _ _ _ _ _ () (fun _ => 0) hf rfl w dX8_countLast_33
      · have hf := pf_e c9 hf
        refine lv_iload_n hx hb dX8_countLast_12 rfl (lv_at hl 2 rfl) ?_
        refine lv_aload_n hx hb dX8_countLast_13 rfl (lv_at hl 0 rfl) ?_
        refine hm_get cb_X8 hx hb hown X w 0 39 fl_X8_83 dX8_countLast_14 rfl (by decide) rfl ?_
        refine lv_bipush (v := 12) hx hb dX8_countLast_17 (by decide) ?_
        refine lv_iload_n hx hb dX8_countLast_19 rfl (lv_at hl 1 rfl) ?_
        refine lv_imul hx hb dX8_countLast_20 ?_
        refine lv_iload_n hx hb dX8_countLast_21 rfl (lv_at hl 3 rfl) ?_
        refine lv_iadd hx hb dX8_countLast_22 ?_
        obtain ⟨g23, hf⟩ := pf_ckI hf
        refine hm_iald hx hb X w 1 dX8_countLast_23 rfl g23 ?_
        refine lv_iadd hx hb dX8_countLast_24 ?_
        refine lv_topi (fun x3 ex3 => ?_)
        have hf := pf_nm ex3 hf
        refine lv_istore_n (lv' := [(2, .int x3), (0, .ref h0), (1, .int a1), (3, .int x2)]) hx hb dX8_countLast_25 rfl hl (by decide) rfl (fun ls hl => ?_)
        obtain ⟨x4, ex4⟩ : ∃ y : Int32, y = (x2 + 1) := ⟨_, rfl⟩
        have hf := pf_nm ex4 hf
        refine lv_iinc (v := x4) (lv' := [(3, .int x4), (2, .int x3), (0, .ref h0), (1, .int a1)]) hx hb dX8_countLast_26 hl (k := 3) rfl (by rw [ex4]; rfl) (by decide) rfl (fun ls hl => ?_)
        refine lv_goto (tgt := 4) hx hb dX8_countLast_29 (by decide) ?_
        exact ih4 _ _ _ _ _ hf w (lv_sub hl [2, 3, 1, 0] rfl)
  exact klp_X8_countLast_4 FU _ _ _ _ _ hf w (lv_sub hl [2, 3, 1, 0] rfl)
set_option maxHeartbeats 8000000 in
set_option maxRecDepth 100000 in
theorem ct_X8_converted (l : Launch) (E : hm_E) (sz : Nat) (h0 : Nat) (r_t : Nat → Nat) (t_base t_taped t_at t_faultPlace t_number t_newBits t_newTold t_newDoings t_newThings t_opened t_sum t_heldAll t_onPaper t_turned t_wasConverted t_lastBits t_lastSum t_lastHeld t_lastLeft t_lastCode t_writtenLong t_codeMany t_acts t_done0 t_stoppedAt : Int32) (t_last : Nat → Int32) (a1 : Int32) (R : Int32 × Unit) (hf : pf_X8_converted a1 t_wasConverted t_lastBits t_lastSum t_lastHeld t_lastLeft t_lastCode t_last = some R) : hm_Mi l E yX8_converted cX8_converted 2 .int [] (hm_rr 1 23 0 0) [.ref h0, .int a1] sz [oc8 h0 r_t t_base t_taped t_at t_faultPlace t_number t_newBits t_newTold t_newDoings t_newThings t_opened t_sum t_heldAll t_onPaper t_turned t_wasConverted t_lastBits t_lastSum t_lastHeld t_lastLeft t_lastCode t_writtenLong t_codeMany t_acts t_done0 t_stoppedAt, ic E (r_t 39) 48 t_last] R.1 (fun _ => [oc8 h0 r_t t_base t_taped t_at t_faultPlace t_number t_newBits t_newTold t_newDoings t_newThings t_opened t_sum t_heldAll t_onPaper t_turned t_wasConverted t_lastBits t_lastSum t_lastHeld t_lastLeft t_lastCode t_writtenLong t_codeMany t_acts t_done0 t_stoppedAt, ic E (r_t 39) 48 t_last]) := by
  refine hm_ct_i R (fun u qs => [oc8 h0 r_t t_base t_taped t_at t_faultPlace t_number t_newBits t_newTold t_newDoings t_newThings t_opened t_sum t_heldAll t_onPaper t_turned t_wasConverted t_lastBits t_lastSum t_lastHeld t_lastLeft t_lastCode t_writtenLong t_codeMany t_acts t_done0 t_stoppedAt, ic E (r_t 39) 48 t_last]) (by decide) (Nat.le_of_ble_eq_true rfl) (Or.inl rfl) ?_
  intro p e s m args below meth c A Q ls H locs hx hb hml hown X hA Y hex w hl hQ
  have hl : lv_has ls 2 [(0, .ref h0), (1, .int a1)] := hl
  unfold pf_X8_converted at hf
  refine lv_aload_n hx hb dX8_converted_0 rfl (lv_at hl 0 rfl) ?_
  refine hm_get cb_X8 hx hb hown X w 0 33 fl_X8_181 dX8_converted_1 rfl (by decide) rfl ?_
  refine lv_if_ne (tgt := 11) hx hb dX8_converted_4 (by decide) (fun c4 => ?_) (fun c4 => ?_)
  · have hf := pf_e c4 hf
    refine lv_iload_n hx hb dX8_converted_11 rfl (lv_at hl 1 rfl) ?_
    by_cases c12_0 : a1 = 0
    · have hf := pf_t c12_0 hf
      refine lv_tableIn (off := 40) (tgt := 52) hx hb dX8_converted_12 (by rw [c12_0]; decide) (by rw [c12_0]; decide) (by rw [c12_0]; rfl) (by decide) ?_
      refine lv_aload_n hx hb dX8_converted_52 rfl (lv_at hl 0 rfl) ?_
      refine hm_get cb_X8 hx hb hown X w 0 35 fl_X8_287 dX8_converted_53 rfl (by decide) rfl ?_
      exact hQ _ _ _ _ _ () (fun _ => 0) hf rfl w dX8_converted_56
    · have hf := pf_e c12_0 hf
      by_cases c12_1 : a1 = 1
      · have hf := pf_t c12_1 hf
        refine lv_tableIn (off := 45) (tgt := 57) hx hb dX8_converted_12 (by rw [c12_1]; decide) (by rw [c12_1]; decide) (by rw [c12_1]; rfl) (by decide) ?_
        refine lv_aload_n hx hb dX8_converted_57 rfl (lv_at hl 0 rfl) ?_
        refine hm_get cb_X8 hx hb hown X w 0 36 fl_X8_290 dX8_converted_58 rfl (by decide) rfl ?_
        exact hQ _ _ _ _ _ () (fun _ => 0) hf rfl w dX8_converted_61
      · have hf := pf_e c12_1 hf
        by_cases c12_2 : a1 = 2
        · have hf := pf_t c12_2 hf
          refine lv_tableIn (off := 50) (tgt := 62) hx hb dX8_converted_12 (by rw [c12_2]; decide) (by rw [c12_2]; decide) (by rw [c12_2]; rfl) (by decide) ?_
          refine lv_aload_n hx hb dX8_converted_62 rfl (lv_at hl 0 rfl) ?_
          refine hm_get cb_X8 hx hb hown X w 0 37 fl_X8_293 dX8_converted_63 rfl (by decide) rfl ?_
          exact hQ _ _ _ _ _ () (fun _ => 0) hf rfl w dX8_converted_66
        · have hf := pf_e c12_2 hf
          by_cases c12_3 : a1 = 3
          · have hf := pf_t c12_3 hf
            refine lv_tableIn (off := 55) (tgt := 67) hx hb dX8_converted_12 (by rw [c12_3]; decide) (by rw [c12_3]; decide) (by rw [c12_3]; rfl) (by decide) ?_
            refine lv_aload_n hx hb dX8_converted_67 rfl (lv_at hl 0 rfl) ?_
            refine lv_iconst (v := 1) hx hb dX8_converted_68 (by decide) ?_
            obtain ⟨r1, hc69, hf⟩ := pf_bi_0 hf
            refine hm_aft_i (ws' := fun _ => [oc8 h0 r_t t_base t_taped t_at t_faultPlace t_number t_newBits t_newTold t_newDoings t_newThings t_opened t_sum t_heldAll t_onPaper t_turned t_wasConverted t_lastBits t_lastSum t_lastHeld t_lastLeft t_lastCode t_writtenLong t_codeMany t_acts t_done0 t_stoppedAt, ic E (r_t 39) 48 t_last]) (hm_runV (rest := []) hx hb hml hown X hA Y w 0 (ci := 7) (T := TX8) (N := 55) rfl rfl mw_X8_countLast ml_X8_299 dX8_converted_69 hm_ac0 [.int 1] rfl [0, 1] rfl rfl (ct_X8_countLast l E H.size h0 r_t t_base t_taped t_at t_faultPlace t_number t_newBits t_newTold t_newDoings t_newThings t_opened t_sum t_heldAll t_onPaper t_turned t_wasConverted t_lastBits t_lastSum t_lastHeld t_lastLeft t_lastCode t_writtenLong t_codeMany t_acts t_done0 t_stoppedAt t_last 1 (r1, ()) hc69) rfl hl.1 ⟨⟨rfl, rfl⟩, ⟨Nat.le_of_ble_eq_true rfl, Nat.le_of_ble_eq_true rfl⟩, ⟨Nat.le_of_ble_eq_true rfl, Nat.le_of_ble_eq_true rfl⟩, Nat.le_of_ble_eq_true rfl⟩) hA w [0, 1] [] [0, 1] rfl rfl (by decide) (fun _ => rfl) (fun _ H locs w => ?_)
            exact hQ _ _ _ _ _ () (fun _ => 0) hf rfl w dX8_converted_72
          · have hf := pf_e c12_3 hf
            by_cases c12_4 : a1 = 4
            · have hf := pf_t c12_4 hf
              refine lv_tableIn (off := 61) (tgt := 73) hx hb dX8_converted_12 (by rw [c12_4]; decide) (by rw [c12_4]; decide) (by rw [c12_4]; rfl) (by decide) ?_
              refine lv_aload_n hx hb dX8_converted_73 rfl (lv_at hl 0 rfl) ?_
              refine lv_iconst (v := 0) hx hb dX8_converted_74 (by decide) ?_
              obtain ⟨r2, hc75, hf⟩ := pf_bi_0 hf
              refine hm_aft_i (ws' := fun _ => [oc8 h0 r_t t_base t_taped t_at t_faultPlace t_number t_newBits t_newTold t_newDoings t_newThings t_opened t_sum t_heldAll t_onPaper t_turned t_wasConverted t_lastBits t_lastSum t_lastHeld t_lastLeft t_lastCode t_writtenLong t_codeMany t_acts t_done0 t_stoppedAt, ic E (r_t 39) 48 t_last]) (hm_runV (rest := []) hx hb hml hown X hA Y w 0 (ci := 7) (T := TX8) (N := 55) rfl rfl mw_X8_countLast ml_X8_299 dX8_converted_75 hm_ac0 [.int 0] rfl [0, 1] rfl rfl (ct_X8_countLast l E H.size h0 r_t t_base t_taped t_at t_faultPlace t_number t_newBits t_newTold t_newDoings t_newThings t_opened t_sum t_heldAll t_onPaper t_turned t_wasConverted t_lastBits t_lastSum t_lastHeld t_lastLeft t_lastCode t_writtenLong t_codeMany t_acts t_done0 t_stoppedAt t_last 0 (r2, ()) hc75) rfl hl.1 ⟨⟨rfl, rfl⟩, ⟨Nat.le_of_ble_eq_true rfl, Nat.le_of_ble_eq_true rfl⟩, ⟨Nat.le_of_ble_eq_true rfl, Nat.le_of_ble_eq_true rfl⟩, Nat.le_of_ble_eq_true rfl⟩) hA w [0, 1] [] [0, 1] rfl rfl (by decide) (fun _ => rfl) (fun _ H locs w => ?_)
              exact hQ _ _ _ _ _ () (fun _ => 0) hf rfl w dX8_converted_78
            · have hf := pf_e c12_4 hf
              by_cases c12_5 : a1 = 5
              · have hf := pf_t c12_5 hf
                refine lv_tableIn (off := 67) (tgt := 79) hx hb dX8_converted_12 (by rw [c12_5]; decide) (by rw [c12_5]; decide) (by rw [c12_5]; rfl) (by decide) ?_
                refine lv_aload_n hx hb dX8_converted_79 rfl (lv_at hl 0 rfl) ?_
                refine hm_get cb_X8 hx hb hown X w 0 38 fl_X8_296 dX8_converted_80 rfl (by decide) rfl ?_
                exact hQ _ _ _ _ _ () (fun _ => 0) hf rfl w dX8_converted_83
              · have hf := pf_e c12_5 hf
                refine lv_tableOut (tgt := 84) hx hb dX8_converted_12 (hm_out (fun k h1 h2 => by have u := And.intro h1 h2; have v0 := hm_ti c12_0; rw [show (0 : Int32).toInt = 0 from by decide] at v0; have v1 := hm_ti c12_1; rw [show (1 : Int32).toInt = 1 from by decide] at v1; have v2 := hm_ti c12_2; rw [show (2 : Int32).toInt = 2 from by decide] at v2; have v3 := hm_ti c12_3; rw [show (3 : Int32).toInt = 3 from by decide] at v3; have v4 := hm_ti c12_4; rw [show (4 : Int32).toInt = 4 from by decide] at v4; have v5 := hm_ti c12_5; rw [show (5 : Int32).toInt = 5 from by decide] at v5; omega)) (by decide) ?_
                refine lv_ldcw (v := (-1000000)) hx hb hown (X.use ck_X8_283 rfl) dX8_converted_84 ?_
                exact hQ _ _ _ _ _ () (fun _ => 0) hf rfl w dX8_converted_87
  · have hf := pf_t c4 hf
    refine lv_ldcw (v := (-1000000)) hx hb hown (X.use ck_X8_283 rfl) dX8_converted_7 ?_
    exact hQ _ _ _ _ _ () (fun _ => 0) hf rfl w dX8_converted_10
set_option maxHeartbeats 8000000 in
set_option maxRecDepth 100000 in
theorem ct_X8_write (l : Launch) (E : hm_E) (sz : Nat) (h0 : Nat) (r_t : Nat → Nat) (t_base t_taped t_at t_faultPlace t_number t_newBits t_newTold t_newDoings t_newThings t_opened t_sum t_heldAll t_onPaper t_turned t_wasConverted t_lastBits t_lastSum t_lastHeld t_lastLeft t_lastCode t_writtenLong t_codeMany t_acts t_done0 t_stoppedAt : Int32) (t_last : Nat → Int32) (t_written : Nat → Int32) (R : Int32 × (Nat → Int32) × Int32) (hf : pf_X8_write t_wasConverted t_lastBits t_last t_written t_writtenLong = some R) : hm_Mi l E yX8_write cX8_write 3 .int [] (hm_rr 0 0 0 0) [.ref h0] sz [oc8 h0 r_t t_base t_taped t_at t_faultPlace t_number t_newBits t_newTold t_newDoings t_newThings t_opened t_sum t_heldAll t_onPaper t_turned t_wasConverted t_lastBits t_lastSum t_lastHeld t_lastLeft t_lastCode t_writtenLong t_codeMany t_acts t_done0 t_stoppedAt, ic E (r_t 39) 48 t_last, bc E (r_t 40) 12 t_written] R.1 (fun _ => [oc8 h0 r_t t_base t_taped t_at t_faultPlace t_number t_newBits t_newTold t_newDoings t_newThings t_opened t_sum t_heldAll t_onPaper t_turned t_wasConverted t_lastBits t_lastSum t_lastHeld t_lastLeft t_lastCode (R.2.2) t_codeMany t_acts t_done0 t_stoppedAt, ic E (r_t 39) 48 t_last, bc E (r_t 40) 12 (R.2.1)]) := by
  refine hm_ct_i R (fun u qs => [oc8 h0 r_t t_base t_taped t_at t_faultPlace t_number t_newBits t_newTold t_newDoings t_newThings t_opened t_sum t_heldAll t_onPaper t_turned t_wasConverted t_lastBits t_lastSum t_lastHeld t_lastLeft t_lastCode (u.2) t_codeMany t_acts t_done0 t_stoppedAt, ic E (r_t 39) 48 t_last, bc E (r_t 40) 12 (u.1)]) (by decide) (Nat.le_of_ble_eq_true rfl) (Or.inl rfl) ?_
  intro p e s m args below meth c A Q ls H locs hx hb hml hown X hA Y hex w hl hQ
  have hl : lv_has ls 3 [(0, .ref h0)] := hl
  unfold pf_X8_write at hf
  refine lv_aload_n hx hb dX8_write_0 rfl (lv_at hl 0 rfl) ?_
  refine hm_get cb_X8 hx hb hown X w 0 33 fl_X8_181 dX8_write_1 rfl (by decide) rfl ?_
  refine lv_if_ne (tgt := 9) hx hb dX8_write_4 (by decide) (fun c4 => ?_) (fun c4 => ?_)
  · have hf := pf_e c4 hf
    refine lv_aload_n hx hb dX8_write_9 rfl (lv_at hl 0 rfl) ?_
    refine lv_aload_n hx hb dX8_write_10 rfl (lv_at hl 0 rfl) ?_
    refine hm_get cb_X8 hx hb hown X w 0 34 fl_X8_284 dX8_write_11 rfl (by decide) rfl ?_
    refine hm_put (ws' := [oc8 h0 r_t t_base t_taped t_at t_faultPlace t_number t_newBits t_newTold t_newDoings t_newThings t_opened t_sum t_heldAll t_onPaper t_turned t_wasConverted t_lastBits t_lastSum t_lastHeld t_lastLeft t_lastCode t_lastBits t_codeMany t_acts t_done0 t_stoppedAt, ic E (r_t 39) 48 t_last, bc E (r_t 40) 12 t_written]) cb_X8 hx hb hown X w 0 41 fl_X8_302 dX8_write_14 rfl (by decide) (Nat.le_of_ble_eq_true rfl) rfl rfl rfl rfl (fun H locs w => ?_)
    refine lv_iconst (v := 0) hx hb dX8_write_17 (by decide) ?_
    refine lv_istore_n (lv' := [(1, .int 0), (0, .ref h0)]) hx hb dX8_write_18 rfl hl (by decide) rfl (fun ls hl => ?_)
    have klp_X8_write_19 : ∀ (n : Nat) (x1 : Int32) (f2 : Nat → Int32) (H : Heap) (locs : List Loc) (ls : Array Slot), lp_X8_write_19 t_lastBits t_last n x1 f2 = some R → hm_W E A s.heap [oc8 h0 r_t t_base t_taped t_at t_faultPlace t_number t_newBits t_newTold t_newDoings t_newThings t_opened t_sum t_heldAll t_onPaper t_turned t_wasConverted t_lastBits t_lastSum t_lastHeld t_lastLeft t_lastCode t_lastBits t_codeMany t_acts t_done0 t_stoppedAt, ic E (r_t 39) 48 t_last, bc E (r_t 40) 12 f2] H locs → lv_has ls 3 [(0, .ref h0), (1, .int x1)] → W p l e (hm_rr 0 0 0 0) s m args below meth c H locs 0 0 Q (F0 m 19 ls []) := by
      intro n
      induction n with
      | zero =>
        intro x1 f2 H locs ls hf w hl
        exact pf_no hf
      | succ n ih19 =>
        intro x1 f2 H locs ls hf w hl
        rw [lp_X8_write_19] at hf
        refine lv_iload_n hx hb dX8_write_19 rfl (lv_at hl 1 rfl) ?_
        refine lv_aload_n hx hb dX8_write_20 rfl (lv_at hl 0 rfl) ?_
        refine hm_get cb_X8 hx hb hown X w 0 34 fl_X8_284 dX8_write_21 rfl (by decide) rfl ?_
        refine lv_icmp_ge (tgt := 101) hx hb dX8_write_24 (by decide) (fun c24 => ?_) (fun c24 => ?_)
        · have hf := pf_t c24 hf
          refine lv_aload_n hx hb dX8_write_101 rfl (lv_at hl 0 rfl) ?_
          refine hm_get cb_X8 hx hb hown X w 0 41 fl_X8_302 dX8_write_102 rfl (by decide) rfl ?_
          exact hQ _ _ _ _ _ (f2, t_lastBits) (fun _ => 0) hf rfl w dX8_write_105
        · have hf := pf_e c24 hf
          refine lv_aload_n hx hb dX8_write_27 rfl (lv_at hl 0 rfl) ?_
          refine hm_get cb_X8 hx hb hown X w 0 39 fl_X8_83 dX8_write_28 rfl (by decide) rfl ?_
          refine lv_iload_n hx hb dX8_write_31 rfl (lv_at hl 1 rfl) ?_
          obtain ⟨g32, hf⟩ := pf_ckI hf
          refine hm_iald hx hb X w 1 dX8_write_32 rfl g32 ?_
          refine lv_iconst (v := 1) hx hb dX8_write_33 (by decide) ?_
          obtain ⟨J42, hJ42, hf⟩ := pf_jn hf
          have kJ42 : ∀ (x3 : Int32) (H : Heap) (locs : List Loc) (ls : Array Slot), J42 x3 = some R → hm_W E A s.heap [oc8 h0 r_t t_base t_taped t_at t_faultPlace t_number t_newBits t_newTold t_newDoings t_newThings t_opened t_sum t_heldAll t_onPaper t_turned t_wasConverted t_lastBits t_lastSum t_lastHeld t_lastLeft t_lastCode t_lastBits t_codeMany t_acts t_done0 t_stoppedAt, ic E (r_t 39) 48 t_last, bc E (r_t 40) 12 f2] H locs → lv_has ls 3 [(0, .ref h0), (1, .int x1)] → W p l e (hm_rr 0 0 0 0) s m args below meth c H locs 0 0 Q (F0 m 42 ls [.int x3]) := by
            intro x3 H locs ls hf w hl
            have hf := pf_j1 hJ42 hf
            refine lv_istore_n (lv' := [(2, .int x3), (0, .ref h0), (1, .int x1)]) hx hb dX8_write_42 rfl hl (by decide) rfl (fun ls hl => ?_)
            refine lv_aload_n hx hb dX8_write_43 rfl (lv_at hl 1 rfl) ?_
            refine hm_get cb_X8 hx hb hown X w 0 40 fl_X8_86 dX8_write_44 rfl (by decide) rfl ?_
            refine lv_aload_n hx hb dX8_write_47 rfl (lv_at hl 1 rfl) ?_
            refine hm_get cb_X8 hx hb hown X w 0 34 fl_X8_284 dX8_write_48 rfl (by decide) rfl ?_
            refine lv_iconst (v := 1) hx hb dX8_write_51 (by decide) ?_
            refine lv_isub hx hb dX8_write_52 ?_
            refine lv_iload_n hx hb dX8_write_53 rfl (lv_at hl 2 rfl) ?_
            refine lv_isub hx hb dX8_write_54 ?_
            refine lv_aload_n hx hb dX8_write_55 rfl (lv_at hl 1 rfl) ?_
            refine hm_get cb_X8 hx hb hown X w 0 39 fl_X8_83 dX8_write_56 rfl (by decide) rfl ?_
            refine lv_bipush (v := 12) hx hb dX8_write_59 (by decide) ?_
            refine lv_iload_n hx hb dX8_write_61 rfl (lv_at hl 2 rfl) ?_
            refine lv_iadd hx hb dX8_write_62 ?_
            obtain ⟨g63, hf⟩ := pf_ckI hf
            refine hm_iald hx hb X w 1 dX8_write_63 rfl g63 ?_
            refine lv_iconst (v := 1) hx hb dX8_write_64 (by decide) ?_
            obtain ⟨J93, hJ93, hf⟩ := pf_jn hf
            have kJ93 : ∀ (x4 : Int32) (H : Heap) (locs : List Loc) (ls : Array Slot), J93 x4 = some R → hm_W E A s.heap [oc8 h0 r_t t_base t_taped t_at t_faultPlace t_number t_newBits t_newTold t_newDoings t_newThings t_opened t_sum t_heldAll t_onPaper t_turned t_wasConverted t_lastBits t_lastSum t_lastHeld t_lastLeft t_lastCode t_lastBits t_codeMany t_acts t_done0 t_stoppedAt, ic E (r_t 39) 48 t_last, bc E (r_t 40) 12 f2] H locs → lv_has ls 3 [(0, .ref h0), (1, .int x1)] → W p l e (hm_rr 0 0 0 0) s m args below meth c H locs 0 0 Q (F0 m 93 ls [.int x4, .int ((t_lastBits - 1) - x1), .ref (r_t 40)]) := by
              intro x4 H locs ls hf w hl
              have hf := pf_j1 hJ93 hf
              refine lv_i2b hx hb dX8_write_93 rfl ?_
              refine lv_topi (fun x5 ex5 => ?_)
              have hf := pf_nm ex5 hf
              obtain ⟨g94, hf⟩ := pf_ckI hf
              refine hm_bast (ws' := [oc8 h0 r_t t_base t_taped t_at t_faultPlace t_number t_newBits t_newTold t_newDoings t_newThings t_opened t_sum t_heldAll t_onPaper t_turned t_wasConverted t_lastBits t_lastSum t_lastHeld t_lastLeft t_lastCode t_lastBits t_codeMany t_acts t_done0 t_stoppedAt, ic E (r_t 39) 48 t_last, bc E (r_t 40) 12 (upd f2 ((t_lastBits - 1) - x1).toNatClampNeg (vp_nar .byte x5))]) hx hb X w 2 dX8_write_94 rfl g94 rfl (fun H locs w => ?_)
              obtain ⟨x6, ex6⟩ : ∃ y : Int32, y = (x1 + 1) := ⟨_, rfl⟩
              have hf := pf_nm ex6 hf
              refine lv_iinc (v := x6) (lv' := [(1, .int x6), (0, .ref h0)]) hx hb dX8_write_95 hl (k := 1) rfl (by rw [ex6]; rfl) (by decide) rfl (fun ls hl => ?_)
              refine lv_goto (tgt := 19) hx hb dX8_write_98 (by decide) ?_
              exact ih19 _ _ _ _ _ hf w (lv_sub hl [1, 0] rfl)
            refine lv_icmp_ne (tgt := 82) hx hb dX8_write_65 (by decide) (fun c65 => ?_) (fun c65 => ?_)
            · have hf := pf_e c65 hf
              refine lv_iload_n hx hb dX8_write_82 rfl (lv_at hl 0 rfl) ?_
              refine lv_if_eq (tgt := 91) hx hb dX8_write_83 (by decide) (fun c83 => ?_) (fun c83 => ?_)
              · have hf := pf_t c83 hf
                refine lv_bipush (v := 48) hx hb dX8_write_91 (by decide) ?_
                exact kJ93 _ _ _ _ hf w (lv_sub hl [1, 2] rfl)
              · have hf := pf_e c83 hf
                refine lv_bipush (v := 49) hx hb dX8_write_86 (by decide) ?_
                refine lv_goto (tgt := 93) hx hb dX8_write_88 (by decide) ?_
                exact kJ93 _ _ _ _ hf w (lv_sub hl [1, 2] rfl)
            · have hf := pf_t c65 hf
              refine lv_iload_n hx hb dX8_write_68 rfl (lv_at hl 0 rfl) ?_
              refine lv_if_eq (tgt := 77) hx hb dX8_write_69 (by decide) (fun c69 => ?_) (fun c69 => ?_)
              · have hf := pf_t c69 hf
                refine lv_bipush (v := 45) hx hb dX8_write_77 (by decide) ?_
                refine lv_goto (tgt := 93) hx hb dX8_write_79 (by decide) ?_
                exact kJ93 _ _ _ _ hf w (lv_sub hl [1, 2] rfl)
              · have hf := pf_e c69 hf
                refine lv_bipush (v := 43) hx hb dX8_write_72 (by decide) ?_
                refine lv_goto (tgt := 93) hx hb dX8_write_74 (by decide) ?_
                exact kJ93 _ _ _ _ hf w (lv_sub hl [1, 2] rfl)
          refine lv_icmp_ne (tgt := 41) hx hb dX8_write_34 (by decide) (fun c34 => ?_) (fun c34 => ?_)
          · have hf := pf_e c34 hf
            refine lv_iconst (v := 0) hx hb dX8_write_41 (by decide) ?_
            exact kJ42 _ _ _ _ hf w (lv_sub hl [0, 1] rfl)
          · have hf := pf_t c34 hf
            refine lv_iconst (v := 1) hx hb dX8_write_37 (by decide) ?_
            refine lv_goto (tgt := 42) hx hb dX8_write_38 (by decide) ?_
            exact kJ42 _ _ _ _ hf w (lv_sub hl [0, 1] rfl)
    exact klp_X8_write_19 FU _ _ _ _ _ hf w (lv_sub hl [1, 0] rfl)
  · have hf := pf_t c4 hf
    refine lv_iconst (v := (-1)) hx hb dX8_write_7 (by decide) ?_
    exact hQ _ _ _ _ _ (t_written, t_writtenLong) (fun _ => 0) hf rfl w dX8_write_8
set_option maxHeartbeats 8000000 in
set_option maxRecDepth 100000 in
theorem ct_X8_octet (l : Launch) (E : hm_E) (sz : Nat) (h0 : Nat) (r_t : Nat → Nat) (t_base t_taped t_at t_faultPlace t_number t_newBits t_newTold t_newDoings t_newThings t_opened t_sum t_heldAll t_onPaper t_turned t_wasConverted t_lastBits t_lastSum t_lastHeld t_lastLeft t_lastCode t_writtenLong t_codeMany t_acts t_done0 t_stoppedAt : Int32) (t_written : Nat → Int32) (a1 : Int32) (R : Int32 × Unit) (hf : pf_X8_octet a1 t_written t_writtenLong = some R) : hm_Mi l E yX8_octet cX8_octet 2 .int [] (hm_rr 1 22 0 0) [.ref h0, .int a1] sz [oc8 h0 r_t t_base t_taped t_at t_faultPlace t_number t_newBits t_newTold t_newDoings t_newThings t_opened t_sum t_heldAll t_onPaper t_turned t_wasConverted t_lastBits t_lastSum t_lastHeld t_lastLeft t_lastCode t_writtenLong t_codeMany t_acts t_done0 t_stoppedAt, bc E (r_t 40) 12 t_written] R.1 (fun _ => [oc8 h0 r_t t_base t_taped t_at t_faultPlace t_number t_newBits t_newTold t_newDoings t_newThings t_opened t_sum t_heldAll t_onPaper t_turned t_wasConverted t_lastBits t_lastSum t_lastHeld t_lastLeft t_lastCode t_writtenLong t_codeMany t_acts t_done0 t_stoppedAt, bc E (r_t 40) 12 t_written]) := by
  refine hm_ct_i R (fun u qs => [oc8 h0 r_t t_base t_taped t_at t_faultPlace t_number t_newBits t_newTold t_newDoings t_newThings t_opened t_sum t_heldAll t_onPaper t_turned t_wasConverted t_lastBits t_lastSum t_lastHeld t_lastLeft t_lastCode t_writtenLong t_codeMany t_acts t_done0 t_stoppedAt, bc E (r_t 40) 12 t_written]) (by decide) (Nat.le_of_ble_eq_true rfl) (Or.inl rfl) ?_
  intro p e s m args below meth c A Q ls H locs hx hb hml hown X hA Y hex w hl hQ
  have hl : lv_has ls 2 [(0, .ref h0), (1, .int a1)] := hl
  unfold pf_X8_octet at hf
  refine lv_iload_n hx hb dX8_octet_0 rfl (lv_at hl 1 rfl) ?_
  refine lv_iconst (v := 0) hx hb dX8_octet_1 (by decide) ?_
  refine lv_aload_n hx hb dX8_octet_2 rfl (lv_at hl 0 rfl) ?_
  refine hm_get cb_X8 hx hb hown X w 0 41 fl_X8_302 dX8_octet_3 rfl (by decide) rfl ?_
  refine lv_iconst (v := 1) hx hb dX8_octet_6 (by decide) ?_
  refine lv_isub hx hb dX8_octet_7 ?_
  obtain ⟨r1, hc8, hf⟩ := pf_bi_0 hf
  refine hm_aft_i (ws' := fun _ => [oc8 h0 r_t t_base t_taped t_at t_faultPlace t_number t_newBits t_newTold t_newDoings t_newThings t_opened t_sum t_heldAll t_onPaper t_turned t_wasConverted t_lastBits t_lastSum t_lastHeld t_lastLeft t_lastCode t_writtenLong t_codeMany t_acts t_done0 t_stoppedAt, bc E (r_t 40) 12 t_written]) (hm_runS (rest := []) hx hb hml hown X hA Y w mw_X8_isIn ml_X8_129 dX8_octet_8 hm_ac0 [.int a1, .int 0, .int (t_writtenLong - 1)] rfl [] rfl rfl (ct_X8_isIn l E H.size a1 0 (t_writtenLong - 1) (r1, ()) hc8) rfl hl.1 ⟨⟨rfl, rfl⟩, ⟨Nat.le_of_ble_eq_true rfl, Nat.le_of_ble_eq_true rfl⟩, ⟨Nat.le_of_ble_eq_true rfl, Nat.le_of_ble_eq_true rfl⟩, Nat.le_of_ble_eq_true rfl⟩) hA w [] [0, 1] [0, 1] rfl rfl (by decide) (fun _ => rfl) (fun _ H locs w => ?_)
  refine lv_if_eq (tgt := 23) hx hb dX8_octet_11 (by decide) (fun c11 => ?_) (fun c11 => ?_)
  · have hf := pf_t c11 hf
    refine lv_iconst (v := (-1)) hx hb dX8_octet_23 (by decide) ?_
    exact hQ _ _ _ _ _ () (fun _ => 0) hf rfl w dX8_octet_24
  · have hf := pf_e c11 hf
    refine lv_aload_n hx hb dX8_octet_14 rfl (lv_at hl 0 rfl) ?_
    refine hm_get cb_X8 hx hb hown X w 0 40 fl_X8_86 dX8_octet_15 rfl (by decide) rfl ?_
    refine lv_iload_n hx hb dX8_octet_18 rfl (lv_at hl 1 rfl) ?_
    obtain ⟨g19, hf⟩ := pf_ckI hf
    refine hm_bald hx hb X w 1 dX8_octet_19 rfl g19 ?_
    refine lv_goto (tgt := 24) hx hb dX8_octet_20 (by decide) ?_
    exact hQ _ _ _ _ _ () (fun _ => 0) hf rfl w dX8_octet_24
set_option maxHeartbeats 8000000 in
set_option maxRecDepth 100000 in
theorem ct_X8_learnNow (l : Launch) (E : hm_E) (sz : Nat) (h0 : Nat) (r_t : Nat → Nat) (t_base t_taped t_at t_faultPlace t_number t_newBits t_newTold t_newDoings t_newThings t_opened t_sum t_heldAll t_onPaper t_turned t_wasConverted t_lastBits t_lastSum t_lastHeld t_lastLeft t_lastCode t_writtenLong t_codeMany t_acts t_done0 t_stoppedAt : Int32) (t_all : Nat → Int32) (t_askedOf : Nat → Int32) (t_decided : Nat → Int32) (t_heldBehind : Nat → Int32) (t_wasLate : Nat → Int32) (a1 : Int32) (a2 : Int32) (R : (Nat → Int32) × (Nat → Int32) × (Nat → Int32) × (Nat → Int32) × (Nat → Int32) × Int32 × Int32) (hf : pf_X8_learnNow a1 a2 t_all t_base t_decided t_wasLate t_askedOf t_heldBehind t_sum t_heldAll t_onPaper t_turned = some R) : hm_Mv l E yX8_learnNow cX8_learnNow 7 [] (hm_rr 4 94 0 0) [.ref h0, .int a1, .int a2] sz [oc8 h0 r_t t_base t_taped t_at t_faultPlace t_number t_newBits t_newTold t_newDoings t_newThings t_opened t_sum t_heldAll t_onPaper t_turned t_wasConverted t_lastBits t_lastSum t_lastHeld t_lastLeft t_lastCode t_writtenLong t_codeMany t_acts t_done0 t_stoppedAt, ic E (r_t 0) 800 t_all, ic E (r_t 27) 12 t_askedOf, ic E (r_t 25) 12 t_decided, ic E (r_t 28) 12 t_heldBehind, zc E (r_t 26) 12 t_wasLate] (fun _ => [oc8 h0 r_t t_base t_taped t_at t_faultPlace t_number t_newBits t_newTold t_newDoings t_newThings t_opened (R.2.2.2.2.2.1) (R.2.2.2.2.2.2) t_onPaper t_turned t_wasConverted t_lastBits t_lastSum t_lastHeld t_lastLeft t_lastCode t_writtenLong t_codeMany t_acts t_done0 t_stoppedAt, ic E (r_t 0) 800 (R.1), ic E (r_t 27) 12 (R.2.2.2.1), ic E (r_t 25) 12 (R.2.1), ic E (r_t 28) 12 (R.2.2.2.2.1), zc E (r_t 26) 12 (R.2.2.1)]) := by
  refine hm_ct_v R (fun u _ => [oc8 h0 r_t t_base t_taped t_at t_faultPlace t_number t_newBits t_newTold t_newDoings t_newThings t_opened (u.2.2.2.2.2.1) (u.2.2.2.2.2.2) t_onPaper t_turned t_wasConverted t_lastBits t_lastSum t_lastHeld t_lastLeft t_lastCode t_writtenLong t_codeMany t_acts t_done0 t_stoppedAt, ic E (r_t 0) 800 (u.1), ic E (r_t 27) 12 (u.2.2.2.1), ic E (r_t 25) 12 (u.2.1), ic E (r_t 28) 12 (u.2.2.2.2.1), zc E (r_t 26) 12 (u.2.2.1)]) (by decide) (Nat.le_of_ble_eq_true rfl) ?_
  intro p e s m args below meth c A Q ls H locs hx hb hml hown X hA Y hex hin w hl hQ
  have hl : lv_has ls 7 [(0, .ref h0), (1, .int a1), (2, .int a2)] := hl
  unfold pf_X8_learnNow at hf
  refine lv_aload_n hx hb dX8_learnNow_0 rfl (lv_at hl 0 rfl) ?_
  refine lv_iconst (v := 0) hx hb dX8_learnNow_1 (by decide) ?_
  obtain ⟨r1, hc2, hf⟩ := pf_bi_0 hf
  refine hm_aft_i (ws' := fun _ => [oc8 h0 r_t t_base t_taped t_at t_faultPlace t_number t_newBits t_newTold t_newDoings t_newThings t_opened t_sum t_heldAll t_onPaper t_turned t_wasConverted t_lastBits t_lastSum t_lastHeld t_lastLeft t_lastCode t_writtenLong t_codeMany t_acts t_done0 t_stoppedAt, ic E (r_t 0) 800 t_all, ic E (r_t 27) 12 t_askedOf, ic E (r_t 25) 12 t_decided, ic E (r_t 28) 12 t_heldBehind, zc E (r_t 26) 12 t_wasLate]) (hm_runV (rest := []) hx hb hml hown X hA Y w 0 (ci := 7) (T := TX8) (N := 55) rfl rfl mw_X8_get ml_X8_221 dX8_learnNow_2 hm_ac0 [.int 0] rfl [0, 1] rfl rfl (ct_X8_get l E H.size h0 r_t t_base t_taped t_at t_faultPlace t_number t_newBits t_newTold t_newDoings t_newThings t_opened t_sum t_heldAll t_onPaper t_turned t_wasConverted t_lastBits t_lastSum t_lastHeld t_lastLeft t_lastCode t_writtenLong t_codeMany t_acts t_done0 t_stoppedAt t_all 0 (r1, ()) hc2) rfl hl.1 ⟨⟨rfl, rfl⟩, ⟨Nat.le_of_ble_eq_true rfl, Nat.le_of_ble_eq_true rfl⟩, ⟨Nat.le_of_ble_eq_true rfl, Nat.le_of_ble_eq_true rfl⟩, Nat.le_of_ble_eq_true rfl⟩) hA w [0, 1] [2, 3, 4, 5] [4, 5, 0, 1, 2, 3] rfl rfl (by decide) (fun _ => rfl) (fun _ H locs w => ?_)
  refine lv_istore_n (lv' := [(3, .int r1), (0, .ref h0), (1, .int a1), (2, .int a2)]) hx hb dX8_learnNow_5 rfl hl (by decide) rfl (fun ls hl => ?_)
  refine lv_iconst (v := 0) hx hb dX8_learnNow_6 (by decide) ?_
  refine lv_istore (lv' := [(4, .int 0), (3, .int r1), (0, .ref h0), (1, .int a1), (2, .int a2)]) hx hb dX8_learnNow_7 hl (by decide) rfl (fun ls hl => ?_)
  obtain ⟨J39, hJ39, hf⟩ := pf_jn hf
  have kJ39 : ∀ (f2 : Nat → Int32) (H : Heap) (locs : List Loc) (ls : Array Slot), J39 f2 = some R → hm_W E A s.heap [oc8 h0 r_t t_base t_taped t_at t_faultPlace t_number t_newBits t_newTold t_newDoings t_newThings t_opened t_sum t_heldAll t_onPaper t_turned t_wasConverted t_lastBits t_lastSum t_lastHeld t_lastLeft t_lastCode t_writtenLong t_codeMany t_acts t_done0 t_stoppedAt, ic E (r_t 0) 800 f2, ic E (r_t 27) 12 t_askedOf, ic E (r_t 25) 12 t_decided, ic E (r_t 28) 12 t_heldBehind, zc E (r_t 26) 12 t_wasLate] H locs → lv_has ls 7 [(0, .ref h0), (1, .int a1), (2, .int a2), (3, .int r1)] → W p l e (hm_rr 4 94 0 0) s m args below meth c H locs 0 0 Q (F0 m 39 ls []) := by
    intro f2 H locs ls hf w hl
    have hf := pf_j1 hJ39 hf
    refine lv_iload_n hx hb dX8_learnNow_39 rfl (lv_at hl 1 rfl) ?_
    refine lv_istore (lv' := [(4, .int a1), (0, .ref h0), (1, .int a1), (2, .int a2), (3, .int r1)]) hx hb dX8_learnNow_40 hl (by decide) rfl (fun ls hl => ?_)
    have klp_X8_learnNow_42 : ∀ (n : Nat) (x3 : Int32) (f4 : Nat → Int32) (f5 : Nat → Int32) (f6 : Nat → Int32) (f7 : Nat → Int32) (f8 : Nat → Int32) (x9 : Int32) (x10 : Int32) (H : Heap) (locs : List Loc) (ls : Array Slot), lp_X8_learnNow_42 a2 t_base t_onPaper t_turned r1 n x3 f4 f5 f6 f7 f8 x9 x10 = some R → hm_W E A s.heap [oc8 h0 r_t t_base t_taped t_at t_faultPlace t_number t_newBits t_newTold t_newDoings t_newThings t_opened x9 x10 t_onPaper t_turned t_wasConverted t_lastBits t_lastSum t_lastHeld t_lastLeft t_lastCode t_writtenLong t_codeMany t_acts t_done0 t_stoppedAt, ic E (r_t 0) 800 f4, ic E (r_t 27) 12 f7, ic E (r_t 25) 12 f5, ic E (r_t 28) 12 f8, zc E (r_t 26) 12 f6] H locs → lv_has ls 7 [(0, .ref h0), (2, .int a2), (3, .int r1), (4, .int x3)] → W p l e (hm_rr 4 94 0 0) s m args below meth c H locs 0 0 Q (F0 m 42 ls []) := by
      intro n
      induction n with
      | zero =>
        intro x3 f4 f5 f6 f7 f8 x9 x10 H locs ls hf w hl
        exact pf_no hf
      | succ n ih42 =>
        intro x3 f4 f5 f6 f7 f8 x9 x10 H locs ls hf w hl
        rw [lp_X8_learnNow_42] at hf
        refine lv_iload hx hb dX8_learnNow_42 (lv_at hl 3 rfl) ?_
        refine lv_iload_n hx hb dX8_learnNow_44 rfl (lv_at hl 2 rfl) ?_
        refine lv_icmp_ge (tgt := 142) hx hb dX8_learnNow_45 (by decide) (fun c45 => ?_) (fun c45 => ?_)
        · have hf := pf_t c45 hf
          exact hQ _ _ _ _ (f4, f5, f6, f7, f8, x9, x10) (fun _ => 0) hf w dX8_learnNow_142
        · have hf := pf_e c45 hf
          refine lv_iconst (v := 0) hx hb dX8_learnNow_48 (by decide) ?_
          refine lv_istore (lv' := [(5, .int 0), (0, .ref h0), (2, .int a2), (3, .int r1), (4, .int x3)]) hx hb dX8_learnNow_49 hl (by decide) rfl (fun ls hl => ?_)
          refine lv_iconst (v := 0) hx hb dX8_learnNow_51 (by decide) ?_
          refine lv_istore (lv' := [(6, .int 0), (5, .int 0), (0, .ref h0), (2, .int a2), (3, .int r1), (4, .int x3)]) hx hb dX8_learnNow_52 hl (by decide) rfl (fun ls hl => ?_)
          obtain ⟨J119, hJ119, hf⟩ := pf_jn hf
          have kJ119 : ∀ (x11 : Int32) (f12 : Nat → Int32) (f13 : Nat → Int32) (f14 : Nat → Int32) (f15 : Nat → Int32) (f16 : Nat → Int32) (x17 : Int32) (x18 : Int32) (H : Heap) (locs : List Loc) (ls : Array Slot), J119 x11 f12 f13 f14 f15 f16 x17 x18 = some R → hm_W E A s.heap [oc8 h0 r_t t_base t_taped t_at t_faultPlace t_number t_newBits t_newTold t_newDoings t_newThings t_opened x17 x18 t_onPaper t_turned t_wasConverted t_lastBits t_lastSum t_lastHeld t_lastLeft t_lastCode t_writtenLong t_codeMany t_acts t_done0 t_stoppedAt, ic E (r_t 0) 800 f12, ic E (r_t 27) 12 f15, ic E (r_t 25) 12 f13, ic E (r_t 28) 12 f16, zc E (r_t 26) 12 f14] H locs → lv_has ls 7 [(0, .ref h0), (2, .int a2), (3, .int r1), (4, .int x3), (5, .int x11)] → W p l e (hm_rr 4 94 0 0) s m args below meth c H locs 0 0 Q (F0 m 119 ls []) := by
            intro x11 f12 f13 f14 f15 f16 x17 x18 H locs ls hf w hl
            have hf := pf_j8 hJ119 hf
            refine lv_aload_n hx hb dX8_learnNow_119 rfl (lv_at hl 0 rfl) ?_
            refine lv_bipush (v := 33) hx hb dX8_learnNow_120 (by decide) ?_
            refine lv_iload hx hb dX8_learnNow_122 (lv_at hl 3 rfl) ?_
            refine lv_iadd hx hb dX8_learnNow_124 ?_
            refine lv_iload hx hb dX8_learnNow_125 (lv_at hl 4 rfl) ?_
            refine lv_iload_n hx hb dX8_learnNow_127 rfl (lv_at hl 1 rfl) ?_
            refine lv_iadd hx hb dX8_learnNow_128 ?_
            refine lv_iconst (v := 2) hx hb dX8_learnNow_129 (by decide) ?_
            refine lv_iload_n hx hb dX8_learnNow_130 rfl (lv_at hl 1 rfl) ?_
            refine lv_imul hx hb dX8_learnNow_131 ?_
            obtain ⟨g132, hf⟩ := pf_ckD hf
            refine lv_idiv hx hb dX8_learnNow_132 g132 ?_
            obtain ⟨f19, hc133, hf⟩ := pf_bv_1 hf
            refine hm_aft_v (ws' := fun _ => [oc8 h0 r_t t_base t_taped t_at t_faultPlace t_number t_newBits t_newTold t_newDoings t_newThings t_opened x17 x18 t_onPaper t_turned t_wasConverted t_lastBits t_lastSum t_lastHeld t_lastLeft t_lastCode t_writtenLong t_codeMany t_acts t_done0 t_stoppedAt, ic E (r_t 0) 800 f19, ic E (r_t 27) 12 f15, ic E (r_t 25) 12 f13, ic E (r_t 28) 12 f16, zc E (r_t 26) 12 f14]) (hm_runV (rest := []) hx hb hml hown X hA Y w 0 (ci := 7) (T := TX8) (N := 55) rfl rfl mw_X8_put ml_X8_119 dX8_learnNow_133 hm_ac0 [.int (33 + x3), .int ((x11 + a2) / (2 * a2))] rfl [0, 1] rfl rfl (ct_X8_put l E H.size h0 r_t t_base t_taped t_at t_faultPlace t_number t_newBits t_newTold t_newDoings t_newThings t_opened x17 x18 t_onPaper t_turned t_wasConverted t_lastBits t_lastSum t_lastHeld t_lastLeft t_lastCode t_writtenLong t_codeMany t_acts t_done0 t_stoppedAt f12 (33 + x3) ((x11 + a2) / (2 * a2)) f19 hc133) rfl hl.1 ⟨⟨rfl, rfl⟩, ⟨Nat.le_of_ble_eq_true rfl, Nat.le_of_ble_eq_true rfl⟩, ⟨Nat.le_of_ble_eq_true rfl, Nat.le_of_ble_eq_true rfl⟩, Nat.le_of_ble_eq_true rfl⟩) hA w [0, 1] [2, 3, 4, 5] [4, 5, 0, 1, 2, 3] rfl rfl (by decide) (fun _ => rfl) (fun _ H locs w => ?_)
            obtain ⟨x20, ex20⟩ : ∃ y : Int32, y = (x3 + 1) := ⟨_, rfl⟩
            have hf := pf_nm ex20 hf
            refine lv_iinc (v := x20) (lv' := [(4, .int x20), (0, .ref h0), (2, .int a2), (3, .int r1), (5, .int x11)]) hx hb dX8_learnNow_136 hl (k := 3) rfl (by rw [ex20]; rfl) (by decide) rfl (fun ls hl => ?_)
            refine lv_goto (tgt := 42) hx hb dX8_learnNow_139 (by decide) ?_
            exact ih42 _ _ _ _ _ _ _ _ _ _ _ hf w (lv_sub hl [1, 2, 3, 0] rfl)
          have klp_X8_learnNow_54 : ∀ (n : Nat) (x21 : Int32) (x22 : Int32) (f23 : Nat → Int32) (f24 : Nat → Int32) (f25 : Nat → Int32) (f26 : Nat → Int32) (f27 : Nat → Int32) (x28 : Int32) (x29 : Int32) (H : Heap) (locs : List Loc) (ls : Array Slot), lp_X8_learnNow_54 a2 t_base t_onPaper t_turned x3 J119 n x21 x22 f23 f24 f25 f26 f27 x28 x29 = some R → hm_W E A s.heap [oc8 h0 r_t t_base t_taped t_at t_faultPlace t_number t_newBits t_newTold t_newDoings t_newThings t_opened x28 x29 t_onPaper t_turned t_wasConverted t_lastBits t_lastSum t_lastHeld t_lastLeft t_lastCode t_writtenLong t_codeMany t_acts t_done0 t_stoppedAt, ic E (r_t 0) 800 f23, ic E (r_t 27) 12 f26, ic E (r_t 25) 12 f24, ic E (r_t 28) 12 f27, zc E (r_t 26) 12 f25] H locs → lv_has ls 7 [(0, .ref h0), (2, .int a2), (3, .int r1), (4, .int x3), (5, .int x21), (6, .int x22)] → W p l e (hm_rr 4 94 0 0) s m args below meth c H locs 0 0 Q (F0 m 54 ls []) := by
            intro n
            induction n with
            | zero =>
              intro x21 x22 f23 f24 f25 f26 f27 x28 x29 H locs ls hf w hl
              exact pf_no hf
            | succ n ih54 =>
              intro x21 x22 f23 f24 f25 f26 f27 x28 x29 H locs ls hf w hl
              rw [lp_X8_learnNow_54] at hf
              refine lv_iload hx hb dX8_learnNow_54 (lv_at hl 5 rfl) ?_
              refine lv_iload_n hx hb dX8_learnNow_56 rfl (lv_at hl 1 rfl) ?_
              refine lv_icmp_ge (tgt := 119) hx hb dX8_learnNow_57 (by decide) (fun c57 => ?_) (fun c57 => ?_)
              · have hf := pf_t c57 hf
                exact kJ119 _ _ _ _ _ _ _ _ _ _ _ hf w (lv_sub hl [0, 1, 2, 3, 4] rfl)
              · have hf := pf_e c57 hf
                refine lv_aload_n hx hb dX8_learnNow_60 rfl (lv_at hl 0 rfl) ?_
                refine lv_aload_n hx hb dX8_learnNow_61 rfl (lv_at hl 0 rfl) ?_
                refine lv_iload hx hb dX8_learnNow_62 (lv_at hl 3 rfl) ?_
                obtain ⟨r30, hc64, hf⟩ := pf_bi_0 hf
                refine hm_aft_i (ws' := fun _ => [oc8 h0 r_t t_base t_taped t_at t_faultPlace t_number t_newBits t_newTold t_newDoings t_newThings t_opened x28 x29 t_onPaper t_turned t_wasConverted t_lastBits t_lastSum t_lastHeld t_lastLeft t_lastCode t_writtenLong t_codeMany t_acts t_done0 t_stoppedAt, ic E (r_t 0) 800 f23, ic E (r_t 27) 12 f26, ic E (r_t 25) 12 f24, ic E (r_t 28) 12 f27, zc E (r_t 26) 12 f25]) (hm_runV (rest := [.ref h0]) hx hb hml hown X hA Y w 0 (ci := 7) (T := TX8) (N := 55) rfl rfl mw_X8_weight ml_X8_224 dX8_learnNow_64 hm_ac0 [.int x3] rfl [0, 1] rfl rfl (ct_X8_weight l E H.size h0 r_t t_base t_taped t_at t_faultPlace t_number t_newBits t_newTold t_newDoings t_newThings t_opened x28 x29 t_onPaper t_turned t_wasConverted t_lastBits t_lastSum t_lastHeld t_lastLeft t_lastCode t_writtenLong t_codeMany t_acts t_done0 t_stoppedAt f23 x3 (r30, ()) hc64) rfl hl.1 ⟨⟨rfl, rfl⟩, ⟨Nat.le_of_ble_eq_true rfl, Nat.le_of_ble_eq_true rfl⟩, ⟨Nat.le_of_ble_eq_true rfl, Nat.le_of_ble_eq_true rfl⟩, Nat.le_of_ble_eq_true rfl⟩) hA w [0, 1] [2, 3, 4, 5] [4, 5, 0, 1, 2, 3] rfl rfl (by decide) (fun _ => rfl) (fun _ H locs w => ?_)
                refine lv_iload hx hb dX8_learnNow_67 (lv_at hl 3 rfl) ?_
                refine lv_aload_n hx hb dX8_learnNow_69 rfl (lv_at hl 0 rfl) ?_
                refine lv_iconst (v := 1) hx hb dX8_learnNow_70 (by decide) ?_
                obtain ⟨r31, hc71, hf⟩ := pf_bi_0 hf
                refine hm_aft_i (ws' := fun _ => [oc8 h0 r_t t_base t_taped t_at t_faultPlace t_number t_newBits t_newTold t_newDoings t_newThings t_opened x28 x29 t_onPaper t_turned t_wasConverted t_lastBits t_lastSum t_lastHeld t_lastLeft t_lastCode t_writtenLong t_codeMany t_acts t_done0 t_stoppedAt, ic E (r_t 0) 800 f23, ic E (r_t 27) 12 f26, ic E (r_t 25) 12 f24, ic E (r_t 28) 12 f27, zc E (r_t 26) 12 f25]) (hm_runV (rest := [.int x3, .int r30, .ref h0]) hx hb hml hown X hA Y w 0 (ci := 7) (T := TX8) (N := 55) rfl rfl mw_X8_get ml_X8_221 dX8_learnNow_71 hm_ac0 [.int 1] rfl [0, 1] rfl rfl (ct_X8_get l E H.size h0 r_t t_base t_taped t_at t_faultPlace t_number t_newBits t_newTold t_newDoings t_newThings t_opened x28 x29 t_onPaper t_turned t_wasConverted t_lastBits t_lastSum t_lastHeld t_lastLeft t_lastCode t_writtenLong t_codeMany t_acts t_done0 t_stoppedAt f23 1 (r31, ()) hc71) rfl hl.1 ⟨⟨rfl, rfl⟩, ⟨Nat.le_of_ble_eq_true rfl, Nat.le_of_ble_eq_true rfl⟩, ⟨Nat.le_of_ble_eq_true rfl, Nat.le_of_ble_eq_true rfl⟩, Nat.le_of_ble_eq_true rfl⟩) hA w [0, 1] [2, 3, 4, 5] [4, 5, 0, 1, 2, 3] rfl rfl (by decide) (fun _ => rfl) (fun _ H locs w => ?_)
                obtain ⟨f32, f33, f34, f35, f36, x37, x38, hc74, hf⟩ := pf_bv_7 hf
                refine hm_aft_v (ws' := fun _ => [oc8 h0 r_t t_base t_taped t_at t_faultPlace t_number t_newBits t_newTold t_newDoings t_newThings t_opened x37 x38 t_onPaper t_turned t_wasConverted t_lastBits t_lastSum t_lastHeld t_lastLeft t_lastCode t_writtenLong t_codeMany t_acts t_done0 t_stoppedAt, ic E (r_t 0) 800 f32, ic E (r_t 27) 12 f35, ic E (r_t 25) 12 f33, ic E (r_t 28) 12 f36, zc E (r_t 26) 12 f34]) (hm_runV (rest := []) hx hb hml hown X hA Y w 0 (ci := 7) (T := TX8) (N := 55) rfl rfl mw_X8_goThrough ml_X8_273 dX8_learnNow_74 hm_ac0 [.int r30, .int x3, .int r31] rfl [0, 1, 2, 3, 4, 5] rfl rfl (ct_X8_goThrough l E H.size h0 r_t t_base t_taped t_at t_faultPlace t_number t_newBits t_newTold t_newDoings t_newThings t_opened x28 x29 t_onPaper t_turned t_wasConverted t_lastBits t_lastSum t_lastHeld t_lastLeft t_lastCode t_writtenLong t_codeMany t_acts t_done0 t_stoppedAt f23 f26 f24 f27 f25 r30 x3 r31 (f32, f33, f34, f35, f36, x37, x38) hc74) rfl hl.1 ⟨⟨rfl, rfl⟩, ⟨Nat.le_of_ble_eq_true rfl, Nat.le_of_ble_eq_true rfl⟩, ⟨Nat.le_of_ble_eq_true rfl, Nat.le_of_ble_eq_true rfl⟩, Nat.le_of_ble_eq_true rfl⟩) hA w [0, 1, 2, 3, 4, 5] [] [0, 1, 2, 3, 4, 5] rfl rfl (by decide) (fun _ => rfl) (fun _ H locs w => ?_)
                refine lv_iload hx hb dX8_learnNow_77 (lv_at hl 4 rfl) ?_
                refine lv_aload_n hx hb dX8_learnNow_79 rfl (lv_at hl 0 rfl) ?_
                refine hm_get cb_X8 hx hb hown X w 0 29 fl_X8_264 dX8_learnNow_80 rfl (by decide) rfl ?_
                refine lv_iadd hx hb dX8_learnNow_83 ?_
                refine lv_topi (fun x39 ex39 => ?_)
                have hf := pf_nm ex39 hf
                refine lv_istore (lv' := [(5, .int x39), (0, .ref h0), (2, .int a2), (3, .int r1), (4, .int x3), (6, .int x22)]) hx hb dX8_learnNow_84 hl (by decide) rfl (fun ls hl => ?_)
                refine lv_aload_n hx hb dX8_learnNow_86 rfl (lv_at hl 1 rfl) ?_
                refine lv_aload_n hx hb dX8_learnNow_87 rfl (lv_at hl 1 rfl) ?_
                refine lv_iload hx hb dX8_learnNow_88 (lv_at hl 4 rfl) ?_
                obtain ⟨r40, hc90, hf⟩ := pf_bi_0 hf
                refine hm_aft_i (ws' := fun _ => [oc8 h0 r_t t_base t_taped t_at t_faultPlace t_number t_newBits t_newTold t_newDoings t_newThings t_opened x37 x38 t_onPaper t_turned t_wasConverted t_lastBits t_lastSum t_lastHeld t_lastLeft t_lastCode t_writtenLong t_codeMany t_acts t_done0 t_stoppedAt, ic E (r_t 0) 800 f32, ic E (r_t 27) 12 f35, ic E (r_t 25) 12 f33, ic E (r_t 28) 12 f36, zc E (r_t 26) 12 f34]) (hm_runV (rest := [.ref h0]) hx hb hml hown X hA Y w 0 (ci := 7) (T := TX8) (N := 55) rfl rfl mw_X8_weight ml_X8_224 dX8_learnNow_90 hm_ac0 [.int x3] rfl [0, 1] rfl rfl (ct_X8_weight l E H.size h0 r_t t_base t_taped t_at t_faultPlace t_number t_newBits t_newTold t_newDoings t_newThings t_opened x37 x38 t_onPaper t_turned t_wasConverted t_lastBits t_lastSum t_lastHeld t_lastLeft t_lastCode t_writtenLong t_codeMany t_acts t_done0 t_stoppedAt f32 x3 (r40, ()) hc90) rfl hl.1 ⟨⟨rfl, rfl⟩, ⟨Nat.le_of_ble_eq_true rfl, Nat.le_of_ble_eq_true rfl⟩, ⟨Nat.le_of_ble_eq_true rfl, Nat.le_of_ble_eq_true rfl⟩, Nat.le_of_ble_eq_true rfl⟩) hA w [0, 1] [2, 3, 4, 5] [4, 5, 0, 1, 2, 3] rfl rfl (by decide) (fun _ => rfl) (fun _ H locs w => ?_)
                refine lv_iload hx hb dX8_learnNow_93 (lv_at hl 4 rfl) ?_
                refine lv_aload_n hx hb dX8_learnNow_95 rfl (lv_at hl 1 rfl) ?_
                refine lv_iconst (v := 1) hx hb dX8_learnNow_96 (by decide) ?_
                obtain ⟨r41, hc97, hf⟩ := pf_bi_0 hf
                refine hm_aft_i (ws' := fun _ => [oc8 h0 r_t t_base t_taped t_at t_faultPlace t_number t_newBits t_newTold t_newDoings t_newThings t_opened x37 x38 t_onPaper t_turned t_wasConverted t_lastBits t_lastSum t_lastHeld t_lastLeft t_lastCode t_writtenLong t_codeMany t_acts t_done0 t_stoppedAt, ic E (r_t 0) 800 f32, ic E (r_t 27) 12 f35, ic E (r_t 25) 12 f33, ic E (r_t 28) 12 f36, zc E (r_t 26) 12 f34]) (hm_runV (rest := [.int x3, .int r40, .ref h0]) hx hb hml hown X hA Y w 0 (ci := 7) (T := TX8) (N := 55) rfl rfl mw_X8_get ml_X8_221 dX8_learnNow_97 hm_ac0 [.int 1] rfl [0, 1] rfl rfl (ct_X8_get l E H.size h0 r_t t_base t_taped t_at t_faultPlace t_number t_newBits t_newTold t_newDoings t_newThings t_opened x37 x38 t_onPaper t_turned t_wasConverted t_lastBits t_lastSum t_lastHeld t_lastLeft t_lastCode t_writtenLong t_codeMany t_acts t_done0 t_stoppedAt f32 1 (r41, ()) hc97) rfl hl.1 ⟨⟨rfl, rfl⟩, ⟨Nat.le_of_ble_eq_true rfl, Nat.le_of_ble_eq_true rfl⟩, ⟨Nat.le_of_ble_eq_true rfl, Nat.le_of_ble_eq_true rfl⟩, Nat.le_of_ble_eq_true rfl⟩) hA w [0, 1] [2, 3, 4, 5] [4, 5, 0, 1, 2, 3] rfl rfl (by decide) (fun _ => rfl) (fun _ H locs w => ?_)
                refine lv_ineg hx hb dX8_learnNow_100 ?_
                obtain ⟨f42, f43, f44, f45, f46, x47, x48, hc101, hf⟩ := pf_bv_7 hf
                refine hm_aft_v (ws' := fun _ => [oc8 h0 r_t t_base t_taped t_at t_faultPlace t_number t_newBits t_newTold t_newDoings t_newThings t_opened x47 x48 t_onPaper t_turned t_wasConverted t_lastBits t_lastSum t_lastHeld t_lastLeft t_lastCode t_writtenLong t_codeMany t_acts t_done0 t_stoppedAt, ic E (r_t 0) 800 f42, ic E (r_t 27) 12 f45, ic E (r_t 25) 12 f43, ic E (r_t 28) 12 f46, zc E (r_t 26) 12 f44]) (hm_runV (rest := []) hx hb hml hown X hA Y w 0 (ci := 7) (T := TX8) (N := 55) rfl rfl mw_X8_goThrough ml_X8_273 dX8_learnNow_101 hm_ac0 [.int r40, .int x3, .int (-r41)] rfl [0, 1, 2, 3, 4, 5] rfl rfl (ct_X8_goThrough l E H.size h0 r_t t_base t_taped t_at t_faultPlace t_number t_newBits t_newTold t_newDoings t_newThings t_opened x37 x38 t_onPaper t_turned t_wasConverted t_lastBits t_lastSum t_lastHeld t_lastLeft t_lastCode t_writtenLong t_codeMany t_acts t_done0 t_stoppedAt f32 f35 f33 f36 f34 r40 x3 (-r41) (f42, f43, f44, f45, f46, x47, x48) hc101) rfl hl.1 ⟨⟨rfl, rfl⟩, ⟨Nat.le_of_ble_eq_true rfl, Nat.le_of_ble_eq_true rfl⟩, ⟨Nat.le_of_ble_eq_true rfl, Nat.le_of_ble_eq_true rfl⟩, Nat.le_of_ble_eq_true rfl⟩) hA w [0, 1, 2, 3, 4, 5] [] [0, 1, 2, 3, 4, 5] rfl rfl (by decide) (fun _ => rfl) (fun _ H locs w => ?_)
                refine lv_iload hx hb dX8_learnNow_104 (lv_at hl 0 rfl) ?_
                refine lv_aload_n hx hb dX8_learnNow_106 rfl (lv_at hl 1 rfl) ?_
                refine hm_get cb_X8 hx hb hown X w 0 29 fl_X8_264 dX8_learnNow_107 rfl (by decide) rfl ?_
                refine lv_iadd hx hb dX8_learnNow_110 ?_
                refine lv_topi (fun x49 ex49 => ?_)
                have hf := pf_nm ex49 hf
                refine lv_istore (lv' := [(5, .int x49), (0, .ref h0), (2, .int a2), (3, .int r1), (4, .int x3), (6, .int x22)]) hx hb dX8_learnNow_111 hl (by decide) rfl (fun ls hl => ?_)
                obtain ⟨x50, ex50⟩ : ∃ y : Int32, y = (x22 + 1) := ⟨_, rfl⟩
                have hf := pf_nm ex50 hf
                refine lv_iinc (v := x50) (lv' := [(6, .int x50), (5, .int x49), (0, .ref h0), (2, .int a2), (3, .int r1), (4, .int x3)]) hx hb dX8_learnNow_113 hl (k := 5) rfl (by rw [ex50]; rfl) (by decide) rfl (fun ls hl => ?_)
                refine lv_goto (tgt := 54) hx hb dX8_learnNow_116 (by decide) ?_
                exact ih54 _ _ _ _ _ _ _ _ _ _ _ _ hf w (lv_sub hl [2, 3, 4, 5, 1, 0] rfl)
          exact klp_X8_learnNow_54 FU _ _ _ _ _ _ _ _ _ _ _ _ hf w (lv_sub hl [2, 3, 4, 5, 1, 0] rfl)
    exact klp_X8_learnNow_42 FU _ _ _ _ _ _ _ _ _ _ _ hf w (lv_sub hl [1, 3, 4, 0] rfl)
  have klp_X8_learnNow_9 : ∀ (n : Nat) (x51 : Int32) (f52 : Nat → Int32) (H : Heap) (locs : List Loc) (ls : Array Slot), lp_X8_learnNow_9 a1 t_base J39 n x51 f52 = some R → hm_W E A s.heap [oc8 h0 r_t t_base t_taped t_at t_faultPlace t_number t_newBits t_newTold t_newDoings t_newThings t_opened t_sum t_heldAll t_onPaper t_turned t_wasConverted t_lastBits t_lastSum t_lastHeld t_lastLeft t_lastCode t_writtenLong t_codeMany t_acts t_done0 t_stoppedAt, ic E (r_t 0) 800 f52, ic E (r_t 27) 12 t_askedOf, ic E (r_t 25) 12 t_decided, ic E (r_t 28) 12 t_heldBehind, zc E (r_t 26) 12 t_wasLate] H locs → lv_has ls 7 [(0, .ref h0), (1, .int a1), (2, .int a2), (3, .int r1), (4, .int x51)] → W p l e (hm_rr 4 94 0 0) s m args below meth c H locs 0 0 Q (F0 m 9 ls []) := by
    intro n
    induction n with
    | zero =>
      intro x51 f52 H locs ls hf w hl
      exact pf_no hf
    | succ n ih9 =>
      intro x51 f52 H locs ls hf w hl
      rw [lp_X8_learnNow_9] at hf
      refine lv_iload hx hb dX8_learnNow_9 (lv_at hl 4 rfl) ?_
      refine lv_iload_n hx hb dX8_learnNow_11 rfl (lv_at hl 1 rfl) ?_
      refine lv_icmp_ge (tgt := 39) hx hb dX8_learnNow_12 (by decide) (fun c12 => ?_) (fun c12 => ?_)
      · have hf := pf_t c12 hf
        exact kJ39 _ _ _ _ hf w (lv_sub hl [0, 1, 2, 3] rfl)
      · have hf := pf_e c12 hf
        refine lv_aload_n hx hb dX8_learnNow_15 rfl (lv_at hl 0 rfl) ?_
        refine lv_bipush (v := 33) hx hb dX8_learnNow_16 (by decide) ?_
        refine lv_iload hx hb dX8_learnNow_18 (lv_at hl 4 rfl) ?_
        refine lv_iadd hx hb dX8_learnNow_20 ?_
        refine lv_aload_n hx hb dX8_learnNow_21 rfl (lv_at hl 0 rfl) ?_
        refine lv_bipush (v := 9) hx hb dX8_learnNow_22 (by decide) ?_
        refine lv_iload hx hb dX8_learnNow_24 (lv_at hl 4 rfl) ?_
        refine lv_iadd hx hb dX8_learnNow_26 ?_
        obtain ⟨r53, hc27, hf⟩ := pf_bi_0 hf
        refine hm_aft_i (ws' := fun _ => [oc8 h0 r_t t_base t_taped t_at t_faultPlace t_number t_newBits t_newTold t_newDoings t_newThings t_opened t_sum t_heldAll t_onPaper t_turned t_wasConverted t_lastBits t_lastSum t_lastHeld t_lastLeft t_lastCode t_writtenLong t_codeMany t_acts t_done0 t_stoppedAt, ic E (r_t 0) 800 f52, ic E (r_t 27) 12 t_askedOf, ic E (r_t 25) 12 t_decided, ic E (r_t 28) 12 t_heldBehind, zc E (r_t 26) 12 t_wasLate]) (hm_runV (rest := [.int (33 + x51), .ref h0]) hx hb hml hown X hA Y w 0 (ci := 7) (T := TX8) (N := 55) rfl rfl mw_X8_get ml_X8_221 dX8_learnNow_27 hm_ac0 [.int (9 + x51)] rfl [0, 1] rfl rfl (ct_X8_get l E H.size h0 r_t t_base t_taped t_at t_faultPlace t_number t_newBits t_newTold t_newDoings t_newThings t_opened t_sum t_heldAll t_onPaper t_turned t_wasConverted t_lastBits t_lastSum t_lastHeld t_lastLeft t_lastCode t_writtenLong t_codeMany t_acts t_done0 t_stoppedAt f52 (9 + x51) (r53, ()) hc27) rfl hl.1 ⟨⟨rfl, rfl⟩, ⟨Nat.le_of_ble_eq_true rfl, Nat.le_of_ble_eq_true rfl⟩, ⟨Nat.le_of_ble_eq_true rfl, Nat.le_of_ble_eq_true rfl⟩, Nat.le_of_ble_eq_true rfl⟩) hA w [0, 1] [2, 3, 4, 5] [4, 5, 0, 1, 2, 3] rfl rfl (by decide) (fun _ => rfl) (fun _ H locs w => ?_)
        obtain ⟨f54, hc30, hf⟩ := pf_bv_1 hf
        refine hm_aft_v (ws' := fun _ => [oc8 h0 r_t t_base t_taped t_at t_faultPlace t_number t_newBits t_newTold t_newDoings t_newThings t_opened t_sum t_heldAll t_onPaper t_turned t_wasConverted t_lastBits t_lastSum t_lastHeld t_lastLeft t_lastCode t_writtenLong t_codeMany t_acts t_done0 t_stoppedAt, ic E (r_t 0) 800 f54, ic E (r_t 27) 12 t_askedOf, ic E (r_t 25) 12 t_decided, ic E (r_t 28) 12 t_heldBehind, zc E (r_t 26) 12 t_wasLate]) (hm_runV (rest := []) hx hb hml hown X hA Y w 0 (ci := 7) (T := TX8) (N := 55) rfl rfl mw_X8_put ml_X8_119 dX8_learnNow_30 hm_ac0 [.int (33 + x51), .int r53] rfl [0, 1] rfl rfl (ct_X8_put l E H.size h0 r_t t_base t_taped t_at t_faultPlace t_number t_newBits t_newTold t_newDoings t_newThings t_opened t_sum t_heldAll t_onPaper t_turned t_wasConverted t_lastBits t_lastSum t_lastHeld t_lastLeft t_lastCode t_writtenLong t_codeMany t_acts t_done0 t_stoppedAt f52 (33 + x51) r53 f54 hc30) rfl hl.1 ⟨⟨rfl, rfl⟩, ⟨Nat.le_of_ble_eq_true rfl, Nat.le_of_ble_eq_true rfl⟩, ⟨Nat.le_of_ble_eq_true rfl, Nat.le_of_ble_eq_true rfl⟩, Nat.le_of_ble_eq_true rfl⟩) hA w [0, 1] [2, 3, 4, 5] [4, 5, 0, 1, 2, 3] rfl rfl (by decide) (fun _ => rfl) (fun _ H locs w => ?_)
        obtain ⟨x55, ex55⟩ : ∃ y : Int32, y = (x51 + 1) := ⟨_, rfl⟩
        have hf := pf_nm ex55 hf
        refine lv_iinc (v := x55) (lv' := [(4, .int x55), (0, .ref h0), (1, .int a1), (2, .int a2), (3, .int r1)]) hx hb dX8_learnNow_33 hl (k := 4) rfl (by rw [ex55]; rfl) (by decide) rfl (fun ls hl => ?_)
        refine lv_goto (tgt := 9) hx hb dX8_learnNow_36 (by decide) ?_
        exact ih9 _ _ _ _ _ hf w (lv_sub hl [1, 2, 3, 4, 0] rfl)
  exact klp_X8_learnNow_9 FU _ _ _ _ _ hf w (lv_sub hl [2, 3, 4, 1, 0] rfl)