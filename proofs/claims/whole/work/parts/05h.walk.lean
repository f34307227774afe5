set_option maxHeartbeats 8000000 in
set_option maxRecDepth 100000 in
theorem ct_X8_readDrift (l : Launch) (E : hm_E) (sz : Nat) (h0 : Nat) (r_t : Nat → Nat) (t_base t_taped t_at t_faultPlace t_number t_newBits t_newTold t_newDoings t_newThings t_opened t_sum t_heldAll t_onPaper t_turned t_wasConverted t_lastBits t_lastSum t_lastHeld t_lastLeft t_lastCode t_writtenLong t_codeMany t_acts t_done0 t_stoppedAt : Int32) (t_newDoing : Nat → Int32) (t_open : Nat → Int32) (t_productSign : Nat → Int32) (t_sign : Nat → Int32) (t_stage : Nat → Int32) (t_sumSign : Nat → Int32) (t_tape : Nat → Int32) (R : Int32 × Int32 × Int32 × Int32 × (Nat → Int32) × Int32 × Int32 × (Nat → Int32) × (Nat → Int32) × (Nat → Int32) × (Nat → Int32) × (Nat → Int32) × Int32) (hf : pf_X8_readDrift t_tape t_taped t_number t_newDoing t_open t_stage t_sign t_sumSign t_productSign = some R) : hm_Mi l E yX8_readDrift cX8_readDrift 3 .boolean [] (hm_rr 4 86 0 0) [.ref h0] sz [oc8 h0 r_t t_base t_taped t_at t_faultPlace t_number t_newBits t_newTold t_newDoings t_newThings t_opened t_sum t_heldAll t_onPaper t_turned t_wasConverted t_lastBits t_lastSum t_lastHeld t_lastLeft t_lastCode t_writtenLong t_codeMany t_acts t_done0 t_stoppedAt, ic E (r_t 14) 84 t_newDoing, ic E (r_t 17) 10 t_open, ic E (r_t 21) 10 t_productSign, ic E (r_t 19) 10 t_sign, ic E (r_t 18) 10 t_stage, ic E (r_t 20) 10 t_sumSign, bc E (r_t 2) 400 t_tape] R.1 (fun _ => [oc8 h0 r_t t_base t_taped (R.2.1) (R.2.2.1) (R.2.2.2.1) t_newBits t_newTold (R.2.2.2.2.2.1) (R.2.2.2.2.2.2.1) (R.2.2.2.2.2.2.2.2.2.2.2.2) t_sum t_heldAll t_onPaper t_turned t_wasConverted t_lastBits t_lastSum t_lastHeld t_lastLeft t_lastCode t_writtenLong t_codeMany t_acts t_done0 t_stoppedAt, ic E (r_t 14) 84 (R.2.2.2.2.1), ic E (r_t 17) 10 (R.2.2.2.2.2.2.2.1), ic E (r_t 21) 10 (R.2.2.2.2.2.2.2.2.2.2.2.1), ic E (r_t 19) 10 (R.2.2.2.2.2.2.2.2.2.1), ic E (r_t 18) 10 (R.2.2.2.2.2.2.2.2.1), ic E (r_t 20) 10 (R.2.2.2.2.2.2.2.2.2.2.1), bc E (r_t 2) 400 t_tape]) := by
  refine hm_ct_i R (fun u _ => [oc8 h0 r_t t_base t_taped (u.1) (u.2.1) (u.2.2.1) t_newBits t_newTold (u.2.2.2.2.1) (u.2.2.2.2.2.1) (u.2.2.2.2.2.2.2.2.2.2.2) t_sum t_heldAll t_onPaper t_turned t_wasConverted t_lastBits t_lastSum t_lastHeld t_lastLeft t_lastCode t_writtenLong t_codeMany t_acts t_done0 t_stoppedAt, ic E (r_t 14) 84 (u.2.2.2.1), ic E (r_t 17) 10 (u.2.2.2.2.2.2.1), ic E (r_t 21) 10 (u.2.2.2.2.2.2.2.2.2.2.1), ic E (r_t 19) 10 (u.2.2.2.2.2.2.2.2.1), ic E (r_t 18) 10 (u.2.2.2.2.2.2.2.1), ic E (r_t 20) 10 (u.2.2.2.2.2.2.2.2.2.1), bc E (r_t 2) 400 t_tape]) (by decide) (Nat.le_of_ble_eq_true rfl) (Or.inr rfl) ?_
  intro p e s m args below meth c A Q ls H locs hx hb hml hown X hA Y hex w hl hQ
  have hl : lv_has ls 3 [(0, .ref h0)] := hl
  unfold pf_X8_readDrift at hf
  refine lv_aload_n hx hb dX8_readDrift_0 rfl (lv_at hl 0 rfl) ?_
  refine lv_iconst (v := 0) hx hb dX8_readDrift_1 (by decide) ?_
  refine hm_put (ws' := [oc8 h0 r_t t_base t_taped 0 t_faultPlace t_number t_newBits t_newTold t_newDoings t_newThings t_opened t_sum t_heldAll t_onPaper t_turned t_wasConverted t_lastBits t_lastSum t_lastHeld t_lastLeft t_lastCode t_writtenLong t_codeMany t_acts t_done0 t_stoppedAt, ic E (r_t 14) 84 t_newDoing, ic E (r_t 17) 10 t_open, ic E (r_t 21) 10 t_productSign, ic E (r_t 19) 10 t_sign, ic E (r_t 18) 10 t_stage, ic E (r_t 20) 10 t_sumSign, bc E (r_t 2) 400 t_tape]) cb_X8 hx hb hown X w 0 4 fl_X8_133 dX8_readDrift_2 rfl (by decide) (Nat.le_of_ble_eq_true rfl) rfl rfl rfl rfl (fun H locs w => ?_)
  refine lv_aload_n hx hb dX8_readDrift_5 rfl (lv_at hl 0 rfl) ?_
  refine lv_iconst (v := (-1)) hx hb dX8_readDrift_6 (by decide) ?_
  refine hm_put (ws' := [oc8 h0 r_t t_base t_taped 0 (-1) t_number t_newBits t_newTold t_newDoings t_newThings t_opened t_sum t_heldAll t_onPaper t_turned t_wasConverted t_lastBits t_lastSum t_lastHeld t_lastLeft t_lastCode t_writtenLong t_codeMany t_acts t_done0 t_stoppedAt, ic E (r_t 14) 84 t_newDoing, ic E (r_t 17) 10 t_open, ic E (r_t 21) 10 t_productSign, ic E (r_t 19) 10 t_sign, ic E (r_t 18) 10 t_stage, ic E (r_t 20) 10 t_sumSign, bc E (r_t 2) 400 t_tape]) cb_X8 hx hb hown X w 0 5 fl_X8_25 dX8_readDrift_7 rfl (by decide) (Nat.le_of_ble_eq_true rfl) rfl rfl rfl rfl (fun H locs w => ?_)
  refine lv_aload_n hx hb dX8_readDrift_10 rfl (lv_at hl 0 rfl) ?_
  refine lv_iconst (v := 0) hx hb dX8_readDrift_11 (by decide) ?_
  refine hm_put (ws' := [oc8 h0 r_t t_base t_taped 0 (-1) t_number t_newBits t_newTold 0 t_newThings t_opened t_sum t_heldAll t_onPaper t_turned t_wasConverted t_lastBits t_lastSum t_lastHeld t_lastLeft t_lastCode t_writtenLong t_codeMany t_acts t_done0 t_stoppedAt, ic E (r_t 14) 84 t_newDoing, ic E (r_t 17) 10 t_open, ic E (r_t 21) 10 t_productSign, ic E (r_t 19) 10 t_sign, ic E (r_t 18) 10 t_stage, ic E (r_t 20) 10 t_sumSign, bc E (r_t 2) 400 t_tape]) cb_X8 hx hb hown X w 0 15 fl_X8_185 dX8_readDrift_12 rfl (by decide) (Nat.le_of_ble_eq_true rfl) rfl rfl rfl rfl (fun H locs w => ?_)
  refine lv_aload_n hx hb dX8_readDrift_15 rfl (lv_at hl 0 rfl) ?_
  refine lv_iconst (v := 0) hx hb dX8_readDrift_16 (by decide) ?_
  refine hm_put (ws' := [oc8 h0 r_t t_base t_taped 0 (-1) t_number t_newBits t_newTold 0 0 t_opened t_sum t_heldAll t_onPaper t_turned t_wasConverted t_lastBits t_lastSum t_lastHeld t_lastLeft t_lastCode t_writtenLong t_codeMany t_acts t_done0 t_stoppedAt, ic E (r_t 14) 84 t_newDoing, ic E (r_t 17) 10 t_open, ic E (r_t 21) 10 t_productSign, ic E (r_t 19) 10 t_sign, ic E (r_t 18) 10 t_stage, ic E (r_t 20) 10 t_sumSign, bc E (r_t 2) 400 t_tape]) cb_X8 hx hb hown X w 0 16 fl_X8_194 dX8_readDrift_17 rfl (by decide) (Nat.le_of_ble_eq_true rfl) rfl rfl rfl rfl (fun H locs w => ?_)
  refine lv_aload_n hx hb dX8_readDrift_20 rfl (lv_at hl 0 rfl) ?_
  refine lv_iconst (v := (-1)) hx hb dX8_readDrift_21 (by decide) ?_
  refine hm_put (ws' := [oc8 h0 r_t t_base t_taped 0 (-1) t_number t_newBits t_newTold 0 0 (-1) t_sum t_heldAll t_onPaper t_turned t_wasConverted t_lastBits t_lastSum t_lastHeld t_lastLeft t_lastCode t_writtenLong t_codeMany t_acts t_done0 t_stoppedAt, ic E (r_t 14) 84 t_newDoing, ic E (r_t 17) 10 t_open, ic E (r_t 21) 10 t_productSign, ic E (r_t 19) 10 t_sign, ic E (r_t 18) 10 t_stage, ic E (r_t 20) 10 t_sumSign, bc E (r_t 2) 400 t_tape]) cb_X8 hx hb hown X w 0 22 fl_X8_188 dX8_readDrift_22 rfl (by decide) (Nat.le_of_ble_eq_true rfl) rfl rfl rfl rfl (fun H locs w => ?_)
  refine lv_aload_n hx hb dX8_readDrift_25 rfl (lv_at hl 0 rfl) ?_
  refine lv_iconst (v := 0) hx hb dX8_readDrift_26 (by decide) ?_
  obtain ⟨f1, f2, f3, f4, x5, hc27, hf⟩ := pf_bv_5 hf
  refine hm_aft_v (ws' := fun _ => [oc8 h0 r_t t_base t_taped 0 (-1) t_number t_newBits t_newTold 0 0 x5 t_sum t_heldAll t_onPaper t_turned t_wasConverted t_lastBits t_lastSum t_lastHeld t_lastLeft t_lastCode t_writtenLong t_codeMany t_acts t_done0 t_stoppedAt, ic E (r_t 14) 84 t_newDoing, ic E (r_t 17) 10 f1, ic E (r_t 21) 10 f4, ic E (r_t 19) 10 t_sign, ic E (r_t 18) 10 f2, ic E (r_t 20) 10 f3, bc E (r_t 2) 400 t_tape]) (hm_runV (rest := []) hx hb hml hown X hA Y w 0 (ci := 7) (T := TX8) (N := 55) rfl rfl mw_X8_openOne ml_X8_200 dX8_readDrift_27 hm_ac0 [.int 0] rfl [0, 2, 3, 5, 6] rfl rfl (ct_X8_openOne l E H.size h0 r_t t_base t_taped 0 (-1) t_number t_newBits t_newTold 0 0 (-1) t_sum t_heldAll t_onPaper t_turned t_wasConverted t_lastBits t_lastSum t_lastHeld t_lastLeft t_lastCode t_writtenLong t_codeMany t_acts t_done0 t_stoppedAt t_open t_productSign t_stage t_sumSign 0 (f1, f2, f3, f4, x5) hc27) rfl hl.1 ⟨⟨rfl, rfl⟩, ⟨Nat.le_of_ble_eq_true rfl, Nat.le_of_ble_eq_true rfl⟩, ⟨Nat.le_of_ble_eq_true rfl, Nat.le_of_ble_eq_true rfl⟩, Nat.le_of_ble_eq_true rfl⟩) hA w [0, 2, 3, 5, 6] [1, 4, 7] [3, 0, 4, 5, 1, 6, 7, 2] rfl rfl (by decide) (fun _ => rfl) (fun _ H locs w => ?_)
  refine lv_aload_n hx hb dX8_readDrift_30 rfl (lv_at hl 0 rfl) ?_
  refine hm_get cb_X8 hx hb hown X w 0 3 fl_X8_122 dX8_readDrift_31 rfl (by decide) rfl ?_
  refine lv_if_le (tgt := 41) hx hb dX8_readDrift_34 (by decide) (fun c34 => ?_) (fun c34 => ?_)
  · have hf := pf_t c34 hf
    refine lv_iconst (v := 0) hx hb dX8_readDrift_41 (by decide) ?_
    refine lv_istore_n (lv' := [(1, .int 0), (0, .ref h0)]) hx hb dX8_readDrift_42 rfl hl (by decide) rfl (fun ls hl => ?_)
    obtain ⟨J79, hJ79, hf⟩ := pf_jn hf
    have kJ79 : ∀ (x6 : Int32) (x7 : Int32) (x8 : Int32) (f9 : Nat → Int32) (x10 : Int32) (x11 : Int32) (f12 : Nat → Int32) (f13 : Nat → Int32) (f14 : Nat → Int32) (f15 : Nat → Int32) (f16 : Nat → Int32) (x17 : Int32) (H : Heap) (locs : List Loc) (ls : Array Slot), J79 x6 x7 x8 f9 x10 x11 f12 f13 f14 f15 f16 x17 = some R → hm_W E A s.heap [oc8 h0 r_t t_base t_taped x6 x7 x8 t_newBits t_newTold x10 x11 x17 t_sum t_heldAll t_onPaper t_turned t_wasConverted t_lastBits t_lastSum t_lastHeld t_lastLeft t_lastCode t_writtenLong t_codeMany t_acts t_done0 t_stoppedAt, ic E (r_t 14) 84 f9, ic E (r_t 17) 10 f12, ic E (r_t 21) 10 f16, ic E (r_t 19) 10 f14, ic E (r_t 18) 10 f13, ic E (r_t 20) 10 f15, bc E (r_t 2) 400 t_tape] H locs → lv_has ls 3 [(0, .ref h0)] → W p l e (hm_rr 4 86 0 0) s m args below meth c H locs 0 0 Q (F0 m 79 ls []) := by
      intro x6 x7 x8 f9 x10 x11 f12 f13 f14 f15 f16 x17 H locs ls hf w hl
      have hf := pf_j12 hJ79 hf
      refine lv_aload_n hx hb dX8_readDrift_79 rfl (lv_at hl 0 rfl) ?_
      refine hm_get cb_X8 hx hb hown X w 0 5 fl_X8_25 dX8_readDrift_80 rfl (by decide) rfl ?_
      refine lv_iconst (v := (-1)) hx hb dX8_readDrift_83 (by decide) ?_
      refine lv_icmp_ne (tgt := 91) hx hb dX8_readDrift_84 (by decide) (fun c84 => ?_) (fun c84 => ?_)
      · have hf := pf_e c84 hf
        refine lv_iconst (v := 0) hx hb dX8_readDrift_91 (by decide) ?_
        exact hQ _ _ _ _ _ (x6, x7, x8, f9, x10, x11, f12, f13, f14, f15, f16, x17) (fun _ => 0) hf rfl w dX8_readDrift_92
      · have hf := pf_t c84 hf
        refine lv_iconst (v := 1) hx hb dX8_readDrift_87 (by decide) ?_
        refine lv_goto (tgt := 92) hx hb dX8_readDrift_88 (by decide) ?_
        exact hQ _ _ _ _ _ (x6, x7, x8, f9, x10, x11, f12, f13, f14, f15, f16, x17) (fun _ => 0) hf rfl w dX8_readDrift_92
    have klp_X8_readDrift_43 : ∀ (n : Nat) (x18 : Int32) (x19 : Int32) (x20 : Int32) (x21 : Int32) (f22 : Nat → Int32) (x23 : Int32) (x24 : Int32) (f25 : Nat → Int32) (f26 : Nat → Int32) (f27 : Nat → Int32) (f28 : Nat → Int32) (f29 : Nat → Int32) (x30 : Int32) (H : Heap) (locs : List Loc) (ls : Array Slot), lp_X8_readDrift_43 t_taped t_tape J79 n x18 x19 x20 x21 f22 x23 x24 f25 f26 f27 f28 f29 x30 = some R → hm_W E A s.heap [oc8 h0 r_t t_base t_taped x19 x20 x21 t_newBits t_newTold x23 x24 x30 t_sum t_heldAll t_onPaper t_turned t_wasConverted t_lastBits t_lastSum t_lastHeld t_lastLeft t_lastCode t_writtenLong t_codeMany t_acts t_done0 t_stoppedAt, ic E (r_t 14) 84 f22, ic E (r_t 17) 10 f25, ic E (r_t 21) 10 f29, ic E (r_t 19) 10 f27, ic E (r_t 18) 10 f26, ic E (r_t 20) 10 f28, bc E (r_t 2) 400 t_tape] H locs → lv_has ls 3 [(0, .ref h0), (1, .int x18)] → W p l e (hm_rr 4 86 0 0) s m args below meth c H locs 0 0 Q (F0 m 43 ls []) := by
      intro n
      induction n with
      | zero =>
        intro x18 x19 x20 x21 f22 x23 x24 f25 f26 f27 f28 f29 x30 H locs ls hf w hl
        exact pf_no hf
      | succ n ih43 =>
        intro x18 x19 x20 x21 f22 x23 x24 f25 f26 f27 f28 f29 x30 H locs ls hf w hl
        rw [lp_X8_readDrift_43] at hf
        refine lv_iload_n hx hb dX8_readDrift_43 rfl (lv_at hl 1 rfl) ?_
        refine lv_if_eq (tgt := 79) hx hb dX8_readDrift_44 (by decide) (fun c44 => ?_) (fun c44 => ?_)
        · have hf := pf_t c44 hf
          exact kJ79 _ _ _ _ _ _ _ _ _ _ _ _ _ _ _ hf w (lv_sub hl [0] rfl)
        · have hf := pf_e c44 hf
          refine lv_aload_n hx hb dX8_readDrift_47 rfl (lv_at hl 0 rfl) ?_
          obtain ⟨r31, x32, x33, x34, f35, x36, x37, f38, f39, f40, f41, x42, hc48, hf⟩ := pf_bi_11 hf
          refine hm_aft_i (ws' := fun _ => [oc8 h0 r_t t_base t_taped x32 x33 x34 t_newBits t_newTold x36 x37 x42 t_sum t_heldAll t_onPaper t_turned t_wasConverted t_lastBits t_lastSum t_lastHeld t_lastLeft t_lastCode t_writtenLong t_codeMany t_acts t_done0 t_stoppedAt, ic E (r_t 14) 84 f35, ic E (r_t 17) 10 f38, ic E (r_t 21) 10 f41, ic E (r_t 19) 10 f27, ic E (r_t 18) 10 f39, ic E (r_t 20) 10 f40, bc E (r_t 2) 400 t_tape]) (hm_runV (rest := []) hx hb hml hown X hA Y w 0 (ci := 7) (T := TX8) (N := 55) rfl rfl mw_X8_readThing ml_X8_212 dX8_readDrift_48 hm_ac0 [] rfl [0, 1, 2, 3, 5, 6, 7] rfl rfl (ct_X8_readThing l E H.size h0 r_t t_base t_taped x19 x20 x21 t_newBits t_newTold x23 x24 x30 t_sum t_heldAll t_onPaper t_turned t_wasConverted t_lastBits t_lastSum t_lastHeld t_lastLeft t_lastCode t_writtenLong t_codeMany t_acts t_done0 t_stoppedAt f22 f25 f29 f26 f28 t_tape (r31, x32, x33, x34, f35, x36, x37, f38, f39, f40, f41, x42) hc48) rfl hl.1 ⟨⟨rfl, rfl⟩, ⟨Nat.le_of_ble_eq_true rfl, Nat.le_of_ble_eq_true rfl⟩, ⟨Nat.le_of_ble_eq_true rfl, Nat.le_of_ble_eq_true rfl⟩, Nat.le_of_ble_eq_true rfl⟩) hA w [0, 1, 2, 3, 5, 6, 7] [4] [1, 2, 3, 4, 0, 5, 6, 7] rfl rfl (by decide) (fun _ => rfl) (fun _ H locs w => ?_)
          refine lv_istore_n (lv' := [(2, .int r31), (0, .ref h0), (1, .int x18)]) hx hb dX8_readDrift_51 rfl hl (by decide) rfl (fun ls hl => ?_)
          refine lv_iload_n hx hb dX8_readDrift_52 rfl (lv_at hl 0 rfl) ?_
          refine lv_iconst (v := (-1)) hx hb dX8_readDrift_53 (by decide) ?_
          refine lv_icmp_ne (tgt := 59) hx hb dX8_readDrift_54 (by decide) (fun c54 => ?_) (fun c54 => ?_)
          · have hf := pf_e c54 hf
            refine lv_iload_n hx hb dX8_readDrift_59 rfl (lv_at hl 0 rfl) ?_
            refine lv_if_eq (tgt := 70) hx hb dX8_readDrift_60 (by decide) (fun c60 => ?_) (fun c60 => ?_)
            · have hf := pf_t c60 hf
              refine lv_iconst (v := 1) hx hb dX8_readDrift_70 (by decide) ?_
              refine lv_goto (tgt := 75) hx hb dX8_readDrift_71 (by decide) ?_
              refine lv_istore_n (lv' := [(1, .int 1), (2, .int r31), (0, .ref h0)]) hx hb dX8_readDrift_75 rfl hl (by decide) rfl (fun ls hl => ?_)
              refine lv_goto (tgt := 43) hx hb dX8_readDrift_76 (by decide) ?_
              exact ih43 _ _ _ _ _ _ _ _ _ _ _ _ _ _ _ _ hf w (lv_sub hl [2, 0] rfl)
            · have hf := pf_e c60 hf
              refine lv_aload_n hx hb dX8_readDrift_63 rfl (lv_at hl 1 rfl) ?_
              obtain ⟨r43, x44, x45, f46, x47, f48, f49, f50, f51, x52, hc64, hf⟩ := pf_bi_9 hf
              refine hm_aft_i (ws' := fun _ => [oc8 h0 r_t t_base t_taped x44 x45 x34 t_newBits t_newTold x47 x37 x52 t_sum t_heldAll t_onPaper t_turned t_wasConverted t_lastBits t_lastSum t_lastHeld t_lastLeft t_lastCode t_writtenLong t_codeMany t_acts t_done0 t_stoppedAt, ic E (r_t 14) 84 f46, ic E (r_t 17) 10 f38, ic E (r_t 21) 10 f51, ic E (r_t 19) 10 f49, ic E (r_t 18) 10 f48, ic E (r_t 20) 10 f50, bc E (r_t 2) 400 t_tape]) (hm_runV (rest := []) hx hb hml hown X hA Y w 0 (ci := 7) (T := TX8) (N := 55) rfl rfl mw_X8_goesOn ml_X8_215 dX8_readDrift_64 hm_ac0 [] rfl [0, 1, 2, 3, 4, 5, 6, 7] rfl rfl (ct_X8_goesOn l E H.size h0 r_t t_base t_taped x32 x33 x34 t_newBits t_newTold x36 x37 x42 t_sum t_heldAll t_onPaper t_turned t_wasConverted t_lastBits t_lastSum t_lastHeld t_lastLeft t_lastCode t_writtenLong t_codeMany t_acts t_done0 t_stoppedAt f35 f38 f41 f27 f39 f40 t_tape (r43, x44, x45, f46, x47, f48, f49, f50, f51, x52) hc64) rfl hl.1 ⟨⟨rfl, rfl⟩, ⟨Nat.le_of_ble_eq_true rfl, Nat.le_of_ble_eq_true rfl⟩, ⟨Nat.le_of_ble_eq_true rfl, Nat.le_of_ble_eq_true rfl⟩, Nat.le_of_ble_eq_true rfl⟩) hA w [0, 1, 2, 3, 4, 5, 6, 7] [] [0, 1, 2, 3, 4, 5, 6, 7] rfl rfl (by decide) (fun _ => rfl) (fun _ H locs w => ?_)
              refine lv_if_eq (tgt := 74) hx hb dX8_readDrift_67 (by decide) (fun c67 => ?_) (fun c67 => ?_)
              · have hf := pf_t c67 hf
                refine lv_iconst (v := 0) hx hb dX8_readDrift_74 (by decide) ?_
                refine lv_istore_n (lv' := [(1, .int 0), (2, .int r31), (0, .ref h0)]) hx hb dX8_readDrift_75 rfl hl (by decide) rfl (fun ls hl => ?_)
                refine lv_goto (tgt := 43) hx hb dX8_readDrift_76 (by decide) ?_
                exact ih43 _ _ _ _ _ _ _ _ _ _ _ _ _ _ _ _ hf w (lv_sub hl [2, 0] rfl)
              · have hf := pf_e c67 hf
                refine lv_iconst (v := 1) hx hb dX8_readDrift_70 (by decide) ?_
                refine lv_goto (tgt := 75) hx hb dX8_readDrift_71 (by decide) ?_
                refine lv_istore_n (lv' := [(1, .int 1), (2, .int r31), (0, .ref h0)]) hx hb dX8_readDrift_75 rfl hl (by decide) rfl (fun ls hl => ?_)
                refine lv_goto (tgt := 43) hx hb dX8_readDrift_76 (by decide) ?_
                exact ih43 _ _ _ _ _ _ _ _ _ _ _ _ _ _ _ _ hf w (lv_sub hl [2, 0] rfl)
          · have hf := pf_t c54 hf
            refine lv_iconst (v := 0) hx hb dX8_readDrift_57 (by decide) ?_
            exact hQ _ _ _ _ _ (x32, x33, x34, f35, x36, x37, f38, f39, f27, f40, f41, x42) (fun _ => 0) hf rfl w dX8_readDrift_58
    exact klp_X8_readDrift_43 FU _ _ _ _ _ _ _ _ _ _ _ _ _ _ _ _ hf w (lv_sub hl [1, 0] rfl)
  · have hf := pf_e c34 hf
    refine lv_iconst (v := 1) hx hb dX8_readDrift_37 (by decide) ?_
    refine lv_goto (tgt := 42) hx hb dX8_readDrift_38 (by decide) ?_
    refine lv_istore_n (lv' := [(1, .int 1), (0, .ref h0)]) hx hb dX8_readDrift_42 rfl hl (by decide) rfl (fun ls hl => ?_)
    obtain ⟨J79, hJ79, hf⟩ := pf_jn hf
    have kJ79 : ∀ (x53 : Int32) (x54 : Int32) (x55 : Int32) (f56 : Nat → Int32) (x57 : Int32) (x58 : Int32) (f59 : Nat → Int32) (f60 : Nat → Int32) (f61 : Nat → Int32) (f62 : Nat → Int32) (f63 : Nat → Int32) (x64 : Int32) (H : Heap) (locs : List Loc) (ls : Array Slot), J79 x53 x54 x55 f56 x57 x58 f59 f60 f61 f62 f63 x64 = some R → hm_W E A s.heap [oc8 h0 r_t t_base t_taped x53 x54 x55 t_newBits t_newTold x57 x58 x64 t_sum t_heldAll t_onPaper t_turned t_wasConverted t_lastBits t_lastSum t_lastHeld t_lastLeft t_lastCode t_writtenLong t_codeMany t_acts t_done0 t_stoppedAt, ic E (r_t 14) 84 f56, ic E (r_t 17) 10 f59, ic E (r_t 21) 10 f63, ic E (r_t 19) 10 f61, ic E (r_t 18) 10 f60, ic E (r_t 20) 10 f62, bc E (r_t 2) 400 t_tape] H locs → lv_has ls 3 [(0, .ref h0)] → W p l e (hm_rr 4 86 0 0) s m args below meth c H locs 0 0 Q (F0 m 79 ls []) := by
      intro x53 x54 x55 f56 x57 x58 f59 f60 f61 f62 f63 x64 H locs ls hf w hl
      have hf := pf_j12 hJ79 hf
      refine lv_aload_n hx hb dX8_readDrift_79 rfl (lv_at hl 0 rfl) ?_
      refine hm_get cb_X8 hx hb hown X w 0 5 fl_X8_25 dX8_readDrift_80 rfl (by decide) rfl ?_
      refine lv_iconst (v := (-1)) hx hb dX8_readDrift_83 (by decide) ?_
      refine lv_icmp_ne (tgt := 91) hx hb dX8_readDrift_84 (by decide) (fun c84 => ?_) (fun c84 => ?_)
      · have hf := pf_e c84 hf
        refine lv_iconst (v := 0) hx hb dX8_readDrift_91 (by decide) ?_
        exact hQ _ _ _ _ _ (x53, x54, x55, f56, x57, x58, f59, f60, f61, f62, f63, x64) (fun _ => 0) hf rfl w dX8_readDrift_92
      · have hf := pf_t c84 hf
        refine lv_iconst (v := 1) hx hb dX8_readDrift_87 (by decide) ?_
        refine lv_goto (tgt := 92) hx hb dX8_readDrift_88 (by decide) ?_
        exact hQ _ _ _ _ _ (x53, x54, x55, f56, x57, x58, f59, f60, f61, f62, f63, x64) (fun _ => 0) hf rfl w dX8_readDrift_92
    have klp_X8_readDrift_43 : ∀ (n : Nat) (x65 : Int32) (x66 : Int32) (x67 : Int32) (x68 : Int32) (f69 : Nat → Int32) (x70 : Int32) (x71 : Int32) (f72 : Nat → Int32) (f73 : Nat → Int32) (f74 : Nat → Int32) (f75 : Nat → Int32) (f76 : Nat → Int32) (x77 : Int32) (H : Heap) (locs : List Loc) (ls : Array Slot), lp_X8_readDrift_43 t_taped t_tape J79 n x65 x66 x67 x68 f69 x70 x71 f72 f73 f74 f75 f76 x77 = some R → hm_W E A s.heap [oc8 h0 r_t t_base t_taped x66 x67 x68 t_newBits t_newTold x70 x71 x77 t_sum t_heldAll t_onPaper t_turned t_wasConverted t_lastBits t_lastSum t_lastHeld t_lastLeft t_lastCode t_writtenLong t_codeMany t_acts t_done0 t_stoppedAt, ic E (r_t 14) 84 f69, ic E (r_t 17) 10 f72, ic E (r_t 21) 10 f76, ic E (r_t 19) 10 f74, ic E (r_t 18) 10 f73, ic E (r_t 20) 10 f75, bc E (r_t 2) 400 t_tape] H locs → lv_has ls 3 [(0, .ref h0), (1, .int x65)] → W p l e (hm_rr 4 86 0 0) s m args below meth c H locs 0 0 Q (F0 m 43 ls []) := by
      intro n
      induction n with
      | zero =>
        intro x65 x66 x67 x68 f69 x70 x71 f72 f73 f74 f75 f76 x77 H locs ls hf w hl
        exact pf_no hf
      | succ n ih43 =>
        intro x65 x66 x67 x68 f69 x70 x71 f72 f73 f74 f75 f76 x77 H locs ls hf w hl
        rw [lp_X8_readDrift_43] at hf
        refine lv_iload_n hx hb dX8_readDrift_43 rfl (lv_at hl 1 rfl) ?_
        refine lv_if_eq (tgt := 79) hx hb dX8_readDrift_44 (by decide) (fun c44 => ?_) (fun c44 => ?_)
        · have hf := pf_t c44 hf
          exact kJ79 _ _ _ _ _ _ _ _ _ _ _ _ _ _ _ hf w (lv_sub hl [0] rfl)
        · have hf := pf_e c44 hf
          refine lv_aload_n hx hb dX8_readDrift_47 rfl (lv_at hl 0 rfl) ?_
          obtain ⟨r78, x79, x80, x81, f82, x83, x84, f85, f86, f87, f88, x89, hc48, hf⟩ := pf_bi_11 hf
          refine hm_aft_i (ws' := fun _ => [oc8 h0 r_t t_base t_taped x79 x80 x81 t_newBits t_newTold x83 x84 x89 t_sum t_heldAll t_onPaper t_turned t_wasConverted t_lastBits t_lastSum t_lastHeld t_lastLeft t_lastCode t_writtenLong t_codeMany t_acts t_done0 t_stoppedAt, ic E (r_t 14) 84 f82, ic E (r_t 17) 10 f85, ic E (r_t 21) 10 f88, ic E (r_t 19) 10 f74, ic E (r_t 18) 10 f86, ic E (r_t 20) 10 f87, bc E (r_t 2) 400 t_tape]) (hm_runV (rest := []) hx hb hml hown X hA Y w 0 (ci := 7) (T := TX8) (N := 55) rfl rfl mw_X8_readThing ml_X8_212 dX8_readDrift_48 hm_ac0 [] rfl [0, 1, 2, 3, 5, 6, 7] rfl rfl (ct_X8_readThing l E H.size h0 r_t t_base t_taped x66 x67 x68 t_newBits t_newTold x70 x71 x77 t_sum t_heldAll t_onPaper t_turned t_wasConverted t_lastBits t_lastSum t_lastHeld t_lastLeft t_lastCode t_writtenLong t_codeMany t_acts t_done0 t_stoppedAt f69 f72 f76 f73 f75 t_tape (r78, x79, x80, x81, f82, x83, x84, f85, f86, f87, f88, x89) hc48) rfl hl.1 ⟨⟨rfl, rfl⟩, ⟨Nat.le_of_ble_eq_true rfl, Nat.le_of_ble_eq_true rfl⟩, ⟨Nat.le_of_ble_eq_true rfl, Nat.le_of_ble_eq_true rfl⟩, Nat.le_of_ble_eq_true rfl⟩) hA w [0, 1, 2, 3, 5, 6, 7] [4] [1, 2, 3, 4, 0, 5, 6, 7] rfl rfl (by decide) (fun _ => rfl) (fun _ H locs w => ?_)
          refine lv_istore_n (lv' := [(2, .int r78), (0, .ref h0), (1, .int x65)]) hx hb dX8_readDrift_51 rfl hl (by decide) rfl (fun ls hl => ?_)
          refine lv_iload_n hx hb dX8_readDrift_52 rfl (lv_at hl 0 rfl) ?_
          refine lv_iconst (v := (-1)) hx hb dX8_readDrift_53 (by decide) ?_
          refine lv_icmp_ne (tgt := 59) hx hb dX8_readDrift_54 (by decide) (fun c54 => ?_) (fun c54 => ?_)
          · have hf := pf_e c54 hf
            refine lv_iload_n hx hb dX8_readDrift_59 rfl (lv_at hl 0 rfl) ?_
            refine lv_if_eq (tgt := 70) hx hb dX8_readDrift_60 (by decide) (fun c60 => ?_) (fun c60 => ?_)
            · have hf := pf_t c60 hf
              refine lv_iconst (v := 1) hx hb dX8_readDrift_70 (by decide) ?_
              refine lv_goto (tgt := 75) hx hb dX8_readDrift_71 (by decide) ?_
              refine lv_istore_n (lv' := [(1, .int 1), (2, .int r78), (0, .ref h0)]) hx hb dX8_readDrift_75 rfl hl (by decide) rfl (fun ls hl => ?_)
              refine lv_goto (tgt := 43) hx hb dX8_readDrift_76 (by decide) ?_
              exact ih43 _ _ _ _ _ _ _ _ _ _ _ _ _ _ _ _ hf w (lv_sub hl [2, 0] rfl)
            · have hf := pf_e c60 hf
              refine lv_aload_n hx hb dX8_readDrift_63 rfl (lv_at hl 1 rfl) ?_
              obtain ⟨r90, x91, x92, f93, x94, f95, f96, f97, f98, x99, hc64, hf⟩ := pf_bi_9 hf
              refine hm_aft_i (ws' := fun _ => [oc8 h0 r_t t_base t_taped x91 x92 x81 t_newBits t_newTold x94 x84 x99 t_sum t_heldAll t_onPaper t_turned t_wasConverted t_lastBits t_lastSum t_lastHeld t_lastLeft t_lastCode t_writtenLong t_codeMany t_acts t_done0 t_stoppedAt, ic E (r_t 14) 84 f93, ic E (r_t 17) 10 f85, ic E (r_t 21) 10 f98, ic E (r_t 19) 10 f96, ic E (r_t 18) 10 f95, ic E (r_t 20) 10 f97, bc E (r_t 2) 400 t_tape]) (hm_runV (rest := []) hx hb hml hown X hA Y w 0 (ci := 7) (T := TX8) (N := 55) rfl rfl mw_X8_goesOn ml_X8_215 dX8_readDrift_64 hm_ac0 [] rfl [0, 1, 2, 3, 4, 5, 6, 7] rfl rfl (ct_X8_goesOn l E H.size h0 r_t t_base t_taped x79 x80 x81 t_newBits t_newTold x83 x84 x89 t_sum t_heldAll t_onPaper t_turned t_wasConverted t_lastBits t_lastSum t_lastHeld t_lastLeft t_lastCode t_writtenLong t_codeMany t_acts t_done0 t_stoppedAt f82 f85 f88 f74 f86 f87 t_tape (r90, x91, x92, f93, x94, f95, f96, f97, f98, x99) hc64) rfl hl.1 ⟨⟨rfl, rfl⟩, ⟨Nat.le_of_ble_eq_true rfl, Nat.le_of_ble_eq_true rfl⟩, ⟨Nat.le_of_ble_eq_true rfl, Nat.le_of_ble_eq_true rfl⟩, Nat.le_of_ble_eq_true rfl⟩) hA w [0, 1, 2, 3, 4, 5, 6, 7] [] [0, 1, 2, 3, 4, 5, 6, 7] rfl rfl (by decide) (fun _ => rfl) (fun _ H locs w => ?_)
              refine lv_if_eq (tgt := 74) hx hb dX8_readDrift_67 (by decide) (fun c67 => ?_) (fun c67 => ?_)
              · have hf := pf_t c67 hf
                refine lv_iconst (v := 0) hx hb dX8_readDrift_74 (by decide) ?_
                refine lv_istore_n (lv' := [(1, .int 0), (2, .int r78), (0, .ref h0)]) hx hb dX8_readDrift_75 rfl hl (by decide) rfl (fun ls hl => ?_)
                refine lv_goto (tgt := 43) hx hb dX8_readDrift_76 (by decide) ?_
                exact ih43 _ _ _ _ _ _ _ _ _ _ _ _ _ _ _ _ hf w (lv_sub hl [2, 0] rfl)
              · have hf := pf_e c67 hf
                refine lv_iconst (v := 1) hx hb dX8_readDrift_70 (by decide) ?_
                refine lv_goto (tgt := 75) hx hb dX8_readDrift_71 (by decide) ?_
                refine lv_istore_n (lv' := [(1, .int 1), (2, .int r78), (0, .ref h0)]) hx hb dX8_readDrift_75 rfl hl (by decide) rfl (fun ls hl => ?_)
                refine lv_goto (tgt := 43) hx hb dX8_readDrift_76 (by decide) ?_
                exact ih43 _ _ _ _ _ _ _ _ _ _ _ _ _ _ _ _ hf w (lv_sub hl [2, 0] rfl)
          · have hf := pf_t c54 hf
            refine lv_iconst (v := 0) hx hb dX8_readDrift_57 (by decide) ?_
            exact hQ _ _ _ _ _ (x79, x80, x81, f82, x83, x84, f85, f86, f74, f87, f88, x89) (fun _ => 0) hf rfl w dX8_readDrift_58
    exact klp_X8_readDrift_43 FU _ _ _ _ _ _ _ _ _ _ _ _ _ _ _ _ hf w (lv_sub hl [1, 0] rfl)
set_option maxHeartbeats 8000000 in
set_option maxRecDepth 100000 in
theorem ct_X8_drift (l : Launch) (E : hm_E) (sz : Nat) (h0 : Nat) (r_t : Nat → Nat) (t_base t_taped t_at t_faultPlace t_number t_newBits t_newTold t_newDoings t_newThings t_opened t_sum t_heldAll t_onPaper t_turned t_wasConverted t_lastBits t_lastSum t_lastHeld t_lastLeft t_lastCode t_writtenLong t_codeMany t_acts t_done0 t_stoppedAt : Int32) (t_all : Nat → Int32) (t_newDoing : Nat → Int32) (t_open : Nat → Int32) (t_productSign : Nat → Int32) (t_sign : Nat → Int32) (t_stage : Nat → Int32) (t_sumSign : Nat → Int32) (t_tape : Nat → Int32) (R : Int32 × (Nat → Int32) × Int32 × Int32 × Int32 × Int32 × (Nat → Int32) × Int32 × Int32 × (Nat → Int32) × (Nat → Int32) × (Nat → Int32) × (Nat → Int32) × (Nat → Int32) × Int32) (hf : pf_X8_drift t_all t_base t_tape t_taped t_number t_newDoing t_open t_stage t_sign t_sumSign t_productSign = some R) : hm_Mi l E yX8_drift cX8_drift 3 .int [] (hm_rr 5 108 0 0) [.ref h0] sz [oc8 h0 r_t t_base t_taped t_at t_faultPlace t_number t_newBits t_newTold t_newDoings t_newThings t_opened t_sum t_heldAll t_onPaper t_turned t_wasConverted t_lastBits t_lastSum t_lastHeld t_lastLeft t_lastCode t_writtenLong t_codeMany t_acts t_done0 t_stoppedAt, ic E (r_t 0) 800 t_all, ic E (r_t 14) 84 t_newDoing, ic E (r_t 17) 10 t_open, ic E (r_t 21) 10 t_productSign, ic E (r_t 19) 10 t_sign, ic E (r_t 18) 10 t_stage, ic E (r_t 20) 10 t_sumSign, bc E (r_t 2) 400 t_tape] R.1 (fun _ => [oc8 h0 r_t t_base (R.2.2.1) (R.2.2.2.1) (R.2.2.2.2.1) (R.2.2.2.2.2.1) t_newBits t_newTold (R.2.2.2.2.2.2.2.1) (R.2.2.2.2.2.2.2.2.1) (R.2.2.2.2.2.2.2.2.2.2.2.2.2.2) t_sum t_heldAll t_onPaper t_turned t_wasConverted t_lastBits t_lastSum t_lastHeld t_lastLeft t_lastCode t_writtenLong t_codeMany t_acts t_done0 t_stoppedAt, ic E (r_t 0) 800 (R.2.1), ic E (r_t 14) 84 (R.2.2.2.2.2.2.1), ic E (r_t 17) 10 (R.2.2.2.2.2.2.2.2.2.1), ic E (r_t 21) 10 (R.2.2.2.2.2.2.2.2.2.2.2.2.2.1), ic E (r_t 19) 10 (R.2.2.2.2.2.2.2.2.2.2.2.1), ic E (r_t 18) 10 (R.2.2.2.2.2.2.2.2.2.2.1), ic E (r_t 20) 10 (R.2.2.2.2.2.2.2.2.2.2.2.2.1), bc E (r_t 2) 400 t_tape]) := by
  refine hm_ct_i R (fun u _ => [oc8 h0 r_t t_base (u.2.1) (u.2.2.1) (u.2.2.2.1) (u.2.2.2.2.1) t_newBits t_newTold (u.2.2.2.2.2.2.1) (u.2.2.2.2.2.2.2.1) (u.2.2.2.2.2.2.2.2.2.2.2.2.2) t_sum t_heldAll t_onPaper t_turned t_wasConverted t_lastBits t_lastSum t_lastHeld t_lastLeft t_lastCode t_writtenLong t_codeMany t_acts t_done0 t_stoppedAt, ic E (r_t 0) 800 (u.1), ic E (r_t 14) 84 (u.2.2.2.2.2.1), ic E (r_t 17) 10 (u.2.2.2.2.2.2.2.2.1), ic E (r_t 21) 10 (u.2.2.2.2.2.2.2.2.2.2.2.2.1), ic E (r_t 19) 10 (u.2.2.2.2.2.2.2.2.2.2.1), ic E (r_t 18) 10 (u.2.2.2.2.2.2.2.2.2.1), ic E (r_t 20) 10 (u.2.2.2.2.2.2.2.2.2.2.2.1), bc E (r_t 2) 400 t_tape]) (by decide) (Nat.le_of_ble_eq_true rfl) (Or.inl rfl) ?_
  intro p e s m args below meth c A Q ls H locs hx hb hml hown X hA Y hex w hl hQ
  have hl : lv_has ls 3 [(0, .ref h0)] := hl
  unfold pf_X8_drift at hf
  refine lv_aload_n hx hb dX8_drift_0 rfl (lv_at hl 0 rfl) ?_
  obtain ⟨r1, x2, x3, x4, f5, x6, x7, f8, f9, f10, f11, f12, x13, hc1, hf⟩ := pf_bi_12 hf
  refine hm_aft_i (ws' := fun _ => [oc8 h0 r_t t_base t_taped x2 x3 x4 t_newBits t_newTold x6 x7 x13 t_sum t_heldAll t_onPaper t_turned t_wasConverted t_lastBits t_lastSum t_lastHeld t_lastLeft t_lastCode t_writtenLong t_codeMany t_acts t_done0 t_stoppedAt, ic E (r_t 0) 800 t_all, ic E (r_t 14) 84 f5, ic E (r_t 17) 10 f8, ic E (r_t 21) 10 f12, ic E (r_t 19) 10 f10, ic E (r_t 18) 10 f9, ic E (r_t 20) 10 f11, bc E (r_t 2) 400 t_tape]) (hm_runV (rest := []) hx hb hml hown X hA Y w 0 (ci := 7) (T := TX8) (N := 55) rfl rfl mw_X8_readDrift ml_X8_218 dX8_drift_1 hm_ac0 [] rfl [0, 2, 3, 4, 5, 6, 7, 8] rfl rfl (ct_X8_readDrift l E H.size h0 r_t t_base t_taped t_at t_faultPlace t_number t_newBits t_newTold t_newDoings t_newThings t_opened t_sum t_heldAll t_onPaper t_turned t_wasConverted t_lastBits t_lastSum t_lastHeld t_lastLeft t_lastCode t_writtenLong t_codeMany t_acts t_done0 t_stoppedAt t_newDoing t_open t_productSign t_sign t_stage t_sumSign t_tape (r1, x2, x3, x4, f5, x6, x7, f8, f9, f10, f11, f12, x13) hc1) rfl hl.1 ⟨⟨rfl, rfl⟩, ⟨Nat.le_of_ble_eq_true rfl, Nat.le_of_ble_eq_true rfl⟩, ⟨Nat.le_of_ble_eq_true rfl, Nat.le_of_ble_eq_true rfl⟩, Nat.le_of_ble_eq_true rfl⟩) hA w [0, 2, 3, 4, 5, 6, 7, 8] [1] [1, 0, 2, 3, 4, 5, 6, 7, 8] rfl rfl (by decide) (fun _ => rfl) (fun _ H locs w => ?_)
  refine lv_istore_n (lv' := [(1, .int r1), (0, .ref h0)]) hx hb dX8_drift_4 rfl hl (by decide) rfl (fun ls hl => ?_)
  refine lv_aload_n hx hb dX8_drift_5 rfl (lv_at hl 1 rfl) ?_
  refine lv_iconst (v := 0) hx hb dX8_drift_6 (by decide) ?_
  refine hm_put (ws' := [oc8 h0 r_t t_base 0 x2 x3 x4 t_newBits t_newTold x6 x7 x13 t_sum t_heldAll t_onPaper t_turned t_wasConverted t_lastBits t_lastSum t_lastHeld t_lastLeft t_lastCode t_writtenLong t_codeMany t_acts t_done0 t_stoppedAt, ic E (r_t 0) 800 t_all, ic E (r_t 14) 84 f5, ic E (r_t 17) 10 f8, ic E (r_t 21) 10 f12, ic E (r_t 19) 10 f10, ic E (r_t 18) 10 f9, ic E (r_t 20) 10 f11, bc E (r_t 2) 400 t_tape]) cb_X8 hx hb hown X w 0 3 fl_X8_122 dX8_drift_7 rfl (by decide) (Nat.le_of_ble_eq_true rfl) rfl rfl rfl rfl (fun H locs w => ?_)
  refine lv_iload_n hx hb dX8_drift_10 rfl (lv_at hl 0 rfl) ?_
  refine lv_if_ne (tgt := 16) hx hb dX8_drift_11 (by decide) (fun c11 => ?_) (fun c11 => ?_)
  · have hf := pf_e c11 hf
    refine lv_aload_n hx hb dX8_drift_16 rfl (lv_at hl 1 rfl) ?_
    refine lv_bipush (v := 74) hx hb dX8_drift_17 (by decide) ?_
    refine lv_aload_n hx hb dX8_drift_19 rfl (lv_at hl 1 rfl) ?_
    refine hm_get cb_X8 hx hb hown X w 0 16 fl_X8_194 dX8_drift_20 rfl (by decide) rfl ?_
    obtain ⟨f14, hc23, hf⟩ := pf_bv_1 hf
    refine hm_aft_v (ws' := fun _ => [oc8 h0 r_t t_base 0 x2 x3 x4 t_newBits t_newTold x6 x7 x13 t_sum t_heldAll t_onPaper t_turned t_wasConverted t_lastBits t_lastSum t_lastHeld t_lastLeft t_lastCode t_writtenLong t_codeMany t_acts t_done0 t_stoppedAt, ic E (r_t 0) 800 f14, ic E (r_t 14) 84 f5, ic E (r_t 17) 10 f8, ic E (r_t 21) 10 f12, ic E (r_t 19) 10 f10, ic E (r_t 18) 10 f9, ic E (r_t 20) 10 f11, bc E (r_t 2) 400 t_tape]) (hm_runV (rest := []) hx hb hml hown X hA Y w 0 (ci := 7) (T := TX8) (N := 55) rfl rfl mw_X8_put ml_X8_119 dX8_drift_23 hm_ac0 [.int 74, .int x7] rfl [0, 1] rfl rfl (ct_X8_put l E H.size h0 r_t t_base 0 x2 x3 x4 t_newBits t_newTold x6 x7 x13 t_sum t_heldAll t_onPaper t_turned t_wasConverted t_lastBits t_lastSum t_lastHeld t_lastLeft t_lastCode t_writtenLong t_codeMany t_acts t_done0 t_stoppedAt t_all 74 x7 f14 hc23) rfl hl.1 ⟨⟨rfl, rfl⟩, ⟨Nat.le_of_ble_eq_true rfl, Nat.le_of_ble_eq_true rfl⟩, ⟨Nat.le_of_ble_eq_true rfl, Nat.le_of_ble_eq_true rfl⟩, Nat.le_of_ble_eq_true rfl⟩) hA w [0, 1] [2, 3, 4, 5, 6, 7, 8] [7, 8, 0, 1, 2, 3, 4, 5, 6] rfl rfl (by decide) (fun _ => rfl) (fun _ H locs w => ?_)
    refine lv_aload_n hx hb dX8_drift_26 rfl (lv_at hl 1 rfl) ?_
    refine lv_bipush (v := 75) hx hb dX8_drift_27 (by decide) ?_
    refine lv_aload_n hx hb dX8_drift_29 rfl (lv_at hl 1 rfl) ?_
    refine hm_get cb_X8 hx hb hown X w 0 15 fl_X8_185 dX8_drift_30 rfl (by decide) rfl ?_
    obtain ⟨f15, hc33, hf⟩ := pf_bv_1 hf
    refine hm_aft_v (ws' := fun _ => [oc8 h0 r_t t_base 0 x2 x3 x4 t_newBits t_newTold x6 x7 x13 t_sum t_heldAll t_onPaper t_turned t_wasConverted t_lastBits t_lastSum t_lastHeld t_lastLeft t_lastCode t_writtenLong t_codeMany t_acts t_done0 t_stoppedAt, ic E (r_t 0) 800 f15, ic E (r_t 14) 84 f5, ic E (r_t 17) 10 f8, ic E (r_t 21) 10 f12, ic E (r_t 19) 10 f10, ic E (r_t 18) 10 f9, ic E (r_t 20) 10 f11, bc E (r_t 2) 400 t_tape]) (hm_runV (rest := []) hx hb hml hown X hA Y w 0 (ci := 7) (T := TX8) (N := 55) rfl rfl mw_X8_put ml_X8_119 dX8_drift_33 hm_ac0 [.int 75, .int x6] rfl [0, 1] rfl rfl (ct_X8_put l E H.size h0 r_t t_base 0 x2 x3 x4 t_newBits t_newTold x6 x7 x13 t_sum t_heldAll t_onPaper t_turned t_wasConverted t_lastBits t_lastSum t_lastHeld t_lastLeft t_lastCode t_writtenLong t_codeMany t_acts t_done0 t_stoppedAt f14 75 x6 f15 hc33) rfl hl.1 ⟨⟨rfl, rfl⟩, ⟨Nat.le_of_ble_eq_true rfl, Nat.le_of_ble_eq_true rfl⟩, ⟨Nat.le_of_ble_eq_true rfl, Nat.le_of_ble_eq_true rfl⟩, Nat.le_of_ble_eq_true rfl⟩) hA w [0, 1] [2, 3, 4, 5, 6, 7, 8] [7, 8, 0, 1, 2, 3, 4, 5, 6] rfl rfl (by decide) (fun _ => rfl) (fun _ H locs w => ?_)
    refine lv_iconst (v := 0) hx hb dX8_drift_36 (by decide) ?_
    refine lv_istore_n (lv' := [(2, .int 0), (1, .int r1), (0, .ref h0)]) hx hb dX8_drift_37 rfl hl (by decide) rfl (fun ls hl => ?_)
    have klp_X8_drift_38 : ∀ (n : Nat) (x16 : Int32) (f17 : Nat → Int32) (H : Heap) (locs : List Loc) (ls : Array Slot), lp_X8_drift_38 t_base x2 x3 x4 f5 x6 x7 f8 f9 f10 f11 f12 x13 n x16 f17 = some R → hm_W E A s.heap [oc8 h0 r_t t_base 0 x2 x3 x4 t_newBits t_newTold x6 x7 x13 t_sum t_heldAll t_onPaper t_turned t_wasConverted t_lastBits t_lastSum t_lastHeld t_lastLeft t_lastCode t_writtenLong t_codeMany t_acts t_done0 t_stoppedAt, ic E (r_t 0) 800 f17, ic E (r_t 14) 84 f5, ic E (r_t 17) 10 f8, ic E (r_t 21) 10 f12, ic E (r_t 19) 10 f10, ic E (r_t 18) 10 f9, ic E (r_t 20) 10 f11, bc E (r_t 2) 400 t_tape] H locs → lv_has ls 3 [(0, .ref h0), (2, .int x16)] → W p l e (hm_rr 5 108 0 0) s m args below meth c H locs 0 0 Q (F0 m 38 ls []) := by
      intro n
      induction n with
      | zero =>
        intro x16 f17 H locs ls hf w hl
        exact pf_no hf
      | succ n ih38 =>
        intro x16 f17 H locs ls hf w hl
        rw [lp_X8_drift_38] at hf
        refine lv_iload_n hx hb dX8_drift_38 rfl (lv_at hl 1 rfl) ?_
        refine lv_aload_n hx hb dX8_drift_39 rfl (lv_at hl 0 rfl) ?_
        refine hm_get cb_X8 hx hb hown X w 0 15 fl_X8_185 dX8_drift_40 rfl (by decide) rfl ?_
        refine lv_icmp_ge (tgt := 66) hx hb dX8_drift_43 (by decide) (fun c43 => ?_) (fun c43 => ?_)
        · have hf := pf_t c43 hf
          refine lv_aload_n hx hb dX8_drift_66 rfl (lv_at hl 0 rfl) ?_
          refine hm_get cb_X8 hx hb hown X w 0 16 fl_X8_194 dX8_drift_67 rfl (by decide) rfl ?_
          exact hQ _ _ _ _ _ (f17, 0, x2, x3, x4, f5, x6, x7, f8, f9, f10, f11, f12, x13) (fun _ => 0) hf rfl w dX8_drift_70
        · have hf := pf_e c43 hf
          refine lv_aload_n hx hb dX8_drift_46 rfl (lv_at hl 0 rfl) ?_
          refine lv_bipush (v := 76) hx hb dX8_drift_47 (by decide) ?_
          refine lv_iload_n hx hb dX8_drift_49 rfl (lv_at hl 1 rfl) ?_
          refine lv_iadd hx hb dX8_drift_50 ?_
          refine lv_aload_n hx hb dX8_drift_51 rfl (lv_at hl 0 rfl) ?_
          refine hm_get cb_X8 hx hb hown X w 0 14 fl_X8_43 dX8_drift_52 rfl (by decide) rfl ?_
          refine lv_iload_n hx hb dX8_drift_55 rfl (lv_at hl 1 rfl) ?_
          obtain ⟨g56, hf⟩ := pf_ckI hf
          refine hm_iald hx hb X w 2 dX8_drift_56 rfl g56 ?_
          obtain ⟨f18, hc57, hf⟩ := pf_bv_1 hf
          refine hm_aft_v (ws' := fun _ => [oc8 h0 r_t t_base 0 x2 x3 x4 t_newBits t_newTold x6 x7 x13 t_sum t_heldAll t_onPaper t_turned t_wasConverted t_lastBits t_lastSum t_lastHeld t_lastLeft t_lastCode t_writtenLong t_codeMany t_acts t_done0 t_stoppedAt, ic E (r_t 0) 800 f18, ic E (r_t 14) 84 f5, ic E (r_t 17) 10 f8, ic E (r_t 21) 10 f12, ic E (r_t 19) 10 f10, ic E (r_t 18) 10 f9, ic E (r_t 20) 10 f11, bc E (r_t 2) 400 t_tape]) (hm_runV (rest := []) hx hb hml hown X hA Y w 0 (ci := 7) (T := TX8) (N := 55) rfl rfl mw_X8_put ml_X8_119 dX8_drift_57 hm_ac0 [.int (76 + x16), .int (f5 x16.toNatClampNeg)] rfl [0, 1] rfl rfl (ct_X8_put l E H.size h0 r_t t_base 0 x2 x3 x4 t_newBits t_newTold x6 x7 x13 t_sum t_heldAll t_onPaper t_turned t_wasConverted t_lastBits t_lastSum t_lastHeld t_lastLeft t_lastCode t_writtenLong t_codeMany t_acts t_done0 t_stoppedAt f17 (76 + x16) (f5 x16.toNatClampNeg) f18 hc57) rfl hl.1 ⟨⟨rfl, rfl⟩, ⟨Nat.le_of_ble_eq_true rfl, Nat.le_of_ble_eq_true rfl⟩, ⟨Nat.le_of_ble_eq_true rfl, Nat.le_of_ble_eq_true rfl⟩, Nat.le_of_ble_eq_true rfl⟩) hA w [0, 1] [2, 3, 4, 5, 6, 7, 8] [7, 8, 0, 1, 2, 3, 4, 5, 6] rfl rfl (by decide) (fun _ => rfl) (fun _ H locs w => ?_)
          obtain ⟨x19, ex19⟩ : ∃ y : Int32, y = (x16 + 1) := ⟨_, rfl⟩
          have hf := pf_nm ex19 hf
          refine lv_iinc (v := x19) (lv' := [(2, .int x19), (0, .ref h0)]) hx hb dX8_drift_60 hl (k := 1) rfl (by rw [ex19]; rfl) (by decide) rfl (fun ls hl => ?_)
          refine lv_goto (tgt := 38) hx hb dX8_drift_63 (by decide) ?_
          exact ih38 _ _ _ _ _ hf w (lv_sub hl [1, 0] rfl)
    exact klp_X8_drift_38 FU _ _ _ _ _ hf w (lv_sub hl [2, 0] rfl)
  · have hf := pf_t c11 hf
    refine lv_iconst (v := (-1)) hx hb dX8_drift_14 (by decide) ?_
    exact hQ _ _ _ _ _ (t_all, 0, x2, x3, x4, f5, x6, x7, f8, f9, f10, f11, f12, x13) (fun _ => 0) hf rfl w dX8_drift_15
set_option maxHeartbeats 8000000 in
set_option maxRecDepth 100000 in
theorem ct_X8_weight (l : Launch) (E : hm_E) (sz : Nat) (h0 : Nat) (r_t : Nat → Nat) (t_base t_taped t_at t_faultPlace t_number t_newBits t_newTold t_newDoings t_newThings t_opened t_sum t_heldAll t_onPaper t_turned t_wasConverted t_lastBits t_lastSum t_lastHeld t_lastLeft t_lastCode t_writtenLong t_codeMany t_acts t_done0 t_stoppedAt : Int32) (t_all : Nat → Int32) (a1 : Int32) (R : Int32 × Unit) (hf : pf_X8_weight a1 t_all t_base = some R) : hm_Mi l E yX8_weight cX8_weight 2 .int [] (hm_rr 1 21 0 0) [.ref h0, .int a1] sz [oc8 h0 r_t t_base t_taped t_at t_faultPlace t_number t_newBits t_newTold t_newDoings t_newThings t_opened t_sum t_heldAll t_onPaper t_turned t_wasConverted t_lastBits t_lastSum t_lastHeld t_lastLeft t_lastCode t_writtenLong t_codeMany t_acts t_done0 t_stoppedAt, ic E (r_t 0) 800 t_all] R.1 (fun _ => [oc8 h0 r_t t_base t_taped t_at t_faultPlace t_number t_newBits t_newTold t_newDoings t_newThings t_opened t_sum t_heldAll t_onPaper t_turned t_wasConverted t_lastBits t_lastSum t_lastHeld t_lastLeft t_lastCode t_writtenLong t_codeMany t_acts t_done0 t_stoppedAt, ic E (r_t 0) 800 t_all]) := by
  refine hm_ct_i R (fun u _ => [oc8 h0 r_t t_base t_taped t_at t_faultPlace t_number t_newBits t_newTold t_newDoings t_newThings t_opened t_sum t_heldAll t_onPaper t_turned t_wasConverted t_lastBits t_lastSum t_lastHeld t_lastLeft t_lastCode t_writtenLong t_codeMany t_acts t_done0 t_stoppedAt, ic E (r_t 0) 800 t_all]) (by decide) (Nat.le_of_ble_eq_true rfl) (Or.inl rfl) ?_
  intro p e s m args below meth c A Q ls H locs hx hb hml hown X hA Y hex w hl hQ
  have hl : lv_has ls 2 [(0, .ref h0), (1, .int a1)] := hl
  unfold pf_X8_weight at hf
  refine lv_aload_n hx hb dX8_weight_0 rfl (lv_at hl 0 rfl) ?_
  refine lv_bipush (v := 9) hx hb dX8_weight_1 (by decide) ?_
  refine lv_iload_n hx hb dX8_weight_3 rfl (lv_at hl 1 rfl) ?_
  refine lv_iadd hx hb dX8_weight_4 ?_
  obtain ⟨r1, hc5, hf⟩ := pf_bi_0 hf
  refine hm_aft_i (ws' := fun _ => [oc8 h0 r_t t_base t_taped t_at t_faultPlace t_number t_newBits t_newTold t_newDoings t_newThings t_opened t_sum t_heldAll t_onPaper t_turned t_wasConverted t_lastBits t_lastSum t_lastHeld t_lastLeft t_lastCode t_writtenLong t_codeMany t_acts t_done0 t_stoppedAt, ic E (r_t 0) 800 t_all]) (hm_runV (rest := []) hx hb hml hown X hA Y w 0 (ci := 7) (T := TX8) (N := 55) rfl rfl mw_X8_get ml_X8_221 dX8_weight_5 hm_ac0 [.int (9 + a1)] rfl [0, 1] rfl rfl (ct_X8_get l E H.size h0 r_t t_base t_taped t_at t_faultPlace t_number t_newBits t_newTold t_newDoings t_newThings t_opened t_sum t_heldAll t_onPaper t_turned t_wasConverted t_lastBits t_lastSum t_lastHeld t_lastLeft t_lastCode t_writtenLong t_codeMany t_acts t_done0 t_stoppedAt t_all (9 + a1) (r1, ()) hc5) rfl hl.1 ⟨⟨rfl, rfl⟩, ⟨Nat.le_of_ble_eq_true rfl, Nat.le_of_ble_eq_true rfl⟩, ⟨Nat.le_of_ble_eq_true rfl, Nat.le_of_ble_eq_true rfl⟩, Nat.le_of_ble_eq_true rfl⟩) hA w [0, 1] [] [0, 1] rfl rfl (by decide) (fun _ => rfl) (fun _ H locs w => ?_)
  refine lv_aload_n hx hb dX8_weight_8 rfl (lv_at hl 0 rfl) ?_
  refine lv_bipush (v := 21) hx hb dX8_weight_9 (by decide) ?_
  refine lv_iload_n hx hb dX8_weight_11 rfl (lv_at hl 1 rfl) ?_
  refine lv_iadd hx hb dX8_weight_12 ?_
  obtain ⟨r2, hc13, hf⟩ := pf_bi_0 hf
  refine hm_aft_i (ws' := fun _ => [oc8 h0 r_t t_base t_taped t_at t_faultPlace t_number t_newBits t_newTold t_newDoings t_newThings t_opened t_sum t_heldAll t_onPaper t_turned t_wasConverted t_lastBits t_lastSum t_lastHeld t_lastLeft t_lastCode t_writtenLong t_codeMany t_acts t_done0 t_stoppedAt, ic E (r_t 0) 800 t_all]) (hm_runV (rest := [.int r1]) hx hb hml hown X hA Y w 0 (ci := 7) (T := TX8) (N := 55) rfl rfl mw_X8_get ml_X8_221 dX8_weight_13 hm_ac0 [.int (21 + a1)] rfl [0, 1] rfl rfl (ct_X8_get l E H.size h0 r_t t_base t_taped t_at t_faultPlace t_number t_newBits t_newTold t_newDoings t_newThings t_opened t_sum t_heldAll t_onPaper t_turned t_wasConverted t_lastBits t_lastSum t_lastHeld t_lastLeft t_lastCode t_writtenLong t_codeMany t_acts t_done0 t_stoppedAt t_all (21 + a1) (r2, ()) hc13) rfl hl.1 ⟨⟨rfl, rfl⟩, ⟨Nat.le_of_ble_eq_true rfl, Nat.le_of_ble_eq_true rfl⟩, ⟨Nat.le_of_ble_eq_true rfl, Nat.le_of_ble_eq_true rfl⟩, Nat.le_of_ble_eq_true rfl⟩) hA w [0, 1] [] [0, 1] rfl rfl (by decide) (fun _ => rfl) (fun _ H locs w => ?_)
  refine lv_iadd hx hb dX8_weight_16 ?_
  exact hQ _ _ _ _ _ () (fun _ => 0) hf rfl w dX8_weight_17
set_option maxHeartbeats 8000000 in
set_option maxRecDepth 100000 in
theorem ct_X8_asked (l : Launch) (E : hm_E) (sz : Nat) (h0 : Nat) (r_t : Nat → Nat) (t_base t_taped t_at t_faultPlace t_number t_newBits t_newTold t_newDoings t_newThings t_opened t_sum t_heldAll t_onPaper t_turned t_wasConverted t_lastBits t_lastSum t_lastHeld t_lastLeft t_lastCode t_writtenLong t_codeMany t_acts t_done0 t_stoppedAt : Int32) (t_all : Nat → Int32) (a1 : Int32) (a2 : Int32) (R : Int32 × Unit) (hf : pf_X8_asked a1 a2 t_all t_base = some R) : hm_Mi l E yX8_asked cX8_asked 3 .int [] (hm_rr 2 42 0 0) [.ref h0, .int a1, .int a2] sz [oc8 h0 r_t t_base t_taped t_at t_faultPlace t_number t_newBits t_newTold t_newDoings t_newThings t_opened t_sum t_heldAll t_onPaper t_turned t_wasConverted t_lastBits t_lastSum t_lastHeld t_lastLeft t_lastCode t_writtenLong t_codeMany t_acts t_done0 t_stoppedAt, ic E (r_t 0) 800 t_all] R.1 (fun _ => [oc8 h0 r_t t_base t_taped t_at t_faultPlace t_number t_newBits t_newTold t_newDoings t_newThings t_opened t_sum t_heldAll t_onPaper t_turned t_wasConverted t_lastBits t_lastSum t_lastHeld t_lastLeft t_lastCode t_writtenLong t_codeMany t_acts t_done0 t_stoppedAt, ic E (r_t 0) 800 t_all]) := by
  refine hm_ct_i R (fun u _ => [oc8 h0 r_t t_base t_taped t_at t_faultPlace t_number t_newBits t_newTold t_newDoings t_newThings t_opened t_sum t_heldAll t_onPaper t_turned t_wasConverted t_lastBits t_lastSum t_lastHeld t_lastLeft t_lastCode t_writtenLong t_codeMany t_acts t_done0 t_stoppedAt, ic E (r_t 0) 800 t_all]) (by decide) (Nat.le_of_ble_eq_true rfl) (Or.inl rfl) ?_
  intro p e s m args below meth c A Q ls H locs hx hb hml hown X hA Y hex w hl hQ
  have hl : lv_has ls 3 [(0, .ref h0), (1, .int a1), (2, .int a2)] := hl
  unfold pf_X8_asked at hf
  refine lv_iload_n hx hb dX8_asked_0 rfl (lv_at hl 1 rfl) ?_
  by_cases c1_0 : a1 = 0
  · have hf := pf_t c1_0 hf
    refine lv_tableIn (off := 31) (tgt := 32) hx hb dX8_asked_1 (by rw [c1_0]; decide) (by rw [c1_0]; decide) (by rw [c1_0]; rfl) (by decide) ?_
    refine lv_iload_n hx hb dX8_asked_32 rfl (lv_at hl 2 rfl) ?_
    exact hQ _ _ _ _ _ () (fun _ => 0) hf rfl w dX8_asked_33
  · have hf := pf_e c1_0 hf
    by_cases c1_1 : a1 = 1
    · have hf := pf_t c1_1 hf
      refine lv_tableIn (off := 33) (tgt := 34) hx hb dX8_asked_1 (by rw [c1_1]; decide) (by rw [c1_1]; decide) (by rw [c1_1]; rfl) (by decide) ?_
      refine lv_aload_n hx hb dX8_asked_34 rfl (lv_at hl 0 rfl) ?_
      refine lv_bipush (v := 9) hx hb dX8_asked_35 (by decide) ?_
      refine lv_iload_n hx hb dX8_asked_37 rfl (lv_at hl 2 rfl) ?_
      refine lv_iadd hx hb dX8_asked_38 ?_
      obtain ⟨r1, hc39, hf⟩ := pf_bi_0 hf
      refine hm_aft_i (ws' := fun _ => [oc8 h0 r_t t_base t_taped t_at t_faultPlace t_number t_newBits t_newTold t_newDoings t_newThings t_opened t_sum t_heldAll t_onPaper t_turned t_wasConverted t_lastBits t_lastSum t_lastHeld t_lastLeft t_lastCode t_writtenLong t_codeMany t_acts t_done0 t_stoppedAt, ic E (r_t 0) 800 t_all]) (hm_runV (rest := []) hx hb hml hown X hA Y w 0 (ci := 7) (T := TX8) (N := 55) rfl rfl mw_X8_get ml_X8_221 dX8_asked_39 hm_ac0 [.int (9 + a2)] rfl [0, 1] rfl rfl (ct_X8_get l E H.size h0 r_t t_base t_taped t_at t_faultPlace t_number t_newBits t_newTold t_newDoings t_newThings t_opened t_sum t_heldAll t_onPaper t_turned t_wasConverted t_lastBits t_lastSum t_lastHeld t_lastLeft t_lastCode t_writtenLong t_codeMany t_acts t_done0 t_stoppedAt t_all (9 + a2) (r1, ()) hc39) rfl hl.1 ⟨⟨rfl, rfl⟩, ⟨Nat.le_of_ble_eq_true rfl, Nat.le_of_ble_eq_true rfl⟩, ⟨Nat.le_of_ble_eq_true rfl, Nat.le_of_ble_eq_true rfl⟩, Nat.le_of_ble_eq_true rfl⟩) hA w [0, 1] [] [0, 1] rfl rfl (by decide) (fun _ => rfl) (fun _ H locs w => ?_)
      exact hQ _ _ _ _ _ () (fun _ => 0) hf rfl w dX8_asked_42
    · have hf := pf_e c1_1 hf
      by_cases c1_2 : a1 = 2
      · have hf := pf_t c1_2 hf
        refine lv_tableIn (off := 42) (tgt := 43) hx hb dX8_asked_1 (by rw [c1_2]; decide) (by rw [c1_2]; decide) (by rw [c1_2]; rfl) (by decide) ?_
        refine lv_aload_n hx hb dX8_asked_43 rfl (lv_at hl 0 rfl) ?_
        refine lv_iload_n hx hb dX8_asked_44 rfl (lv_at hl 2 rfl) ?_
        obtain ⟨r2, hc45, hf⟩ := pf_bi_0 hf
        refine hm_aft_i (ws' := fun _ => [oc8 h0 r_t t_base t_taped t_at t_faultPlace t_number t_newBits t_newTold t_newDoings t_newThings t_opened t_sum t_heldAll t_onPaper t_turned t_wasConverted t_lastBits t_lastSum t_lastHeld t_lastLeft t_lastCode t_writtenLong t_codeMany t_acts t_done0 t_stoppedAt, ic E (r_t 0) 800 t_all]) (hm_runV (rest := []) hx hb hml hown X hA Y w 0 (ci := 7) (T := TX8) (N := 55) rfl rfl mw_X8_weight ml_X8_224 dX8_asked_45 hm_ac0 [.int a2] rfl [0, 1] rfl rfl (ct_X8_weight l E H.size h0 r_t t_base t_taped t_at t_faultPlace t_number t_newBits t_newTold t_newDoings t_newThings t_opened t_sum t_heldAll t_onPaper t_turned t_wasConverted t_lastBits t_lastSum t_lastHeld t_lastLeft t_lastCode t_writtenLong t_codeMany t_acts t_done0 t_stoppedAt t_all a2 (r2, ()) hc45) rfl hl.1 ⟨⟨rfl, rfl⟩, ⟨Nat.le_of_ble_eq_true rfl, Nat.le_of_ble_eq_true rfl⟩, ⟨Nat.le_of_ble_eq_true rfl, Nat.le_of_ble_eq_true rfl⟩, Nat.le_of_ble_eq_true rfl⟩) hA w [0, 1] [] [0, 1] rfl rfl (by decide) (fun _ => rfl) (fun _ H locs w => ?_)
        exact hQ _ _ _ _ _ () (fun _ => 0) hf rfl w dX8_asked_48
      · have hf := pf_e c1_2 hf
        by_cases c1_3 : a1 = 3
        · have hf := pf_t c1_3 hf
          refine lv_tableIn (off := 48) (tgt := 49) hx hb dX8_asked_1 (by rw [c1_3]; decide) (by rw [c1_3]; decide) (by rw [c1_3]; rfl) (by decide) ?_
          refine lv_aload_n hx hb dX8_asked_49 rfl (lv_at hl 0 rfl) ?_
          refine lv_bipush (v := 7) hx hb dX8_asked_50 (by decide) ?_
          obtain ⟨r3, hc52, hf⟩ := pf_bi_0 hf
          refine hm_aft_i (ws' := fun _ => [oc8 h0 r_t t_base t_taped t_at t_faultPlace t_number t_newBits t_newTold t_newDoings t_newThings t_opened t_sum t_heldAll t_onPaper t_turned t_wasConverted t_lastBits t_lastSum t_lastHeld t_lastLeft t_lastCode t_writtenLong t_codeMany t_acts t_done0 t_stoppedAt, ic E (r_t 0) 800 t_all]) (hm_runV (rest := []) hx hb hml hown X hA Y w 0 (ci := 7) (T := TX8) (N := 55) rfl rfl mw_X8_get ml_X8_221 dX8_asked_52 hm_ac0 [.int 7] rfl [0, 1] rfl rfl (ct_X8_get l E H.size h0 r_t t_base t_taped t_at t_faultPlace t_number t_newBits t_newTold t_newDoings t_newThings t_opened t_sum t_heldAll t_onPaper t_turned t_wasConverted t_lastBits t_lastSum t_lastHeld t_lastLeft t_lastCode t_writtenLong t_codeMany t_acts t_done0 t_stoppedAt t_all 7 (r3, ()) hc52) rfl hl.1 ⟨⟨rfl, rfl⟩, ⟨Nat.le_of_ble_eq_true rfl, Nat.le_of_ble_eq_true rfl⟩, ⟨Nat.le_of_ble_eq_true rfl, Nat.le_of_ble_eq_true rfl⟩, Nat.le_of_ble_eq_true rfl⟩) hA w [0, 1] [] [0, 1] rfl rfl (by decide) (fun _ => rfl) (fun _ H locs w => ?_)
          exact hQ _ _ _ _ _ () (fun _ => 0) hf rfl w dX8_asked_55
        · have hf := pf_e c1_3 hf
          refine lv_tableOut (tgt := 56) hx hb dX8_asked_1 (hm_out (fun k h1 h2 => by have u := And.intro h1 h2; have v0 := hm_ti c1_0; rw [show (0 : Int32).toInt = 0 from by decide] at v0; have v1 := hm_ti c1_1; rw [show (1 : Int32).toInt = 1 from by decide] at v1; have v2 := hm_ti c1_2; rw [show (2 : Int32).toInt = 2 from by decide] at v2; have v3 := hm_ti c1_3; rw [show (3 : Int32).toInt = 3 from by decide] at v3; omega)) (by decide) ?_
          refine lv_aload_n hx hb dX8_asked_56 rfl (lv_at hl 0 rfl) ?_
          refine lv_bipush (v := 8) hx hb dX8_asked_57 (by decide) ?_
          obtain ⟨r4, hc59, hf⟩ := pf_bi_0 hf
          refine hm_aft_i (ws' := fun _ => [oc8 h0 r_t t_base t_taped t_at t_faultPlace t_number t_newBits t_newTold t_newDoings t_newThings t_opened t_sum t_heldAll t_onPaper t_turned t_wasConverted t_lastBits t_lastSum t_lastHeld t_lastLeft t_lastCode t_writtenLong t_codeMany t_acts t_done0 t_stoppedAt, ic E (r_t 0) 800 t_all]) (hm_runV (rest := []) hx hb hml hown X hA Y w 0 (ci := 7) (T := TX8) (N := 55) rfl rfl mw_X8_get ml_X8_221 dX8_asked_59 hm_ac0 [.int 8] rfl [0, 1] rfl rfl (ct_X8_get l E H.size h0 r_t t_base t_taped t_at t_faultPlace t_number t_newBits t_newTold t_newDoings t_newThings t_opened t_sum t_heldAll t_onPaper t_turned t_wasConverted t_lastBits t_lastSum t_lastHeld t_lastLeft t_lastCode t_writtenLong t_codeMany t_acts t_done0 t_stoppedAt t_all 8 (r4, ()) hc59) rfl hl.1 ⟨⟨rfl, rfl⟩, ⟨Nat.le_of_ble_eq_true rfl, Nat.le_of_ble_eq_true rfl⟩, ⟨Nat.le_of_ble_eq_true rfl, Nat.le_of_ble_eq_true rfl⟩, Nat.le_of_ble_eq_true rfl⟩) hA w [0, 1] [] [0, 1] rfl rfl (by decide) (fun _ => rfl) (fun _ H locs w => ?_)
          exact hQ _ _ _ _ _ () (fun _ => 0) hf rfl w dX8_asked_62
set_option maxHeartbeats 8000000 in
set_option maxRecDepth 100000 in
theorem ct_X8_joined (l : Launch) (E : hm_E) (sz : Nat) (a0 : Int32) (a1 : Int32) (a2 : Int32) (R : Int32 × Unit) (hf : pf_X8_joined a0 a1 a2 = some R) : hm_Mi l E yX8_joined cX8_joined 3 .int [] (hm_rr 0 0 0 0) [.int a0, .int a1, .int a2] sz [] R.1 (fun _ => []) := by
  refine hm_ct_i R (fun u _ => []) (by decide) (Nat.le_of_ble_eq_true rfl) (Or.inl rfl) ?_
  intro p e s m args below meth c A Q ls H locs hx hb hml hown X hA Y hex w hl hQ
  have hl : lv_has ls 3 [(0, .int a0), (1, .int a1), (2, .int a2)] := hl
  unfold pf_X8_joined at hf
  refine lv_iload_n hx hb dX8_joined_0 rfl (lv_at hl 0 rfl) ?_
  by_cases c1_10010 : a0 = 10010
  · have hf := pf_t c1_10010 hf
    refine lv_tableIn (off := 31) (tgt := 32) hx hb dX8_joined_1 (by rw [c1_10010]; decide) (by rw [c1_10010]; decide) (by rw [c1_10010]; rfl) (by decide) ?_
    refine lv_iload_n hx hb dX8_joined_32 rfl (lv_at hl 1 rfl) ?_
    refine lv_iload_n hx hb dX8_joined_33 rfl (lv_at hl 2 rfl) ?_
    refine lv_iadd hx hb dX8_joined_34 ?_
    exact hQ _ _ _ _ _ () (fun _ => 0) hf rfl w dX8_joined_35
  · have hf := pf_e c1_10010 hf
    by_cases c1_10011 : a0 = 10011
    · have hf := pf_t c1_10011 hf
      refine lv_tableIn (off := 35) (tgt := 36) hx hb dX8_joined_1 (by rw [c1_10011]; decide) (by rw [c1_10011]; decide) (by rw [c1_10011]; rfl) (by decide) ?_
      refine lv_iload_n hx hb dX8_joined_36 rfl (lv_at hl 1 rfl) ?_
      refine lv_iload_n hx hb dX8_joined_37 rfl (lv_at hl 2 rfl) ?_
      refine lv_isub hx hb dX8_joined_38 ?_
      exact hQ _ _ _ _ _ () (fun _ => 0) hf rfl w dX8_joined_39
    · have hf := pf_e c1_10011 hf
      by_cases c1_10012 : a0 = 10012
      · have hf := pf_t c1_10012 hf
        refine lv_tableIn (off := 39) (tgt := 40) hx hb dX8_joined_1 (by rw [c1_10012]; decide) (by rw [c1_10012]; decide) (by rw [c1_10012]; rfl) (by decide) ?_
        refine lv_iload_n hx hb dX8_joined_40 rfl (lv_at hl 1 rfl) ?_
        refine lv_iload_n hx hb dX8_joined_41 rfl (lv_at hl 2 rfl) ?_
        refine lv_imul hx hb dX8_joined_42 ?_
        exact hQ _ _ _ _ _ () (fun _ => 0) hf rfl w dX8_joined_43
      · have hf := pf_e c1_10012 hf
        by_cases c1_10013 : a0 = 10013
        · have hf := pf_t c1_10013 hf
          refine lv_tableIn (off := 43) (tgt := 44) hx hb dX8_joined_1 (by rw [c1_10013]; decide) (by rw [c1_10013]; decide) (by rw [c1_10013]; rfl) (by decide) ?_
          refine lv_iload_n hx hb dX8_joined_44 rfl (lv_at hl 2 rfl) ?_
          refine lv_if_ne (tgt := 52) hx hb dX8_joined_45 (by decide) (fun c45 => ?_) (fun c45 => ?_)
          · have hf := pf_e c45 hf
            refine lv_iload_n hx hb dX8_joined_52 rfl (lv_at hl 1 rfl) ?_
            refine lv_iload_n hx hb dX8_joined_53 rfl (lv_at hl 2 rfl) ?_
            obtain ⟨g54, hf⟩ := pf_ckD hf
            refine lv_idiv hx hb dX8_joined_54 g54 ?_
            exact hQ _ _ _ _ _ () (fun _ => 0) hf rfl w dX8_joined_55
          · have hf := pf_t c45 hf
            refine lv_iconst (v := 0) hx hb dX8_joined_48 (by decide) ?_
            refine lv_goto (tgt := 55) hx hb dX8_joined_49 (by decide) ?_
            exact hQ _ _ _ _ _ () (fun _ => 0) hf rfl w dX8_joined_55
        · have hf := pf_e c1_10013 hf
          refine lv_tableOut (tgt := 56) hx hb dX8_joined_1 (hm_out (fun k h1 h2 => by have u := And.intro h1 h2; have v10010 := hm_ti c1_10010; rw [show (10010 : Int32).toInt = 10010 from by decide] at v10010; have v10011 := hm_ti c1_10011; rw [show (10011 : Int32).toInt = 10011 from by decide] at v10011; have v10012 := hm_ti c1_10012; rw [show (10012 : Int32).toInt = 10012 from by decide] at v10012; have v10013 := hm_ti c1_10013; rw [show (10013 : Int32).toInt = 10013 from by decide] at v10013; omega)) (by decide) ?_
          refine lv_iload_n hx hb dX8_joined_56 rfl (lv_at hl 2 rfl) ?_
          refine lv_if_ne (tgt := 64) hx hb dX8_joined_57 (by decide) (fun c57 => ?_) (fun c57 => ?_)
          · have hf := pf_e c57 hf
            refine lv_iload_n hx hb dX8_joined_64 rfl (lv_at hl 1 rfl) ?_
            refine lv_iload_n hx hb dX8_joined_65 rfl (lv_at hl 2 rfl) ?_
            obtain ⟨g66, hf⟩ := pf_ckD hf
            refine lv_irem hx hb dX8_joined_66 g66 ?_
            exact hQ _ _ _ _ _ () (fun _ => 0) hf rfl w dX8_joined_67
          · have hf := pf_t c57 hf
            refine lv_iconst (v := 0) hx hb dX8_joined_60 (by decide) ?_
            refine lv_goto (tgt := 67) hx hb dX8_joined_61 (by decide) ?_
            exact hQ _ _ _ _ _ () (fun _ => 0) hf rfl w dX8_joined_67
set_option maxHeartbeats 8000000 in
set_option maxRecDepth 100000 in
theorem ct_X8_driftOf (l : Launch) (E : hm_E) (sz : Nat) (h0 : Nat) (r_t : Nat → Nat) (t_base t_taped t_at t_faultPlace t_number t_newBits t_newTold t_newDoings t_newThings t_opened t_sum t_heldAll t_onPaper t_turned t_wasConverted t_lastBits t_lastSum t_lastHeld t_lastLeft t_lastCode t_writtenLong t_codeMany t_acts t_done0 t_stoppedAt : Int32) (t_all : Nat → Int32) (t_pile : Nat → Int32) (a1 : Int32) (R : Int32 × (Nat → Int32)) (hf : pf_X8_driftOf a1 t_all t_base t_pile = some R) : hm_Mi l E yX8_driftOf cX8_driftOf 6 .int [] (hm_rr 3 64 0 0) [.ref h0, .int a1] sz [oc8 h0 r_t t_base t_taped t_at t_faultPlace t_number t_newBits t_newTold t_newDoings t_newThings t_opened t_sum t_heldAll t_onPaper t_turned t_wasConverted t_lastBits t_lastSum t_lastHeld t_lastLeft t_lastCode t_writtenLong t_codeMany t_acts t_done0 t_stoppedAt, ic E (r_t 0) 800 t_all, ic E (r_t 23) 90 t_pile] R.1 (fun _ => [oc8 h0 r_t t_base t_taped t_at t_faultPlace t_number t_newBits t_newTold t_newDoings t_newThings t_opened t_sum t_heldAll t_onPaper t_turned t_wasConverted t_lastBits t_lastSum t_lastHeld t_lastLeft t_lastCode t_writtenLong t_codeMany t_acts t_done0 t_stoppedAt, ic E (r_t 0) 800 t_all, ic E (r_t 23) 90 R.2]) := by
  refine hm_ct_i R (fun u _ => [oc8 h0 r_t t_base t_taped t_at t_faultPlace t_number t_newBits t_newTold t_newDoings t_newThings t_opened t_sum t_heldAll t_onPaper t_turned t_wasConverted t_lastBits t_lastSum t_lastHeld t_lastLeft t_lastCode t_writtenLong t_codeMany t_acts t_done0 t_stoppedAt, ic E (r_t 0) 800 t_all, ic E (r_t 23) 90 u]) (by decide) (Nat.le_of_ble_eq_true rfl) (Or.inl rfl) ?_
  intro p e s m args below meth c A Q ls H locs hx hb hml hown X hA Y hex w hl hQ
  have hl : lv_has ls 6 [(0, .ref h0), (1, .int a1)] := hl
  unfold pf_X8_driftOf at hf
  refine lv_iconst (v := 0) hx hb dX8_driftOf_0 (by decide) ?_
  refine lv_istore_n (lv' := [(2, .int 0), (0, .ref h0), (1, .int a1)]) hx hb dX8_driftOf_1 rfl hl (by decide) rfl (fun ls hl => ?_)
  refine lv_iconst (v := 0) hx hb dX8_driftOf_2 (by decide) ?_
  refine lv_istore_n (lv' := [(3, .int 0), (2, .int 0), (0, .ref h0), (1, .int a1)]) hx hb dX8_driftOf_3 rfl hl (by decide) rfl (fun ls hl => ?_)
  obtain ⟨J235, hJ235, hf⟩ := pf_jn hf
  have kJ235 : ∀ (x1 : Int32) (f2 : Nat → Int32) (H : Heap) (locs : List Loc) (ls : Array Slot), J235 x1 f2 = some R → hm_W E A s.heap [oc8 h0 r_t t_base t_taped t_at t_faultPlace t_number t_newBits t_newTold t_newDoings t_newThings t_opened t_sum t_heldAll t_onPaper t_turned t_wasConverted t_lastBits t_lastSum t_lastHeld t_lastLeft t_lastCode t_writtenLong t_codeMany t_acts t_done0 t_stoppedAt, ic E (r_t 0) 800 t_all, ic E (r_t 23) 90 f2] H locs → lv_has ls 6 [(0, .ref h0), (2, .int x1)] → W p l e (hm_rr 3 64 0 0) s m args below meth c H locs 0 0 Q (F0 m 235 ls []) := by
    intro x1 f2 H locs ls hf w hl
    have hf := pf_j2 hJ235 hf
    refine lv_iload_n hx hb dX8_driftOf_235 rfl (lv_at hl 1 rfl) ?_
    refine lv_if_ne (tgt := 243) hx hb dX8_driftOf_236 (by decide) (fun c236 => ?_) (fun c236 => ?_)
    · have hf := pf_e c236 hf
      refine lv_aload_n hx hb dX8_driftOf_243 rfl (lv_at hl 0 rfl) ?_
      refine hm_get cb_X8 hx hb hown X w 0 23 fl_X8_61 dX8_driftOf_244 rfl (by decide) rfl ?_
      refine lv_iconst (v := 0) hx hb dX8_driftOf_247 (by decide) ?_
      obtain ⟨g248, hf⟩ := pf_ckI hf
      refine hm_iald hx hb X w 2 dX8_driftOf_248 rfl g248 ?_
      exact hQ _ _ _ _ _ f2 (fun _ => 0) hf rfl w dX8_driftOf_249
    · have hf := pf_t c236 hf
      refine lv_iconst (v := 0) hx hb dX8_driftOf_239 (by decide) ?_
      refine lv_goto (tgt := 249) hx hb dX8_driftOf_240 (by decide) ?_
      exact hQ _ _ _ _ _ f2 (fun _ => 0) hf rfl w dX8_driftOf_249
  have klp_X8_driftOf_4 : ∀ (n : Nat) (x3 : Int32) (x4 : Int32) (f5 : Nat → Int32) (H : Heap) (locs : List Loc) (ls : Array Slot), lp_X8_driftOf_4 a1 t_base t_all J235 n x3 x4 f5 = some R → hm_W E A s.heap [oc8 h0 r_t t_base t_taped t_at t_faultPlace t_number t_newBits t_newTold t_newDoings t_newThings t_opened t_sum t_heldAll t_onPaper t_turned t_wasConverted t_lastBits t_lastSum t_lastHeld t_lastLeft t_lastCode t_writtenLong t_codeMany t_acts t_done0 t_stoppedAt, ic E (r_t 0) 800 t_all, ic E (r_t 23) 90 f5] H locs → lv_has ls 6 [(0, .ref h0), (1, .int a1), (2, .int x3), (3, .int x4)] → W p l e (hm_rr 3 64 0 0) s m args below meth c H locs 0 0 Q (F0 m 4 ls []) := by
    intro n
    induction n with
    | zero =>
      intro x3 x4 f5 H locs ls hf w hl
      exact pf_no hf
    | succ n ih4 =>
      intro x3 x4 f5 H locs ls hf w hl
      rw [lp_X8_driftOf_4] at hf
      refine lv_iload_n hx hb dX8_driftOf_4 rfl (lv_at hl 3 rfl) ?_
      refine lv_aload_n hx hb dX8_driftOf_5 rfl (lv_at hl 0 rfl) ?_
      refine lv_bipush (v := 75) hx hb dX8_driftOf_6 (by decide) ?_
      obtain ⟨r6, hc8, hf⟩ := pf_bi_0 hf
      refine hm_aft_i (ws' := fun _ => [oc8 h0 r_t t_base t_taped t_at t_faultPlace t_number t_newBits t_newTold t_newDoings t_newThings t_opened t_sum t_heldAll t_onPaper t_turned t_wasConverted t_lastBits t_lastSum t_lastHeld t_lastLeft t_lastCode t_writtenLong t_codeMany t_acts t_done0 t_stoppedAt, ic E (r_t 0) 800 t_all, ic E (r_t 23) 90 f5]) (hm_runV (rest := [.int x4]) hx hb hml hown X hA Y w 0 (ci := 7) (T := TX8) (N := 55) rfl rfl mw_X8_get ml_X8_221 dX8_driftOf_8 hm_ac0 [.int 75] rfl [0, 1] rfl rfl (ct_X8_get l E H.size h0 r_t t_base t_taped t_at t_faultPlace t_number t_newBits t_newTold t_newDoings t_newThings t_opened t_sum t_heldAll t_onPaper t_turned t_wasConverted t_lastBits t_lastSum t_lastHeld t_lastLeft t_lastCode t_writtenLong t_codeMany t_acts t_done0 t_stoppedAt t_all 75 (r6, ()) hc8) rfl hl.1 ⟨⟨rfl, rfl⟩, ⟨Nat.le_of_ble_eq_true rfl, Nat.le_of_ble_eq_true rfl⟩, ⟨Nat.le_of_ble_eq_true rfl, Nat.le_of_ble_eq_true rfl⟩, Nat.le_of_ble_eq_true rfl⟩) hA w [0, 1] [2] [1, 2, 0] rfl rfl (by decide) (fun _ => rfl) (fun _ H locs w => ?_)
      refine lv_icmp_ge (tgt := 235) hx hb dX8_driftOf_11 (by decide) (fun c11 => ?_) (fun c11 => ?_)
      · have hf := pf_t c11 hf
        exact kJ235 _ _ _ _ _ hf w (lv_sub hl [0, 2] rfl)
      · have hf := pf_e c11 hf
        refine lv_aload_n hx hb dX8_driftOf_14 rfl (lv_at hl 0 rfl) ?_
        refine lv_bipush (v := 76) hx hb dX8_driftOf_15 (by decide) ?_
        refine lv_iload_n hx hb dX8_driftOf_17 rfl (lv_at hl 3 rfl) ?_
        refine lv_iadd hx hb dX8_driftOf_18 ?_
        obtain ⟨r7, hc19, hf⟩ := pf_bi_0 hf
        refine hm_aft_i (ws' := fun _ => [oc8 h0 r_t t_base t_taped t_at t_faultPlace t_number t_newBits t_newTold t_newDoings t_newThings t_opened t_sum t_heldAll t_onPaper t_turned t_wasConverted t_lastBits t_lastSum t_lastHeld t_lastLeft t_lastCode t_writtenLong t_codeMany t_acts t_done0 t_stoppedAt, ic E (r_t 0) 800 t_all, ic E (r_t 23) 90 f5]) (hm_runV (rest := []) hx hb hml hown X hA Y w 0 (ci := 7) (T := TX8) (N := 55) rfl rfl mw_X8_get ml_X8_221 dX8_driftOf_19 hm_ac0 [.int (76 + x4)] rfl [0, 1] rfl rfl (ct_X8_get l E H.size h0 r_t t_base t_taped t_at t_faultPlace t_number t_newBits t_newTold t_newDoings t_newThings t_opened t_sum t_heldAll t_onPaper t_turned t_wasConverted t_lastBits t_lastSum t_lastHeld t_lastLeft t_lastCode t_writtenLong t_codeMany t_acts t_done0 t_stoppedAt t_all (76 + x4) (r7, ()) hc19) rfl hl.1 ⟨⟨rfl, rfl⟩, ⟨Nat.le_of_ble_eq_true rfl, Nat.le_of_ble_eq_true rfl⟩, ⟨Nat.le_of_ble_eq_true rfl, Nat.le_of_ble_eq_true rfl⟩, Nat.le_of_ble_eq_true rfl⟩) hA w [0, 1] [2] [1, 2, 0] rfl rfl (by decide) (fun _ => rfl) (fun _ H locs w => ?_)
        refine lv_istore (lv' := [(4, .int r7), (0, .ref h0), (1, .int a1), (2, .int x3), (3, .int x4)]) hx hb dX8_driftOf_22 hl (by decide) rfl (fun ls hl => ?_)
        refine lv_iload hx hb dX8_driftOf_24 (lv_at hl 0 rfl) ?_
        refine lv_sipush (v := 10010) hx hb dX8_driftOf_26 (by decide) ?_
        refine lv_icmp_ge (tgt := 68) hx hb dX8_driftOf_29 (by decide) (fun c29 => ?_) (fun c29 => ?_)
        · have hf := pf_t c29 hf
          refine lv_iload hx hb dX8_driftOf_68 (lv_at hl 0 rfl) ?_
          refine lv_sipush (v := 10015) hx hb dX8_driftOf_70 (by decide) ?_
          refine lv_icmp_ge (tgt := 109) hx hb dX8_driftOf_73 (by decide) (fun c73 => ?_) (fun c73 => ?_)
          · have hf := pf_t c73 hf
            refine lv_iload hx hb dX8_driftOf_109 (lv_at hl 0 rfl) ?_
            refine lv_sipush (v := 10015) hx hb dX8_driftOf_111 (by decide) ?_
            refine lv_icmp_ne (tgt := 137) hx hb dX8_driftOf_114 (by decide) (fun c114 => ?_) (fun c114 => ?_)
            · have hf := pf_e c114 hf
              obtain ⟨x8, ex8⟩ : ∃ y : Int32, y = (x3 + (-3)) := ⟨_, rfl⟩
              have hf := pf_nm ex8 hf
              refine lv_iinc (v := x8) (lv' := [(2, .int x8), (4, .int r7), (0, .ref h0), (1, .int a1), (3, .int x4)]) hx hb dX8_driftOf_137 hl (k := 3) rfl (by rw [ex8]; rfl) (by decide) rfl (fun ls hl => ?_)
              refine lv_iload hx hb dX8_driftOf_140 (lv_at hl 1 rfl) ?_
              refine lv_sipush (v := 10016) hx hb dX8_driftOf_142 (by decide) ?_
              obtain ⟨J195, hJ195, hf⟩ := pf_jn hf
              have kJ195 : ∀ (x9 : Int32) (H : Heap) (locs : List Loc) (ls : Array Slot), J195 x9 = some R → hm_W E A s.heap [oc8 h0 r_t t_base t_taped t_at t_faultPlace t_number t_newBits t_newTold t_newDoings t_newThings t_opened t_sum t_heldAll t_onPaper t_turned t_wasConverted t_lastBits t_lastSum t_lastHeld t_lastLeft t_lastCode t_writtenLong t_codeMany t_acts t_done0 t_stoppedAt, ic E (r_t 0) 800 t_all, ic E (r_t 23) 90 f5] H locs → lv_has ls 6 [(5, .int x9), (0, .ref h0), (1, .int a1), (2, .int x8), (3, .int x4)] → W p l e (hm_rr 3 64 0 0) s m args below meth c H locs 0 0 Q (F0 m 195 ls [.int (x8 - 1), .ref (r_t 23)]) := by
                intro x9 H locs ls hf w hl
                have hf := pf_j1 hJ195 hf
                refine lv_istore (lv' := [(5, .int x9), (0, .ref h0), (1, .int a1), (2, .int x8), (3, .int x4)]) hx hb dX8_driftOf_195 hl (by decide) rfl (fun ls hl => ?_)
                refine lv_aload_n hx hb dX8_driftOf_197 rfl (lv_at hl 1 rfl) ?_
                refine hm_get cb_X8 hx hb hown X w 0 23 fl_X8_61 dX8_driftOf_198 rfl (by decide) rfl ?_
                refine lv_iload_n hx hb dX8_driftOf_201 rfl (lv_at hl 3 rfl) ?_
                refine lv_iconst (v := 1) hx hb dX8_driftOf_202 (by decide) ?_
                refine lv_isub hx hb dX8_driftOf_203 ?_
                refine lv_iload hx hb dX8_driftOf_204 (lv_at hl 0 rfl) ?_
                obtain ⟨J228, hJ228, hf⟩ := pf_jn hf
                have kJ228 : ∀ (x10 : Int32) (H : Heap) (locs : List Loc) (ls : Array Slot), J228 x10 = some R → hm_W E A s.heap [oc8 h0 r_t t_base t_taped t_at t_faultPlace t_number t_newBits t_newTold t_newDoings t_newThings t_opened t_sum t_heldAll t_onPaper t_turned t_wasConverted t_lastBits t_lastSum t_lastHeld t_lastLeft t_lastCode t_writtenLong t_codeMany t_acts t_done0 t_stoppedAt, ic E (r_t 0) 800 t_all, ic E (r_t 23) 90 (upd f5 (x8 - 1).toNatClampNeg x10)] H locs → lv_has ls 6 [(3, .int x11), (0, .ref h0), (1, .int a1), (2, .int x8)] → W p l e (hm_rr 3 64 0 0) s m args below meth c H locs 0 0 Q (F0 m 228 ls []) := by
                  intro x10 H locs ls hf w hl
                  have hf := pf_j1 hJ228 hf
                  obtain ⟨g228, hf⟩ := pf_ckI hf
                  refine hm_iast (ws' := [oc8 h0 r_t t_base t_taped t_at t_faultPlace t_number t_newBits t_newTold t_newDoings t_newThings t_opened t_sum t_heldAll t_onPaper t_turned t_wasConverted t_lastBits t_lastSum t_lastHeld t_lastLeft t_lastCode t_writtenLong t_codeMany t_acts t_done0 t_stoppedAt, ic E (r_t 0) 800 t_all, ic E (r_t 23) 90 (upd f5 (x8 - 1).toNatClampNeg x10)]) hx hb X w 2 dX8_driftOf_228 rfl g228 rfl (fun H locs w => ?_)
                  obtain ⟨x11, ex11⟩ : ∃ y : Int32, y = (x4 + 1) := ⟨_, rfl⟩
                  have hf := pf_nm ex11 hf
                  refine lv_iinc (v := x11) (lv' := [(3, .int x11), (0, .ref h0), (1, .int a1), (2, .int x8)]) hx hb dX8_driftOf_229 hl (k := 3) rfl (by rw [ex11]; rfl) (by decide) rfl (fun ls hl => ?_)
                  refine lv_goto (tgt := 4) hx hb dX8_driftOf_232 (by decide) ?_
                  exact ih4 _ _ _ _ _ _ hf w (lv_sub hl [1, 2, 3, 0] rfl)
                refine lv_if_eq (tgt := 220) hx hb dX8_driftOf_206 (by decide) (fun c206 => ?_) (fun c206 => ?_)
                · have hf := pf_t c206 hf
                  refine lv_aload_n hx hb dX8_driftOf_220 rfl (lv_at hl 1 rfl) ?_
                  refine hm_get cb_X8 hx hb hown X w 0 23 fl_X8_61 dX8_driftOf_221 rfl (by decide) rfl ?_
                  refine lv_iload_n hx hb dX8_driftOf_224 rfl (lv_at hl 3 rfl) ?_
                  refine lv_iconst (v := 2) hx hb dX8_driftOf_225 (by decide) ?_
                  refine lv_iadd hx hb dX8_driftOf_226 ?_
                  obtain ⟨g227, hf⟩ := pf_ckI hf
                  refine hm_iald hx hb X w 2 dX8_driftOf_227 rfl g227 ?_
                  exact kJ228 _ _ _ _ hf w (lv_sub hl [1, 2, 3, 4] rfl)
                · have hf := pf_e c206 hf
                  refine lv_aload_n hx hb dX8_driftOf_209 rfl (lv_at hl 1 rfl) ?_
                  refine hm_get cb_X8 hx hb hown X w 0 23 fl_X8_61 dX8_driftOf_210 rfl (by decide) rfl ?_
                  refine lv_iload_n hx hb dX8_driftOf_213 rfl (lv_at hl 3 rfl) ?_
                  refine lv_iconst (v := 1) hx hb dX8_driftOf_214 (by decide) ?_
                  refine lv_iadd hx hb dX8_driftOf_215 ?_
                  obtain ⟨g216, hf⟩ := pf_ckI hf
                  refine hm_iald hx hb X w 2 dX8_driftOf_216 rfl g216 ?_
                  refine lv_goto (tgt := 228) hx hb dX8_driftOf_217 (by decide) ?_
                  exact kJ228 _ _ _ _ hf w (lv_sub hl [1, 2, 3, 4] rfl)
              refine lv_icmp_ne (tgt := 173) hx hb dX8_driftOf_145 (by decide) (fun c145 => ?_) (fun c145 => ?_)
              · have hf := pf_e c145 hf
                refine lv_aload_n hx hb dX8_driftOf_173 rfl (lv_at hl 2 rfl) ?_
                refine hm_get cb_X8 hx hb hown X w 0 23 fl_X8_61 dX8_driftOf_174 rfl (by decide) rfl ?_
                refine lv_iload_n hx hb dX8_driftOf_177 rfl (lv_at hl 0 rfl) ?_
                refine lv_iconst (v := 1) hx hb dX8_driftOf_178 (by decide) ?_
                refine lv_isub hx hb dX8_driftOf_179 ?_
                obtain ⟨g180, hf⟩ := pf_ckI hf
                refine hm_iald hx hb X w 2 dX8_driftOf_180 rfl g180 ?_
                refine lv_aload_n hx hb dX8_driftOf_181 rfl (lv_at hl 2 rfl) ?_
                refine hm_get cb_X8 hx hb hown X w 0 23 fl_X8_61 dX8_driftOf_182 rfl (by decide) rfl ?_
                refine lv_iload_n hx hb dX8_driftOf_185 rfl (lv_at hl 0 rfl) ?_
                obtain ⟨g186, hf⟩ := pf_ckI hf
                refine hm_iald hx hb X w 2 dX8_driftOf_186 rfl g186 ?_
                refine lv_icmp_ne (tgt := 194) hx hb dX8_driftOf_187 (by decide) (fun c187 => ?_) (fun c187 => ?_)
                · have hf := pf_e c187 hf
                  refine lv_iconst (v := 0) hx hb dX8_driftOf_194 (by decide) ?_
                  exact kJ195 _ _ _ _ hf w (lv_sub hl [2, 3, 0, 4] rfl)
                · have hf := pf_t c187 hf
                  refine lv_iconst (v := 1) hx hb dX8_driftOf_190 (by decide) ?_
                  refine lv_goto (tgt := 195) hx hb dX8_driftOf_191 (by decide) ?_
                  exact kJ195 _ _ _ _ hf w (lv_sub hl [2, 3, 0, 4] rfl)
              · have hf := pf_t c145 hf
                refine lv_aload_n hx hb dX8_driftOf_148 rfl (lv_at hl 2 rfl) ?_
                refine hm_get cb_X8 hx hb hown X w 0 23 fl_X8_61 dX8_driftOf_149 rfl (by decide) rfl ?_
                refine lv_iload_n hx hb dX8_driftOf_152 rfl (lv_at hl 0 rfl) ?_
                refine lv_iconst (v := 1) hx hb dX8_driftOf_153 (by decide) ?_
                refine lv_isub hx hb dX8_driftOf_154 ?_
                obtain ⟨g155, hf⟩ := pf_ckI hf
                refine hm_iald hx hb X w 2 dX8_driftOf_155 rfl g155 ?_
                refine lv_aload_n hx hb dX8_driftOf_156 rfl (lv_at hl 2 rfl) ?_
                refine hm_get cb_X8 hx hb hown X w 0 23 fl_X8_61 dX8_driftOf_157 rfl (by decide) rfl ?_
                refine lv_iload_n hx hb dX8_driftOf_160 rfl (lv_at hl 0 rfl) ?_
                obtain ⟨g161, hf⟩ := pf_ckI hf
                refine hm_iald hx hb X w 2 dX8_driftOf_161 rfl g161 ?_
                refine lv_icmp_ge (tgt := 169) hx hb dX8_driftOf_162 (by decide) (fun c162 => ?_) (fun c162 => ?_)
                · have hf := pf_t c162 hf
                  refine lv_iconst (v := 0) hx hb dX8_driftOf_169 (by decide) ?_
                  refine lv_goto (tgt := 195) hx hb dX8_driftOf_170 (by decide) ?_
                  exact kJ195 _ _ _ _ hf w (lv_sub hl [2, 3, 0, 4] rfl)
                · have hf := pf_e c162 hf
                  refine lv_iconst (v := 1) hx hb dX8_driftOf_165 (by decide) ?_
                  refine lv_goto (tgt := 195) hx hb dX8_driftOf_166 (by decide) ?_
                  exact kJ195 _ _ _ _ hf w (lv_sub hl [2, 3, 0, 4] rfl)
            · have hf := pf_t c114 hf
              refine lv_aload_n hx hb dX8_driftOf_117 rfl (lv_at hl 1 rfl) ?_
              refine hm_get cb_X8 hx hb hown X w 0 23 fl_X8_61 dX8_driftOf_118 rfl (by decide) rfl ?_
              refine lv_iload_n hx hb dX8_driftOf_121 rfl (lv_at hl 3 rfl) ?_
              refine lv_iconst (v := 1) hx hb dX8_driftOf_122 (by decide) ?_
              refine lv_isub hx hb dX8_driftOf_123 ?_
              refine lv_aload_n hx hb dX8_driftOf_124 rfl (lv_at hl 1 rfl) ?_
              refine hm_get cb_X8 hx hb hown X w 0 23 fl_X8_61 dX8_driftOf_125 rfl (by decide) rfl ?_
              refine lv_iload_n hx hb dX8_driftOf_128 rfl (lv_at hl 3 rfl) ?_
              refine lv_iconst (v := 1) hx hb dX8_driftOf_129 (by decide) ?_
              refine lv_isub hx hb dX8_driftOf_130 ?_
              obtain ⟨g131, hf⟩ := pf_ckI hf
              refine hm_iald hx hb X w 2 dX8_driftOf_131 rfl g131 ?_
              refine lv_ineg hx hb dX8_driftOf_132 ?_
              refine lv_topi (fun x12 ex12 => ?_)
              have hf := pf_nm ex12 hf
              obtain ⟨g133, hf⟩ := pf_ckI hf
              refine hm_iast (ws' := [oc8 h0 r_t t_base t_taped t_at t_faultPlace t_number t_newBits t_newTold t_newDoings t_newThings t_opened t_sum t_heldAll t_onPaper t_turned t_wasConverted t_lastBits t_lastSum t_lastHeld t_lastLeft t_lastCode t_writtenLong t_codeMany t_acts t_done0 t_stoppedAt, ic E (r_t 0) 800 t_all, ic E (r_t 23) 90 (upd f5 (x3 - 1).toNatClampNeg x12)]) hx hb X w 2 dX8_driftOf_133 rfl g133 rfl (fun H locs w => ?_)
              refine lv_goto (tgt := 229) hx hb dX8_driftOf_134 (by decide) ?_
              obtain ⟨x13, ex13⟩ : ∃ y : Int32, y = (x4 + 1) := ⟨_, rfl⟩
              have hf := pf_nm ex13 hf
              refine lv_iinc (v := x13) (lv' := [(3, .int x13), (4, .int r7), (0, .ref h0), (1, .int a1), (2, .int x3)]) hx hb dX8_driftOf_229 hl (k := 4) rfl (by rw [ex13]; rfl) (by decide) rfl (fun ls hl => ?_)
              refine lv_goto (tgt := 4) hx hb dX8_driftOf_232 (by decide) ?_
              exact ih4 _ _ _ _ _ _ hf w (lv_sub hl [2, 3, 4, 0] rfl)
          · have hf := pf_e c73 hf
            obtain ⟨x14, ex14⟩ : ∃ y : Int32, y = (x3 + (-1)) := ⟨_, rfl⟩
            have hf := pf_nm ex14 hf
            refine lv_iinc (v := x14) (lv' := [(2, .int x14), (4, .int r7), (0, .ref h0), (1, .int a1), (3, .int x4)]) hx hb dX8_driftOf_76 hl (k := 3) rfl (by rw [ex14]; rfl) (by decide) rfl (fun ls hl => ?_)
            refine lv_aload_n hx hb dX8_driftOf_79 rfl (lv_at hl 2 rfl) ?_
            refine hm_get cb_X8 hx hb hown X w 0 23 fl_X8_61 dX8_driftOf_80 rfl (by decide) rfl ?_
            refine lv_iload_n hx hb dX8_driftOf_83 rfl (lv_at hl 0 rfl) ?_
            refine lv_iconst (v := 1) hx hb dX8_driftOf_84 (by decide) ?_
            refine lv_isub hx hb dX8_driftOf_85 ?_
            refine lv_iload hx hb dX8_driftOf_86 (lv_at hl 1 rfl) ?_
            refine lv_aload_n hx hb dX8_driftOf_88 rfl (lv_at hl 2 rfl) ?_
            refine hm_get cb_X8 hx hb hown X w 0 23 fl_X8_61 dX8_driftOf_89 rfl (by decide) rfl ?_
            refine lv_iload_n hx hb dX8_driftOf_92 rfl (lv_at hl 0 rfl) ?_
            refine lv_iconst (v := 1) hx hb dX8_driftOf_93 (by decide) ?_
            refine lv_isub hx hb dX8_driftOf_94 ?_
            obtain ⟨g95, hf⟩ := pf_ckI hf
            refine hm_iald hx hb X w 2 dX8_driftOf_95 rfl g95 ?_
            refine lv_aload_n hx hb dX8_driftOf_96 rfl (lv_at hl 2 rfl) ?_
            refine hm_get cb_X8 hx hb hown X w 0 23 fl_X8_61 dX8_driftOf_97 rfl (by decide) rfl ?_
            refine lv_iload_n hx hb dX8_driftOf_100 rfl (lv_at hl 0 rfl) ?_
            obtain ⟨g101, hf⟩ := pf_ckI hf
            refine hm_iald hx hb X w 2 dX8_driftOf_101 rfl g101 ?_
            obtain ⟨r15, hc102, hf⟩ := pf_bi_0 hf
            refine hm_aft_i (ws' := fun _ => [oc8 h0 r_t t_base t_taped t_at t_faultPlace t_number t_newBits t_newTold t_newDoings t_newThings t_opened t_sum t_heldAll t_onPaper t_turned t_wasConverted t_lastBits t_lastSum t_lastHeld t_lastLeft t_lastCode t_writtenLong t_codeMany t_acts t_done0 t_stoppedAt, ic E (r_t 0) 800 t_all, ic E (r_t 23) 90 f5]) (hm_runS (rest := [.int (x14 - 1), .ref (r_t 23)]) hx hb hml hown X hA Y w mw_X8_joined ml_X8_231 dX8_driftOf_102 hm_ac0 [.int r7, .int (f5 (x14 - 1).toNatClampNeg), .int (f5 x14.toNatClampNeg)] rfl [] rfl rfl (ct_X8_joined l E H.size r7 (f5 (x14 - 1).toNatClampNeg) (f5 x14.toNatClampNeg) (r15, ()) hc102) rfl hl.1 ⟨⟨rfl, rfl⟩, ⟨Nat.le_of_ble_eq_true rfl, Nat.le_of_ble_eq_true rfl⟩, ⟨Nat.le_of_ble_eq_true rfl, Nat.le_of_ble_eq_true rfl⟩, Nat.le_of_ble_eq_true rfl⟩) hA w [] [0, 1, 2] [0, 1, 2] rfl rfl (by decide) (fun _ => rfl) (fun _ H locs w => ?_)
            obtain ⟨g105, hf⟩ := pf_ckI hf
            refine hm_iast (ws' := [oc8 h0 r_t t_base t_taped t_at t_faultPlace t_number t_newBits t_newTold t_newDoings t_newThings t_opened t_sum t_heldAll t_onPaper t_turned t_wasConverted t_lastBits t_lastSum t_lastHeld t_lastLeft t_lastCode t_writtenLong t_codeMany t_acts t_done0 t_stoppedAt, ic E (r_t 0) 800 t_all, ic E (r_t 23) 90 (upd f5 (x14 - 1).toNatClampNeg r15)]) hx hb X w 2 dX8_driftOf_105 rfl g105 rfl (fun H locs w => ?_)
            refine lv_goto (tgt := 229) hx hb dX8_driftOf_106 (by decide) ?_
            obtain ⟨x16, ex16⟩ : ∃ y : Int32, y = (x4 + 1) := ⟨_, rfl⟩
            have hf := pf_nm ex16 hf
            refine lv_iinc (v := x16) (lv' := [(3, .int x16), (2, .int x14), (4, .int r7), (0, .ref h0), (1, .int a1)]) hx hb dX8_driftOf_229 hl (k := 4) rfl (by rw [ex16]; rfl) (by decide) rfl (fun ls hl => ?_)
            refine lv_goto (tgt := 4) hx hb dX8_driftOf_232 (by decide) ?_
            exact ih4 _ _ _ _ _ _ hf w (lv_sub hl [3, 4, 1, 0] rfl)
        · have hf := pf_e c29 hf
          refine lv_aload_n hx hb dX8_driftOf_32 rfl (lv_at hl 1 rfl) ?_
          refine hm_get cb_X8 hx hb hown X w 0 23 fl_X8_61 dX8_driftOf_33 rfl (by decide) rfl ?_
          refine lv_iload_n hx hb dX8_driftOf_36 rfl (lv_at hl 3 rfl) ?_
          refine lv_iload hx hb dX8_driftOf_37 (lv_at hl 0 rfl) ?_
          refine lv_sipush (v := 10000) hx hb dX8_driftOf_39 (by decide) ?_
          obtain ⟨J61, hJ61, hf⟩ := pf_jn hf
          have kJ61 : ∀ (x17 : Int32) (H : Heap) (locs : List Loc) (ls : Array Slot), J61 x17 = some R → hm_W E A s.heap [oc8 h0 r_t t_base t_taped t_at t_faultPlace t_number t_newBits t_newTold t_newDoings t_newThings t_opened t_sum t_heldAll t_onPaper t_turned t_wasConverted t_lastBits t_lastSum t_lastHeld t_lastLeft t_lastCode t_writtenLong t_codeMany t_acts t_done0 t_stoppedAt, ic E (r_t 0) 800 t_all, ic E (r_t 23) 90 (upd f5 x3.toNatClampNeg x17)] H locs → lv_has ls 6 [(3, .int x19), (2, .int x18), (0, .ref h0), (1, .int a1)] → W p l e (hm_rr 3 64 0 0) s m args below meth c H locs 0 0 Q (F0 m 61 ls []) := by
            intro x17 H locs ls hf w hl
            have hf := pf_j1 hJ61 hf
            obtain ⟨g61, hf⟩ := pf_ckI hf
            refine hm_iast (ws' := [oc8 h0 r_t t_base t_taped t_at t_faultPlace t_number t_newBits t_newTold t_newDoings t_newThings t_opened t_sum t_heldAll t_onPaper t_turned t_wasConverted t_lastBits t_lastSum t_lastHeld t_lastLeft t_lastCode t_writtenLong t_codeMany t_acts t_done0 t_stoppedAt, ic E (r_t 0) 800 t_all, ic E (r_t 23) 90 (upd f5 x3.toNatClampNeg x17)]) hx hb X w 2 dX8_driftOf_61 rfl g61 rfl (fun H locs w => ?_)
            obtain ⟨x18, ex18⟩ : ∃ y : Int32, y = (x3 + 1) := ⟨_, rfl⟩
            have hf := pf_nm ex18 hf
            refine lv_iinc (v := x18) (lv' := [(2, .int x18), (0, .ref h0), (1, .int a1), (3, .int x4)]) hx hb dX8_driftOf_62 hl (k := 2) rfl (by rw [ex18]; rfl) (by decide) rfl (fun ls hl => ?_)
            refine lv_goto (tgt := 229) hx hb dX8_driftOf_65 (by decide) ?_
            obtain ⟨x19, ex19⟩ : ∃ y : Int32, y = (x4 + 1) := ⟨_, rfl⟩
            have hf := pf_nm ex19 hf
            refine lv_iinc (v := x19) (lv' := [(3, .int x19), (2, .int x18), (0, .ref h0), (1, .int a1)]) hx hb dX8_driftOf_229 hl (k := 3) rfl (by rw [ex19]; rfl) (by decide) rfl (fun ls hl => ?_)
            refine lv_goto (tgt := 4) hx hb dX8_driftOf_232 (by decide) ?_
            exact ih4 _ _ _ _ _ _ hf w (lv_sub hl [2, 3, 1, 0] rfl)
          refine lv_icmp_ge (tgt := 50) hx hb dX8_driftOf_42 (by decide) (fun c42 => ?_) (fun c42 => ?_)
          · have hf := pf_t c42 hf
            refine lv_aload_n hx hb dX8_driftOf_50 rfl (lv_at hl 1 rfl) ?_
            refine lv_iload hx hb dX8_driftOf_51 (lv_at hl 0 rfl) ?_
            refine lv_sipush (v := 10000) hx hb dX8_driftOf_53 (by decide) ?_
            refine lv_isub hx hb dX8_driftOf_56 ?_
            refine lv_iload_n hx hb dX8_driftOf_57 rfl (lv_at hl 2 rfl) ?_
            obtain ⟨r20, hc58, hf⟩ := pf_bi_0 hf
            refine hm_aft_i (ws' := fun _ => [oc8 h0 r_t t_base t_taped t_at t_faultPlace t_number t_newBits t_newTold t_newDoings t_newThings t_opened t_sum t_heldAll t_onPaper t_turned t_wasConverted t_lastBits t_lastSum t_lastHeld t_lastLeft t_lastCode t_writtenLong t_codeMany t_acts t_done0 t_stoppedAt, ic E (r_t 0) 800 t_all, ic E (r_t 23) 90 f5]) (hm_runV (rest := [.int x3, .ref (r_t 23)]) hx hb hml hown X hA Y w 0 (ci := 7) (T := TX8) (N := 55) rfl rfl mw_X8_asked ml_X8_227 dX8_driftOf_58 hm_ac0 [.int (r7 - 10000), .int a1] rfl [0, 1] rfl rfl (ct_X8_asked l E H.size h0 r_t t_base t_taped t_at t_faultPlace t_number t_newBits t_newTold t_newDoings t_newThings t_opened t_sum t_heldAll t_onPaper t_turned t_wasConverted t_lastBits t_lastSum t_lastHeld t_lastLeft t_lastCode t_writtenLong t_codeMany t_acts t_done0 t_stoppedAt t_all (r7 - 10000) a1 (r20, ()) hc58) rfl hl.1 ⟨⟨rfl, rfl⟩, ⟨Nat.le_of_ble_eq_true rfl, Nat.le_of_ble_eq_true rfl⟩, ⟨Nat.le_of_ble_eq_true rfl, Nat.le_of_ble_eq_true rfl⟩, Nat.le_of_ble_eq_true rfl⟩) hA w [0, 1] [2] [1, 2, 0] rfl rfl (by decide) (fun _ => rfl) (fun _ H locs w => ?_)
            exact kJ61 _ _ _ _ hf w (lv_sub hl [1, 2, 3, 4] rfl)
          · have hf := pf_e c42 hf
            refine lv_iload hx hb dX8_driftOf_45 (lv_at hl 0 rfl) ?_
            refine lv_goto (tgt := 61) hx hb dX8_driftOf_47 (by decide) ?_
            exact kJ61 _ _ _ _ hf w (lv_sub hl [1, 2, 3, 4] rfl)
  exact klp_X8_driftOf_4 FU _ _ _ _ _ _ hf w (lv_sub hl [2, 3, 1, 0] rfl)
set_option maxHeartbeats 8000000 in
set_option maxRecDepth 100000 in
theorem ct_X8_held (l : Launch) (E : hm_E) (sz : Nat) (a0 : Int32) (a1 : Int32) (a2 : Int32) (R : Int32 × Unit) (hf : pf_X8_held a0 a1 a2 = some R) : hm_Mi l E yX8_held cX8_held 3 .int [] (hm_rr 0 0 0 0) [.int a0, .int a1, .int a2] sz [] R.1 (fun _ => []) := by
  refine hm_ct_i R (fun u _ => []) (by decide) (Nat.le_of_ble_eq_true rfl) (Or.inl rfl) ?_
  intro p e s m args below meth c A Q ls H locs hx hb hml hown X hA Y hex w hl hQ
  have hl : lv_has ls 3 [(0, .int a0), (1, .int a1), (2, .int a2)] := hl
  unfold pf_X8_held at hf
  refine lv_iload_n hx hb dX8_held_0 rfl (lv_at hl 0 rfl) ?_
  refine lv_iload_n hx hb dX8_held_1 rfl (lv_at hl 1 rfl) ?_
  refine lv_icmp_ge (tgt := 9) hx hb dX8_held_2 (by decide) (fun c2 => ?_) (fun c2 => ?_)
  · have hf := pf_t c2 hf
    refine lv_iload_n hx hb dX8_held_9 rfl (lv_at hl 0 rfl) ?_
    refine lv_iload_n hx hb dX8_held_10 rfl (lv_at hl 2 rfl) ?_
    refine lv_icmp_le (tgt := 18) hx hb dX8_held_11 (by decide) (fun c11 => ?_) (fun c11 => ?_)
    · have hf := pf_t c11 hf
      refine lv_iload_n hx hb dX8_held_18 rfl (lv_at hl 0 rfl) ?_
      exact hQ _ _ _ _ _ () (fun _ => 0) hf rfl w dX8_held_19
    · have hf := pf_e c11 hf
      refine lv_iload_n hx hb dX8_held_14 rfl (lv_at hl 2 rfl) ?_
      refine lv_goto (tgt := 19) hx hb dX8_held_15 (by decide) ?_
      exact hQ _ _ _ _ _ () (fun _ => 0) hf rfl w dX8_held_19
  · have hf := pf_e c2 hf
    refine lv_iload_n hx hb dX8_held_5 rfl (lv_at hl 1 rfl) ?_
    refine lv_goto (tgt := 19) hx hb dX8_held_6 (by decide) ?_
    exact hQ _ _ _ _ _ () (fun _ => 0) hf rfl w dX8_held_19
set_option maxHeartbeats 8000000 in
set_option maxRecDepth 100000 in
theorem ct_X8_hour (l : Launch) (E : hm_E) (sz : Nat) (h0 : Nat) (r_t : Nat → Nat) (t_base t_taped t_at t_faultPlace t_number t_newBits t_newTold t_newDoings t_newThings t_opened t_sum t_heldAll t_onPaper t_turned t_wasConverted t_lastBits t_lastSum t_lastHeld t_lastLeft t_lastCode t_writtenLong t_codeMany t_acts t_done0 t_stoppedAt : Int32) (t_all : Nat → Int32) (t_nextOff : Nat → Int32) (t_pile : Nat → Int32) (R : Int32 × (Nat → Int32) × (Nat → Int32) × (Nat → Int32)) (hf : pf_X8_hour t_all t_base t_pile t_nextOff = some R) : hm_Mi l E yX8_hour cX8_hour 4 .int [] (hm_rr 4 89 0 0) [.ref h0] sz [oc8 h0 r_t t_base t_taped t_at t_faultPlace t_number t_newBits t_newTold t_newDoings t_newThings t_opened t_sum t_heldAll t_onPaper t_turned t_wasConverted t_lastBits t_lastSum t_lastHeld t_lastLeft t_lastCode t_writtenLong t_codeMany t_acts t_done0 t_stoppedAt, ic E (r_t 0) 800 t_all, ic E (r_t 24) 12 t_nextOff, ic E (r_t 23) 90 t_pile] R.1 (fun _ => [oc8 h0 r_t t_base t_taped t_at t_faultPlace t_number t_newBits t_newTold t_newDoings t_newThings t_opened t_sum t_heldAll t_onPaper t_turned t_wasConverted t_lastBits t_lastSum t_lastHeld t_lastLeft t_lastCode t_writtenLong t_codeMany t_acts t_done0 t_stoppedAt, ic E (r_t 0) 800 (R.2.1), ic E (r_t 24) 12 (R.2.2.2), ic E (r_t 23) 90 (R.2.2.1)]) := by
  refine hm_ct_i R (fun u _ => [oc8 h0 r_t t_base t_taped t_at t_faultPlace t_number t_newBits t_newTold t_newDoings t_newThings t_opened t_sum t_heldAll t_onPaper t_turned t_wasConverted t_lastBits t_lastSum t_lastHeld t_lastLeft t_lastCode t_writtenLong t_codeMany t_acts t_done0 t_stoppedAt, ic E (r_t 0) 800 (u.1), ic E (r_t 24) 12 (u.2.2), ic E (r_t 23) 90 (u.2.1)]) (by decide) (Nat.le_of_ble_eq_true rfl) (Or.inl rfl) ?_
  intro p e s m args below meth c A Q ls H locs hx hb hml hown X hA Y hex w hl hQ
  have hl : lv_has ls 4 [(0, .ref h0)] := hl
  unfold pf_X8_hour at hf
  refine lv_iconst (v := 0) hx hb dX8_hour_0 (by decide) ?_
  refine lv_istore_n (lv' := [(1, .int 0), (0, .ref h0)]) hx hb dX8_hour_1 rfl hl (by decide) rfl (fun ls hl => ?_)
  refine lv_iconst (v := 0) hx hb dX8_hour_2 (by decide) ?_
  refine lv_istore_n (lv' := [(2, .int 0), (1, .int 0), (0, .ref h0)]) hx hb dX8_hour_3 rfl hl (by decide) rfl (fun ls hl => ?_)
  have klp_X8_hour_4 : ∀ (n : Nat) (x1 : Int32) (x2 : Int32) (f3 : Nat → Int32) (f4 : Nat → Int32) (H : Heap) (locs : List Loc) (ls : Array Slot), lp_X8_hour_4 t_base t_all n x1 x2 f3 f4 = some R → hm_W E A s.heap [oc8 h0 r_t t_base t_taped t_at t_faultPlace t_number t_newBits t_newTold t_newDoings t_newThings t_opened t_sum t_heldAll t_onPaper t_turned t_wasConverted t_lastBits t_lastSum t_lastHeld t_lastLeft t_lastCode t_writtenLong t_codeMany t_acts t_done0 t_stoppedAt, ic E (r_t 0) 800 t_all, ic E (r_t 24) 12 f4, ic E (r_t 23) 90 f3] H locs → lv_has ls 4 [(0, .ref h0), (1, .int x1), (2, .int x2)] → W p l e (hm_rr 4 89 0 0) s m args below meth c H locs 0 0 Q (F0 m 4 ls []) := by
    intro n
    induction n with
    | zero =>
      intro x1 x2 f3 f4 H locs ls hf w hl
      exact pf_no hf
    | succ n ih4 =>
      intro x1 x2 f3 f4 H locs ls hf w hl
      rw [lp_X8_hour_4] at hf
      refine lv_iload_n hx hb dX8_hour_4 rfl (lv_at hl 2 rfl) ?_
      refine lv_aload_n hx hb dX8_hour_5 rfl (lv_at hl 0 rfl) ?_
      refine lv_iconst (v := 0) hx hb dX8_hour_6 (by decide) ?_
      obtain ⟨r5, hc7, hf⟩ := pf_bi_0 hf
      refine hm_aft_i (ws' := fun _ => [oc8 h0 r_t t_base t_taped t_at t_faultPlace t_number t_newBits t_newTold t_newDoings t_newThings t_opened t_sum t_heldAll t_onPaper t_turned t_wasConverted t_lastBits t_lastSum t_lastHeld t_lastLeft t_lastCode t_writtenLong t_codeMany t_acts t_done0 t_stoppedAt, ic E (r_t 0) 800 t_all, ic E (r_t 24) 12 f4, ic E (r_t 23) 90 f3]) (hm_runV (rest := [.int x2]) hx hb hml hown X hA Y w 0 (ci := 7) (T := TX8) (N := 55) rfl rfl mw_X8_get ml_X8_221 dX8_hour_7 hm_ac0 [.int 0] rfl [0, 1] rfl rfl (ct_X8_get l E H.size h0 r_t t_base t_taped t_at t_faultPlace t_number t_newBits t_newTold t_newDoings t_newThings t_opened t_sum t_heldAll t_onPaper t_turned t_wasConverted t_lastBits t_lastSum t_lastHeld t_lastLeft t_lastCode t_writtenLong t_codeMany t_acts t_done0 t_stoppedAt t_all 0 (r5, ()) hc7) rfl hl.1 ⟨⟨rfl, rfl⟩, ⟨Nat.le_of_ble_eq_true rfl, Nat.le_of_ble_eq_true rfl⟩, ⟨Nat.le_of_ble_eq_true rfl, Nat.le_of_ble_eq_true rfl⟩, Nat.le_of_ble_eq_true rfl⟩) hA w [0, 1] [2, 3] [2, 3, 0, 1] rfl rfl (by decide) (fun _ => rfl) (fun _ H locs w => ?_)
      refine lv_icmp_ge (tgt := 107) hx hb dX8_hour_10 (by decide) (fun c10 => ?_) (fun c10 => ?_)
      · have hf := pf_t c10 hf
        refine lv_iconst (v := 0) hx hb dX8_hour_107 (by decide) ?_
        refine lv_istore_n (lv' := [(2, .int 0), (0, .ref h0), (1, .int x1)]) hx hb dX8_hour_108 rfl hl (by decide) rfl (fun ls hl => ?_)
        obtain ⟨J138, hJ138, hf⟩ := pf_jn hf
        have kJ138 : ∀ (f6 : Nat → Int32) (H : Heap) (locs : List Loc) (ls : Array Slot), J138 f6 = some R → hm_W E A s.heap [oc8 h0 r_t t_base t_taped t_at t_faultPlace t_number t_newBits t_newTold t_newDoings t_newThings t_opened t_sum t_heldAll t_onPaper t_turned t_wasConverted t_lastBits t_lastSum t_lastHeld t_lastLeft t_lastCode t_writtenLong t_codeMany t_acts t_done0 t_stoppedAt, ic E (r_t 0) 800 f8, ic E (r_t 24) 12 f4, ic E (r_t 23) 90 f3] H locs → lv_has ls 4 [(0, .ref h0), (1, .int x1)] → W p l e (hm_rr 4 89 0 0) s m args below meth c H locs 0 0 Q (F0 m 138 ls []) := by
          intro f6 H locs ls hf w hl
          have hf := pf_j1 hJ138 hf
          refine lv_aload_n hx hb dX8_hour_138 rfl (lv_at hl 0 rfl) ?_
          refine lv_bipush (v := 8) hx hb dX8_hour_139 (by decide) ?_
          refine lv_aload_n hx hb dX8_hour_141 rfl (lv_at hl 0 rfl) ?_
          refine lv_bipush (v := 8) hx hb dX8_hour_142 (by decide) ?_
          obtain ⟨r7, hc144, hf⟩ := pf_bi_0 hf
          refine hm_aft_i (ws' := fun _ => [oc8 h0 r_t t_base t_taped t_at t_faultPlace t_number t_newBits t_newTold t_newDoings t_newThings t_opened t_sum t_heldAll t_onPaper t_turned t_wasConverted t_lastBits t_lastSum t_lastHeld t_lastLeft t_lastCode t_writtenLong t_codeMany t_acts t_done0 t_stoppedAt, ic E (r_t 0) 800 f6, ic E (r_t 24) 12 f4, ic E (r_t 23) 90 f3]) (hm_runV (rest := [.int 8, .ref h0]) hx hb hml hown X hA Y w 0 (ci := 7) (T := TX8) (N := 55) rfl rfl mw_X8_get ml_X8_221 dX8_hour_144 hm_ac0 [.int 8] rfl [0, 1] rfl rfl (ct_X8_get l E H.size h0 r_t t_base t_taped t_at t_faultPlace t_number t_newBits t_newTold t_newDoings t_newThings t_opened t_sum t_heldAll t_onPaper t_turned t_wasConverted t_lastBits t_lastSum t_lastHeld t_lastLeft t_lastCode t_writtenLong t_codeMany t_acts t_done0 t_stoppedAt f6 8 (r7, ()) hc144) rfl hl.1 ⟨⟨rfl, rfl⟩, ⟨Nat.le_of_ble_eq_true rfl, Nat.le_of_ble_eq_true rfl⟩, ⟨Nat.le_of_ble_eq_true rfl, Nat.le_of_ble_eq_true rfl⟩, Nat.le_of_ble_eq_true rfl⟩) hA w [0, 1] [2, 3] [2, 3, 0, 1] rfl rfl (by decide) (fun _ => rfl) (fun _ H locs w => ?_)
          refine lv_iconst (v := 1) hx hb dX8_hour_147 (by decide) ?_
          refine lv_iadd hx hb dX8_hour_148 ?_
          obtain ⟨f8, hc149, hf⟩ := pf_bv_1 hf
          refine hm_aft_v (ws' := fun _ => [oc8 h0 r_t t_base t_taped t_at t_faultPlace t_number t_newBits t_newTold t_newDoings t_newThings t_opened t_sum t_heldAll t_onPaper t_turned t_wasConverted t_lastBits t_lastSum t_lastHeld t_lastLeft t_lastCode t_writtenLong t_codeMany t_acts t_done0 t_stoppedAt, ic E (r_t 0) 800 f8, ic E (r_t 24) 12 f4, ic E (r_t 23) 90 f3]) (hm_runV (rest := []) hx hb hml hown X hA Y w 0 (ci := 7) (T := TX8) (N := 55) rfl rfl mw_X8_put ml_X8_119 dX8_hour_149 hm_ac0 [.int 8, .int (r7 + 1)] rfl [0, 1] rfl rfl (ct_X8_put l E H.size h0 r_t t_base t_taped t_at t_faultPlace t_number t_newBits t_newTold t_newDoings t_newThings t_opened t_sum t_heldAll t_onPaper t_turned t_wasConverted t_lastBits t_lastSum t_lastHeld t_lastLeft t_lastCode t_writtenLong t_codeMany t_acts t_done0 t_stoppedAt f6 8 (r7 + 1) f8 hc149) rfl hl.1 ⟨⟨rfl, rfl⟩, ⟨Nat.le_of_ble_eq_true rfl, Nat.le_of_ble_eq_true rfl⟩, ⟨Nat.le_of_ble_eq_true rfl, Nat.le_of_ble_eq_true rfl⟩, Nat.le_of_ble_eq_true rfl⟩) hA w [0, 1] [2, 3] [2, 3, 0, 1] rfl rfl (by decide) (fun _ => rfl) (fun _ H locs w => ?_)
          refine lv_iload_n hx hb dX8_hour_152 rfl (lv_at hl 1 rfl) ?_
          exact hQ _ _ _ _ _ (f8, f3, f4) (fun _ => 0) hf rfl w dX8_hour_153
        have klp_X8_hour_109 : ∀ (n : Nat) (x9 : Int32) (f10 : Nat → Int32) (H : Heap) (locs : List Loc) (ls : Array Slot), lp_X8_hour_109 t_base f4 J138 n x9 f10 = some R → hm_W E A s.heap [oc8 h0 r_t t_base t_taped t_at t_faultPlace t_number t_newBits t_newTold t_newDoings t_newThings t_opened t_sum t_heldAll t_onPaper t_turned t_wasConverted t_lastBits t_lastSum t_lastHeld t_lastLeft t_lastCode t_writtenLong t_codeMany t_acts t_done0 t_stoppedAt, ic E (r_t 0) 800 f10, ic E (r_t 24) 12 f4, ic E (r_t 23) 90 f3] H locs → lv_has ls 4 [(0, .ref h0), (1, .int x1), (2, .int x9)] → W p l e (hm_rr 4 89 0 0) s m args below meth c H locs 0 0 Q (F0 m 109 ls []) := by
          intro n
          induction n with
          | zero =>
            intro x9 f10 H locs ls hf w hl
            exact pf_no hf
          | succ n ih109 =>
            intro x9 f10 H locs ls hf w hl
            rw [lp_X8_hour_109] at hf
            refine lv_iload_n hx hb dX8_hour_109 rfl (lv_at hl 2 rfl) ?_
            refine lv_aload_n hx hb dX8_hour_110 rfl (lv_at hl 0 rfl) ?_
            refine lv_iconst (v := 0) hx hb dX8_hour_111 (by decide) ?_
            obtain ⟨r11, hc112, hf⟩ := pf_bi_0 hf
            refine hm_aft_i (ws' := fun _ => [oc8 h0 r_t t_base t_taped t_at t_faultPlace t_number t_newBits t_newTold t_newDoings t_newThings t_opened t_sum t_heldAll t_onPaper t_turned t_wasConverted t_lastBits t_lastSum t_lastHeld t_lastLeft t_lastCode t_writtenLong t_codeMany t_acts t_done0 t_stoppedAt, ic E (r_t 0) 800 f10, ic E (r_t 24) 12 f4, ic E (r_t 23) 90 f3]) (hm_runV (rest := [.int x9]) hx hb hml hown X hA Y w 0 (ci := 7) (T := TX8) (N := 55) rfl rfl mw_X8_get ml_X8_221 dX8_hour_112 hm_ac0 [.int 0] rfl [0, 1] rfl rfl (ct_X8_get l E H.size h0 r_t t_base t_taped t_at t_faultPlace t_number t_newBits t_newTold t_newDoings t_newThings t_opened t_sum t_heldAll t_onPaper t_turned t_wasConverted t_lastBits t_lastSum t_lastHeld t_lastLeft t_lastCode t_writtenLong t_codeMany t_acts t_done0 t_stoppedAt f10 0 (r11, ()) hc112) rfl hl.1 ⟨⟨rfl, rfl⟩, ⟨Nat.le_of_ble_eq_true rfl, Nat.le_of_ble_eq_true rfl⟩, ⟨Nat.le_of_ble_eq_true rfl, Nat.le_of_ble_eq_true rfl⟩, Nat.le_of_ble_eq_true rfl⟩) hA w [0, 1] [2, 3] [2, 3, 0, 1] rfl rfl (by decide) (fun _ => rfl) (fun _ H locs w => ?_)
            refine lv_icmp_ge (tgt := 138) hx hb dX8_hour_115 (by decide) (fun c115 => ?_) (fun c115 => ?_)
            · have hf := pf_t c115 hf
              exact kJ138 _ _ _ _ hf w (lv_sub hl [0, 1] rfl)
            · have hf := pf_e c115 hf
              refine lv_aload_n hx hb dX8_hour_118 rfl (lv_at hl 0 rfl) ?_
              refine lv_bipush (v := 21) hx hb dX8_hour_119 (by decide) ?_
              refine lv_iload_n hx hb dX8_hour_121 rfl (lv_at hl 2 rfl) ?_
              refine lv_iadd hx hb dX8_hour_122 ?_
              refine lv_aload_n hx hb dX8_hour_123 rfl (lv_at hl 0 rfl) ?_
              refine hm_get cb_X8 hx hb hown X w 0 24 fl_X8_64 dX8_hour_124 rfl (by decide) rfl ?_
              refine lv_iload_n hx hb dX8_hour_127 rfl (lv_at hl 2 rfl) ?_
              obtain ⟨g128, hf⟩ := pf_ckI hf
              refine hm_iald hx hb X w 2 dX8_hour_128 rfl g128 ?_
              obtain ⟨f12, hc129, hf⟩ := pf_bv_1 hf
              refine hm_aft_v (ws' := fun _ => [oc8 h0 r_t t_base t_taped t_at t_faultPlace t_number t_newBits t_newTold t_newDoings t_newThings t_opened t_sum t_heldAll t_onPaper t_turned t_wasConverted t_lastBits t_lastSum t_lastHeld t_lastLeft t_lastCode t_writtenLong t_codeMany t_acts t_done0 t_stoppedAt, ic E (r_t 0) 800 f12, ic E (r_t 24) 12 f4, ic E (r_t 23) 90 f3]) (hm_runV (rest := []) hx hb hml hown X hA Y w 0 (ci := 7) (T := TX8) (N := 55) rfl rfl mw_X8_put ml_X8_119 dX8_hour_129 hm_ac0 [.int (21 + x9), .int (f4 x9.toNatClampNeg)] rfl [0, 1] rfl rfl (ct_X8_put l E H.size h0 r_t t_base t_taped t_at t_faultPlace t_number t_newBits t_newTold t_newDoings t_newThings t_opened t_sum t_heldAll t_onPaper t_turned t_wasConverted t_lastBits t_lastSum t_lastHeld t_lastLeft t_lastCode t_writtenLong t_codeMany t_acts t_done0 t_stoppedAt f10 (21 + x9) (f4 x9.toNatClampNeg) f12 hc129) rfl hl.1 ⟨⟨rfl, rfl⟩, ⟨Nat.le_of_ble_eq_true rfl, Nat.le_of_ble_eq_true rfl⟩, ⟨Nat.le_of_ble_eq_true rfl, Nat.le_of_ble_eq_true rfl⟩, Nat.le_of_ble_eq_true rfl⟩) hA w [0, 1] [2, 3] [2, 3, 0, 1] rfl rfl (by decide) (fun _ => rfl) (fun _ H locs w => ?_)
              obtain ⟨x13, ex13⟩ : ∃ y : Int32, y = (x9 + 1) := ⟨_, rfl⟩
              have hf := pf_nm ex13 hf
              refine lv_iinc (v := x13) (lv' := [(2, .int x13), (0, .ref h0), (1, .int x1)]) hx hb dX8_hour_132 hl (k := 2) rfl (by rw [ex13]; rfl) (by decide) rfl (fun ls hl => ?_)
              refine lv_goto (tgt := 109) hx hb dX8_hour_135 (by decide) ?_
              exact ih109 _ _ _ _ _ hf w (lv_sub hl [1, 2, 0] rfl)
        exact klp_X8_hour_109 FU _ _ _ _ _ hf w (lv_sub hl [1, 2, 0] rfl)
      · have hf := pf_e c10 hf
        refine lv_aload_n hx hb dX8_hour_13 rfl (lv_at hl 0 rfl) ?_
        refine lv_bipush (v := 21) hx hb dX8_hour_14 (by decide) ?_
        refine lv_iload_n hx hb dX8_hour_16 rfl (lv_at hl 2 rfl) ?_
        refine lv_iadd hx hb dX8_hour_17 ?_
        obtain ⟨r14, hc18, hf⟩ := pf_bi_0 hf
        refine hm_aft_i (ws' := fun _ => [oc8 h0 r_t t_base t_taped t_at t_faultPlace t_number t_newBits t_newTold t_newDoings t_newThings t_opened t_sum t_heldAll t_onPaper t_turned t_wasConverted t_lastBits t_lastSum t_lastHeld t_lastLeft t_lastCode t_writtenLong t_codeMany t_acts t_done0 t_stoppedAt, ic E (r_t 0) 800 t_all, ic E (r_t 24) 12 f4, ic E (r_t 23) 90 f3]) (hm_runV (rest := []) hx hb hml hown X hA Y w 0 (ci := 7) (T := TX8) (N := 55) rfl rfl mw_X8_get ml_X8_221 dX8_hour_18 hm_ac0 [.int (21 + x2)] rfl [0, 1] rfl rfl (ct_X8_get l E H.size h0 r_t t_base t_taped t_at t_faultPlace t_number t_newBits t_newTold t_newDoings t_newThings t_opened t_sum t_heldAll t_onPaper t_turned t_wasConverted t_lastBits t_lastSum t_lastHeld t_lastLeft t_lastCode t_writtenLong t_codeMany t_acts t_done0 t_stoppedAt t_all (21 + x2) (r14, ()) hc18) rfl hl.1 ⟨⟨rfl, rfl⟩, ⟨Nat.le_of_ble_eq_true rfl, Nat.le_of_ble_eq_true rfl⟩, ⟨Nat.le_of_ble_eq_true rfl, Nat.le_of_ble_eq_true rfl⟩, Nat.le_of_ble_eq_true rfl⟩) hA w [0, 1] [2, 3] [2, 3, 0, 1] rfl rfl (by decide) (fun _ => rfl) (fun _ H locs w => ?_)
        refine lv_aload_n hx hb dX8_hour_21 rfl (lv_at hl 0 rfl) ?_
        refine lv_iload_n hx hb dX8_hour_22 rfl (lv_at hl 2 rfl) ?_
        obtain ⟨r15, f16, hc23, hf⟩ := pf_bi_1 hf
        refine hm_aft_i (ws' := fun _ => [oc8 h0 r_t t_base t_taped t_at t_faultPlace t_number t_newBits t_newTold t_newDoings t_newThings t_opened t_sum t_heldAll t_onPaper t_turned t_wasConverted t_lastBits t_lastSum t_lastHeld t_lastLeft t_lastCode t_writtenLong t_codeMany t_acts t_done0 t_stoppedAt, ic E (r_t 0) 800 t_all, ic E (r_t 24) 12 f4, ic E (r_t 23) 90 f16]) (hm_runV (rest := [.int r14]) hx hb hml hown X hA Y w 0 (ci := 7) (T := TX8) (N := 55) rfl rfl mw_X8_driftOf ml_X8_235 dX8_hour_23 hm_ac0 [.int x2] rfl [0, 1, 3] rfl rfl (ct_X8_driftOf l E H.size h0 r_t t_base t_taped t_at t_faultPlace t_number t_newBits t_newTold t_newDoings t_newThings t_opened t_sum t_heldAll t_onPaper t_turned t_wasConverted t_lastBits t_lastSum t_lastHeld t_lastLeft t_lastCode t_writtenLong t_codeMany t_acts t_done0 t_stoppedAt t_all f3 x2 (r15, f16) hc23) rfl hl.1 ⟨⟨rfl, rfl⟩, ⟨Nat.le_of_ble_eq_true rfl, Nat.le_of_ble_eq_true rfl⟩, ⟨Nat.le_of_ble_eq_true rfl, Nat.le_of_ble_eq_true rfl⟩, Nat.le_of_ble_eq_true rfl⟩) hA w [0, 1, 3] [2] [1, 2, 0, 3] rfl rfl (by decide) (fun _ => rfl) (fun _ H locs w => ?_)
        refine lv_bipush (v := (-9)) hx hb dX8_hour_26 (by decide) ?_
        refine lv_bipush (v := 9) hx hb dX8_hour_28 (by decide) ?_
        obtain ⟨r17, hc30, hf⟩ := pf_bi_0 hf
        refine hm_aft_i (ws' := fun _ => [oc8 h0 r_t t_base t_taped t_at t_faultPlace t_number t_newBits t_newTold t_newDoings t_newThings t_opened t_sum t_heldAll t_onPaper t_turned t_wasConverted t_lastBits t_lastSum t_lastHeld t_lastLeft t_lastCode t_writtenLong t_codeMany t_acts t_done0 t_stoppedAt, ic E (r_t 0) 800 t_all, ic E (r_t 24) 12 f4, ic E (r_t 23) 90 f16]) (hm_runS (rest := [.int r14]) hx hb hml hown X hA Y w mw_X8_held ml_X8_238 dX8_hour_30 hm_ac0 [.int r15, .int (-9), .int 9] rfl [] rfl rfl (ct_X8_held l E H.size r15 (-9) 9 (r17, ()) hc30) rfl hl.1 ⟨⟨rfl, rfl⟩, ⟨Nat.le_of_ble_eq_true rfl, Nat.le_of_ble_eq_true rfl⟩, ⟨Nat.le_of_ble_eq_true rfl, Nat.le_of_ble_eq_true rfl⟩, Nat.le_of_ble_eq_true rfl⟩) hA w [] [0, 1, 2, 3] [0, 1, 2, 3] rfl rfl (by decide) (fun _ => rfl) (fun _ H locs w => ?_)
        refine lv_iadd hx hb dX8_hour_33 ?_
        refine lv_bipush (v := (-99)) hx hb dX8_hour_34 (by decide) ?_
        refine lv_bipush (v := 99) hx hb dX8_hour_36 (by decide) ?_
        obtain ⟨r18, hc38, hf⟩ := pf_bi_0 hf
        refine hm_aft_i (ws' := fun _ => [oc8 h0 r_t t_base t_taped t_at t_faultPlace t_number t_newBits t_newTold t_newDoings t_newThings t_opened t_sum t_heldAll t_onPaper t_turned t_wasConverted t_lastBits t_lastSum t_lastHeld t_lastLeft t_lastCode t_writtenLong t_codeMany t_acts t_done0 t_stoppedAt, ic E (r_t 0) 800 t_all, ic E (r_t 24) 12 f4, ic E (r_t 23) 90 f16]) (hm_runS (rest := []) hx hb hml hown X hA Y w mw_X8_held ml_X8_238 dX8_hour_38 hm_ac0 [.int (r14 + r17), .int (-99), .int 99] rfl [] rfl rfl (ct_X8_held l E H.size (r14 + r17) (-99) 99 (r18, ()) hc38) rfl hl.1 ⟨⟨rfl, rfl⟩, ⟨Nat.le_of_ble_eq_true rfl, Nat.le_of_ble_eq_true rfl⟩, ⟨Nat.le_of_ble_eq_true rfl, Nat.le_of_ble_eq_true rfl⟩, Nat.le_of_ble_eq_true rfl⟩) hA w [] [0, 1, 2, 3] [0, 1, 2, 3] rfl rfl (by decide) (fun _ => rfl) (fun _ H locs w => ?_)
        refine lv_istore_n (lv' := [(3, .int r18), (0, .ref h0), (1, .int x1), (2, .int x2)]) hx hb dX8_hour_41 rfl hl (by decide) rfl (fun ls hl => ?_)
        refine lv_aload_n hx hb dX8_hour_42 rfl (lv_at hl 1 rfl) ?_
        refine hm_get cb_X8 hx hb hown X w 0 24 fl_X8_64 dX8_hour_43 rfl (by decide) rfl ?_
        refine lv_iload_n hx hb dX8_hour_46 rfl (lv_at hl 3 rfl) ?_
        refine lv_iload_n hx hb dX8_hour_47 rfl (lv_at hl 0 rfl) ?_
        refine lv_iconst (v := 1) hx hb dX8_hour_48 (by decide) ?_
        refine lv_aload_n hx hb dX8_hour_49 rfl (lv_at hl 1 rfl) ?_
        refine lv_bipush (v := 9) hx hb dX8_hour_50 (by decide) ?_
        refine lv_iload_n hx hb dX8_hour_52 rfl (lv_at hl 3 rfl) ?_
        refine lv_iadd hx hb dX8_hour_53 ?_
        obtain ⟨r19, hc54, hf⟩ := pf_bi_0 hf
        refine hm_aft_i (ws' := fun _ => [oc8 h0 r_t t_base t_taped t_at t_faultPlace t_number t_newBits t_newTold t_newDoings t_newThings t_opened t_sum t_heldAll t_onPaper t_turned t_wasConverted t_lastBits t_lastSum t_lastHeld t_lastLeft t_lastCode t_writtenLong t_codeMany t_acts t_done0 t_stoppedAt, ic E (r_t 0) 800 t_all, ic E (r_t 24) 12 f4, ic E (r_t 23) 90 f16]) (hm_runV (rest := [.int 1, .int r18, .int x2, .ref (r_t 24)]) hx hb hml hown X hA Y w 0 (ci := 7) (T := TX8) (N := 55) rfl rfl mw_X8_get ml_X8_221 dX8_hour_54 hm_ac0 [.int (9 + x2)] rfl [0, 1] rfl rfl (ct_X8_get l E H.size h0 r_t t_base t_taped t_at t_faultPlace t_number t_newBits t_newTold t_newDoings t_newThings t_opened t_sum t_heldAll t_onPaper t_turned t_wasConverted t_lastBits t_lastSum t_lastHeld t_lastLeft t_lastCode t_writtenLong t_codeMany t_acts t_done0 t_stoppedAt t_all (9 + x2) (r19, ()) hc54) rfl hl.1 ⟨⟨rfl, rfl⟩, ⟨Nat.le_of_ble_eq_true rfl, Nat.le_of_ble_eq_true rfl⟩, ⟨Nat.le_of_ble_eq_true rfl, Nat.le_of_ble_eq_true rfl⟩, Nat.le_of_ble_eq_true rfl⟩) hA w [0, 1] [2, 3] [2, 3, 0, 1] rfl rfl (by decide) (fun _ => rfl) (fun _ H locs w => ?_)
        refine lv_isub hx hb dX8_hour_57 ?_
        obtain ⟨J75, hJ75, hf⟩ := pf_jn hf
        have kJ75 : ∀ (x20 : Int32) (H : Heap) (locs : List Loc) (ls : Array Slot), J75 x20 = some R → hm_W E A s.heap [oc8 h0 r_t t_base t_taped t_at t_faultPlace t_number t_newBits t_newTold t_newDoings t_newThings t_opened t_sum t_heldAll t_onPaper t_turned t_wasConverted t_lastBits t_lastSum t_lastHeld t_lastLeft t_lastCode t_writtenLong t_codeMany t_acts t_done0 t_stoppedAt, ic E (r_t 0) 800 t_all, ic E (r_t 24) 12 (upd f4 x2.toNatClampNeg x20), ic E (r_t 23) 90 f16] H locs → lv_has ls 4 [(0, .ref h0), (1, .int x1), (2, .int x2)] → W p l e (hm_rr 4 89 0 0) s m args below meth c H locs 0 0 Q (F0 m 75 ls [.int x1]) := by
          intro x20 H locs ls hf w hl
          have hf := pf_j1 hJ75 hf
          obtain ⟨g75, hf⟩ := pf_ckI hf
          refine hm_iast (ws' := [oc8 h0 r_t t_base t_taped t_at t_faultPlace t_number t_newBits t_newTold t_newDoings t_newThings t_opened t_sum t_heldAll t_onPaper t_turned t_wasConverted t_lastBits t_lastSum t_lastHeld t_lastLeft t_lastCode t_writtenLong t_codeMany t_acts t_done0 t_stoppedAt, ic E (r_t 0) 800 t_all, ic E (r_t 24) 12 (upd f4 x2.toNatClampNeg x20), ic E (r_t 23) 90 f16]) hx hb X w 2 dX8_hour_75 rfl g75 rfl (fun H locs w => ?_)
          refine lv_iload_n hx hb dX8_hour_76 rfl (lv_at hl 1 rfl) ?_
          refine lv_aload_n hx hb dX8_hour_77 rfl (lv_at hl 0 rfl) ?_
          refine hm_get cb_X8 hx hb hown X w 0 24 fl_X8_64 dX8_hour_78 rfl (by decide) rfl ?_
          refine lv_iload_n hx hb dX8_hour_81 rfl (lv_at hl 2 rfl) ?_
          obtain ⟨g82, hf⟩ := pf_ckI hf
          refine hm_iald hx hb X w 2 dX8_hour_82 rfl g82 ?_
          refine lv_aload_n hx hb dX8_hour_83 rfl (lv_at hl 0 rfl) ?_
          refine lv_bipush (v := 21) hx hb dX8_hour_84 (by decide) ?_
          refine lv_iload_n hx hb dX8_hour_86 rfl (lv_at hl 2 rfl) ?_
          refine lv_iadd hx hb dX8_hour_87 ?_
          obtain ⟨r21, hc88, hf⟩ := pf_bi_0 hf
          refine hm_aft_i (ws' := fun _ => [oc8 h0 r_t t_base t_taped t_at t_faultPlace t_number t_newBits t_newTold t_newDoings t_newThings t_opened t_sum t_heldAll t_onPaper t_turned t_wasConverted t_lastBits t_lastSum t_lastHeld t_lastLeft t_lastCode t_writtenLong t_codeMany t_acts t_done0 t_stoppedAt, ic E (r_t 0) 800 t_all, ic E (r_t 24) 12 (upd f4 x2.toNatClampNeg x20), ic E (r_t 23) 90 f16]) (hm_runV (rest := [.int ((upd f4 x2.toNatClampNeg x20) x2.toNatClampNeg), .int x1]) hx hb hml hown X hA Y w 0 (ci := 7) (T := TX8) (N := 55) rfl rfl mw_X8_get ml_X8_221 dX8_hour_88 hm_ac0 [.int (21 + x2)] rfl [0, 1] rfl rfl (ct_X8_get l E H.size h0 r_t t_base t_taped t_at t_faultPlace t_number t_newBits t_newTold t_newDoings t_newThings t_opened t_sum t_heldAll t_onPaper t_turned t_wasConverted t_lastBits t_lastSum t_lastHeld t_lastLeft t_lastCode t_writtenLong t_codeMany t_acts t_done0 t_stoppedAt t_all (21 + x2) (r21, ()) hc88) rfl hl.1 ⟨⟨rfl, rfl⟩, ⟨Nat.le_of_ble_eq_true rfl, Nat.le_of_ble_eq_true rfl⟩, ⟨Nat.le_of_ble_eq_true rfl, Nat.le_of_ble_eq_true rfl⟩, Nat.le_of_ble_eq_true rfl⟩) hA w [0, 1] [2, 3] [2, 3, 0, 1] rfl rfl (by decide) (fun _ => rfl) (fun _ H locs w => ?_)
          refine lv_icmp_eq (tgt := 98) hx hb dX8_hour_91 (by decide) (fun c91 => ?_) (fun c91 => ?_)
          · have hf := pf_t c91 hf
            refine lv_iconst (v := 0) hx hb dX8_hour_98 (by decide) ?_
            refine lv_iadd hx hb dX8_hour_99 ?_
            refine lv_topi (fun x22 ex22 => ?_)
            have hf := pf_nm ex22 hf
            refine lv_istore_n (lv' := [(1, .int x22), (0, .ref h0), (2, .int x2)]) hx hb dX8_hour_100 rfl hl (by decide) rfl (fun ls hl => ?_)
            obtain ⟨x23, ex23⟩ : ∃ y : Int32, y = (x2 + 1) := ⟨_, rfl⟩
            have hf := pf_nm ex23 hf
            refine lv_iinc (v := x23) (lv' := [(2, .int x23), (1, .int x22), (0, .ref h0)]) hx hb dX8_hour_101 hl (k := 2) rfl (by rw [ex23]; rfl) (by decide) rfl (fun ls hl => ?_)
            refine lv_goto (tgt := 4) hx hb dX8_hour_104 (by decide) ?_
            exact ih4 _ _ _ _ _ _ _ hf w (lv_sub hl [2, 1, 0] rfl)
          · have hf := pf_e c91 hf
            refine lv_iconst (v := 1) hx hb dX8_hour_94 (by decide) ?_
            refine lv_goto (tgt := 99) hx hb dX8_hour_95 (by decide) ?_
            refine lv_iadd hx hb dX8_hour_99 ?_
            refine lv_topi (fun x24 ex24 => ?_)
            have hf := pf_nm ex24 hf
            refine lv_istore_n (lv' := [(1, .int x24), (0, .ref h0), (2, .int x2)]) hx hb dX8_hour_100 rfl hl (by decide) rfl (fun ls hl => ?_)
            obtain ⟨x25, ex25⟩ : ∃ y : Int32, y = (x2 + 1) := ⟨_, rfl⟩
            have hf := pf_nm ex25 hf
            refine lv_iinc (v := x25) (lv' := [(2, .int x25), (1, .int x24), (0, .ref h0)]) hx hb dX8_hour_101 hl (k := 2) rfl (by rw [ex25]; rfl) (by decide) rfl (fun ls hl => ?_)
            refine lv_goto (tgt := 4) hx hb dX8_hour_104 (by decide) ?_
            exact ih4 _ _ _ _ _ _ _ hf w (lv_sub hl [2, 1, 0] rfl)
        refine lv_icmp_ge (tgt := 74) hx hb dX8_hour_58 (by decide) (fun c58 => ?_) (fun c58 => ?_)
        · have hf := pf_t c58 hf
          refine lv_iload_n hx hb dX8_hour_74 rfl (lv_at hl 0 rfl) ?_
          exact kJ75 _ _ _ _ hf w (lv_sub hl [1, 2, 3] rfl)
        · have hf := pf_e c58 hf
          refine lv_iconst (v := 1) hx hb dX8_hour_61 (by decide) ?_
          refine lv_aload_n hx hb dX8_hour_62 rfl (lv_at hl 1 rfl) ?_
          refine lv_bipush (v := 9) hx hb dX8_hour_63 (by decide) ?_
          refine lv_iload_n hx hb dX8_hour_65 rfl (lv_at hl 3 rfl) ?_
          refine lv_iadd hx hb dX8_hour_66 ?_
          obtain ⟨r26, hc67, hf⟩ := pf_bi_0 hf
          refine hm_aft_i (ws' := fun _ => [oc8 h0 r_t t_base t_taped t_at t_faultPlace t_number t_newBits t_newTold t_newDoings t_newThings t_opened t_sum t_heldAll t_onPaper t_turned t_wasConverted t_lastBits t_lastSum t_lastHeld t_lastLeft t_lastCode t_writtenLong t_codeMany t_acts t_done0 t_stoppedAt, ic E (r_t 0) 800 t_all, ic E (r_t 24) 12 f4, ic E (r_t 23) 90 f16]) (hm_runV (rest := [.int 1, .int x2, .ref (r_t 24)]) hx hb hml hown X hA Y w 0 (ci := 7) (T := TX8) (N := 55) rfl rfl mw_X8_get ml_X8_221 dX8_hour_67 hm_ac0 [.int (9 + x2)] rfl [0, 1] rfl rfl (ct_X8_get l E H.size h0 r_t t_base t_taped t_at t_faultPlace t_number t_newBits t_newTold t_newDoings t_newThings t_opened t_sum t_heldAll t_onPaper t_turned t_wasConverted t_lastBits t_lastSum t_lastHeld t_lastLeft t_lastCode t_writtenLong t_codeMany t_acts t_done0 t_stoppedAt t_all (9 + x2) (r26, ()) hc67) rfl hl.1 ⟨⟨rfl, rfl⟩, ⟨Nat.le_of_ble_eq_true rfl, Nat.le_of_ble_eq_true rfl⟩, ⟨Nat.le_of_ble_eq_true rfl, Nat.le_of_ble_eq_true rfl⟩, Nat.le_of_ble_eq_true rfl⟩) hA w [0, 1] [2, 3] [2, 3, 0, 1] rfl rfl (by decide) (fun _ => rfl) (fun _ H locs w => ?_)
          refine lv_isub hx hb dX8_hour_70 ?_
          refine lv_goto (tgt := 75) hx hb dX8_hour_71 (by decide) ?_
          exact kJ75 _ _ _ _ hf w (lv_sub hl [1, 2, 3] rfl)
  exact klp_X8_hour_4 FU _ _ _ _ _ _ _ hf w (lv_sub hl [2, 1, 0] rfl)
set_option maxHeartbeats 8000000 in
set_option maxRecDepth 100000 in
theorem ct_X8_pass (l : Launch) (E : hm_E) (sz : Nat) (h0 : Nat) (r_t : Nat → Nat) (t_base t_taped t_at t_faultPlace t_number t_newBits t_newTold t_newDoings t_newThings t_opened t_sum t_heldAll t_onPaper t_turned t_wasConverted t_lastBits t_lastSum t_lastHeld t_lastLeft t_lastCode t_writtenLong t_codeMany t_acts t_done0 t_stoppedAt : Int32) (t_all : Nat → Int32) (t_nextOff : Nat → Int32) (t_pile : Nat → Int32) (a1 : Int32) (R : Int32 × (Nat → Int32) × (Nat → Int32) × (Nat → Int32)) (hf : pf_X8_pass a1 t_all t_base t_pile t_nextOff = some R) : hm_Mi l E yX8_pass cX8_pass 4 .int [] (hm_rr 5 112 0 0) [.ref h0, .int a1] sz [oc8 h0 r_t t_base t_taped t_at t_faultPlace t_number t_newBits t_newTold t_newDoings t_newThings t_opened t_sum t_heldAll t_onPaper t_turned t_wasConverted t_lastBits t_lastSum t_lastHeld t_lastLeft t_lastCode t_writtenLong t_codeMany t_acts t_done0 t_stoppedAt, ic E (r_t 0) 800 t_all, ic E (r_t 24) 12 t_nextOff, ic E (r_t 23) 90 t_pile] R.1 (fun _ => [oc8 h0 r_t t_base t_taped t_at t_faultPlace t_number t_newBits t_newTold t_newDoings t_newThings t_opened t_sum t_heldAll t_onPaper t_turned t_wasConverted t_lastBits t_lastSum t_lastHeld t_lastLeft t_lastCode t_writtenLong t_codeMany t_acts t_done0 t_stoppedAt, ic E (r_t 0) 800 (R.2.1), ic E (r_t 24) 12 (R.2.2.2), ic E (r_t 23) 90 (R.2.2.1)]) := by
  refine hm_ct_i R (fun u _ => [oc8 h0 r_t t_base t_taped t_at t_faultPlace t_number t_newBits t_newTold t_newDoings t_newThings t_opened t_sum t_heldAll t_onPaper t_turned t_wasConverted t_lastBits t_lastSum t_lastHeld t_lastLeft t_lastCode t_writtenLong t_codeMany t_acts t_done0 t_stoppedAt, ic E (r_t 0) 800 (u.1), ic E (r_t 24) 12 (u.2.2), ic E (r_t 23) 90 (u.2.1)]) (by decide) (Nat.le_of_ble_eq_true rfl) (Or.inl rfl) ?_
  intro p e s m args below meth c A Q ls H locs hx hb hml hown X hA Y hex w hl hQ
  have hl : lv_has ls 4 [(0, .ref h0), (1, .int a1)] := hl
  unfold pf_X8_pass at hf
  refine lv_iload_n hx hb dX8_pass_0 rfl (lv_at hl 1 rfl) ?_
  refine lv_iconst (v := 1) hx hb dX8_pass_1 (by decide) ?_
  refine lv_bipush (v := 100) hx hb dX8_pass_2 (by decide) ?_
  obtain ⟨r1, hc4, hf⟩ := pf_bi_0 hf
  refine hm_aft_i (ws' := fun _ => [oc8 h0 r_t t_base t_taped t_at t_faultPlace t_number t_newBits t_newTold t_newDoings t_newThings t_opened t_sum t_heldAll t_onPaper t_turned t_wasConverted t_lastBits t_lastSum t_lastHeld t_lastLeft t_lastCode t_writtenLong t_codeMany t_acts t_done0 t_stoppedAt, ic E (r_t 0) 800 t_all, ic E (r_t 24) 12 t_nextOff, ic E (r_t 23) 90 t_pile]) (hm_runS (rest := []) hx hb hml hown X hA Y w mw_X8_isIn ml_X8_129 dX8_pass_4 hm_ac0 [.int a1, .int 1, .int 100] rfl [] rfl rfl (ct_X8_isIn l E H.size a1 1 100 (r1, ()) hc4) rfl hl.1 ⟨⟨rfl, rfl⟩, ⟨Nat.le_of_ble_eq_true rfl, Nat.le_of_ble_eq_true rfl⟩, ⟨Nat.le_of_ble_eq_true rfl, Nat.le_of_ble_eq_true rfl⟩, Nat.le_of_ble_eq_true rfl⟩) hA w [] [0, 1, 2, 3] [0, 1, 2, 3] rfl rfl (by decide) (fun _ => rfl) (fun _ H locs w => ?_)
  refine lv_if_ne (tgt := 12) hx hb dX8_pass_7 (by decide) (fun c7 => ?_) (fun c7 => ?_)
  · have hf := pf_e c7 hf
    refine lv_iconst (v := 0) hx hb dX8_pass_12 (by decide) ?_
    refine lv_istore_n (lv' := [(2, .int 0), (0, .ref h0), (1, .int a1)]) hx hb dX8_pass_13 rfl hl (by decide) rfl (fun ls hl => ?_)
    refine lv_iconst (v := 0) hx hb dX8_pass_14 (by decide) ?_
    refine lv_istore_n (lv' := [(3, .int 0), (2, .int 0), (0, .ref h0), (1, .int a1)]) hx hb dX8_pass_15 rfl hl (by decide) rfl (fun ls hl => ?_)
    have klp_X8_pass_16 : ∀ (n : Nat) (x2 : Int32) (x3 : Int32) (f4 : Nat → Int32) (f5 : Nat → Int32) (f6 : Nat → Int32) (H : Heap) (locs : List Loc) (ls : Array Slot), lp_X8_pass_16 a1 t_base n x2 x3 f4 f5 f6 = some R → hm_W E A s.heap [oc8 h0 r_t t_base t_taped t_at t_faultPlace t_number t_newBits t_newTold t_newDoings t_newThings t_opened t_sum t_heldAll t_onPaper t_turned t_wasConverted t_lastBits t_lastSum t_lastHeld t_lastLeft t_lastCode t_writtenLong t_codeMany t_acts t_done0 t_stoppedAt, ic E (r_t 0) 800 f4, ic E (r_t 24) 12 f6, ic E (r_t 23) 90 f5] H locs → lv_has ls 4 [(0, .ref h0), (1, .int a1), (2, .int x2), (3, .int x3)] → W p l e (hm_rr 5 112 0 0) s m args below meth c H locs 0 0 Q (F0 m 16 ls []) := by
      intro n
      induction n with
      | zero =>
        intro x2 x3 f4 f5 f6 H locs ls hf w hl
        exact pf_no hf
      | succ n ih16 =>
        intro x2 x3 f4 f5 f6 H locs ls hf w hl
        rw [lp_X8_pass_16] at hf
        refine lv_iload_n hx hb dX8_pass_16 rfl (lv_at hl 3 rfl) ?_
        refine lv_iload_n hx hb dX8_pass_17 rfl (lv_at hl 1 rfl) ?_
        refine lv_icmp_ge (tgt := 34) hx hb dX8_pass_18 (by decide) (fun c18 => ?_) (fun c18 => ?_)
        · have hf := pf_t c18 hf
          refine lv_iload_n hx hb dX8_pass_34 rfl (lv_at hl 2 rfl) ?_
          exact hQ _ _ _ _ _ (f4, f5, f6) (fun _ => 0) hf rfl w dX8_pass_35
        · have hf := pf_e c18 hf
          refine lv_iload_n hx hb dX8_pass_21 rfl (lv_at hl 2 rfl) ?_
          refine lv_aload_n hx hb dX8_pass_22 rfl (lv_at hl 0 rfl) ?_
          obtain ⟨r7, f8, f9, f10, hc23, hf⟩ := pf_bi_3 hf
          refine hm_aft_i (ws' := fun _ => [oc8 h0 r_t t_base t_taped t_at t_faultPlace t_number t_newBits t_newTold t_newDoings t_newThings t_opened t_sum t_heldAll t_onPaper t_turned t_wasConverted t_lastBits t_lastSum t_lastHeld t_lastLeft t_lastCode t_writtenLong t_codeMany t_acts t_done0 t_stoppedAt, ic E (r_t 0) 800 f8, ic E (r_t 24) 12 f10, ic E (r_t 23) 90 f9]) (hm_runV (rest := [.int x2]) hx hb hml hown X hA Y w 0 (ci := 7) (T := TX8) (N := 55) rfl rfl mw_X8_hour ml_X8_241 dX8_pass_23 hm_ac0 [] rfl [0, 1, 2, 3] rfl rfl (ct_X8_hour l E H.size h0 r_t t_base t_taped t_at t_faultPlace t_number t_newBits t_newTold t_newDoings t_newThings t_opened t_sum t_heldAll t_onPaper t_turned t_wasConverted t_lastBits t_lastSum t_lastHeld t_lastLeft t_lastCode t_writtenLong t_codeMany t_acts t_done0 t_stoppedAt f4 f6 f5 (r7, f8, f9, f10) hc23) rfl hl.1 ⟨⟨rfl, rfl⟩, ⟨Nat.le_of_ble_eq_true rfl, Nat.le_of_ble_eq_true rfl⟩, ⟨Nat.le_of_ble_eq_true rfl, Nat.le_of_ble_eq_true rfl⟩, Nat.le_of_ble_eq_true rfl⟩) hA w [0, 1, 2, 3] [] [0, 1, 2, 3] rfl rfl (by decide) (fun _ => rfl) (fun _ H locs w => ?_)
          refine lv_iadd hx hb dX8_pass_26 ?_
          refine lv_topi (fun x11 ex11 => ?_)
          have hf := pf_nm ex11 hf
          refine lv_istore_n (lv' := [(2, .int x11), (0, .ref h0), (1, .int a1), (3, .int x3)]) hx hb dX8_pass_27 rfl hl (by decide) rfl (fun ls hl => ?_)
          obtain ⟨x12, ex12⟩ : ∃ y : Int32, y = (x3 + 1) := ⟨_, rfl⟩
          have hf := pf_nm ex12 hf
          refine lv_iinc (v := x12) (lv' := [(3, .int x12), (2, .int x11), (0, .ref h0), (1, .int a1)]) hx hb dX8_pass_28 hl (k := 3) rfl (by rw [ex12]; rfl) (by decide) rfl (fun ls hl => ?_)
          refine lv_goto (tgt := 16) hx hb dX8_pass_31 (by decide) ?_
          exact ih16 _ _ _ _ _ _ _ _ hf w (lv_sub hl [2, 3, 1, 0] rfl)
    exact klp_X8_pass_16 FU _ _ _ _ _ _ _ _ hf w (lv_sub hl [2, 3, 1, 0] rfl)
  · have hf := pf_t c7 hf
    refine lv_iconst (v := (-1)) hx hb dX8_pass_10 (by decide) ?_
    exact hQ _ _ _ _ _ (t_all, t_pile, t_nextOff) (fun _ => 0) hf rfl w dX8_pass_11
set_option maxHeartbeats 8000000 in
set_option maxRecDepth 100000 in
theorem ct_X8_heat (l : Launch) (E : hm_E) (sz : Nat) (h0 : Nat) (r_t : Nat → Nat) (t_base t_taped t_at t_faultPlace t_number t_newBits t_newTold t_newDoings t_newThings t_opened t_sum t_heldAll t_onPaper t_turned t_wasConverted t_lastBits t_lastSum t_lastHeld t_lastLeft t_lastCode t_writtenLong t_codeMany t_acts t_done0 t_stoppedAt : Int32) (t_all : Nat → Int32) (a1 : Int32) (R : Int32 × (Nat → Int32)) (hf : pf_X8_heat a1 t_all t_base = some R) : hm_Mi l E yX8_heat cX8_heat 2 .boolean [] (hm_rr 1 22 0 0) [.ref h0, .int a1] sz [oc8 h0 r_t t_base t_taped t_at t_faultPlace t_number t_newBits t_newTold t_newDoings t_newThings t_opened t_sum t_heldAll t_onPaper t_turned t_wasConverted t_lastBits t_lastSum t_lastHeld t_lastLeft t_lastCode t_writtenLong t_codeMany t_acts t_done0 t_stoppedAt, ic E (r_t 0) 800 t_all] R.1 (fun _ => [oc8 h0 r_t t_base t_taped t_at t_faultPlace t_number t_newBits t_newTold t_newDoings t_newThings t_opened t_sum t_heldAll t_onPaper t_turned t_wasConverted t_lastBits t_lastSum t_lastHeld t_lastLeft t_lastCode t_writtenLong t_codeMany t_acts t_done0 t_stoppedAt, ic E (r_t 0) 800 R.2]) := by
  refine hm_ct_i R (fun u _ => [oc8 h0 r_t t_base t_taped t_at t_faultPlace t_number t_newBits t_newTold t_newDoings t_newThings t_opened t_sum t_heldAll t_onPaper t_turned t_wasConverted t_lastBits t_lastSum t_lastHeld t_lastLeft t_lastCode t_writtenLong t_codeMany t_acts t_done0 t_stoppedAt, ic E (r_t 0) 800 u]) (by decide) (Nat.le_of_ble_eq_true rfl) (Or.inr rfl) ?_
  intro p e s m args below meth c A Q ls H locs hx hb hml hown X hA Y hex w hl hQ
  have hl : lv_has ls 2 [(0, .ref h0), (1, .int a1)] := hl
  unfold pf_X8_heat at hf
  refine lv_iload_n hx hb dX8_heat_0 rfl (lv_at hl 1 rfl) ?_
  refine lv_iconst (v := 0) hx hb dX8_heat_1 (by decide) ?_
  refine lv_bipush (v := 99) hx hb dX8_heat_2 (by decide) ?_
  obtain ⟨r1, hc4, hf⟩ := pf_bi_0 hf
  refine hm_aft_i (ws' := fun _ => [oc8 h0 r_t t_base t_taped t_at t_faultPlace t_number t_newBits t_newTold t_newDoings t_newThings t_opened t_sum t_heldAll t_onPaper t_turned t_wasConverted t_lastBits t_lastSum t_lastHeld t_lastLeft t_lastCode t_writtenLong t_codeMany t_acts t_done0 t_stoppedAt, ic E (r_t 0) 800 t_all]) (hm_runS (rest := []) hx hb hml hown X hA Y w mw_X8_isIn ml_X8_129 dX8_heat_4 hm_ac0 [.int a1, .int 0, .int 99] rfl [] rfl rfl (ct_X8_isIn l E H.size a1 0 99 (r1, ()) hc4) rfl hl.1 ⟨⟨rfl, rfl⟩, ⟨Nat.le_of_ble_eq_true rfl, Nat.le_of_ble_eq_true rfl⟩, ⟨Nat.le_of_ble_eq_true rfl, Nat.le_of_ble_eq_true rfl⟩, Nat.le_of_ble_eq_true rfl⟩) hA w [] [0, 1] [0, 1] rfl rfl (by decide) (fun _ => rfl) (fun _ H locs w => ?_)
  refine lv_if_ne (tgt := 12) hx hb dX8_heat_7 (by decide) (fun c7 => ?_) (fun c7 => ?_)
  · have hf := pf_e c7 hf
    refine lv_aload_n hx hb dX8_heat_12 rfl (lv_at hl 0 rfl) ?_
    refine lv_bipush (v := 7) hx hb dX8_heat_13 (by decide) ?_
    refine lv_iload_n hx hb dX8_heat_15 rfl (lv_at hl 1 rfl) ?_
    obtain ⟨f2, hc16, hf⟩ := pf_bv_1 hf
    refine hm_aft_v (ws' := fun _ => [oc8 h0 r_t t_base t_taped t_at t_faultPlace t_number t_newBits t_newTold t_newDoings t_newThings t_opened t_sum t_heldAll t_onPaper t_turned t_wasConverted t_lastBits t_lastSum t_lastHeld t_lastLeft t_lastCode t_writtenLong t_codeMany t_acts t_done0 t_stoppedAt, ic E (r_t 0) 800 f2]) (hm_runV (rest := []) hx hb hml hown X hA Y w 0 (ci := 7) (T := TX8) (N := 55) rfl rfl mw_X8_put ml_X8_119 dX8_heat_16 hm_ac0 [.int 7, .int a1] rfl [0, 1] rfl rfl (ct_X8_put l E H.size h0 r_t t_base t_taped t_at t_faultPlace t_number t_newBits t_newTold t_newDoings t_newThings t_opened t_sum t_heldAll t_onPaper t_turned t_wasConverted t_lastBits t_lastSum t_lastHeld t_lastLeft t_lastCode t_writtenLong t_codeMany t_acts t_done0 t_stoppedAt t_all 7 a1 f2 hc16) rfl hl.1 ⟨⟨rfl, rfl⟩, ⟨Nat.le_of_ble_eq_true rfl, Nat.le_of_ble_eq_true rfl⟩, ⟨Nat.le_of_ble_eq_true rfl, Nat.le_of_ble_eq_true rfl⟩, Nat.le_of_ble_eq_true rfl⟩) hA w [0, 1] [] [0, 1] rfl rfl (by decide) (fun _ => rfl) (fun _ H locs w => ?_)
    refine lv_iconst (v := 1) hx hb dX8_heat_19 (by decide) ?_
    exact hQ _ _ _ _ _ f2 (fun _ => 0) hf rfl w dX8_heat_20
  · have hf := pf_t c7 hf
    refine lv_iconst (v := 0) hx hb dX8_heat_10 (by decide) ?_
    exact hQ _ _ _ _ _ t_all (fun _ => 0) hf rfl w dX8_heat_11
set_option maxHeartbeats 8000000 in
set_option maxRecDepth 100000 in
theorem ct_X8_sumOf (l : Launch) (E : hm_E) (sz : Nat) (h0 : Nat) (r_t : Nat → Nat) (t_base t_taped t_at t_faultPlace t_number t_newBits t_newTold t_newDoings t_newThings t_opened t_sum t_heldAll t_onPaper t_turned t_wasConverted t_lastBits t_lastSum t_lastHeld t_lastLeft t_lastCode t_writtenLong t_codeMany t_acts t_done0 t_stoppedAt : Int32) (t_all : Nat → Int32) (a1 : Int32) (a2 : Int32) (R : Int32 × Unit) (hf : pf_X8_sumOf a1 a2 t_all t_base = some R) : hm_Mi l E yX8_sumOf cX8_sumOf 5 .int [] (hm_rr 1 21 0 0) [.ref h0, .int a1, .int a2] sz [oc8 h0 r_t t_base t_taped t_at t_faultPlace t_number t_newBits t_newTold t_newDoings t_newThings t_opened t_sum t_heldAll t_onPaper t_turned t_wasConverted t_lastBits t_lastSum t_lastHeld t_lastLeft t_lastCode t_writtenLong t_codeMany t_acts t_done0 t_stoppedAt, ic E (r_t 0) 800 t_all] R.1 (fun _ => [oc8 h0 r_t t_base t_taped t_at t_faultPlace t_number t_newBits t_newTold t_newDoings t_newThings t_opened t_sum t_heldAll t_onPaper t_turned t_wasConverted t_lastBits t_lastSum t_lastHeld t_lastLeft t_lastCode t_writtenLong t_codeMany t_acts t_done0 t_stoppedAt, ic E (r_t 0) 800 t_all]) := by
  refine hm_ct_i R (fun u _ => [oc8 h0 r_t t_base t_taped t_at t_faultPlace t_number t_newBits t_newTold t_newDoings t_newThings t_opened t_sum t_heldAll t_onPaper t_turned t_wasConverted t_lastBits t_lastSum t_lastHeld t_lastLeft t_lastCode t_writtenLong t_codeMany t_acts t_done0 t_stoppedAt, ic E (r_t 0) 800 t_all]) (by decide) (Nat.le_of_ble_eq_true rfl) (Or.inl rfl) ?_
  intro p e s m args below meth c A Q ls H locs hx hb hml hown X hA Y hex w hl hQ
  have hl : lv_has ls 5 [(0, .ref h0), (1, .int a1), (2, .int a2)] := hl
  unfold pf_X8_sumOf at hf
  refine lv_iconst (v := 0) hx hb dX8_sumOf_0 (by decide) ?_
  refine lv_istore_n (lv' := [(3, .int 0), (0, .ref h0), (1, .int a1), (2, .int a2)]) hx hb dX8_sumOf_1 rfl hl (by decide) rfl (fun ls hl => ?_)
  refine lv_iconst (v := 0) hx hb dX8_sumOf_2 (by decide) ?_
  refine lv_istore (lv' := [(4, .int 0), (3, .int 0), (0, .ref h0), (1, .int a1), (2, .int a2)]) hx hb dX8_sumOf_3 hl (by decide) rfl (fun ls hl => ?_)
  have klp_X8_sumOf_5 : ∀ (n : Nat) (x1 : Int32) (x2 : Int32) (H : Heap) (locs : List Loc) (ls : Array Slot), lp_X8_sumOf_5 a1 a2 t_base t_all n x1 x2 = some R → hm_W E A s.heap [oc8 h0 r_t t_base t_taped t_at t_faultPlace t_number t_newBits t_newTold t_newDoings t_newThings t_opened t_sum t_heldAll t_onPaper t_turned t_wasConverted t_lastBits t_lastSum t_lastHeld t_lastLeft t_lastCode t_writtenLong t_codeMany t_acts t_done0 t_stoppedAt, ic E (r_t 0) 800 t_all] H locs → lv_has ls 5 [(0, .ref h0), (1, .int a1), (2, .int a2), (3, .int x1), (4, .int x2)] → W p l e (hm_rr 1 21 0 0) s m args below meth c H locs 0 0 Q (F0 m 5 ls []) := by
    intro n
    induction n with
    | zero =>
      intro x1 x2 H locs ls hf w hl
      exact pf_no hf
    | succ n ih5 =>
      intro x1 x2 H locs ls hf w hl
      rw [lp_X8_sumOf_5] at hf
      refine lv_iload hx hb dX8_sumOf_5 (lv_at hl 4 rfl) ?_
      refine lv_iload_n hx hb dX8_sumOf_7 rfl (lv_at hl 2 rfl) ?_
      refine lv_icmp_ge (tgt := 28) hx hb dX8_sumOf_8 (by decide) (fun c8 => ?_) (fun c8 => ?_)
      · have hf := pf_t c8 hf
        refine lv_iload_n hx hb dX8_sumOf_28 rfl (lv_at hl 3 rfl) ?_
        exact hQ _ _ _ _ _ () (fun _ => 0) hf rfl w dX8_sumOf_29
      · have hf := pf_e c8 hf
        refine lv_iload_n hx hb dX8_sumOf_11 rfl (lv_at hl 3 rfl) ?_
        refine lv_aload_n hx hb dX8_sumOf_12 rfl (lv_at hl 0 rfl) ?_
        refine lv_iload_n hx hb dX8_sumOf_13 rfl (lv_at hl 1 rfl) ?_
        refine lv_iload hx hb dX8_sumOf_14 (lv_at hl 4 rfl) ?_
        refine lv_iadd hx hb dX8_sumOf_16 ?_
        obtain ⟨r3, hc17, hf⟩ := pf_bi_0 hf
        refine hm_aft_i (ws' := fun _ => [oc8 h0 r_t t_base t_taped t_at t_faultPlace t_number t_newBits t_newTold t_newDoings t_newThings t_opened t_sum t_heldAll t_onPaper t_turned t_wasConverted t_lastBits t_lastSum t_lastHeld t_lastLeft t_lastCode t_writtenLong t_codeMany t_acts t_done0 t_stoppedAt, ic E (r_t 0) 800 t_all]) (hm_runV (rest := [.int x1]) hx hb hml hown X hA Y w 0 (ci := 7) (T := TX8) (N := 55) rfl rfl mw_X8_get ml_X8_221 dX8_sumOf_17 hm_ac0 [.int (a1 + x2)] rfl [0, 1] rfl rfl (ct_X8_get l E H.size h0 r_t t_base t_taped t_at t_faultPlace t_number t_newBits t_newTold t_newDoings t_newThings t_opened t_sum t_heldAll t_onPaper t_turned t_wasConverted t_lastBits t_lastSum t_lastHeld t_lastLeft t_lastCode t_writtenLong t_codeMany t_acts t_done0 t_stoppedAt t_all (a1 + x2) (r3, ()) hc17) rfl hl.1 ⟨⟨rfl, rfl⟩, ⟨Nat.le_of_ble_eq_true rfl, Nat.le_of_ble_eq_true rfl⟩, ⟨Nat.le_of_ble_eq_true rfl, Nat.le_of_ble_eq_true rfl⟩, Nat.le_of_ble_eq_true rfl⟩) hA w [0, 1] [] [0, 1] rfl rfl (by decide) (fun _ => rfl) (fun _ H locs w => ?_)
        refine lv_iadd hx hb dX8_sumOf_20 ?_
        refine lv_topi (fun x4 ex4 => ?_)
        have hf := pf_nm ex4 hf
        refine lv_istore_n (lv' := [(3, .int x4), (0, .ref h0), (1, .int a1), (2, .int a2), (4, .int x2)]) hx hb dX8_sumOf_21 rfl hl (by decide) rfl (fun ls hl => ?_)
        obtain ⟨x5, ex5⟩ : ∃ y : Int32, y = (x2 + 1) := ⟨_, rfl⟩
        have hf := pf_nm ex5 hf
        refine lv_iinc (v := x5) (lv' := [(4, .int x5), (3, .int x4), (0, .ref h0), (1, .int a1), (2, .int a2)]) hx hb dX8_sumOf_22 hl (k := 4) rfl (by rw [ex5]; rfl) (by decide) rfl (fun ls hl => ?_)
        refine lv_goto (tgt := 5) hx hb dX8_sumOf_25 (by decide) ?_
        exact ih5 _ _ _ _ _ hf w (lv_sub hl [2, 3, 4, 1, 0] rfl)
  exact klp_X8_sumOf_5 FU _ _ _ _ _ hf w (lv_sub hl [2, 3, 4, 1, 0] rfl)
set_option maxHeartbeats 8000000 in
set_option maxRecDepth 100000 in
theorem ct_X8_reach (l : Launch) (E : hm_E) (sz : Nat) (h0 : Nat) (r_t : Nat → Nat) (t_base t_taped t_at t_faultPlace t_number t_newBits t_newTold t_newDoings t_newThings t_opened t_sum t_heldAll t_onPaper t_turned t_wasConverted t_lastBits t_lastSum t_lastHeld t_lastLeft t_lastCode t_writtenLong t_codeMany t_acts t_done0 t_stoppedAt : Int32) (t_all : Nat → Int32) (a1 : Int32) (R : Int32 × Unit) (hf : pf_X8_reach a1 t_all t_base = some R) : hm_Mi l E yX8_reach cX8_reach 2 .int [] (hm_rr 2 45 0 0) [.ref h0, .int a1] sz [oc8 h0 r_t t_base t_taped t_at t_faultPlace t_number t_newBits t_newTold t_newDoings t_newThings t_opened t_sum t_heldAll t_onPaper t_turned t_wasConverted t_lastBits t_lastSum t_lastHeld t_lastLeft t_lastCode t_writtenLong t_codeMany t_acts t_done0 t_stoppedAt, ic E (r_t 0) 800 t_all] R.1 (fun _ => [oc8 h0 r_t t_base t_taped t_at t_faultPlace t_number t_newBits t_newTold t_newDoings t_newThings t_opened t_sum t_heldAll t_onPaper t_turned t_wasConverted t_lastBits t_lastSum t_lastHeld t_lastLeft t_lastCode t_writtenLong t_codeMany t_acts t_done0 t_stoppedAt, ic E (r_t 0) 800 t_all]) := by
  refine hm_ct_i R (fun u _ => [oc8 h0 r_t t_base t_taped t_at t_faultPlace t_number t_newBits t_newTold t_newDoings t_newThings t_opened t_sum t_heldAll t_onPaper t_turned t_wasConverted t_lastBits t_lastSum t_lastHeld t_lastLeft t_lastCode t_writtenLong t_codeMany t_acts t_done0 t_stoppedAt, ic E (r_t 0) 800 t_all]) (by decide) (Nat.le_of_ble_eq_true rfl) (Or.inl rfl) ?_
  intro p e s m args below meth c A Q ls H locs hx hb hml hown X hA Y hex w hl hQ
  have hl : lv_has ls 2 [(0, .ref h0), (1, .int a1)] := hl
  unfold pf_X8_reach at hf
  refine lv_aload_n hx hb dX8_reach_0 rfl (lv_at hl 0 rfl) ?_
  refine lv_bipush (v := 9) hx hb dX8_reach_1 (by decide) ?_
  refine lv_iload_n hx hb dX8_reach_3 rfl (lv_at hl 1 rfl) ?_
  obtain ⟨r1, hc4, hf⟩ := pf_bi_0 hf
  refine hm_aft_i (ws' := fun _ => [oc8 h0 r_t t_base t_taped t_at t_faultPlace t_number t_newBits t_newTold t_newDoings t_newThings t_opened t_sum t_heldAll t_onPaper t_turned t_wasConverted t_lastBits t_lastSum t_lastHeld t_lastLeft t_lastCode t_writtenLong t_codeMany t_acts t_done0 t_stoppedAt, ic E (r_t 0) 800 t_all]) (hm_runV (rest := []) hx hb hml hown X hA Y w 0 (ci := 7) (T := TX8) (N := 55) rfl rfl mw_X8_sumOf ml_X8_244 dX8_reach_4 hm_ac0 [.int 9, .int a1] rfl [0, 1] rfl rfl (ct_X8_sumOf l E H.size h0 r_t t_base t_taped t_at t_faultPlace t_number t_newBits t_newTold t_newDoings t_newThings t_opened t_sum t_heldAll t_onPaper t_turned t_wasConverted t_lastBits t_lastSum t_lastHeld t_lastLeft t_lastCode t_writtenLong t_codeMany t_acts t_done0 t_stoppedAt t_all 9 a1 (r1, ()) hc4) rfl hl.1 ⟨⟨rfl, rfl⟩, ⟨Nat.le_of_ble_eq_true rfl, Nat.le_of_ble_eq_true rfl⟩, ⟨Nat.le_of_ble_eq_true rfl, Nat.le_of_ble_eq_true rfl⟩, Nat.le_of_ble_eq_true rfl⟩) hA w [0, 1] [] [0, 1] rfl rfl (by decide) (fun _ => rfl) (fun _ H locs w => ?_)
  refine lv_aload_n hx hb dX8_reach_7 rfl (lv_at hl 0 rfl) ?_
  refine lv_bipush (v := 21) hx hb dX8_reach_8 (by decide) ?_
  refine lv_iload_n hx hb dX8_reach_10 rfl (lv_at hl 1 rfl) ?_
  obtain ⟨r2, hc11, hf⟩ := pf_bi_0 hf
  refine hm_aft_i (ws' := fun _ => [oc8 h0 r_t t_base t_taped t_at t_faultPlace t_number t_newBits t_newTold t_newDoings t_newThings t_opened t_sum t_heldAll t_onPaper t_turned t_wasConverted t_lastBits t_lastSum t_lastHeld t_lastLeft t_lastCode t_writtenLong t_codeMany t_acts t_done0 t_stoppedAt, ic E (r_t 0) 800 t_all]) (hm_runV (rest := [.int r1]) hx hb hml hown X hA Y w 0 (ci := 7) (T := TX8) (N := 55) rfl rfl mw_X8_sumOf ml_X8_244 dX8_reach_11 hm_ac0 [.int 21, .int a1] rfl [0, 1] rfl rfl (ct_X8_sumOf l E H.size h0 r_t t_base t_taped t_at t_faultPlace t_number t_newBits t_newTold t_newDoings t_newThings t_opened t_sum t_heldAll t_onPaper t_turned t_wasConverted t_lastBits t_lastSum t_lastHeld t_lastLeft t_lastCode t_writtenLong t_codeMany t_acts t_done0 t_stoppedAt t_all 21 a1 (r2, ()) hc11) rfl hl.1 ⟨⟨rfl, rfl⟩, ⟨Nat.le_of_ble_eq_true rfl, Nat.le_of_ble_eq_true rfl⟩, ⟨Nat.le_of_ble_eq_true rfl, Nat.le_of_ble_eq_true rfl⟩, Nat.le_of_ble_eq_true rfl⟩) hA w [0, 1] [] [0, 1] rfl rfl (by decide) (fun _ => rfl) (fun _ H locs w => ?_)
  refine lv_iadd hx hb dX8_reach_14 ?_
  exact hQ _ _ _ _ _ () (fun _ => 0) hf rfl w dX8_reach_15
set_option maxHeartbeats 8000000 in
set_option maxRecDepth 100000 in
theorem ct_X8_is (l : Launch) (E : hm_E) (sz : Nat) (h0 : Nat) (r_t : Nat → Nat) (t_base t_taped t_at t_faultPlace t_number t_newBits t_newTold t_newDoings t_newThings t_opened t_sum t_heldAll t_onPaper t_turned t_wasConverted t_lastBits t_lastSum t_lastHeld t_lastLeft t_lastCode t_writtenLong t_codeMany t_acts t_done0 t_stoppedAt : Int32) (t_all : Nat → Int32) (a1 : Int32) (R : Int32 × Unit) (hf : pf_X8_is a1 t_all t_base t_taped = some R) : hm_Mi l E yX8_is cX8_is 3 .int [] (hm_rr 3 66 0 0) [.ref h0, .int a1] sz [oc8 h0 r_t t_base t_taped t_at t_faultPlace t_number t_newBits t_newTold t_newDoings t_newThings t_opened t_sum t_heldAll t_onPaper t_turned t_wasConverted t_lastBits t_lastSum t_lastHeld t_lastLeft t_lastCode t_writtenLong t_codeMany t_acts t_done0 t_stoppedAt, ic E (r_t 0) 800 t_all] R.1 (fun _ => [oc8 h0 r_t t_base t_taped t_at t_faultPlace t_number t_newBits t_newTold t_newDoings t_newThings t_opened t_sum t_heldAll t_onPaper t_turned t_wasConverted t_lastBits t_lastSum t_lastHeld t_lastLeft t_lastCode t_writtenLong t_codeMany t_acts t_done0 t_stoppedAt, ic E (r_t 0) 800 t_all]) := by
  refine hm_ct_i R (fun u _ => [oc8 h0 r_t t_base t_taped t_at t_faultPlace t_number t_newBits t_newTold t_newDoings t_newThings t_opened t_sum t_heldAll t_onPaper t_turned t_wasConverted t_lastBits t_lastSum t_lastHeld t_lastLeft t_lastCode t_writtenLong t_codeMany t_acts t_done0 t_stoppedAt, ic E (r_t 0) 800 t_all]) (by decide) (Nat.le_of_ble_eq_true rfl) (Or.inl rfl) ?_
  intro p e s m args below meth c A Q ls H locs hx hb hml hown X hA Y hex w hl hQ
  have hl : lv_has ls 3 [(0, .ref h0), (1, .int a1)] := hl
  unfold pf_X8_is at hf
  refine lv_aload_n hx hb dX8_is_0 rfl (lv_at hl 0 rfl) ?_
  refine lv_iconst (v := 0) hx hb dX8_is_1 (by decide) ?_
  obtain ⟨r1, hc2, hf⟩ := pf_bi_0 hf
  refine hm_aft_i (ws' := fun _ => [oc8 h0 r_t t_base t_taped t_at t_faultPlace t_number t_newBits t_newTold t_newDoings t_newThings t_opened t_sum t_heldAll t_onPaper t_turned t_wasConverted t_lastBits t_lastSum t_lastHeld t_lastLeft t_lastCode t_writtenLong t_codeMany t_acts t_done0 t_stoppedAt, ic E (r_t 0) 800 t_all]) (hm_runV (rest := []) hx hb hml hown X hA Y w 0 (ci := 7) (T := TX8) (N := 55) rfl rfl mw_X8_get ml_X8_221 dX8_is_2 hm_ac0 [.int 0] rfl [0, 1] rfl rfl (ct_X8_get l E H.size h0 r_t t_base t_taped t_at t_faultPlace t_number t_newBits t_newTold t_newDoings t_newThings t_opened t_sum t_heldAll t_onPaper t_turned t_wasConverted t_lastBits t_lastSum t_lastHeld t_lastLeft t_lastCode t_writtenLong t_codeMany t_acts t_done0 t_stoppedAt t_all 0 (r1, ()) hc2) rfl hl.1 ⟨⟨rfl, rfl⟩, ⟨Nat.le_of_ble_eq_true rfl, Nat.le_of_ble_eq_true rfl⟩, ⟨Nat.le_of_ble_eq_true rfl, Nat.le_of_ble_eq_true rfl⟩, Nat.le_of_ble_eq_true rfl⟩) hA w [0, 1] [] [0, 1] rfl rfl (by decide) (fun _ => rfl) (fun _ H locs w => ?_)
  refine lv_istore_n (lv' := [(2, .int r1), (0, .ref h0), (1, .int a1)]) hx hb dX8_is_5 rfl hl (by decide) rfl (fun ls hl => ?_)
  refine lv_iload_n hx hb dX8_is_6 rfl (lv_at hl 2 rfl) ?_
  refine lv_iconst (v := 1) hx hb dX8_is_7 (by decide) ?_
  refine lv_bipush (v := 6) hx hb dX8_is_8 (by decide) ?_
  obtain ⟨r2, hc10, hf⟩ := pf_bi_0 hf
  refine hm_aft_i (ws' := fun _ => [oc8 h0 r_t t_base t_taped t_at t_faultPlace t_number t_newBits t_newTold t_newDoings t_newThings t_opened t_sum t_heldAll t_onPaper t_turned t_wasConverted t_lastBits t_lastSum t_lastHeld t_lastLeft t_lastCode t_writtenLong t_codeMany t_acts t_done0 t_stoppedAt, ic E (r_t 0) 800 t_all]) (hm_runS (rest := []) hx hb hml hown X hA Y w mw_X8_isIn ml_X8_129 dX8_is_10 hm_ac0 [.int a1, .int 1, .int 6] rfl [] rfl rfl (ct_X8_isIn l E H.size a1 1 6 (r2, ()) hc10) rfl hl.1 ⟨⟨rfl, rfl⟩, ⟨Nat.le_of_ble_eq_true rfl, Nat.le_of_ble_eq_true rfl⟩, ⟨Nat.le_of_ble_eq_true rfl, Nat.le_of_ble_eq_true rfl⟩, Nat.le_of_ble_eq_true rfl⟩) hA w [] [0, 1] [0, 1] rfl rfl (by decide) (fun _ => rfl) (fun _ H locs w => ?_)
  refine lv_if_eq (tgt := 22) hx hb dX8_is_13 (by decide) (fun c13 => ?_) (fun c13 => ?_)
  · have hf := pf_t c13 hf
    refine lv_iload_n hx hb dX8_is_22 rfl (lv_at hl 2 rfl) ?_
    by_cases c23_0 : a1 = 0
    · have hf := pf_t c23_0 hf
      refine lv_tableIn (off := 65) (tgt := 88) hx hb dX8_is_23 (by rw [c23_0]; decide) (by rw [c23_0]; decide) (by rw [c23_0]; rfl) (by decide) ?_
      refine lv_iload_n hx hb dX8_is_88 rfl (lv_at hl 0 rfl) ?_
      exact hQ _ _ _ _ _ () (fun _ => 0) hf rfl w dX8_is_89
    · have hf := pf_e c23_0 hf
      by_cases c23_1 : a1 = 1
      · have hf := pf_t c23_1 hf
        refine lv_tableIn (off := 107) (tgt := 130) hx hb dX8_is_23 (by rw [c23_1]; decide) (by rw [c23_1]; decide) (by rw [c23_1]; rfl) (by decide) ?_
        refine lv_ldc (v := (-100000)) hx hb hown (X.use ck_X8_250 rfl) dX8_is_130 ?_
        exact hQ _ _ _ _ _ () (fun _ => 0) hf rfl w dX8_is_132
      · have hf := pf_e c23_1 hf
        by_cases c23_2 : a1 = 2
        · have hf := pf_t c23_2 hf
          refine lv_tableIn (off := 107) (tgt := 130) hx hb dX8_is_23 (by rw [c23_2]; decide) (by rw [c23_2]; decide) (by rw [c23_2]; rfl) (by decide) ?_
          refine lv_ldc (v := (-100000)) hx hb hown (X.use ck_X8_250 rfl) dX8_is_130 ?_
          exact hQ _ _ _ _ _ () (fun _ => 0) hf rfl w dX8_is_132
        · have hf := pf_e c23_2 hf
          by_cases c23_3 : a1 = 3
          · have hf := pf_t c23_3 hf
            refine lv_tableIn (off := 107) (tgt := 130) hx hb dX8_is_23 (by rw [c23_3]; decide) (by rw [c23_3]; decide) (by rw [c23_3]; rfl) (by decide) ?_
            refine lv_ldc (v := (-100000)) hx hb hown (X.use ck_X8_250 rfl) dX8_is_130 ?_
            exact hQ _ _ _ _ _ () (fun _ => 0) hf rfl w dX8_is_132
          · have hf := pf_e c23_3 hf
            by_cases c23_4 : a1 = 4
            · have hf := pf_t c23_4 hf
              refine lv_tableIn (off := 107) (tgt := 130) hx hb dX8_is_23 (by rw [c23_4]; decide) (by rw [c23_4]; decide) (by rw [c23_4]; rfl) (by decide) ?_
              refine lv_ldc (v := (-100000)) hx hb hown (X.use ck_X8_250 rfl) dX8_is_130 ?_
              exact hQ _ _ _ _ _ () (fun _ => 0) hf rfl w dX8_is_132
            · have hf := pf_e c23_4 hf
              by_cases c23_5 : a1 = 5
              · have hf := pf_t c23_5 hf
                refine lv_tableIn (off := 107) (tgt := 130) hx hb dX8_is_23 (by rw [c23_5]; decide) (by rw [c23_5]; decide) (by rw [c23_5]; rfl) (by decide) ?_
                refine lv_ldc (v := (-100000)) hx hb hown (X.use ck_X8_250 rfl) dX8_is_130 ?_
                exact hQ _ _ _ _ _ () (fun _ => 0) hf rfl w dX8_is_132
              · have hf := pf_e c23_5 hf
                by_cases c23_6 : a1 = 6
                · have hf := pf_t c23_6 hf
                  refine lv_tableIn (off := 107) (tgt := 130) hx hb dX8_is_23 (by rw [c23_6]; decide) (by rw [c23_6]; decide) (by rw [c23_6]; rfl) (by decide) ?_
                  refine lv_ldc (v := (-100000)) hx hb hown (X.use ck_X8_250 rfl) dX8_is_130 ?_
                  exact hQ _ _ _ _ _ () (fun _ => 0) hf rfl w dX8_is_132
                · have hf := pf_e c23_6 hf
                  by_cases c23_7 : a1 = 7
                  · have hf := pf_t c23_7 hf
                    refine lv_tableIn (off := 67) (tgt := 90) hx hb dX8_is_23 (by rw [c23_7]; decide) (by rw [c23_7]; decide) (by rw [c23_7]; rfl) (by decide) ?_
                    refine lv_aload_n hx hb dX8_is_90 rfl (lv_at hl 1 rfl) ?_
                    refine lv_bipush (v := 57) hx hb dX8_is_91 (by decide) ?_
                    obtain ⟨r3, hc93, hf⟩ := pf_bi_0 hf
                    refine hm_aft_i (ws' := fun _ => [oc8 h0 r_t t_base t_taped t_at t_faultPlace t_number t_newBits t_newTold t_newDoings t_newThings t_opened t_sum t_heldAll t_onPaper t_turned t_wasConverted t_lastBits t_lastSum t_lastHeld t_lastLeft t_lastCode t_writtenLong t_codeMany t_acts t_done0 t_stoppedAt, ic E (r_t 0) 800 t_all]) (hm_runV (rest := []) hx hb hml hown X hA Y w 0 (ci := 7) (T := TX8) (N := 55) rfl rfl mw_X8_get ml_X8_221 dX8_is_93 hm_ac0 [.int 57] rfl [0, 1] rfl rfl (ct_X8_get l E H.size h0 r_t t_base t_taped t_at t_faultPlace t_number t_newBits t_newTold t_newDoings t_newThings t_opened t_sum t_heldAll t_onPaper t_turned t_wasConverted t_lastBits t_lastSum t_lastHeld t_lastLeft t_lastCode t_writtenLong t_codeMany t_acts t_done0 t_stoppedAt t_all 57 (r3, ()) hc93) rfl hl.1 ⟨⟨rfl, rfl⟩, ⟨Nat.le_of_ble_eq_true rfl, Nat.le_of_ble_eq_true rfl⟩, ⟨Nat.le_of_ble_eq_true rfl, Nat.le_of_ble_eq_true rfl⟩, Nat.le_of_ble_eq_true rfl⟩) hA w [0, 1] [] [0, 1] rfl rfl (by decide) (fun _ => rfl) (fun _ H locs w => ?_)
                    exact hQ _ _ _ _ _ () (fun _ => 0) hf rfl w dX8_is_96
                  · have hf := pf_e c23_7 hf
                    by_cases c23_8 : a1 = 8
                    · have hf := pf_t c23_8 hf
                      refine lv_tableIn (off := 74) (tgt := 97) hx hb dX8_is_23 (by rw [c23_8]; decide) (by rw [c23_8]; decide) (by rw [c23_8]; rfl) (by decide) ?_
                      refine lv_aload_n hx hb dX8_is_97 rfl (lv_at hl 1 rfl) ?_
                      refine hm_get cb_X8 hx hb hown X w 0 3 fl_X8_122 dX8_is_98 rfl (by decide) rfl ?_
                      exact hQ _ _ _ _ _ () (fun _ => 0) hf rfl w dX8_is_101
                    · have hf := pf_e c23_8 hf
                      by_cases c23_9 : a1 = 9
                      · have hf := pf_t c23_9 hf
                        refine lv_tableIn (off := 79) (tgt := 102) hx hb dX8_is_23 (by rw [c23_9]; decide) (by rw [c23_9]; decide) (by rw [c23_9]; rfl) (by decide) ?_
                        refine lv_aload_n hx hb dX8_is_102 rfl (lv_at hl 1 rfl) ?_
                        refine lv_iload_n hx hb dX8_is_103 rfl (lv_at hl 0 rfl) ?_
                        obtain ⟨r4, hc104, hf⟩ := pf_bi_0 hf
                        refine hm_aft_i (ws' := fun _ => [oc8 h0 r_t t_base t_taped t_at t_faultPlace t_number t_newBits t_newTold t_newDoings t_newThings t_opened t_sum t_heldAll t_onPaper t_turned t_wasConverted t_lastBits t_lastSum t_lastHeld t_lastLeft t_lastCode t_writtenLong t_codeMany t_acts t_done0 t_stoppedAt, ic E (r_t 0) 800 t_all]) (hm_runV (rest := []) hx hb hml hown X hA Y w 0 (ci := 7) (T := TX8) (N := 55) rfl rfl mw_X8_reach ml_X8_247 dX8_is_104 hm_ac0 [.int r1] rfl [0, 1] rfl rfl (ct_X8_reach l E H.size h0 r_t t_base t_taped t_at t_faultPlace t_number t_newBits t_newTold t_newDoings t_newThings t_opened t_sum t_heldAll t_onPaper t_turned t_wasConverted t_lastBits t_lastSum t_lastHeld t_lastLeft t_lastCode t_writtenLong t_codeMany t_acts t_done0 t_stoppedAt t_all r1 (r4, ()) hc104) rfl hl.1 ⟨⟨rfl, rfl⟩, ⟨Nat.le_of_ble_eq_true rfl, Nat.le_of_ble_eq_true rfl⟩, ⟨Nat.le_of_ble_eq_true rfl, Nat.le_of_ble_eq_true rfl⟩, Nat.le_of_ble_eq_true rfl⟩) hA w [0, 1] [] [0, 1] rfl rfl (by decide) (fun _ => rfl) (fun _ H locs w => ?_)
                        exact hQ _ _ _ _ _ () (fun _ => 0) hf rfl w dX8_is_107
                      · have hf := pf_e c23_9 hf
                        by_cases c23_10 : a1 = 10
                        · have hf := pf_t c23_10 hf
                          refine lv_tableIn (off := 85) (tgt := 108) hx hb dX8_is_23 (by rw [c23_10]; decide) (by rw [c23_10]; decide) (by rw [c23_10]; rfl) (by decide) ?_
                          refine lv_aload_n hx hb dX8_is_108 rfl (lv_at hl 1 rfl) ?_
                          refine lv_bipush (v := 33) hx hb dX8_is_109 (by decide) ?_
                          refine lv_iload_n hx hb dX8_is_111 rfl (lv_at hl 0 rfl) ?_
                          obtain ⟨r5, hc112, hf⟩ := pf_bi_0 hf
                          refine hm_aft_i (ws' := fun _ => [oc8 h0 r_t t_base t_taped t_at t_faultPlace t_number t_newBits t_newTold t_newDoings t_newThings t_opened t_sum t_heldAll t_onPaper t_turned t_wasConverted t_lastBits t_lastSum t_lastHeld t_lastLeft t_lastCode t_writtenLong t_codeMany t_acts t_done0 t_stoppedAt, ic E (r_t 0) 800 t_all]) (hm_runV (rest := []) hx hb hml hown X hA Y w 0 (ci := 7) (T := TX8) (N := 55) rfl rfl mw_X8_sumOf ml_X8_244 dX8_is_112 hm_ac0 [.int 33, .int r1] rfl [0, 1] rfl rfl (ct_X8_sumOf l E H.size h0 r_t t_base t_taped t_at t_faultPlace t_number t_newBits t_newTold t_newDoings t_newThings t_opened t_sum t_heldAll t_onPaper t_turned t_wasConverted t_lastBits t_lastSum t_lastHeld t_lastLeft t_lastCode t_writtenLong t_codeMany t_acts t_done0 t_stoppedAt t_all 33 r1 (r5, ()) hc112) rfl hl.1 ⟨⟨rfl, rfl⟩, ⟨Nat.le_of_ble_eq_true rfl, Nat.le_of_ble_eq_true rfl⟩, ⟨Nat.le_of_ble_eq_true rfl, Nat.le_of_ble_eq_true rfl⟩, Nat.le_of_ble_eq_true rfl⟩) hA w [0, 1] [] [0, 1] rfl rfl (by decide) (fun _ => rfl) (fun _ H locs w => ?_)
                          exact hQ _ _ _ _ _ () (fun _ => 0) hf rfl w dX8_is_115
                        · have hf := pf_e c23_10 hf
                          by_cases c23_11 : a1 = 11
                          · have hf := pf_t c23_11 hf
                            refine lv_tableIn (off := 93) (tgt := 116) hx hb dX8_is_23 (by rw [c23_11]; decide) (by rw [c23_11]; decide) (by rw [c23_11]; rfl) (by decide) ?_
                            refine lv_aload_n hx hb dX8_is_116 rfl (lv_at hl 1 rfl) ?_
                            refine lv_bipush (v := 7) hx hb dX8_is_117 (by decide) ?_
                            obtain ⟨r6, hc119, hf⟩ := pf_bi_0 hf
                            refine hm_aft_i (ws' := fun _ => [oc8 h0 r_t t_base t_taped t_at t_faultPlace t_number t_newBits t_newTold t_newDoings t_newThings t_opened t_sum t_heldAll t_onPaper t_turned t_wasConverted t_lastBits t_lastSum t_lastHeld t_lastLeft t_lastCode t_writtenLong t_codeMany t_acts t_done0 t_stoppedAt, ic E (r_t 0) 800 t_all]) (hm_runV (rest := []) hx hb hml hown X hA Y w 0 (ci := 7) (T := TX8) (N := 55) rfl rfl mw_X8_get ml_X8_221 dX8_is_119 hm_ac0 [.int 7] rfl [0, 1] rfl rfl (ct_X8_get l E H.size h0 r_t t_base t_taped t_at t_faultPlace t_number t_newBits t_newTold t_newDoings t_newThings t_opened t_sum t_heldAll t_onPaper t_turned t_wasConverted t_lastBits t_lastSum t_lastHeld t_lastLeft t_lastCode t_writtenLong t_codeMany t_acts t_done0 t_stoppedAt t_all 7 (r6, ()) hc119) rfl hl.1 ⟨⟨rfl, rfl⟩, ⟨Nat.le_of_ble_eq_true rfl, Nat.le_of_ble_eq_true rfl⟩, ⟨Nat.le_of_ble_eq_true rfl, Nat.le_of_ble_eq_true rfl⟩, Nat.le_of_ble_eq_true rfl⟩) hA w [0, 1] [] [0, 1] rfl rfl (by decide) (fun _ => rfl) (fun _ H locs w => ?_)
                            exact hQ _ _ _ _ _ () (fun _ => 0) hf rfl w dX8_is_122
                          · have hf := pf_e c23_11 hf
                            by_cases c23_12 : a1 = 12
                            · have hf := pf_t c23_12 hf
                              refine lv_tableIn (off := 100) (tgt := 123) hx hb dX8_is_23 (by rw [c23_12]; decide) (by rw [c23_12]; decide) (by rw [c23_12]; rfl) (by decide) ?_
                              refine lv_aload_n hx hb dX8_is_123 rfl (lv_at hl 1 rfl) ?_
                              refine lv_bipush (v := 8) hx hb dX8_is_124 (by decide) ?_
                              obtain ⟨r7, hc126, hf⟩ := pf_bi_0 hf
                              refine hm_aft_i (ws' := fun _ => [oc8 h0 r_t t_base t_taped t_at t_faultPlace t_number t_newBits t_newTold t_newDoings t_newThings t_opened t_sum t_heldAll t_onPaper t_turned t_wasConverted t_lastBits t_lastSum t_lastHeld t_lastLeft t_lastCode t_writtenLong t_codeMany t_acts t_done0 t_stoppedAt, ic E (r_t 0) 800 t_all]) (hm_runV (rest := []) hx hb hml hown X hA Y w 0 (ci := 7) (T := TX8) (N := 55) rfl rfl mw_X8_get ml_X8_221 dX8_is_126 hm_ac0 [.int 8] rfl [0, 1] rfl rfl (ct_X8_get l E H.size h0 r_t t_base t_taped t_at t_faultPlace t_number t_newBits t_newTold t_newDoings t_newThings t_opened t_sum t_heldAll t_onPaper t_turned t_wasConverted t_lastBits t_lastSum t_lastHeld t_lastLeft t_lastCode t_writtenLong t_codeMany t_acts t_done0 t_stoppedAt t_all 8 (r7, ()) hc126) rfl hl.1 ⟨⟨rfl, rfl⟩, ⟨Nat.le_of_ble_eq_true rfl, Nat.le_of_ble_eq_true rfl⟩, ⟨Nat.le_of_ble_eq_true rfl, Nat.le_of_ble_eq_true rfl⟩, Nat.le_of_ble_eq_true rfl⟩) hA w [0, 1] [] [0, 1] rfl rfl (by decide) (fun _ => rfl) (fun _ H locs w => ?_)
                              exact hQ _ _ _ _ _ () (fun _ => 0) hf rfl w dX8_is_129
                            · have hf := pf_e c23_12 hf
                              refine lv_tableOut (tgt := 130) hx hb dX8_is_23 (hm_out (fun k h1 h2 => by have u := And.intro h1 h2; have v0 := hm_ti c23_0; rw [show (0 : Int32).toInt = 0 from by decide] at v0; have v1 := hm_ti c23_1; rw [show (1 : Int32).toInt = 1 from by decide] at v1; have v2 := hm_ti c23_2; rw [show (2 : Int32).toInt = 2 from by decide] at v2; have v3 := hm_ti c23_3; rw [show (3 : Int32).toInt = 3 from by decide] at v3; have v4 := hm_ti c23_4; rw [show (4 : Int32).toInt = 4 from by decide] at v4; have v5 := hm_ti c23_5; rw [show (5 : Int32).toInt = 5 from by decide] at v5; have v6 := hm_ti c23_6; rw [show (6 : Int32).toInt = 6 from by decide] at v6; have v7 := hm_ti c23_7; rw [show (7 : Int32).toInt = 7 from by decide] at v7; have v8 := hm_ti c23_8; rw [show (8 : Int32).toInt = 8 from by decide] at v8; have v9 := hm_ti c23_9; rw [show (9 : Int32).toInt = 9 from by decide] at v9; have v10 := hm_ti c23_10; rw [show (10 : Int32).toInt = 10 from by decide] at v10; have v11 := hm_ti c23_11; rw [show (11 : Int32).toInt = 11 from by decide] at v11; have v12 := hm_ti c23_12; rw [show (12 : Int32).toInt = 12 from by decide] at v12; omega)) (by decide) ?_
                              refine lv_ldc (v := (-100000)) hx hb hown (X.use ck_X8_250 rfl) dX8_is_130 ?_
                              exact hQ _ _ _ _ _ () (fun _ => 0) hf rfl w dX8_is_132
  · have hf := pf_e c13 hf
    refine lv_aload_n hx hb dX8_is_16 rfl (lv_at hl 1 rfl) ?_
    refine lv_iload_n hx hb dX8_is_17 rfl (lv_at hl 2 rfl) ?_
    obtain ⟨r8, hc18, hf⟩ := pf_bi_0 hf
    refine hm_aft_i (ws' := fun _ => [oc8 h0 r_t t_base t_taped t_at t_faultPlace t_number t_newBits t_newTold t_newDoings t_newThings t_opened t_sum t_heldAll t_onPaper t_turned t_wasConverted t_lastBits t_lastSum t_lastHeld t_lastLeft t_lastCode t_writtenLong t_codeMany t_acts t_done0 t_stoppedAt, ic E (r_t 0) 800 t_all]) (hm_runV (rest := []) hx hb hml hown X hA Y w 0 (ci := 7) (T := TX8) (N := 55) rfl rfl mw_X8_get ml_X8_221 dX8_is_18 hm_ac0 [.int a1] rfl [0, 1] rfl rfl (ct_X8_get l E H.size h0 r_t t_base t_taped t_at t_faultPlace t_number t_newBits t_newTold t_newDoings t_newThings t_opened t_sum t_heldAll t_onPaper t_turned t_wasConverted t_lastBits t_lastSum t_lastHeld t_lastLeft t_lastCode t_writtenLong t_codeMany t_acts t_done0 t_stoppedAt t_all a1 (r8, ()) hc18) rfl hl.1 ⟨⟨rfl, rfl⟩, ⟨Nat.le_of_ble_eq_true rfl, Nat.le_of_ble_eq_true rfl⟩, ⟨Nat.le_of_ble_eq_true rfl, Nat.le_of_ble_eq_true rfl⟩, Nat.le_of_ble_eq_true rfl⟩) hA w [0, 1] [] [0, 1] rfl rfl (by decide) (fun _ => rfl) (fun _ H locs w => ?_)
    exact hQ _ _ _ _ _ () (fun _ => 0) hf rfl w dX8_is_21
set_option maxHeartbeats 8000000 in
set_option maxRecDepth 100000 in
theorem ct_X8_isBit (l : Launch) (E : hm_E) (sz : Nat) (h0 : Nat) (r_t : Nat → Nat) (t_base t_taped t_at t_faultPlace t_number t_newBits t_newTold t_newDoings t_newThings t_opened t_sum t_heldAll t_onPaper t_turned t_wasConverted t_lastBits t_lastSum t_lastHeld t_lastLeft t_lastCode t_writtenLong t_codeMany t_acts t_done0 t_stoppedAt : Int32) (t_all : Nat → Int32) (a1 : Int32) (R : Int32 × Unit) (hf : pf_X8_isBit a1 t_all t_base = some R) : hm_Mi l E yX8_isBit cX8_isBit 2 .boolean [] (hm_rr 1 22 0 0) [.ref h0, .int a1] sz [oc8 h0 r_t t_base t_taped t_at t_faultPlace t_number t_newBits t_newTold t_newDoings t_newThings t_opened t_sum t_heldAll t_onPaper t_turned t_wasConverted t_lastBits t_lastSum t_lastHeld t_lastLeft t_lastCode t_writtenLong t_codeMany t_acts t_done0 t_stoppedAt, ic E (r_t 0) 800 t_all] R.1 (fun _ => [oc8 h0 r_t t_base t_taped t_at t_faultPlace t_number t_newBits t_newTold t_newDoings t_newThings t_opened t_sum t_heldAll t_onPaper t_turned t_wasConverted t_lastBits t_lastSum t_lastHeld t_lastLeft t_lastCode t_writtenLong t_codeMany t_acts t_done0 t_stoppedAt, ic E (r_t 0) 800 t_all]) := by
  refine hm_ct_i R (fun u _ => [oc8 h0 r_t t_base t_taped t_at t_faultPlace t_number t_newBits t_newTold t_newDoings t_newThings t_opened t_sum t_heldAll t_onPaper t_turned t_wasConverted t_lastBits t_lastSum t_lastHeld t_lastLeft t_lastCode t_writtenLong t_codeMany t_acts t_done0 t_stoppedAt, ic E (r_t 0) 800 t_all]) (by decide) (Nat.le_of_ble_eq_true rfl) (Or.inr rfl) ?_
  intro p e s m args below meth c A Q ls H locs hx hb hml hown X hA Y hex w hl hQ
  have hl : lv_has ls 2 [(0, .ref h0), (1, .int a1)] := hl
  unfold pf_X8_isBit at hf
  refine lv_iload_n hx hb dX8_isBit_0 rfl (lv_at hl 1 rfl) ?_
  refine lv_iconst (v := 0) hx hb dX8_isBit_1 (by decide) ?_
  refine lv_aload_n hx hb dX8_isBit_2 rfl (lv_at hl 0 rfl) ?_
  refine lv_iconst (v := 0) hx hb dX8_isBit_3 (by decide) ?_
  obtain ⟨r1, hc4, hf⟩ := pf_bi_0 hf
  refine hm_aft_i (ws' := fun _ => [oc8 h0 r_t t_base t_taped t_at t_faultPlace t_number t_newBits t_newTold t_newDoings t_newThings t_opened t_sum t_heldAll t_onPaper t_turned t_wasConverted t_lastBits t_lastSum t_lastHeld t_lastLeft t_lastCode t_writtenLong t_codeMany t_acts t_done0 t_stoppedAt, ic E (r_t 0) 800 t_all]) (hm_runV (rest := [.int 0, .int a1]) hx hb hml hown X hA Y w 0 (ci := 7) (T := TX8) (N := 55) rfl rfl mw_X8_get ml_X8_221 dX8_isBit_4 hm_ac0 [.int 0] rfl [0, 1] rfl rfl (ct_X8_get l E H.size h0 r_t t_base t_taped t_at t_faultPlace t_number t_newBits t_newTold t_newDoings t_newThings t_opened t_sum t_heldAll t_onPaper t_turned t_wasConverted t_lastBits t_lastSum t_lastHeld t_lastLeft t_lastCode t_writtenLong t_codeMany t_acts t_done0 t_stoppedAt t_all 0 (r1, ()) hc4) rfl hl.1 ⟨⟨rfl, rfl⟩, ⟨Nat.le_of_ble_eq_true rfl, Nat.le_of_ble_eq_true rfl⟩, ⟨Nat.le_of_ble_eq_true rfl, Nat.le_of_ble_eq_true rfl⟩, Nat.le_of_ble_eq_true rfl⟩) hA w [0, 1] [] [0, 1] rfl rfl (by decide) (fun _ => rfl) (fun _ H locs w => ?_)
  refine lv_iconst (v := 1) hx hb dX8_isBit_7 (by decide) ?_
  refine lv_isub hx hb dX8_isBit_8 ?_
  obtain ⟨r2, hc9, hf⟩ := pf_bi_0 hf
  refine hm_aft_i (ws' := fun _ => [oc8 h0 r_t t_base t_taped t_at t_faultPlace t_number t_newBits t_newTold t_newDoings t_newThings t_opened t_sum t_heldAll t_onPaper t_turned t_wasConverted t_lastBits t_lastSum t_lastHeld t_lastLeft t_lastCode t_writtenLong t_codeMany t_acts t_done0 t_stoppedAt, ic E (r_t 0) 800 t_all]) (hm_runS (rest := []) hx hb hml hown X hA Y w mw_X8_isIn ml_X8_129 dX8_isBit_9 hm_ac0 [.int a1, .int 0, .int (r1 - 1)] rfl [] rfl rfl (ct_X8_isIn l E H.size a1 0 (r1 - 1) (r2, ()) hc9) rfl hl.1 ⟨⟨rfl, rfl⟩, ⟨Nat.le_of_ble_eq_true rfl, Nat.le_of_ble_eq_true rfl⟩, ⟨Nat.le_of_ble_eq_true rfl, Nat.le_of_ble_eq_true rfl⟩, Nat.le_of_ble_eq_true rfl⟩) hA w [] [0, 1] [0, 1] rfl rfl (by decide) (fun _ => rfl) (fun _ H locs w => ?_)
  obtain ⟨g12, hf⟩ := pf_ckZ hf
  exact hQ _ _ _ _ _ () (fun _ => 0) hf (hm_z g12) w dX8_isBit_12
set_option maxHeartbeats 8000000 in
set_option maxRecDepth 100000 in
theorem ct_X8_isShort (l : Launch) (E : hm_E) (sz : Nat) (h0 : Nat) (r_t : Nat → Nat) (t_base t_taped t_at t_faultPlace t_number t_newBits t_newTold t_newDoings t_newThings t_opened t_sum t_heldAll t_onPaper t_turned t_wasConverted t_lastBits t_lastSum t_lastHeld t_lastLeft t_lastCode t_writtenLong t_codeMany t_acts t_done0 t_stoppedAt : Int32) (t_all : Nat → Int32) (a1 : Int32) (R : Int32 × Unit) (hf : pf_X8_isShort a1 t_all t_base = some R) : hm_Mi l E yX8_isShort cX8_isShort 2 .boolean [] (hm_rr 3 66 0 0) [.ref h0, .int a1] sz [oc8 h0 r_t t_base t_taped t_at t_faultPlace t_number t_newBits t_newTold t_newDoings t_newThings t_opened t_sum t_heldAll t_onPaper t_turned t_wasConverted t_lastBits t_lastSum t_lastHeld t_lastLeft t_lastCode t_writtenLong t_codeMany t_acts t_done0 t_stoppedAt, ic E (r_t 0) 800 t_all] R.1 (fun _ => [oc8 h0 r_t t_base t_taped t_at t_faultPlace t_number t_newBits t_newTold t_newDoings t_newThings t_opened t_sum t_heldAll t_onPaper t_turned t_wasConverted t_lastBits t_lastSum t_lastHeld t_lastLeft t_lastCode t_writtenLong t_codeMany t_acts t_done0 t_stoppedAt, ic E (r_t 0) 800 t_all]) := by
  refine hm_ct_i R (fun u _ => [oc8 h0 r_t t_base t_taped t_at t_faultPlace t_number t_newBits t_newTold t_newDoings t_newThings t_opened t_sum t_heldAll t_onPaper t_turned t_wasConverted t_lastBits t_lastSum t_lastHeld t_lastLeft t_lastCode t_writtenLong t_codeMany t_acts t_done0 t_stoppedAt, ic E (r_t 0) 800 t_all]) (by decide) (Nat.le_of_ble_eq_true rfl) (Or.inr rfl) ?_
  intro p e s m args below meth c A Q ls H locs hx hb hml hown X hA Y hex w hl hQ
  have hl : lv_has ls 2 [(0, .ref h0), (1, .int a1)] := hl
  unfold pf_X8_isShort at hf
  refine lv_aload_n hx hb dX8_isShort_0 rfl (lv_at hl 0 rfl) ?_
  refine lv_iload_n hx hb dX8_isShort_1 rfl (lv_at hl 1 rfl) ?_
  obtain ⟨r1, hc2, hf⟩ := pf_bi_0 hf
  refine hm_aft_i (ws' := fun _ => [oc8 h0 r_t t_base t_taped t_at t_faultPlace t_number t_newBits t_newTold t_newDoings t_newThings t_opened t_sum t_heldAll t_onPaper t_turned t_wasConverted t_lastBits t_lastSum t_lastHeld t_lastLeft t_lastCode t_writtenLong t_codeMany t_acts t_done0 t_stoppedAt, ic E (r_t 0) 800 t_all]) (hm_runV (rest := []) hx hb hml hown X hA Y w 0 (ci := 7) (T := TX8) (N := 55) rfl rfl mw_X8_weight ml_X8_224 dX8_isShort_2 hm_ac0 [.int a1] rfl [0, 1] rfl rfl (ct_X8_weight l E H.size h0 r_t t_base t_taped t_at t_faultPlace t_number t_newBits t_newTold t_newDoings t_newThings t_opened t_sum t_heldAll t_onPaper t_turned t_wasConverted t_lastBits t_lastSum t_lastHeld t_lastLeft t_lastCode t_writtenLong t_codeMany t_acts t_done0 t_stoppedAt t_all a1 (r1, ()) hc2) rfl hl.1 ⟨⟨rfl, rfl⟩, ⟨Nat.le_of_ble_eq_true rfl, Nat.le_of_ble_eq_true rfl⟩, ⟨Nat.le_of_ble_eq_true rfl, Nat.le_of_ble_eq_true rfl⟩, Nat.le_of_ble_eq_true rfl⟩) hA w [0, 1] [] [0, 1] rfl rfl (by decide) (fun _ => rfl) (fun _ H locs w => ?_)
  refine lv_aload_n hx hb dX8_isShort_5 rfl (lv_at hl 0 rfl) ?_
  refine lv_iload_n hx hb dX8_isShort_6 rfl (lv_at hl 1 rfl) ?_
  obtain ⟨r2, hc7, hf⟩ := pf_bi_0 hf
  refine hm_aft_i (ws' := fun _ => [oc8 h0 r_t t_base t_taped t_at t_faultPlace t_number t_newBits t_newTold t_newDoings t_newThings t_opened t_sum t_heldAll t_onPaper t_turned t_wasConverted t_lastBits t_lastSum t_lastHeld t_lastLeft t_lastCode t_writtenLong t_codeMany t_acts t_done0 t_stoppedAt, ic E (r_t 0) 800 t_all]) (hm_runV (rest := [.int r1]) hx hb hml hown X hA Y w 0 (ci := 7) (T := TX8) (N := 55) rfl rfl mw_X8_reach ml_X8_247 dX8_isShort_7 hm_ac0 [.int a1] rfl [0, 1] rfl rfl (ct_X8_reach l E H.size h0 r_t t_base t_taped t_at t_faultPlace t_number t_newBits t_newTold t_newDoings t_newThings t_opened t_sum t_heldAll t_onPaper t_turned t_wasConverted t_lastBits t_lastSum t_lastHeld t_lastLeft t_lastCode t_writtenLong t_codeMany t_acts t_done0 t_stoppedAt t_all a1 (r2, ()) hc7) rfl hl.1 ⟨⟨rfl, rfl⟩, ⟨Nat.le_of_ble_eq_true rfl, Nat.le_of_ble_eq_true rfl⟩, ⟨Nat.le_of_ble_eq_true rfl, Nat.le_of_ble_eq_true rfl⟩, Nat.le_of_ble_eq_true rfl⟩) hA w [0, 1] [] [0, 1] rfl rfl (by decide) (fun _ => rfl) (fun _ H locs w => ?_)
  refine lv_icmp_le (tgt := 17) hx hb dX8_isShort_10 (by decide) (fun c10 => ?_) (fun c10 => ?_)
  · have hf := pf_t c10 hf
    refine lv_iconst (v := 0) hx hb dX8_isShort_17 (by decide) ?_
    exact hQ _ _ _ _ _ () (fun _ => 0) hf rfl w dX8_isShort_18
  · have hf := pf_e c10 hf
    refine lv_iconst (v := 1) hx hb dX8_isShort_13 (by decide) ?_
    refine lv_goto (tgt := 18) hx hb dX8_isShort_14 (by decide) ?_
    exact hQ _ _ _ _ _ () (fun _ => 0) hf rfl w dX8_isShort_18
set_option maxHeartbeats 8000000 in
set_option maxRecDepth 100000 in
theorem ct_X8_bit (l : Launch) (E : hm_E) (sz : Nat) (h0 : Nat) (r_t : Nat → Nat) (t_base t_taped t_at t_faultPlace t_number t_newBits t_newTold t_newDoings t_newThings t_opened t_sum t_heldAll t_onPaper t_turned t_wasConverted t_lastBits t_lastSum t_lastHeld t_lastLeft t_lastCode t_writtenLong t_codeMany t_acts t_done0 t_stoppedAt : Int32) (t_all : Nat → Int32) (a1 : Int32) (a2 : Int32) (R : Int32 × Unit) (hf : pf_X8_bit a1 a2 t_all t_base = some R) : hm_Mi l E yX8_bit cX8_bit 3 .int [] (hm_rr 4 87 0 0) [.ref h0, .int a1, .int a2] sz [oc8 h0 r_t t_base t_taped t_at t_faultPlace t_number t_newBits t_newTold t_newDoings t_newThings t_opened t_sum t_heldAll t_onPaper t_turned t_wasConverted t_lastBits t_lastSum t_lastHeld t_lastLeft t_lastCode t_writtenLong t_codeMany t_acts t_done0 t_stoppedAt, ic E (r_t 0) 800 t_all] R.1 (fun _ => [oc8 h0 r_t t_base t_taped t_at t_faultPlace t_number t_newBits t_newTold t_newDoings t_newThings t_opened t_sum t_heldAll t_onPaper t_turned t_wasConverted t_lastBits t_lastSum t_lastHeld t_lastLeft t_lastCode t_writtenLong t_codeMany t_acts t_done0 t_stoppedAt, ic E (r_t 0) 800 t_all]) := by
  refine hm_ct_i R (fun u _ => [oc8 h0 r_t t_base t_taped t_at t_faultPlace t_number t_newBits t_newTold t_newDoings t_newThings t_opened t_sum t_heldAll t_onPaper t_turned t_wasConverted t_lastBits t_lastSum t_lastHeld t_lastLeft t_lastCode t_writtenLong t_codeMany t_acts t_done0 t_stoppedAt, ic E (r_t 0) 800 t_all]) (by decide) (Nat.le_of_ble_eq_true rfl) (Or.inl rfl) ?_
  intro p e s m args below meth c A Q ls H locs hx hb hml hown X hA Y hex w hl hQ
  have hl : lv_has ls 3 [(0, .ref h0), (1, .int a1), (2, .int a2)] := hl
  unfold pf_X8_bit at hf
  refine lv_aload_n hx hb dX8_bit_0 rfl (lv_at hl 0 rfl) ?_
  refine lv_iload_n hx hb dX8_bit_1 rfl (lv_at hl 1 rfl) ?_
  obtain ⟨r1, hc2, hf⟩ := pf_bi_0 hf
  refine hm_aft_i (ws' := fun _ => [oc8 h0 r_t t_base t_taped t_at t_faultPlace t_number t_newBits t_newTold t_newDoings t_newThings t_opened t_sum t_heldAll t_onPaper t_turned t_wasConverted t_lastBits t_lastSum t_lastHeld t_lastLeft t_lastCode t_writtenLong t_codeMany t_acts t_done0 t_stoppedAt, ic E (r_t 0) 800 t_all]) (hm_runV (rest := []) hx hb hml hown X hA Y w 0 (ci := 7) (T := TX8) (N := 55) rfl rfl mw_X8_isBit ml_X8_251 dX8_bit_2 hm_ac0 [.int a1] rfl [0, 1] rfl rfl (ct_X8_isBit l E H.size h0 r_t t_base t_taped t_at t_faultPlace t_number t_newBits t_newTold t_newDoings t_newThings t_opened t_sum t_heldAll t_onPaper t_turned t_wasConverted t_lastBits t_lastSum t_lastHeld t_lastLeft t_lastCode t_writtenLong t_codeMany t_acts t_done0 t_stoppedAt t_all a1 (r1, ()) hc2) rfl hl.1 ⟨⟨rfl, rfl⟩, ⟨Nat.le_of_ble_eq_true rfl, Nat.le_of_ble_eq_true rfl⟩, ⟨Nat.le_of_ble_eq_true rfl, Nat.le_of_ble_eq_true rfl⟩, Nat.le_of_ble_eq_true rfl⟩) hA w [0, 1] [] [0, 1] rfl rfl (by decide) (fun _ => rfl) (fun _ H locs w => ?_)
  refine lv_if_ne (tgt := 11) hx hb dX8_bit_5 (by decide) (fun c5 => ?_) (fun c5 => ?_)
  · have hf := pf_e c5 hf
    refine lv_iload_n hx hb dX8_bit_11 rfl (lv_at hl 2 rfl) ?_
    by_cases c12_0 : a2 = 0
    · have hf := pf_t c12_0 hf
      refine lv_tableIn (off := 40) (tgt := 52) hx hb dX8_bit_12 (by rw [c12_0]; decide) (by rw [c12_0]; decide) (by rw [c12_0]; rfl) (by decide) ?_
      refine lv_aload_n hx hb dX8_bit_52 rfl (lv_at hl 0 rfl) ?_
      refine lv_bipush (v := 9) hx hb dX8_bit_53 (by decide) ?_
      refine lv_iload_n hx hb dX8_bit_55 rfl (lv_at hl 1 rfl) ?_
      refine lv_iadd hx hb dX8_bit_56 ?_
      obtain ⟨r2, hc57, hf⟩ := pf_bi_0 hf
      refine hm_aft_i (ws' := fun _ => [oc8 h0 r_t t_base t_taped t_at t_faultPlace t_number t_newBits t_newTold t_newDoings t_newThings t_opened t_sum t_heldAll t_onPaper t_turned t_wasConverted t_lastBits t_lastSum t_lastHeld t_lastLeft t_lastCode t_writtenLong t_codeMany t_acts t_done0 t_stoppedAt, ic E (r_t 0) 800 t_all]) (hm_runV (rest := []) hx hb hml hown X hA Y w 0 (ci := 7) (T := TX8) (N := 55) rfl rfl mw_X8_get ml_X8_221 dX8_bit_57 hm_ac0 [.int (9 + a1)] rfl [0, 1] rfl rfl (ct_X8_get l E H.size h0 r_t t_base t_taped t_at t_faultPlace t_number t_newBits t_newTold t_newDoings t_newThings t_opened t_sum t_heldAll t_onPaper t_turned t_wasConverted t_lastBits t_lastSum t_lastHeld t_lastLeft t_lastCode t_writtenLong t_codeMany t_acts t_done0 t_stoppedAt t_all (9 + a1) (r2, ()) hc57) rfl hl.1 ⟨⟨rfl, rfl⟩, ⟨Nat.le_of_ble_eq_true rfl, Nat.le_of_ble_eq_true rfl⟩, ⟨Nat.le_of_ble_eq_true rfl, Nat.le_of_ble_eq_true rfl⟩, Nat.le_of_ble_eq_true rfl⟩) hA w [0, 1] [] [0, 1] rfl rfl (by decide) (fun _ => rfl) (fun _ H locs w => ?_)
      exact hQ _ _ _ _ _ () (fun _ => 0) hf rfl w dX8_bit_60
    · have hf := pf_e c12_0 hf
      by_cases c12_1 : a2 = 1
      · have hf := pf_t c12_1 hf
        refine lv_tableIn (off := 49) (tgt := 61) hx hb dX8_bit_12 (by rw [c12_1]; decide) (by rw [c12_1]; decide) (by rw [c12_1]; rfl) (by decide) ?_
        refine lv_aload_n hx hb dX8_bit_61 rfl (lv_at hl 0 rfl) ?_
        refine lv_bipush (v := 21) hx hb dX8_bit_62 (by decide) ?_
        refine lv_iload_n hx hb dX8_bit_64 rfl (lv_at hl 1 rfl) ?_
        refine lv_iadd hx hb dX8_bit_65 ?_
        obtain ⟨r3, hc66, hf⟩ := pf_bi_0 hf
        refine hm_aft_i (ws' := fun _ => [oc8 h0 r_t t_base t_taped t_at t_faultPlace t_number t_newBits t_newTold t_newDoings t_newThings t_opened t_sum t_heldAll t_onPaper t_turned t_wasConverted t_lastBits t_lastSum t_lastHeld t_lastLeft t_lastCode t_writtenLong t_codeMany t_acts t_done0 t_stoppedAt, ic E (r_t 0) 800 t_all]) (hm_runV (rest := []) hx hb hml hown X hA Y w 0 (ci := 7) (T := TX8) (N := 55) rfl rfl mw_X8_get ml_X8_221 dX8_bit_66 hm_ac0 [.int (21 + a1)] rfl [0, 1] rfl rfl (ct_X8_get l E H.size h0 r_t t_base t_taped t_at t_faultPlace t_number t_newBits t_newTold t_newDoings t_newThings t_opened t_sum t_heldAll t_onPaper t_turned t_wasConverted t_lastBits t_lastSum t_lastHeld t_lastLeft t_lastCode t_writtenLong t_codeMany t_acts t_done0 t_stoppedAt t_all (21 + a1) (r3, ()) hc66) rfl hl.1 ⟨⟨rfl, rfl⟩, ⟨Nat.le_of_ble_eq_true rfl, Nat.le_of_ble_eq_true rfl⟩, ⟨Nat.le_of_ble_eq_true rfl, Nat.le_of_ble_eq_true rfl⟩, Nat.le_of_ble_eq_true rfl⟩) hA w [0, 1] [] [0, 1] rfl rfl (by decide) (fun _ => rfl) (fun _ H locs w => ?_)
        exact hQ _ _ _ _ _ () (fun _ => 0) hf rfl w dX8_bit_69
      · have hf := pf_e c12_1 hf
        by_cases c12_2 : a2 = 2
        · have hf := pf_t c12_2 hf
          refine lv_tableIn (off := 58) (tgt := 70) hx hb dX8_bit_12 (by rw [c12_2]; decide) (by rw [c12_2]; decide) (by rw [c12_2]; rfl) (by decide) ?_
          refine lv_aload_n hx hb dX8_bit_70 rfl (lv_at hl 0 rfl) ?_
          refine lv_bipush (v := 33) hx hb dX8_bit_71 (by decide) ?_
          refine lv_iload_n hx hb dX8_bit_73 rfl (lv_at hl 1 rfl) ?_
          refine lv_iadd hx hb dX8_bit_74 ?_
          obtain ⟨r4, hc75, hf⟩ := pf_bi_0 hf
          refine hm_aft_i (ws' := fun _ => [oc8 h0 r_t t_base t_taped t_at t_faultPlace t_number t_newBits t_newTold t_newDoings t_newThings t_opened t_sum t_heldAll t_onPaper t_turned t_wasConverted t_lastBits t_lastSum t_lastHeld t_lastLeft t_lastCode t_writtenLong t_codeMany t_acts t_done0 t_stoppedAt, ic E (r_t 0) 800 t_all]) (hm_runV (rest := []) hx hb hml hown X hA Y w 0 (ci := 7) (T := TX8) (N := 55) rfl rfl mw_X8_get ml_X8_221 dX8_bit_75 hm_ac0 [.int (33 + a1)] rfl [0, 1] rfl rfl (ct_X8_get l E H.size h0 r_t t_base t_taped t_at t_faultPlace t_number t_newBits t_newTold t_newDoings t_newThings t_opened t_sum t_heldAll t_onPaper t_turned t_wasConverted t_lastBits t_lastSum t_lastHeld t_lastLeft t_lastCode t_writtenLong t_codeMany t_acts t_done0 t_stoppedAt t_all (33 + a1) (r4, ()) hc75) rfl hl.1 ⟨⟨rfl, rfl⟩, ⟨Nat.le_of_ble_eq_true rfl, Nat.le_of_ble_eq_true rfl⟩, ⟨Nat.le_of_ble_eq_true rfl, Nat.le_of_ble_eq_true rfl⟩, Nat.le_of_ble_eq_true rfl⟩) hA w [0, 1] [] [0, 1] rfl rfl (by decide) (fun _ => rfl) (fun _ H locs w => ?_)
          exact hQ _ _ _ _ _ () (fun _ => 0) hf rfl w dX8_bit_78
        · have hf := pf_e c12_2 hf
          by_cases c12_3 : a2 = 3
          · have hf := pf_t c12_3 hf
            refine lv_tableIn (off := 67) (tgt := 79) hx hb dX8_bit_12 (by rw [c12_3]; decide) (by rw [c12_3]; decide) (by rw [c12_3]; rfl) (by decide) ?_
            refine lv_aload_n hx hb dX8_bit_79 rfl (lv_at hl 0 rfl) ?_
            refine lv_bipush (v := 45) hx hb dX8_bit_80 (by decide) ?_
            refine lv_iload_n hx hb dX8_bit_82 rfl (lv_at hl 1 rfl) ?_
            refine lv_iadd hx hb dX8_bit_83 ?_
            obtain ⟨r5, hc84, hf⟩ := pf_bi_0 hf
            refine hm_aft_i (ws' := fun _ => [oc8 h0 r_t t_base t_taped t_at t_faultPlace t_number t_newBits t_newTold t_newDoings t_newThings t_opened t_sum t_heldAll t_onPaper t_turned t_wasConverted t_lastBits t_lastSum t_lastHeld t_lastLeft t_lastCode t_writtenLong t_codeMany t_acts t_done0 t_stoppedAt, ic E (r_t 0) 800 t_all]) (hm_runV (rest := []) hx hb hml hown X hA Y w 0 (ci := 7) (T := TX8) (N := 55) rfl rfl mw_X8_get ml_X8_221 dX8_bit_84 hm_ac0 [.int (45 + a1)] rfl [0, 1] rfl rfl (ct_X8_get l E H.size h0 r_t t_base t_taped t_at t_faultPlace t_number t_newBits t_newTold t_newDoings t_newThings t_opened t_sum t_heldAll t_onPaper t_turned t_wasConverted t_lastBits t_lastSum t_lastHeld t_lastLeft t_lastCode t_writtenLong t_codeMany t_acts t_done0 t_stoppedAt t_all (45 + a1) (r5, ()) hc84) rfl hl.1 ⟨⟨rfl, rfl⟩, ⟨Nat.le_of_ble_eq_true rfl, Nat.le_of_ble_eq_true rfl⟩, ⟨Nat.le_of_ble_eq_true rfl, Nat.le_of_ble_eq_true rfl⟩, Nat.le_of_ble_eq_true rfl⟩) hA w [0, 1] [] [0, 1] rfl rfl (by decide) (fun _ => rfl) (fun _ H locs w => ?_)
            exact hQ _ _ _ _ _ () (fun _ => 0) hf rfl w dX8_bit_87
          · have hf := pf_e c12_3 hf
            by_cases c12_4 : a2 = 4
            · have hf := pf_t c12_4 hf
              refine lv_tableIn (off := 76) (tgt := 88) hx hb dX8_bit_12 (by rw [c12_4]; decide) (by rw [c12_4]; decide) (by rw [c12_4]; rfl) (by decide) ?_
              refine lv_aload_n hx hb dX8_bit_88 rfl (lv_at hl 0 rfl) ?_
              refine lv_iload_n hx hb dX8_bit_89 rfl (lv_at hl 1 rfl) ?_
              obtain ⟨r6, hc90, hf⟩ := pf_bi_0 hf
              refine hm_aft_i (ws' := fun _ => [oc8 h0 r_t t_base t_taped t_at t_faultPlace t_number t_newBits t_newTold t_newDoings t_newThings t_opened t_sum t_heldAll t_onPaper t_turned t_wasConverted t_lastBits t_lastSum t_lastHeld t_lastLeft t_lastCode t_writtenLong t_codeMany t_acts t_done0 t_stoppedAt, ic E (r_t 0) 800 t_all]) (hm_runV (rest := []) hx hb hml hown X hA Y w 0 (ci := 7) (T := TX8) (N := 55) rfl rfl mw_X8_weight ml_X8_224 dX8_bit_90 hm_ac0 [.int a1] rfl [0, 1] rfl rfl (ct_X8_weight l E H.size h0 r_t t_base t_taped t_at t_faultPlace t_number t_newBits t_newTold t_newDoings t_newThings t_opened t_sum t_heldAll t_onPaper t_turned t_wasConverted t_lastBits t_lastSum t_lastHeld t_lastLeft t_lastCode t_writtenLong t_codeMany t_acts t_done0 t_stoppedAt t_all a1 (r6, ()) hc90) rfl hl.1 ⟨⟨rfl, rfl⟩, ⟨Nat.le_of_ble_eq_true rfl, Nat.le_of_ble_eq_true rfl⟩, ⟨Nat.le_of_ble_eq_true rfl, Nat.le_of_ble_eq_true rfl⟩, Nat.le_of_ble_eq_true rfl⟩) hA w [0, 1] [] [0, 1] rfl rfl (by decide) (fun _ => rfl) (fun _ H locs w => ?_)
              exact hQ _ _ _ _ _ () (fun _ => 0) hf rfl w dX8_bit_93
            · have hf := pf_e c12_4 hf
              by_cases c12_5 : a2 = 5
              · have hf := pf_t c12_5 hf
                refine lv_tableIn (off := 82) (tgt := 94) hx hb dX8_bit_12 (by rw [c12_5]; decide) (by rw [c12_5]; decide) (by rw [c12_5]; rfl) (by decide) ?_
                refine lv_aload_n hx hb dX8_bit_94 rfl (lv_at hl 0 rfl) ?_
                refine lv_iload_n hx hb dX8_bit_95 rfl (lv_at hl 1 rfl) ?_
                obtain ⟨r7, hc96, hf⟩ := pf_bi_0 hf
                refine hm_aft_i (ws' := fun _ => [oc8 h0 r_t t_base t_taped t_at t_faultPlace t_number t_newBits t_newTold t_newDoings t_newThings t_opened t_sum t_heldAll t_onPaper t_turned t_wasConverted t_lastBits t_lastSum t_lastHeld t_lastLeft t_lastCode t_writtenLong t_codeMany t_acts t_done0 t_stoppedAt, ic E (r_t 0) 800 t_all]) (hm_runV (rest := []) hx hb hml hown X hA Y w 0 (ci := 7) (T := TX8) (N := 55) rfl rfl mw_X8_isShort ml_X8_254 dX8_bit_96 hm_ac0 [.int a1] rfl [0, 1] rfl rfl (ct_X8_isShort l E H.size h0 r_t t_base t_taped t_at t_faultPlace t_number t_newBits t_newTold t_newDoings t_newThings t_opened t_sum t_heldAll t_onPaper t_turned t_wasConverted t_lastBits t_lastSum t_lastHeld t_lastLeft t_lastCode t_writtenLong t_codeMany t_acts t_done0 t_stoppedAt t_all a1 (r7, ()) hc96) rfl hl.1 ⟨⟨rfl, rfl⟩, ⟨Nat.le_of_ble_eq_true rfl, Nat.le_of_ble_eq_true rfl⟩, ⟨Nat.le_of_ble_eq_true rfl, Nat.le_of_ble_eq_true rfl⟩, Nat.le_of_ble_eq_true rfl⟩) hA w [0, 1] [] [0, 1] rfl rfl (by decide) (fun _ => rfl) (fun _ H locs w => ?_)
                refine lv_if_eq (tgt := 106) hx hb dX8_bit_99 (by decide) (fun c99 => ?_) (fun c99 => ?_)
                · have hf := pf_t c99 hf
                  refine lv_iconst (v := 0) hx hb dX8_bit_106 (by decide) ?_
                  exact hQ _ _ _ _ _ () (fun _ => 0) hf rfl w dX8_bit_107
                · have hf := pf_e c99 hf
                  refine lv_iconst (v := 1) hx hb dX8_bit_102 (by decide) ?_
                  refine lv_goto (tgt := 107) hx hb dX8_bit_103 (by decide) ?_
                  exact hQ _ _ _ _ _ () (fun _ => 0) hf rfl w dX8_bit_107
              · have hf := pf_e c12_5 hf
                refine lv_tableOut (tgt := 108) hx hb dX8_bit_12 (hm_out (fun k h1 h2 => by have u := And.intro h1 h2; have v0 := hm_ti c12_0; rw [show (0 : Int32).toInt = 0 from by decide] at v0; have v1 := hm_ti c12_1; rw [show (1 : Int32).toInt = 1 from by decide] at v1; have v2 := hm_ti c12_2; rw [show (2 : Int32).toInt = 2 from by decide] at v2; have v3 := hm_ti c12_3; rw [show (3 : Int32).toInt = 3 from by decide] at v3; have v4 := hm_ti c12_4; rw [show (4 : Int32).toInt = 4 from by decide] at v4; have v5 := hm_ti c12_5; rw [show (5 : Int32).toInt = 5 from by decide] at v5; omega)) (by decide) ?_
                refine lv_ldc (v := (-100000)) hx hb hown (X.use ck_X8_250 rfl) dX8_bit_108 ?_
                exact hQ _ _ _ _ _ () (fun _ => 0) hf rfl w dX8_bit_110
  · have hf := pf_t c5 hf
    refine lv_ldc (v := (-100000)) hx hb hown (X.use ck_X8_250 rfl) dX8_bit_8 ?_
    exact hQ _ _ _ _ _ () (fun _ => 0) hf rfl w dX8_bit_10
set_option maxHeartbeats 8000000 in
set_option maxRecDepth 100000 in
theorem ct_X8_off (l : Launch) (E : hm_E) (sz : Nat) (h0 : Nat) (r_t : Nat → Nat) (t_base t_taped t_at t_faultPlace t_number t_newBits t_newTold t_newDoings t_newThings t_opened t_sum t_heldAll t_onPaper t_turned t_wasConverted t_lastBits t_lastSum t_lastHeld t_lastLeft t_lastCode t_writtenLong t_codeMany t_acts t_done0 t_stoppedAt : Int32) (t_all : Nat → Int32) (a1 : Int32) (a2 : Int32) (R : Int32 × (Nat → Int32)) (hf : pf_X8_off a1 a2 t_all t_base = some R) : hm_Mi l E yX8_off cX8_off 3 .boolean [] (hm_rr 2 43 0 0) [.ref h0, .int a1, .int a2] sz [oc8 h0 r_t t_base t_taped t_at t_faultPlace t_number t_newBits t_newTold t_newDoings t_newThings t_opened t_sum t_heldAll t_onPaper t_turned t_wasConverted t_lastBits t_lastSum t_lastHeld t_lastLeft t_lastCode t_writtenLong t_codeMany t_acts t_done0 t_stoppedAt, ic E (r_t 0) 800 t_all] R.1 (fun _ => [oc8 h0 r_t t_base t_taped t_at t_faultPlace t_number t_newBits t_newTold t_newDoings t_newThings t_opened t_sum t_heldAll t_onPaper t_turned t_wasConverted t_lastBits t_lastSum t_lastHeld t_lastLeft t_lastCode t_writtenLong t_codeMany t_acts t_done0 t_stoppedAt, ic E (r_t 0) 800 R.2]) := by
  refine hm_ct_i R (fun u _ => [oc8 h0 r_t t_base t_taped t_at t_faultPlace t_number t_newBits t_newTold t_newDoings t_newThings t_opened t_sum t_heldAll t_onPaper t_turned t_wasConverted t_lastBits t_lastSum t_lastHeld t_lastLeft t_lastCode t_writtenLong t_codeMany t_acts t_done0 t_stoppedAt, ic E (r_t 0) 800 u]) (by decide) (Nat.le_of_ble_eq_true rfl) (Or.inr rfl) ?_
  intro p e s m args below meth c A Q ls H locs hx hb hml hown X hA Y hex w hl hQ
  have hl : lv_has ls 3 [(0, .ref h0), (1, .int a1), (2, .int a2)] := hl
  unfold pf_X8_off at hf
  refine lv_aload_n hx hb dX8_off_0 rfl (lv_at hl 0 rfl) ?_
  refine lv_iload_n hx hb dX8_off_1 rfl (lv_at hl 1 rfl) ?_
  obtain ⟨r1, hc2, hf⟩ := pf_bi_0 hf
  refine hm_aft_i (ws' := fun _ => [oc8 h0 r_t t_base t_taped t_at t_faultPlace t_number t_newBits t_newTold t_newDoings t_newThings t_opened t_sum t_heldAll t_onPaper t_turned t_wasConverted t_lastBits t_lastSum t_lastHeld t_lastLeft t_lastCode t_writtenLong t_codeMany t_acts t_done0 t_stoppedAt, ic E (r_t 0) 800 t_all]) (hm_runV (rest := []) hx hb hml hown X hA Y w 0 (ci := 7) (T := TX8) (N := 55) rfl rfl mw_X8_isBit ml_X8_251 dX8_off_2 hm_ac0 [.int a1] rfl [0, 1] rfl rfl (ct_X8_isBit l E H.size h0 r_t t_base t_taped t_at t_faultPlace t_number t_newBits t_newTold t_newDoings t_newThings t_opened t_sum t_heldAll t_onPaper t_turned t_wasConverted t_lastBits t_lastSum t_lastHeld t_lastLeft t_lastCode t_writtenLong t_codeMany t_acts t_done0 t_stoppedAt t_all a1 (r1, ()) hc2) rfl hl.1 ⟨⟨rfl, rfl⟩, ⟨Nat.le_of_ble_eq_true rfl, Nat.le_of_ble_eq_true rfl⟩, ⟨Nat.le_of_ble_eq_true rfl, Nat.le_of_ble_eq_true rfl⟩, Nat.le_of_ble_eq_true rfl⟩) hA w [0, 1] [] [0, 1] rfl rfl (by decide) (fun _ => rfl) (fun _ H locs w => ?_)
  refine lv_if_eq (tgt := 33) hx hb dX8_off_5 (by decide) (fun c5 => ?_) (fun c5 => ?_)
  · have hf := pf_t c5 hf
    refine lv_iconst (v := 0) hx hb dX8_off_33 (by decide) ?_
    exact hQ _ _ _ _ _ t_all (fun _ => 0) hf rfl w dX8_off_34
  · have hf := pf_e c5 hf
    refine lv_iload_n hx hb dX8_off_8 rfl (lv_at hl 2 rfl) ?_
    refine lv_bipush (v := (-99)) hx hb dX8_off_9 (by decide) ?_
    refine lv_bipush (v := 99) hx hb dX8_off_11 (by decide) ?_
    obtain ⟨r2, hc13, hf⟩ := pf_bi_0 hf
    refine hm_aft_i (ws' := fun _ => [oc8 h0 r_t t_base t_taped t_at t_faultPlace t_number t_newBits t_newTold t_newDoings t_newThings t_opened t_sum t_heldAll t_onPaper t_turned t_wasConverted t_lastBits t_lastSum t_lastHeld t_lastLeft t_lastCode t_writtenLong t_codeMany t_acts t_done0 t_stoppedAt, ic E (r_t 0) 800 t_all]) (hm_runS (rest := []) hx hb hml hown X hA Y w mw_X8_isIn ml_X8_129 dX8_off_13 hm_ac0 [.int a2, .int (-99), .int 99] rfl [] rfl rfl (ct_X8_isIn l E H.size a2 (-99) 99 (r2, ()) hc13) rfl hl.1 ⟨⟨rfl, rfl⟩, ⟨Nat.le_of_ble_eq_true rfl, Nat.le_of_ble_eq_true rfl⟩, ⟨Nat.le_of_ble_eq_true rfl, Nat.le_of_ble_eq_true rfl⟩, Nat.le_of_ble_eq_true rfl⟩) hA w [] [0, 1] [0, 1] rfl rfl (by decide) (fun _ => rfl) (fun _ H locs w => ?_)
    refine lv_if_eq (tgt := 33) hx hb dX8_off_16 (by decide) (fun c16 => ?_) (fun c16 => ?_)
    · have hf := pf_t c16 hf
      refine lv_iconst (v := 0) hx hb dX8_off_33 (by decide) ?_
      exact hQ _ _ _ _ _ t_all (fun _ => 0) hf rfl w dX8_off_34
    · have hf := pf_e c16 hf
      refine lv_aload_n hx hb dX8_off_19 rfl (lv_at hl 0 rfl) ?_
      refine lv_bipush (v := 9) hx hb dX8_off_20 (by decide) ?_
      refine lv_iload_n hx hb dX8_off_22 rfl (lv_at hl 1 rfl) ?_
      refine lv_iadd hx hb dX8_off_23 ?_
      obtain ⟨r3, hc24, hf⟩ := pf_bi_0 hf
      refine hm_aft_i (ws' := fun _ => [oc8 h0 r_t t_base t_taped t_at t_faultPlace t_number t_newBits t_newTold t_newDoings t_newThings t_opened t_sum t_heldAll t_onPaper t_turned t_wasConverted t_lastBits t_lastSum t_lastHeld t_lastLeft t_lastCode t_writtenLong t_codeMany t_acts t_done0 t_stoppedAt, ic E (r_t 0) 800 t_all]) (hm_runV (rest := []) hx hb hml hown X hA Y w 0 (ci := 7) (T := TX8) (N := 55) rfl rfl mw_X8_get ml_X8_221 dX8_off_24 hm_ac0 [.int (9 + a1)] rfl [0, 1] rfl rfl (ct_X8_get l E H.size h0 r_t t_base t_taped t_at t_faultPlace t_number t_newBits t_newTold t_newDoings t_newThings t_opened t_sum t_heldAll t_onPaper t_turned t_wasConverted t_lastBits t_lastSum t_lastHeld t_lastLeft t_lastCode t_writtenLong t_codeMany t_acts t_done0 t_stoppedAt t_all (9 + a1) (r3, ()) hc24) rfl hl.1 ⟨⟨rfl, rfl⟩, ⟨Nat.le_of_ble_eq_true rfl, Nat.le_of_ble_eq_true rfl⟩, ⟨Nat.le_of_ble_eq_true rfl, Nat.le_of_ble_eq_true rfl⟩, Nat.le_of_ble_eq_true rfl⟩) hA w [0, 1] [] [0, 1] rfl rfl (by decide) (fun _ => rfl) (fun _ H locs w => ?_)
      refine lv_iload_n hx hb dX8_off_27 rfl (lv_at hl 2 rfl) ?_
      refine lv_iadd hx hb dX8_off_28 ?_
      refine lv_iconst (v := 1) hx hb dX8_off_29 (by decide) ?_
      refine lv_icmp_ge (tgt := 35) hx hb dX8_off_30 (by decide) (fun c30 => ?_) (fun c30 => ?_)
      · have hf := pf_t c30 hf
        refine lv_aload_n hx hb dX8_off_35 rfl (lv_at hl 0 rfl) ?_
        refine lv_bipush (v := 21) hx hb dX8_off_36 (by decide) ?_
        refine lv_iload_n hx hb dX8_off_38 rfl (lv_at hl 1 rfl) ?_
        refine lv_iadd hx hb dX8_off_39 ?_
        refine lv_iload_n hx hb dX8_off_40 rfl (lv_at hl 2 rfl) ?_
        obtain ⟨f4, hc41, hf⟩ := pf_bv_1 hf
        refine hm_aft_v (ws' := fun _ => [oc8 h0 r_t t_base t_taped t_at t_faultPlace t_number t_newBits t_newTold t_newDoings t_newThings t_opened t_sum t_heldAll t_onPaper t_turned t_wasConverted t_lastBits t_lastSum t_lastHeld t_lastLeft t_lastCode t_writtenLong t_codeMany t_acts t_done0 t_stoppedAt, ic E (r_t 0) 800 f4]) (hm_runV (rest := []) hx hb hml hown X hA Y w 0 (ci := 7) (T := TX8) (N := 55) rfl rfl mw_X8_put ml_X8_119 dX8_off_41 hm_ac0 [.int (21 + a1), .int a2] rfl [0, 1] rfl rfl (ct_X8_put l E H.size h0 r_t t_base t_taped t_at t_faultPlace t_number t_newBits t_newTold t_newDoings t_newThings t_opened t_sum t_heldAll t_onPaper t_turned t_wasConverted t_lastBits t_lastSum t_lastHeld t_lastLeft t_lastCode t_writtenLong t_codeMany t_acts t_done0 t_stoppedAt t_all (21 + a1) a2 f4 hc41) rfl hl.1 ⟨⟨rfl, rfl⟩, ⟨Nat.le_of_ble_eq_true rfl, Nat.le_of_ble_eq_true rfl⟩, ⟨Nat.le_of_ble_eq_true rfl, Nat.le_of_ble_eq_true rfl⟩, Nat.le_of_ble_eq_true rfl⟩) hA w [0, 1] [] [0, 1] rfl rfl (by decide) (fun _ => rfl) (fun _ H locs w => ?_)
        refine lv_iconst (v := 1) hx hb dX8_off_44 (by decide) ?_
        exact hQ _ _ _ _ _ f4 (fun _ => 0) hf rfl w dX8_off_45
      · have hf := pf_e c30 hf
        refine lv_iconst (v := 0) hx hb dX8_off_33 (by decide) ?_
        exact hQ _ _ _ _ _ t_all (fun _ => 0) hf rfl w dX8_off_34
set_option maxHeartbeats 8000000 in
set_option maxRecDepth 100000 in
theorem ct_X8_set (l : Launch) (E : hm_E) (sz : Nat) (h0 : Nat) (r_t : Nat → Nat) (t_base t_taped t_at t_faultPlace t_number t_newBits t_newTold t_newDoings t_newThings t_opened t_sum t_heldAll t_onPaper t_turned t_wasConverted t_lastBits t_lastSum t_lastHeld t_lastLeft t_lastCode t_writtenLong t_codeMany t_acts t_done0 t_stoppedAt : Int32) (t_all : Nat → Int32) (t_lows : Nat → Int32) (t_tops : Nat → Int32) (a1 : Int32) (a2 : Int32) (R : Int32 × (Nat → Int32)) (hf : pf_X8_set a1 a2 t_all t_base t_lows t_tops = some R) : hm_Mi l E yX8_set cX8_set 3 .boolean [] (hm_rr 1 22 0 0) [.ref h0, .int a1, .int a2] sz [oc8 h0 r_t t_base t_taped t_at t_faultPlace t_number t_newBits t_newTold t_newDoings t_newThings t_opened t_sum t_heldAll t_onPaper t_turned t_wasConverted t_lastBits t_lastSum t_lastHeld t_lastLeft t_lastCode t_writtenLong t_codeMany t_acts t_done0 t_stoppedAt, ic E (r_t 0) 800 t_all, ic E (r_t 7) 5 t_lows, ic E (r_t 8) 5 t_tops] R.1 (fun _ => [oc8 h0 r_t t_base t_taped t_at t_faultPlace t_number t_newBits t_newTold t_newDoings t_newThings t_opened t_sum t_heldAll t_onPaper t_turned t_wasConverted t_lastBits t_lastSum t_lastHeld t_lastLeft t_lastCode t_writtenLong t_codeMany t_acts t_done0 t_stoppedAt, ic E (r_t 0) 800 R.2, ic E (r_t 7) 5 t_lows, ic E (r_t 8) 5 t_tops]) := by
  refine hm_ct_i R (fun u _ => [oc8 h0 r_t t_base t_taped t_at t_faultPlace t_number t_newBits t_newTold t_newDoings t_newThings t_opened t_sum t_heldAll t_onPaper t_turned t_wasConverted t_lastBits t_lastSum t_lastHeld t_lastLeft t_lastCode t_writtenLong t_codeMany t_acts t_done0 t_stoppedAt, ic E (r_t 0) 800 u, ic E (r_t 7) 5 t_lows, ic E (r_t 8) 5 t_tops]) (by decide) (Nat.le_of_ble_eq_true rfl) (Or.inr rfl) ?_
  intro p e s m args below meth c A Q ls H locs hx hb hml hown X hA Y hex w hl hQ
  have hl : lv_has ls 3 [(0, .ref h0), (1, .int a1), (2, .int a2)] := hl
  unfold pf_X8_set at hf
  refine lv_iload_n hx hb dX8_set_0 rfl (lv_at hl 1 rfl) ?_
  refine lv_iconst (v := 0) hx hb dX8_set_1 (by decide) ?_
  refine lv_iconst (v := 4) hx hb dX8_set_2 (by decide) ?_
  obtain ⟨r1, hc3, hf⟩ := pf_bi_0 hf
  refine hm_aft_i (ws' := fun _ => [oc8 h0 r_t t_base t_taped t_at t_faultPlace t_number t_newBits t_newTold t_newDoings t_newThings t_opened t_sum t_heldAll t_onPaper t_turned t_wasConverted t_lastBits t_lastSum t_lastHeld t_lastLeft t_lastCode t_writtenLong t_codeMany t_acts t_done0 t_stoppedAt, ic E (r_t 0) 800 t_all, ic E (r_t 7) 5 t_lows, ic E (r_t 8) 5 t_tops]) (hm_runS (rest := []) hx hb hml hown X hA Y w mw_X8_isIn ml_X8_129 dX8_set_3 hm_ac0 [.int a1, .int 0, .int 4] rfl [] rfl rfl (ct_X8_isIn l E H.size a1 0 4 (r1, ()) hc3) rfl hl.1 ⟨⟨rfl, rfl⟩, ⟨Nat.le_of_ble_eq_true rfl, Nat.le_of_ble_eq_true rfl⟩, ⟨Nat.le_of_ble_eq_true rfl, Nat.le_of_ble_eq_true rfl⟩, Nat.le_of_ble_eq_true rfl⟩) hA w [] [0, 1, 2, 3] [0, 1, 2, 3] rfl rfl (by decide) (fun _ => rfl) (fun _ H locs w => ?_)
  refine lv_if_eq (tgt := 28) hx hb dX8_set_6 (by decide) (fun c6 => ?_) (fun c6 => ?_)
  · have hf := pf_t c6 hf
    refine lv_iconst (v := 0) hx hb dX8_set_28 (by decide) ?_
    exact hQ _ _ _ _ _ t_all (fun _ => 0) hf rfl w dX8_set_29
  · have hf := pf_e c6 hf
    refine lv_iload_n hx hb dX8_set_9 rfl (lv_at hl 2 rfl) ?_
    refine lv_aload_n hx hb dX8_set_10 rfl (lv_at hl 0 rfl) ?_
    refine hm_get cb_X8 hx hb hown X w 0 7 fl_X8_28 dX8_set_11 rfl (by decide) rfl ?_
    refine lv_iload_n hx hb dX8_set_14 rfl (lv_at hl 1 rfl) ?_
    obtain ⟨g15, hf⟩ := pf_ckI hf
    refine hm_iald hx hb X w 2 dX8_set_15 rfl g15 ?_
    refine lv_aload_n hx hb dX8_set_16 rfl (lv_at hl 0 rfl) ?_
    refine hm_get cb_X8 hx hb hown X w 0 8 fl_X8_31 dX8_set_17 rfl (by decide) rfl ?_
    refine lv_iload_n hx hb dX8_set_20 rfl (lv_at hl 1 rfl) ?_
    obtain ⟨g21, hf⟩ := pf_ckI hf
    refine hm_iald hx hb X w 3 dX8_set_21 rfl g21 ?_
    obtain ⟨r2, hc22, hf⟩ := pf_bi_0 hf
    refine hm_aft_i (ws' := fun _ => [oc8 h0 r_t t_base t_taped t_at t_faultPlace t_number t_newBits t_newTold t_newDoings t_newThings t_opened t_sum t_heldAll t_onPaper t_turned t_wasConverted t_lastBits t_lastSum t_lastHeld t_lastLeft t_lastCode t_writtenLong t_codeMany t_acts t_done0 t_stoppedAt, ic E (r_t 0) 800 t_all, ic E (r_t 7) 5 t_lows, ic E (r_t 8) 5 t_tops]) (hm_runS (rest := []) hx hb hml hown X hA Y w mw_X8_isIn ml_X8_129 dX8_set_22 hm_ac0 [.int a2, .int (t_lows a1.toNatClampNeg), .int (t_tops a1.toNatClampNeg)] rfl [] rfl rfl (ct_X8_isIn l E H.size a2 (t_lows a1.toNatClampNeg) (t_tops a1.toNatClampNeg) (r2, ()) hc22) rfl hl.1 ⟨⟨rfl, rfl⟩, ⟨Nat.le_of_ble_eq_true rfl, Nat.le_of_ble_eq_true rfl⟩, ⟨Nat.le_of_ble_eq_true rfl, Nat.le_of_ble_eq_true rfl⟩, Nat.le_of_ble_eq_true rfl⟩) hA w [] [0, 1, 2, 3] [0, 1, 2, 3] rfl rfl (by decide) (fun _ => rfl) (fun _ H locs w => ?_)
    refine lv_if_ne (tgt := 30) hx hb dX8_set_25 (by decide) (fun c25 => ?_) (fun c25 => ?_)
    · have hf := pf_e c25 hf
      refine lv_aload_n hx hb dX8_set_30 rfl (lv_at hl 0 rfl) ?_
      refine lv_iconst (v := 1) hx hb dX8_set_31 (by decide) ?_
      refine lv_iload_n hx hb dX8_set_32 rfl (lv_at hl 1 rfl) ?_
      refine lv_iadd hx hb dX8_set_33 ?_
      refine lv_iload_n hx hb dX8_set_34 rfl (lv_at hl 2 rfl) ?_
      obtain ⟨f3, hc35, hf⟩ := pf_bv_1 hf
      refine hm_aft_v (ws' := fun _ => [oc8 h0 r_t t_base t_taped t_at t_faultPlace t_number t_newBits t_newTold t_newDoings t_newThings t_opened t_sum t_heldAll t_onPaper t_turned t_wasConverted t_lastBits t_lastSum t_lastHeld t_lastLeft t_lastCode t_writtenLong t_codeMany t_acts t_done0 t_stoppedAt, ic E (r_t 0) 800 f3, ic E (r_t 7) 5 t_lows, ic E (r_t 8) 5 t_tops]) (hm_runV (rest := []) hx hb hml hown X hA Y w 0 (ci := 7) (T := TX8) (N := 55) rfl rfl mw_X8_put ml_X8_119 dX8_set_35 hm_ac0 [.int (1 + a1), .int a2] rfl [0, 1] rfl rfl (ct_X8_put l E H.size h0 r_t t_base t_taped t_at t_faultPlace t_number t_newBits t_newTold t_newDoings t_newThings t_opened t_sum t_heldAll t_onPaper t_turned t_wasConverted t_lastBits t_lastSum t_lastHeld t_lastLeft t_lastCode t_writtenLong t_codeMany t_acts t_done0 t_stoppedAt t_all (1 + a1) a2 f3 hc35) rfl hl.1 ⟨⟨rfl, rfl⟩, ⟨Nat.le_of_ble_eq_true rfl, Nat.le_of_ble_eq_true rfl⟩, ⟨Nat.le_of_ble_eq_true rfl, Nat.le_of_ble_eq_true rfl⟩, Nat.le_of_ble_eq_true rfl⟩) hA w [0, 1] [2, 3] [2, 3, 0, 1] rfl rfl (by decide) (fun _ => rfl) (fun _ H locs w => ?_)
      refine lv_iconst (v := 1) hx hb dX8_set_38 (by decide) ?_
      exact hQ _ _ _ _ _ f3 (fun _ => 0) hf rfl w dX8_set_39
    · have hf := pf_t c25 hf
      refine lv_iconst (v := 0) hx hb dX8_set_28 (by decide) ?_
      exact hQ _ _ _ _ _ t_all (fun _ => 0) hf rfl w dX8_set_29
set_option maxHeartbeats 8000000 in
set_option maxRecDepth 100000 in
theorem ct_X8_stick (l : Launch) (E : hm_E) (sz : Nat) (h0 : Nat) (r_t : Nat → Nat) (t_base t_taped t_at t_faultPlace t_number t_newBits t_newTold t_newDoings t_newThings t_opened t_sum t_heldAll t_onPaper t_turned t_wasConverted t_lastBits t_lastSum t_lastHeld t_lastLeft t_lastCode t_writtenLong t_codeMany t_acts t_done0 t_stoppedAt : Int32) (t_all : Nat → Int32) (a1 : Int32) (a2 : Int32) (R : Int32 × (Nat → Int32)) (hf : pf_X8_stick a1 a2 t_all t_base = some R) : hm_Mi l E yX8_stick cX8_stick 3 .boolean [] (hm_rr 2 43 0 0) [.ref h0, .int a1, .int a2] sz [oc8 h0 r_t t_base t_taped t_at t_faultPlace t_number t_newBits t_newTold t_newDoings t_newThings t_opened t_sum t_heldAll t_onPaper t_turned t_wasConverted t_lastBits t_lastSum t_lastHeld t_lastLeft t_lastCode t_writtenLong t_codeMany t_acts t_done0 t_stoppedAt, ic E (r_t 0) 800 t_all] R.1 (fun _ => [oc8 h0 r_t t_base t_taped t_at t_faultPlace t_number t_newBits t_newTold t_newDoings t_newThings t_opened t_sum t_heldAll t_onPaper t_turned t_wasConverted t_lastBits t_lastSum t_lastHeld t_lastLeft t_lastCode t_writtenLong t_codeMany t_acts t_done0 t_stoppedAt, ic E (r_t 0) 800 R.2]) := by
  refine hm_ct_i R (fun u _ => [oc8 h0 r_t t_base t_taped t_at t_faultPlace t_number t_newBits t_newTold t_newDoings t_newThings t_opened t_sum t_heldAll t_onPaper t_turned t_wasConverted t_lastBits t_lastSum t_lastHeld t_lastLeft t_lastCode t_writtenLong t_codeMany t_acts t_done0 t_stoppedAt, ic E (r_t 0) 800 u]) (by decide) (Nat.le_of_ble_eq_true rfl) (Or.inr rfl) ?_
  intro p e s m args below meth c A Q ls H locs hx hb hml hown X hA Y hex w hl hQ
  have hl : lv_has ls 3 [(0, .ref h0), (1, .int a1), (2, .int a2)] := hl
  unfold pf_X8_stick at hf
  refine lv_aload_n hx hb dX8_stick_0 rfl (lv_at hl 0 rfl) ?_
  refine lv_iload_n hx hb dX8_stick_1 rfl (lv_at hl 1 rfl) ?_
  obtain ⟨r1, hc2, hf⟩ := pf_bi_0 hf
  refine hm_aft_i (ws' := fun _ => [oc8 h0 r_t t_base t_taped t_at t_faultPlace t_number t_newBits t_newTold t_newDoings t_newThings t_opened t_sum t_heldAll t_onPaper t_turned t_wasConverted t_lastBits t_lastSum t_lastHeld t_lastLeft t_lastCode t_writtenLong t_codeMany t_acts t_done0 t_stoppedAt, ic E (r_t 0) 800 t_all]) (hm_runV (rest := []) hx hb hml hown X hA Y w 0 (ci := 7) (T := TX8) (N := 55) rfl rfl mw_X8_isBit ml_X8_251 dX8_stick_2 hm_ac0 [.int a1] rfl [0, 1] rfl rfl (ct_X8_isBit l E H.size h0 r_t t_base t_taped t_at t_faultPlace t_number t_newBits t_newTold t_newDoings t_newThings t_opened t_sum t_heldAll t_onPaper t_turned t_wasConverted t_lastBits t_lastSum t_lastHeld t_lastLeft t_lastCode t_writtenLong t_codeMany t_acts t_done0 t_stoppedAt t_all a1 (r1, ()) hc2) rfl hl.1 ⟨⟨rfl, rfl⟩, ⟨Nat.le_of_ble_eq_true rfl, Nat.le_of_ble_eq_true rfl⟩, ⟨Nat.le_of_ble_eq_true rfl, Nat.le_of_ble_eq_true rfl⟩, Nat.le_of_ble_eq_true rfl⟩) hA w [0, 1] [] [0, 1] rfl rfl (by decide) (fun _ => rfl) (fun _ H locs w => ?_)
  refine lv_if_eq (tgt := 17) hx hb dX8_stick_5 (by decide) (fun c5 => ?_) (fun c5 => ?_)
  · have hf := pf_t c5 hf
    refine lv_iconst (v := 0) hx hb dX8_stick_17 (by decide) ?_
    exact hQ _ _ _ _ _ t_all (fun _ => 0) hf rfl w dX8_stick_18
  · have hf := pf_e c5 hf
    refine lv_iload_n hx hb dX8_stick_8 rfl (lv_at hl 2 rfl) ?_
    refine lv_iconst (v := (-1)) hx hb dX8_stick_9 (by decide) ?_
    refine lv_iconst (v := 1) hx hb dX8_stick_10 (by decide) ?_
    obtain ⟨r2, hc11, hf⟩ := pf_bi_0 hf
    refine hm_aft_i (ws' := fun _ => [oc8 h0 r_t t_base t_taped t_at t_faultPlace t_number t_newBits t_newTold t_newDoings t_newThings t_opened t_sum t_heldAll t_onPaper t_turned t_wasConverted t_lastBits t_lastSum t_lastHeld t_lastLeft t_lastCode t_writtenLong t_codeMany t_acts t_done0 t_stoppedAt, ic E (r_t 0) 800 t_all]) (hm_runS (rest := []) hx hb hml hown X hA Y w mw_X8_isIn ml_X8_129 dX8_stick_11 hm_ac0 [.int a2, .int (-1), .int 1] rfl [] rfl rfl (ct_X8_isIn l E H.size a2 (-1) 1 (r2, ()) hc11) rfl hl.1 ⟨⟨rfl, rfl⟩, ⟨Nat.le_of_ble_eq_true rfl, Nat.le_of_ble_eq_true rfl⟩, ⟨Nat.le_of_ble_eq_true rfl, Nat.le_of_ble_eq_true rfl⟩, Nat.le_of_ble_eq_true rfl⟩) hA w [] [0, 1] [0, 1] rfl rfl (by decide) (fun _ => rfl) (fun _ H locs w => ?_)
    refine lv_if_ne (tgt := 19) hx hb dX8_stick_14 (by decide) (fun c14 => ?_) (fun c14 => ?_)
    · have hf := pf_e c14 hf
      refine lv_aload_n hx hb dX8_stick_19 rfl (lv_at hl 0 rfl) ?_
      refine lv_bipush (v := 45) hx hb dX8_stick_20 (by decide) ?_
      refine lv_iload_n hx hb dX8_stick_22 rfl (lv_at hl 1 rfl) ?_
      refine lv_iadd hx hb dX8_stick_23 ?_
      refine lv_iload_n hx hb dX8_stick_24 rfl (lv_at hl 2 rfl) ?_
      obtain ⟨f3, hc25, hf⟩ := pf_bv_1 hf
      refine hm_aft_v (ws' := fun _ => [oc8 h0 r_t t_base t_taped t_at t_faultPlace t_number t_newBits t_newTold t_newDoings t_newThings t_opened t_sum t_heldAll t_onPaper t_turned t_wasConverted t_lastBits t_lastSum t_lastHeld t_lastLeft t_lastCode t_writtenLong t_codeMany t_acts t_done0 t_stoppedAt, ic E (r_t 0) 800 f3]) (hm_runV (rest := []) hx hb hml hown X hA Y w 0 (ci := 7) (T := TX8) (N := 55) rfl rfl mw_X8_put ml_X8_119 dX8_stick_25 hm_ac0 [.int (45 + a1), .int a2] rfl [0, 1] rfl rfl (ct_X8_put l E H.size h0 r_t t_base t_taped t_at t_faultPlace t_number t_newBits t_newTold t_newDoings t_newThings t_opened t_sum t_heldAll t_onPaper t_turned t_wasConverted t_lastBits t_lastSum t_lastHeld t_lastLeft t_lastCode t_writtenLong t_codeMany t_acts t_done0 t_stoppedAt t_all (45 + a1) a2 f3 hc25) rfl hl.1 ⟨⟨rfl, rfl⟩, ⟨Nat.le_of_ble_eq_true rfl, Nat.le_of_ble_eq_true rfl⟩, ⟨Nat.le_of_ble_eq_true rfl, Nat.le_of_ble_eq_true rfl⟩, Nat.le_of_ble_eq_true rfl⟩) hA w [0, 1] [] [0, 1] rfl rfl (by decide) (fun _ => rfl) (fun _ H locs w => ?_)
      refine lv_iconst (v := 1) hx hb dX8_stick_28 (by decide) ?_
      exact hQ _ _ _ _ _ f3 (fun _ => 0) hf rfl w dX8_stick_29
    · have hf := pf_t c14 hf
      refine lv_iconst (v := 0) hx hb dX8_stick_17 (by decide) ?_
      exact hQ _ _ _ _ _ t_all (fun _ => 0) hf rfl w dX8_stick_18
set_option maxHeartbeats 8000000 in
set_option maxRecDepth 100000 in
theorem ct_X8_seed (l : Launch) (E : hm_E) (sz : Nat) (h0 : Nat) (r_t : Nat → Nat) (t_base t_taped t_at t_faultPlace t_number t_newBits t_newTold t_newDoings t_newThings t_opened t_sum t_heldAll t_onPaper t_turned t_wasConverted t_lastBits t_lastSum t_lastHeld t_lastLeft t_lastCode t_writtenLong t_codeMany t_acts t_done0 t_stoppedAt : Int32) (t_all : Nat → Int32) (a1 : Int32) (R : Int32 × (Nat → Int32)) (hf : pf_X8_seed a1 t_all t_base = some R) : hm_Mi l E yX8_seed cX8_seed 3 .int [] (hm_rr 1 22 0 0) [.ref h0, .int a1] sz [oc8 h0 r_t t_base t_taped t_at t_faultPlace t_number t_newBits t_newTold t_newDoings t_newThings t_opened t_sum t_heldAll t_onPaper t_turned t_wasConverted t_lastBits t_lastSum t_lastHeld t_lastLeft t_lastCode t_writtenLong t_codeMany t_acts t_done0 t_stoppedAt, ic E (r_t 0) 800 t_all] R.1 (fun _ => [oc8 h0 r_t t_base t_taped t_at t_faultPlace t_number t_newBits t_newTold t_newDoings t_newThings t_opened t_sum t_heldAll t_onPaper t_turned t_wasConverted t_lastBits t_lastSum t_lastHeld t_lastLeft t_lastCode t_writtenLong t_codeMany t_acts t_done0 t_stoppedAt, ic E (r_t 0) 800 R.2]) := by
  refine hm_ct_i R (fun u _ => [oc8 h0 r_t t_base t_taped t_at t_faultPlace t_number t_newBits t_newTold t_newDoings t_newThings t_opened t_sum t_heldAll t_onPaper t_turned t_wasConverted t_lastBits t_lastSum t_lastHeld t_lastLeft t_lastCode t_writtenLong t_codeMany t_acts t_done0 t_stoppedAt, ic E (r_t 0) 800 u]) (by decide) (Nat.le_of_ble_eq_true rfl) (Or.inl rfl) ?_
  intro p e s m args below meth c A Q ls H locs hx hb hml hown X hA Y hex w hl hQ
  have hl : lv_has ls 3 [(0, .ref h0), (1, .int a1)] := hl
  unfold pf_X8_seed at hf
  refine lv_aload_n hx hb dX8_seed_0 rfl (lv_at hl 0 rfl) ?_
  refine lv_bipush (v := 6) hx hb dX8_seed_1 (by decide) ?_
  obtain ⟨r1, hc3, hf⟩ := pf_bi_0 hf
  refine hm_aft_i (ws' := fun _ => [oc8 h0 r_t t_base t_taped t_at t_faultPlace t_number t_newBits t_newTold t_newDoings t_newThings t_opened t_sum t_heldAll t_onPaper t_turned t_wasConverted t_lastBits t_lastSum t_lastHeld t_lastLeft t_lastCode t_writtenLong t_codeMany t_acts t_done0 t_stoppedAt, ic E (r_t 0) 800 t_all]) (hm_runV (rest := []) hx hb hml hown X hA Y w 0 (ci := 7) (T := TX8) (N := 55) rfl rfl mw_X8_get ml_X8_221 dX8_seed_3 hm_ac0 [.int 6] rfl [0, 1] rfl rfl (ct_X8_get l E H.size h0 r_t t_base t_taped t_at t_faultPlace t_number t_newBits t_newTold t_newDoings t_newThings t_opened t_sum t_heldAll t_onPaper t_turned t_wasConverted t_lastBits t_lastSum t_lastHeld t_lastLeft t_lastCode t_writtenLong t_codeMany t_acts t_done0 t_stoppedAt t_all 6 (r1, ()) hc3) rfl hl.1 ⟨⟨rfl, rfl⟩, ⟨Nat.le_of_ble_eq_true rfl, Nat.le_of_ble_eq_true rfl⟩, ⟨Nat.le_of_ble_eq_true rfl, Nat.le_of_ble_eq_true rfl⟩, Nat.le_of_ble_eq_true rfl⟩) hA w [0, 1] [] [0, 1] rfl rfl (by decide) (fun _ => rfl) (fun _ H locs w => ?_)
  refine lv_istore_n (lv' := [(2, .int r1), (0, .ref h0), (1, .int a1)]) hx hb dX8_seed_6 rfl hl (by decide) rfl (fun ls hl => ?_)
  refine lv_aload_n hx hb dX8_seed_7 rfl (lv_at hl 1 rfl) ?_
  refine lv_bipush (v := 6) hx hb dX8_seed_8 (by decide) ?_
  refine lv_iload_n hx hb dX8_seed_10 rfl (lv_at hl 2 rfl) ?_
  obtain ⟨f2, hc11, hf⟩ := pf_bv_1 hf
  refine hm_aft_v (ws' := fun _ => [oc8 h0 r_t t_base t_taped t_at t_faultPlace t_number t_newBits t_newTold t_newDoings t_newThings t_opened t_sum t_heldAll t_onPaper t_turned t_wasConverted t_lastBits t_lastSum t_lastHeld t_lastLeft t_lastCode t_writtenLong t_codeMany t_acts t_done0 t_stoppedAt, ic E (r_t 0) 800 f2]) (hm_runV (rest := []) hx hb hml hown X hA Y w 0 (ci := 7) (T := TX8) (N := 55) rfl rfl mw_X8_put ml_X8_119 dX8_seed_11 hm_ac0 [.int 6, .int a1] rfl [0, 1] rfl rfl (ct_X8_put l E H.size h0 r_t t_base t_taped t_at t_faultPlace t_number t_newBits t_newTold t_newDoings t_newThings t_opened t_sum t_heldAll t_onPaper t_turned t_wasConverted t_lastBits t_lastSum t_lastHeld t_lastLeft t_lastCode t_writtenLong t_codeMany t_acts t_done0 t_stoppedAt t_all 6 a1 f2 hc11) rfl hl.1 ⟨⟨rfl, rfl⟩, ⟨Nat.le_of_ble_eq_true rfl, Nat.le_of_ble_eq_true rfl⟩, ⟨Nat.le_of_ble_eq_true rfl, Nat.le_of_ble_eq_true rfl⟩, Nat.le_of_ble_eq_true rfl⟩) hA w [0, 1] [] [0, 1] rfl rfl (by decide) (fun _ => rfl) (fun _ H locs w => ?_)
  refine lv_iload_n hx hb dX8_seed_14 rfl (lv_at hl 0 rfl) ?_
  exact hQ _ _ _ _ _ f2 (fun _ => 0) hf rfl w dX8_seed_15