set_option maxHeartbeats 8000000 in
set_option maxRecDepth 100000 in
theorem ct_X8_readBench (l : Launch) (E : hm_E) (sz : Nat) (h0 : Nat) (r_t : Nat → Nat) (t_base t_taped t_at t_faultPlace t_number t_newBits t_newTold t_newDoings t_newThings t_opened t_sum t_heldAll t_onPaper t_turned t_wasConverted t_lastBits t_lastSum t_lastHeld t_lastLeft t_lastCode t_writtenLong t_codeMany t_acts t_done0 t_stoppedAt : Int32) (t_act : Nat → Int32) (t_actA : Nat → Int32) (t_actB : Nat → Int32) (t_tape : Nat → Int32) (R : Int32 × Int32 × Int32 × Int32 × (Nat → Int32) × (Nat → Int32) × (Nat → Int32) × Int32) (hf : pf_X8_readBench t_tape t_taped t_number t_act t_actA t_actB = some R) : hm_Mi l E yX8_readBench cX8_readBench 1 .boolean [] (hm_rr 4 85 0 0) [.ref h0] sz [oc8 h0 r_t t_base t_taped t_at t_faultPlace t_number t_newBits t_newTold t_newDoings t_newThings t_opened t_sum t_heldAll t_onPaper t_turned t_wasConverted t_lastBits t_lastSum t_lastHeld t_lastLeft t_lastCode t_writtenLong t_codeMany t_acts t_done0 t_stoppedAt, ic E (r_t 48) 40 t_act, ic E (r_t 49) 40 t_actA, ic E (r_t 50) 40 t_actB, bc E (r_t 2) 400 t_tape] R.1 (fun _ => [oc8 h0 r_t t_base t_taped (R.2.1) (R.2.2.1) (R.2.2.2.1) t_newBits t_newTold t_newDoings t_newThings t_opened t_sum t_heldAll t_onPaper t_turned t_wasConverted t_lastBits t_lastSum t_lastHeld t_lastLeft t_lastCode t_writtenLong t_codeMany (R.2.2.2.2.2.2.2) t_done0 t_stoppedAt, ic E (r_t 48) 40 (R.2.2.2.2.1), ic E (r_t 49) 40 (R.2.2.2.2.2.1), ic E (r_t 50) 40 (R.2.2.2.2.2.2.1), bc E (r_t 2) 400 t_tape]) := by
  refine hm_ct_i R (fun u qs => [oc8 h0 r_t t_base t_taped (u.1) (u.2.1) (u.2.2.1) t_newBits t_newTold t_newDoings t_newThings t_opened t_sum t_heldAll t_onPaper t_turned t_wasConverted t_lastBits t_lastSum t_lastHeld t_lastLeft t_lastCode t_writtenLong t_codeMany (u.2.2.2.2.2.2) t_done0 t_stoppedAt, ic E (r_t 48) 40 (u.2.2.2.1), ic E (r_t 49) 40 (u.2.2.2.2.1), ic E (r_t 50) 40 (u.2.2.2.2.2.1), bc E (r_t 2) 400 t_tape]) (by decide) (Nat.le_of_ble_eq_true rfl) (Or.inr rfl) ?_
  intro p e s m args below meth c A Q ls H locs hx hb hml hown X hA Y hex w hl hQ
  have hl : lv_has ls 1 [(0, .ref h0)] := hl
  unfold pf_X8_readBench at hf
  refine lv_aload_n hx hb dX8_readBench_0 rfl (lv_at hl 0 rfl) ?_
  refine lv_iconst (v := 0) hx hb dX8_readBench_1 (by decide) ?_
  refine hm_put (ws' := [oc8 h0 r_t t_base t_taped 0 t_faultPlace t_number t_newBits t_newTold t_newDoings t_newThings t_opened t_sum t_heldAll t_onPaper t_turned t_wasConverted t_lastBits t_lastSum t_lastHeld t_lastLeft t_lastCode t_writtenLong t_codeMany t_acts t_done0 t_stoppedAt, ic E (r_t 48) 40 t_act, ic E (r_t 49) 40 t_actA, ic E (r_t 50) 40 t_actB, bc E (r_t 2) 400 t_tape]) cb_X8 hx hb hown X w 0 4 fl_X8_133 dX8_readBench_2 rfl (by decide) (Nat.le_of_ble_eq_true rfl) rfl rfl rfl rfl (fun H locs w => ?_)
  refine lv_aload_n hx hb dX8_readBench_5 rfl (lv_at hl 0 rfl) ?_
  refine lv_iconst (v := (-1)) hx hb dX8_readBench_6 (by decide) ?_
  refine hm_put (ws' := [oc8 h0 r_t t_base t_taped 0 (-1) t_number t_newBits t_newTold t_newDoings t_newThings t_opened t_sum t_heldAll t_onPaper t_turned t_wasConverted t_lastBits t_lastSum t_lastHeld t_lastLeft t_lastCode t_writtenLong t_codeMany t_acts t_done0 t_stoppedAt, ic E (r_t 48) 40 t_act, ic E (r_t 49) 40 t_actA, ic E (r_t 50) 40 t_actB, bc E (r_t 2) 400 t_tape]) cb_X8 hx hb hown X w 0 5 fl_X8_25 dX8_readBench_7 rfl (by decide) (Nat.le_of_ble_eq_true rfl) rfl rfl rfl rfl (fun H locs w => ?_)
  refine lv_aload_n hx hb dX8_readBench_10 rfl (lv_at hl 0 rfl) ?_
  refine lv_iconst (v := 0) hx hb dX8_readBench_11 (by decide) ?_
  refine hm_put (ws' := [oc8 h0 r_t t_base t_taped 0 (-1) t_number t_newBits t_newTold t_newDoings t_newThings t_opened t_sum t_heldAll t_onPaper t_turned t_wasConverted t_lastBits t_lastSum t_lastHeld t_lastLeft t_lastCode t_writtenLong t_codeMany 0 t_done0 t_stoppedAt, ic E (r_t 48) 40 t_act, ic E (r_t 49) 40 t_actA, ic E (r_t 50) 40 t_actB, bc E (r_t 2) 400 t_tape]) cb_X8 hx hb hown X w 0 52 fl_X8_403 dX8_readBench_12 rfl (by decide) (Nat.le_of_ble_eq_true rfl) rfl rfl rfl rfl (fun H locs w => ?_)
  have klp_X8_readBench_15 : ∀ (n : Nat) (x1 : Int32) (x2 : Int32) (x3 : Int32) (f4 : Nat → Int32) (f5 : Nat → Int32) (f6 : Nat → Int32) (x7 : Int32) (H : Heap) (locs : List Loc) (ls : Array Slot), lp_X8_readBench_15 t_taped t_tape n x1 x2 x3 f4 f5 f6 x7 = some R → hm_W E A s.heap [oc8 h0 r_t t_base t_taped x1 x2 x3 t_newBits t_newTold t_newDoings t_newThings t_opened t_sum t_heldAll t_onPaper t_turned t_wasConverted t_lastBits t_lastSum t_lastHeld t_lastLeft t_lastCode t_writtenLong t_codeMany x7 t_done0 t_stoppedAt, ic E (r_t 48) 40 f4, ic E (r_t 49) 40 f5, ic E (r_t 50) 40 f6, bc E (r_t 2) 400 t_tape] H locs → lv_has ls 1 [(0, .ref h0)] → W p l e (hm_rr 4 85 0 0) s m args below meth c H locs 0 0 Q (F0 m 15 ls []) := by
    intro n
    induction n with
    | zero =>
      intro x1 x2 x3 f4 f5 f6 x7 H locs ls hf w hl
      exact pf_no hf
    | succ n ih15 =>
      intro x1 x2 x3 f4 f5 f6 x7 H locs ls hf w hl
      rw [lp_X8_readBench_15] at hf
      refine lv_aload_n hx hb dX8_readBench_15 rfl (lv_at hl 0 rfl) ?_
      refine hm_get cb_X8 hx hb hown X w 0 4 fl_X8_133 dX8_readBench_16 rfl (by decide) rfl ?_
      refine lv_aload_n hx hb dX8_readBench_19 rfl (lv_at hl 0 rfl) ?_
      refine hm_get cb_X8 hx hb hown X w 0 3 fl_X8_122 dX8_readBench_20 rfl (by decide) rfl ?_
      refine lv_icmp_ge (tgt := 35) hx hb dX8_readBench_23 (by decide) (fun c23 => ?_) (fun c23 => ?_)
      · have hf := pf_t c23 hf
        refine lv_iconst (v := 1) hx hb dX8_readBench_35 (by decide) ?_
        exact hQ _ _ _ _ _ (x1, x2, x3, f4, f5, f6, x7) (fun _ => 0) hf rfl w dX8_readBench_36
      · have hf := pf_e c23 hf
        refine lv_aload_n hx hb dX8_readBench_26 rfl (lv_at hl 0 rfl) ?_
        obtain ⟨r8, x9, x10, x11, f12, f13, f14, x15, hc27, hf⟩ := pf_bi_7 hf
        refine hm_aft_i (ws' := fun _ => [oc8 h0 r_t t_base t_taped x9 x10 x11 t_newBits t_newTold t_newDoings t_newThings t_opened t_sum t_heldAll t_onPaper t_turned t_wasConverted t_lastBits t_lastSum t_lastHeld t_lastLeft t_lastCode t_writtenLong t_codeMany x15 t_done0 t_stoppedAt, ic E (r_t 48) 40 f12, ic E (r_t 49) 40 f13, ic E (r_t 50) 40 f14, bc E (r_t 2) 400 t_tape]) (hm_runV (rest := []) hx hb hml hown X hA Y w 0 (ci := 7) (T := TX8) (N := 55) rfl rfl mw_X8_readAct ml_X8_410 dX8_readBench_27 hm_ac0 [] rfl [0, 1, 2, 3, 4] rfl rfl (ct_X8_readAct l E H.size h0 r_t t_base t_taped x1 x2 x3 t_newBits t_newTold t_newDoings t_newThings t_opened t_sum t_heldAll t_onPaper t_turned t_wasConverted t_lastBits t_lastSum t_lastHeld t_lastLeft t_lastCode t_writtenLong t_codeMany x7 t_done0 t_stoppedAt f4 f5 f6 t_tape (r8, x9, x10, x11, f12, f13, f14, x15) hc27) rfl hl.1 ⟨⟨rfl, rfl⟩, ⟨Nat.le_of_ble_eq_true rfl, Nat.le_of_ble_eq_true rfl⟩, ⟨Nat.le_of_ble_eq_true rfl, Nat.le_of_ble_eq_true rfl⟩, Nat.le_of_ble_eq_true rfl⟩) hA w [0, 1, 2, 3, 4] [] [0, 1, 2, 3, 4] rfl rfl (by decide) (fun _ => rfl) (fun _ H locs w => ?_)
        refine lv_if_ne (tgt := 15) hx hb dX8_readBench_30 (by decide) (fun c30 => ?_) (fun c30 => ?_)
        · have hf := pf_e c30 hf
          exact ih15 _ _ _ _ _ _ _ _ _ _ hf w (lv_sub hl [0] rfl)
        · have hf := pf_t c30 hf
          refine lv_iconst (v := 0) hx hb dX8_readBench_33 (by decide) ?_
          exact hQ _ _ _ _ _ (x9, x10, x11, f12, f13, f14, x15) (fun _ => 0) hf rfl w dX8_readBench_34
  exact klp_X8_readBench_15 FU _ _ _ _ _ _ _ _ _ _ hf w (lv_sub hl [0] rfl)
set_option maxHeartbeats 8000000 in
set_option maxRecDepth 100000 in
theorem ct_X8_refusedBy (l : Launch) (E : hm_E) (sz : Nat) (a0 : Int32) (a1 : Int32) (R : Int32 × Unit) (hf : pf_X8_refusedBy a0 a1 = some R) : hm_Mi l E yX8_refusedBy cX8_refusedBy 2 .int [] (hm_rr 0 0 0 0) [.int a0, .int a1] sz [] R.1 (fun _ => []) := by
  refine hm_ct_i R (fun u qs => []) (by decide) (Nat.le_of_ble_eq_true rfl) (Or.inl rfl) ?_
  intro p e s m args below meth c A Q ls H locs hx hb hml hown X hA Y hex w hl hQ
  have hl : lv_has ls 2 [(0, .int a0), (1, .int a1)] := hl
  unfold pf_X8_refusedBy at hf
  refine lv_iload_n hx hb dX8_refusedBy_0 rfl (lv_at hl 0 rfl) ?_
  refine lv_iload_n hx hb dX8_refusedBy_1 rfl (lv_at hl 1 rfl) ?_
  refine lv_icmp_ne (tgt := 11) hx hb dX8_refusedBy_2 (by decide) (fun c2 => ?_) (fun c2 => ?_)
  · have hf := pf_e c2 hf
    refine lv_iload_n hx hb dX8_refusedBy_11 rfl (lv_at hl 0 rfl) ?_
    exact hQ _ _ _ _ _ () (fun _ => 0) hf rfl w dX8_refusedBy_12
  · have hf := pf_t c2 hf
    refine lv_ldcw (v := (-1000000)) hx hb hown (X.use ck_X8_283 rfl) dX8_refusedBy_5 ?_
    refine lv_goto (tgt := 12) hx hb dX8_refusedBy_8 (by decide) ?_
    exact hQ _ _ _ _ _ () (fun _ => 0) hf rfl w dX8_refusedBy_12
set_option maxHeartbeats 8000000 in
set_option maxRecDepth 100000 in
theorem ct_X8_doAct (l : Launch) (E : hm_E) (sz : Nat) (h0 : Nat) (r_t : Nat → Nat) (t_base t_taped t_at t_faultPlace t_number t_newBits t_newTold t_newDoings t_newThings t_opened t_sum t_heldAll t_onPaper t_turned t_wasConverted t_lastBits t_lastSum t_lastHeld t_lastLeft t_lastCode t_writtenLong t_codeMany t_acts t_done0 t_stoppedAt : Int32) (t_act : Nat → Int32) (t_actA : Nat → Int32) (t_actB : Nat → Int32) (t_all : Nat → Int32) (t_askedOf : Nat → Int32) (t_decided : Nat → Int32) (t_heldBehind : Nat → Int32) (t_last : Nat → Int32) (t_nextOff : Nat → Int32) (t_pile : Nat → Int32) (t_toldBy : Nat → Int32) (t_wasLate : Nat → Int32) (a1 : Int32) (R : Int32 × (Nat → Int32) × (Nat → Int32) × (Nat → Int32) × (Nat → Int32) × (Nat → Int32) × (Nat → Int32) × (Nat → Int32) × Int32 × Int32 × Int32 × Int32 × Int32 × Int32 × Int32 × Int32 × (Nat → Int32)) (hf : pf_X8_doAct a1 t_all t_base t_pile t_nextOff t_decided t_wasLate t_askedOf t_heldBehind t_sum t_heldAll t_onPaper t_turned t_wasConverted t_lastBits t_lastSum t_lastHeld t_lastLeft t_lastCode t_last t_act t_actA t_actB t_toldBy = some R) : hm_Mi l E yX8_doAct cX8_doAct 4 .int [] (hm_rr 6 145 0 0) [.ref h0, .int a1] sz [oc8 h0 r_t t_base t_taped t_at t_faultPlace t_number t_newBits t_newTold t_newDoings t_newThings t_opened t_sum t_heldAll t_onPaper t_turned t_wasConverted t_lastBits t_lastSum t_lastHeld t_lastLeft t_lastCode t_writtenLong t_codeMany t_acts t_done0 t_stoppedAt, ic E (r_t 48) 40 t_act, ic E (r_t 49) 40 t_actA, ic E (r_t 50) 40 t_actB, ic E (r_t 0) 800 t_all, ic E (r_t 27) 12 t_askedOf, ic E (r_t 25) 12 t_decided, ic E (r_t 28) 12 t_heldBehind, ic E (r_t 39) 48 t_last, ic E (r_t 24) 12 t_nextOff, ic E (r_t 23) 90 t_pile, ic E (r_t 51) 40 t_toldBy, zc E (r_t 26) 12 t_wasLate] R.1 (fun _ => [oc8 h0 r_t t_base t_taped t_at t_faultPlace t_number t_newBits t_newTold t_newDoings t_newThings t_opened (R.2.2.2.2.2.2.2.2.1) (R.2.2.2.2.2.2.2.2.2.1) t_onPaper t_turned (R.2.2.2.2.2.2.2.2.2.2.1) (R.2.2.2.2.2.2.2.2.2.2.2.1) (R.2.2.2.2.2.2.2.2.2.2.2.2.1) (R.2.2.2.2.2.2.2.2.2.2.2.2.2.1) (R.2.2.2.2.2.2.2.2.2.2.2.2.2.2.1) (R.2.2.2.2.2.2.2.2.2.2.2.2.2.2.2.1) t_writtenLong t_codeMany t_acts t_done0 t_stoppedAt, ic E (r_t 48) 40 t_act, ic E (r_t 49) 40 t_actA, ic E (r_t 50) 40 t_actB, ic E (r_t 0) 800 (R.2.1), ic E (r_t 27) 12 (R.2.2.2.2.2.2.1), ic E (r_t 25) 12 (R.2.2.2.2.1), ic E (r_t 28) 12 (R.2.2.2.2.2.2.2.1), ic E (r_t 39) 48 (R.2.2.2.2.2.2.2.2.2.2.2.2.2.2.2.2), ic E (r_t 24) 12 (R.2.2.2.1), ic E (r_t 23) 90 (R.2.2.1), ic E (r_t 51) 40 t_toldBy, zc E (r_t 26) 12 (R.2.2.2.2.2.1)]) := by
  refine hm_ct_i R (fun u qs => [oc8 h0 r_t t_base t_taped t_at t_faultPlace t_number t_newBits t_newTold t_newDoings t_newThings t_opened (u.2.2.2.2.2.2.2.1) (u.2.2.2.2.2.2.2.2.1) t_onPaper t_turned (u.2.2.2.2.2.2.2.2.2.1) (u.2.2.2.2.2.2.2.2.2.2.1) (u.2.2.2.2.2.2.2.2.2.2.2.1) (u.2.2.2.2.2.2.2.2.2.2.2.2.1) (u.2.2.2.2.2.2.2.2.2.2.2.2.2.1) (u.2.2.2.2.2.2.2.2.2.2.2.2.2.2.1) t_writtenLong t_codeMany t_acts t_done0 t_stoppedAt, ic E (r_t 48) 40 t_act, ic E (r_t 49) 40 t_actA, ic E (r_t 50) 40 t_actB, ic E (r_t 0) 800 (u.1), ic E (r_t 27) 12 (u.2.2.2.2.2.1), ic E (r_t 25) 12 (u.2.2.2.1), ic E (r_t 28) 12 (u.2.2.2.2.2.2.1), ic E (r_t 39) 48 (u.2.2.2.2.2.2.2.2.2.2.2.2.2.2.2), ic E (r_t 24) 12 (u.2.2.1), ic E (r_t 23) 90 (u.2.1), ic E (r_t 51) 40 t_toldBy, zc E (r_t 26) 12 (u.2.2.2.2.1)]) (by decide) (Nat.le_of_ble_eq_true rfl) (Or.inl rfl) ?_
  intro p e s m args below meth c A Q ls H locs hx hb hml hown X hA Y hex w hl hQ
  have hl : lv_has ls 4 [(0, .ref h0), (1, .int a1)] := hl
  unfold pf_X8_doAct at hf
  refine lv_aload_n hx hb dX8_doAct_0 rfl (lv_at hl 0 rfl) ?_
  refine hm_get cb_X8 hx hb hown X w 0 49 fl_X8_107 dX8_doAct_1 rfl (by decide) rfl ?_
  refine lv_iload_n hx hb dX8_doAct_4 rfl (lv_at hl 1 rfl) ?_
  obtain ⟨g5, hf⟩ := pf_ckI hf
  refine hm_iald hx hb X w 2 dX8_doAct_5 rfl g5 ?_
  refine lv_topi (fun x1 ex1 => ?_)
  have hf := pf_nm ex1 hf
  refine lv_istore_n (lv' := [(2, .int x1), (0, .ref h0), (1, .int a1)]) hx hb dX8_doAct_6 rfl hl (by decide) rfl (fun ls hl => ?_)
  refine lv_aload_n hx hb dX8_doAct_7 rfl (lv_at hl 1 rfl) ?_
  refine hm_get cb_X8 hx hb hown X w 0 50 fl_X8_110 dX8_doAct_8 rfl (by decide) rfl ?_
  refine lv_iload_n hx hb dX8_doAct_11 rfl (lv_at hl 2 rfl) ?_
  obtain ⟨g12, hf⟩ := pf_ckI hf
  refine hm_iald hx hb X w 3 dX8_doAct_12 rfl g12 ?_
  refine lv_topi (fun x2 ex2 => ?_)
  have hf := pf_nm ex2 hf
  refine lv_istore_n (lv' := [(3, .int x2), (2, .int x1), (0, .ref h0), (1, .int a1)]) hx hb dX8_doAct_13 rfl hl (by decide) rfl (fun ls hl => ?_)
  refine lv_aload_n hx hb dX8_doAct_14 rfl (lv_at hl 2 rfl) ?_
  refine hm_get cb_X8 hx hb hown X w 0 48 fl_X8_104 dX8_doAct_15 rfl (by decide) rfl ?_
  refine lv_iload_n hx hb dX8_doAct_18 rfl (lv_at hl 3 rfl) ?_
  obtain ⟨g19, hf⟩ := pf_ckI hf
  refine hm_iald hx hb X w 1 dX8_doAct_19 rfl g19 ?_
  refine lv_topi (fun x3 ex3 => ?_)
  have hf := pf_nm ex3 hf
  by_cases c20_99 : x3 = 99
  · have hf := pf_t c20_99 hf
    refine lv_tableIn (off := 104) (tgt := 124) hx hb dX8_doAct_20 (by rw [c20_99]; decide) (by rw [c20_99]; decide) (by rw [c20_99]; rfl) (by decide) ?_
    refine lv_aload_n hx hb dX8_doAct_124 rfl (lv_at hl 2 rfl) ?_
    refine lv_iload_n hx hb dX8_doAct_125 rfl (lv_at hl 1 rfl) ?_
    obtain ⟨r4, f5, f6, f7, f8, f9, x10, x11, x12, x13, x14, x15, x16, x17, f18, hc126, hf⟩ := pf_bi_14 hf
    refine hm_aft_i (ws' := fun _ => [oc8 h0 r_t t_base t_taped t_at t_faultPlace t_number t_newBits t_newTold t_newDoings t_newThings t_opened x10 x11 t_onPaper t_turned x12 x13 x14 x15 x16 x17 t_writtenLong t_codeMany t_acts t_done0 t_stoppedAt, ic E (r_t 48) 40 t_act, ic E (r_t 49) 40 t_actA, ic E (r_t 50) 40 t_actB, ic E (r_t 0) 800 f5, ic E (r_t 27) 12 f8, ic E (r_t 25) 12 f6, ic E (r_t 28) 12 f9, ic E (r_t 39) 48 f18, ic E (r_t 24) 12 t_nextOff, ic E (r_t 23) 90 t_pile, ic E (r_t 51) 40 t_toldBy, zc E (r_t 26) 12 f7]) (hm_runV (rest := []) hx hb hml hown X hA Y w 0 (ci := 7) (T := TX8) (N := 55) rfl rfl mw_X8_convert ml_X8_413 dX8_doAct_126 hm_ac0 [.int x1] rfl [0, 4, 5, 6, 7, 8, 12] rfl rfl (ct_X8_convert l E H.size h0 r_t t_base t_taped t_at t_faultPlace t_number t_newBits t_newTold t_newDoings t_newThings t_opened t_sum t_heldAll t_onPaper t_turned t_wasConverted t_lastBits t_lastSum t_lastHeld t_lastLeft t_lastCode t_writtenLong t_codeMany t_acts t_done0 t_stoppedAt t_all t_askedOf t_decided t_heldBehind t_last t_wasLate x1 (r4, f5, f6, f7, f8, f9, x10, x11, x12, x13, x14, x15, x16, x17, f18) hc126) rfl hl.1 ⟨⟨rfl, rfl⟩, ⟨Nat.le_of_ble_eq_true rfl, Nat.le_of_ble_eq_true rfl⟩, ⟨Nat.le_of_ble_eq_true rfl, Nat.le_of_ble_eq_true rfl⟩, Nat.le_of_ble_eq_true rfl⟩) hA w [0, 4, 5, 6, 7, 8, 12] [1, 2, 3, 9, 10, 11] [6, 0, 1, 2, 7, 8, 9, 10, 11, 3, 4, 5, 12] rfl rfl (by decide) (fun _ => rfl) (fun _ H locs w => ?_)
    exact hQ _ _ _ _ _ (f5, t_pile, t_nextOff, f6, f7, f8, f9, x10, x11, x12, x13, x14, x15, x16, x17, f18) (fun _ => 0) hf rfl w dX8_doAct_129
  · have hf := pf_e c20_99 hf
    by_cases c20_100 : x3 = 100
    · have hf := pf_t c20_100 hf
      refine lv_tableIn (off := 195) (tgt := 215) hx hb dX8_doAct_20 (by rw [c20_100]; decide) (by rw [c20_100]; decide) (by rw [c20_100]; rfl) (by decide) ?_
      refine lv_iload_n hx hb dX8_doAct_215 rfl (lv_at hl 3 rfl) ?_
      refine lv_if_le (tgt := 235) hx hb dX8_doAct_216 (by decide) (fun c216 => ?_) (fun c216 => ?_)
      · have hf := pf_t c216 hf
        refine lv_ldcw (v := (-1000000)) hx hb hown (X.use ck_X8_283 rfl) dX8_doAct_235 ?_
        exact hQ _ _ _ _ _ (t_all, t_pile, t_nextOff, t_decided, t_wasLate, t_askedOf, t_heldBehind, t_sum, t_heldAll, t_wasConverted, t_lastBits, t_lastSum, t_lastHeld, t_lastLeft, t_lastCode, t_last) (fun _ => 0) hf rfl w dX8_doAct_238
      · have hf := pf_e c216 hf
        refine lv_aload_n hx hb dX8_doAct_219 rfl (lv_at hl 2 rfl) ?_
        refine hm_get cb_X8 hx hb hown X w 0 51 fl_X8_113 dX8_doAct_220 rfl (by decide) rfl ?_
        refine lv_iload_n hx hb dX8_doAct_223 rfl (lv_at hl 3 rfl) ?_
        refine lv_iconst (v := 1) hx hb dX8_doAct_224 (by decide) ?_
        refine lv_isub hx hb dX8_doAct_225 ?_
        obtain ⟨g226, hf⟩ := pf_ckI hf
        refine hm_iald hx hb X w 11 dX8_doAct_226 rfl g226 ?_
        refine lv_iload_n hx hb dX8_doAct_227 rfl (lv_at hl 1 rfl) ?_
        refine lv_icmp_ne (tgt := 235) hx hb dX8_doAct_228 (by decide) (fun c228 => ?_) (fun c228 => ?_)
        · have hf := pf_e c228 hf
          refine lv_ldcw (v := (-1000000)) hx hb hown (X.use ck_X8_283 rfl) dX8_doAct_235 ?_
          exact hQ _ _ _ _ _ (t_all, t_pile, t_nextOff, t_decided, t_wasLate, t_askedOf, t_heldBehind, t_sum, t_heldAll, t_wasConverted, t_lastBits, t_lastSum, t_lastHeld, t_lastLeft, t_lastCode, t_last) (fun _ => 0) hf rfl w dX8_doAct_238
        · have hf := pf_t c228 hf
          refine lv_iload_n hx hb dX8_doAct_231 rfl (lv_at hl 1 rfl) ?_
          refine lv_goto (tgt := 238) hx hb dX8_doAct_232 (by decide) ?_
          exact hQ _ _ _ _ _ (t_all, t_pile, t_nextOff, t_decided, t_wasLate, t_askedOf, t_heldBehind, t_sum, t_heldAll, t_wasConverted, t_lastBits, t_lastSum, t_lastHeld, t_lastLeft, t_lastCode, t_last) (fun _ => 0) hf rfl w dX8_doAct_238
    · have hf := pf_e c20_100 hf
      by_cases c20_101 : x3 = 101
      · have hf := pf_t c20_101 hf
        refine lv_tableIn (off := 195) (tgt := 215) hx hb dX8_doAct_20 (by rw [c20_101]; decide) (by rw [c20_101]; decide) (by rw [c20_101]; rfl) (by decide) ?_
        refine lv_iload_n hx hb dX8_doAct_215 rfl (lv_at hl 3 rfl) ?_
        refine lv_if_le (tgt := 235) hx hb dX8_doAct_216 (by decide) (fun c216 => ?_) (fun c216 => ?_)
        · have hf := pf_t c216 hf
          refine lv_ldcw (v := (-1000000)) hx hb hown (X.use ck_X8_283 rfl) dX8_doAct_235 ?_
          exact hQ _ _ _ _ _ (t_all, t_pile, t_nextOff, t_decided, t_wasLate, t_askedOf, t_heldBehind, t_sum, t_heldAll, t_wasConverted, t_lastBits, t_lastSum, t_lastHeld, t_lastLeft, t_lastCode, t_last) (fun _ => 0) hf rfl w dX8_doAct_238
        · have hf := pf_e c216 hf
          refine lv_aload_n hx hb dX8_doAct_219 rfl (lv_at hl 2 rfl) ?_
          refine hm_get cb_X8 hx hb hown X w 0 51 fl_X8_113 dX8_doAct_220 rfl (by decide) rfl ?_
          refine lv_iload_n hx hb dX8_doAct_223 rfl (lv_at hl 3 rfl) ?_
          refine lv_iconst (v := 1) hx hb dX8_doAct_224 (by decide) ?_
          refine lv_isub hx hb dX8_doAct_225 ?_
          obtain ⟨g226, hf⟩ := pf_ckI hf
          refine hm_iald hx hb X w 11 dX8_doAct_226 rfl g226 ?_
          refine lv_iload_n hx hb dX8_doAct_227 rfl (lv_at hl 1 rfl) ?_
          refine lv_icmp_ne (tgt := 235) hx hb dX8_doAct_228 (by decide) (fun c228 => ?_) (fun c228 => ?_)
          · have hf := pf_e c228 hf
            refine lv_ldcw (v := (-1000000)) hx hb hown (X.use ck_X8_283 rfl) dX8_doAct_235 ?_
            exact hQ _ _ _ _ _ (t_all, t_pile, t_nextOff, t_decided, t_wasLate, t_askedOf, t_heldBehind, t_sum, t_heldAll, t_wasConverted, t_lastBits, t_lastSum, t_lastHeld, t_lastLeft, t_lastCode, t_last) (fun _ => 0) hf rfl w dX8_doAct_238
          · have hf := pf_t c228 hf
            refine lv_iload_n hx hb dX8_doAct_231 rfl (lv_at hl 1 rfl) ?_
            refine lv_goto (tgt := 238) hx hb dX8_doAct_232 (by decide) ?_
            exact hQ _ _ _ _ _ (t_all, t_pile, t_nextOff, t_decided, t_wasLate, t_askedOf, t_heldBehind, t_sum, t_heldAll, t_wasConverted, t_lastBits, t_lastSum, t_lastHeld, t_lastLeft, t_lastCode, t_last) (fun _ => 0) hf rfl w dX8_doAct_238
      · have hf := pf_e c20_101 hf
        by_cases c20_102 : x3 = 102
        · have hf := pf_t c20_102 hf
          refine lv_tableIn (off := 181) (tgt := 201) hx hb dX8_doAct_20 (by rw [c20_102]; decide) (by rw [c20_102]; decide) (by rw [c20_102]; rfl) (by decide) ?_
          refine lv_aload_n hx hb dX8_doAct_201 rfl (lv_at hl 2 rfl) ?_
          obtain ⟨r19, f20, hc202, hf⟩ := pf_bi_1 hf
          refine hm_aft_i (ws' := fun _ => [oc8 h0 r_t t_base t_taped t_at t_faultPlace t_number t_newBits t_newTold t_newDoings t_newThings t_opened t_sum t_heldAll t_onPaper t_turned t_wasConverted t_lastBits t_lastSum t_lastHeld t_lastLeft t_lastCode t_writtenLong t_codeMany t_acts t_done0 t_stoppedAt, ic E (r_t 48) 40 t_act, ic E (r_t 49) 40 t_actA, ic E (r_t 50) 40 t_actB, ic E (r_t 0) 800 f20, ic E (r_t 27) 12 t_askedOf, ic E (r_t 25) 12 t_decided, ic E (r_t 28) 12 t_heldBehind, ic E (r_t 39) 48 t_last, ic E (r_t 24) 12 t_nextOff, ic E (r_t 23) 90 t_pile, ic E (r_t 51) 40 t_toldBy, zc E (r_t 26) 12 t_wasLate]) (hm_runV (rest := []) hx hb hml hown X hA Y w 0 (ci := 7) (T := TX8) (N := 55) rfl rfl mw_X8_forget ml_X8_434 dX8_doAct_202 hm_ac0 [] rfl [0, 4] rfl rfl (ct_X8_forget l E H.size h0 r_t t_base t_taped t_at t_faultPlace t_number t_newBits t_newTold t_newDoings t_newThings t_opened t_sum t_heldAll t_onPaper t_turned t_wasConverted t_lastBits t_lastSum t_lastHeld t_lastLeft t_lastCode t_writtenLong t_codeMany t_acts t_done0 t_stoppedAt t_all (r19, f20) hc202) rfl hl.1 ⟨⟨rfl, rfl⟩, ⟨Nat.le_of_ble_eq_true rfl, Nat.le_of_ble_eq_true rfl⟩, ⟨Nat.le_of_ble_eq_true rfl, Nat.le_of_ble_eq_true rfl⟩, Nat.le_of_ble_eq_true rfl⟩) hA w [0, 4] [1, 2, 3, 5, 6, 7, 8, 9, 10, 11, 12] [11, 0, 1, 2, 12, 3, 4, 5, 6, 7, 8, 9, 10] rfl rfl (by decide) (fun _ => rfl) (fun _ H locs w => ?_)
          exact hQ _ _ _ _ _ (f20, t_pile, t_nextOff, t_decided, t_wasLate, t_askedOf, t_heldBehind, t_sum, t_heldAll, t_wasConverted, t_lastBits, t_lastSum, t_lastHeld, t_lastLeft, t_lastCode, t_last) (fun _ => 0) hf rfl w dX8_doAct_205
        · have hf := pf_e c20_102 hf
          by_cases c20_103 : x3 = 103
          · have hf := pf_t c20_103 hf
            refine lv_tableIn (off := 195) (tgt := 215) hx hb dX8_doAct_20 (by rw [c20_103]; decide) (by rw [c20_103]; decide) (by rw [c20_103]; rfl) (by decide) ?_
            refine lv_iload_n hx hb dX8_doAct_215 rfl (lv_at hl 3 rfl) ?_
            refine lv_if_le (tgt := 235) hx hb dX8_doAct_216 (by decide) (fun c216 => ?_) (fun c216 => ?_)
            · have hf := pf_t c216 hf
              refine lv_ldcw (v := (-1000000)) hx hb hown (X.use ck_X8_283 rfl) dX8_doAct_235 ?_
              exact hQ _ _ _ _ _ (t_all, t_pile, t_nextOff, t_decided, t_wasLate, t_askedOf, t_heldBehind, t_sum, t_heldAll, t_wasConverted, t_lastBits, t_lastSum, t_lastHeld, t_lastLeft, t_lastCode, t_last) (fun _ => 0) hf rfl w dX8_doAct_238
            · have hf := pf_e c216 hf
              refine lv_aload_n hx hb dX8_doAct_219 rfl (lv_at hl 2 rfl) ?_
              refine hm_get cb_X8 hx hb hown X w 0 51 fl_X8_113 dX8_doAct_220 rfl (by decide) rfl ?_
              refine lv_iload_n hx hb dX8_doAct_223 rfl (lv_at hl 3 rfl) ?_
              refine lv_iconst (v := 1) hx hb dX8_doAct_224 (by decide) ?_
              refine lv_isub hx hb dX8_doAct_225 ?_
              obtain ⟨g226, hf⟩ := pf_ckI hf
              refine hm_iald hx hb X w 11 dX8_doAct_226 rfl g226 ?_
              refine lv_iload_n hx hb dX8_doAct_227 rfl (lv_at hl 1 rfl) ?_
              refine lv_icmp_ne (tgt := 235) hx hb dX8_doAct_228 (by decide) (fun c228 => ?_) (fun c228 => ?_)
              · have hf := pf_e c228 hf
                refine lv_ldcw (v := (-1000000)) hx hb hown (X.use ck_X8_283 rfl) dX8_doAct_235 ?_
                exact hQ _ _ _ _ _ (t_all, t_pile, t_nextOff, t_decided, t_wasLate, t_askedOf, t_heldBehind, t_sum, t_heldAll, t_wasConverted, t_lastBits, t_lastSum, t_lastHeld, t_lastLeft, t_lastCode, t_last) (fun _ => 0) hf rfl w dX8_doAct_238
              · have hf := pf_t c228 hf
                refine lv_iload_n hx hb dX8_doAct_231 rfl (lv_at hl 1 rfl) ?_
                refine lv_goto (tgt := 238) hx hb dX8_doAct_232 (by decide) ?_
                exact hQ _ _ _ _ _ (t_all, t_pile, t_nextOff, t_decided, t_wasLate, t_askedOf, t_heldBehind, t_sum, t_heldAll, t_wasConverted, t_lastBits, t_lastSum, t_lastHeld, t_lastLeft, t_lastCode, t_last) (fun _ => 0) hf rfl w dX8_doAct_238
          · have hf := pf_e c20_103 hf
            by_cases c20_104 : x3 = 104
            · have hf := pf_t c20_104 hf
              refine lv_tableIn (off := 131) (tgt := 151) hx hb dX8_doAct_20 (by rw [c20_104]; decide) (by rw [c20_104]; decide) (by rw [c20_104]; rfl) (by decide) ?_
              refine lv_aload_n hx hb dX8_doAct_151 rfl (lv_at hl 2 rfl) ?_
              refine lv_iload_n hx hb dX8_doAct_152 rfl (lv_at hl 1 rfl) ?_
              obtain ⟨r21, f22, hc153, hf⟩ := pf_bi_1 hf
              refine hm_aft_i (ws' := fun _ => [oc8 h0 r_t t_base t_taped t_at t_faultPlace t_number t_newBits t_newTold t_newDoings t_newThings t_opened t_sum t_heldAll t_onPaper t_turned t_wasConverted t_lastBits t_lastSum t_lastHeld t_lastLeft t_lastCode t_writtenLong t_codeMany t_acts t_done0 t_stoppedAt, ic E (r_t 48) 40 t_act, ic E (r_t 49) 40 t_actA, ic E (r_t 50) 40 t_actB, ic E (r_t 0) 800 f22, ic E (r_t 27) 12 t_askedOf, ic E (r_t 25) 12 t_decided, ic E (r_t 28) 12 t_heldBehind, ic E (r_t 39) 48 t_last, ic E (r_t 24) 12 t_nextOff, ic E (r_t 23) 90 t_pile, ic E (r_t 51) 40 t_toldBy, zc E (r_t 26) 12 t_wasLate]) (hm_runV (rest := []) hx hb hml hown X hA Y w 0 (ci := 7) (T := TX8) (N := 55) rfl rfl mw_X8_heat ml_X8_425 dX8_doAct_153 hm_ac0 [.int x1] rfl [0, 4] rfl rfl (ct_X8_heat l E H.size h0 r_t t_base t_taped t_at t_faultPlace t_number t_newBits t_newTold t_newDoings t_newThings t_opened t_sum t_heldAll t_onPaper t_turned t_wasConverted t_lastBits t_lastSum t_lastHeld t_lastLeft t_lastCode t_writtenLong t_codeMany t_acts t_done0 t_stoppedAt t_all x1 (r21, f22) hc153) rfl hl.1 ⟨⟨rfl, rfl⟩, ⟨Nat.le_of_ble_eq_true rfl, Nat.le_of_ble_eq_true rfl⟩, ⟨Nat.le_of_ble_eq_true rfl, Nat.le_of_ble_eq_true rfl⟩, Nat.le_of_ble_eq_true rfl⟩) hA w [0, 4] [1, 2, 3, 5, 6, 7, 8, 9, 10, 11, 12] [11, 0, 1, 2, 12, 3, 4, 5, 6, 7, 8, 9, 10] rfl rfl (by decide) (fun _ => rfl) (fun _ H locs w => ?_)
              refine lv_if_eq (tgt := 163) hx hb dX8_doAct_156 (by decide) (fun c156 => ?_) (fun c156 => ?_)
              · have hf := pf_t c156 hf
                refine lv_ldcw (v := (-1000000)) hx hb hown (X.use ck_X8_283 rfl) dX8_doAct_163 ?_
                exact hQ _ _ _ _ _ (f22, t_pile, t_nextOff, t_decided, t_wasLate, t_askedOf, t_heldBehind, t_sum, t_heldAll, t_wasConverted, t_lastBits, t_lastSum, t_lastHeld, t_lastLeft, t_lastCode, t_last) (fun _ => 0) hf rfl w dX8_doAct_166
              · have hf := pf_e c156 hf
                refine lv_iconst (v := 1) hx hb dX8_doAct_159 (by decide) ?_
                refine lv_goto (tgt := 166) hx hb dX8_doAct_160 (by decide) ?_
                exact hQ _ _ _ _ _ (f22, t_pile, t_nextOff, t_decided, t_wasLate, t_askedOf, t_heldBehind, t_sum, t_heldAll, t_wasConverted, t_lastBits, t_lastSum, t_lastHeld, t_lastLeft, t_lastCode, t_last) (fun _ => 0) hf rfl w dX8_doAct_166
            · have hf := pf_e c20_104 hf
              by_cases c20_105 : x3 = 105
              · have hf := pf_t c20_105 hf
                refine lv_tableIn (off := 195) (tgt := 215) hx hb dX8_doAct_20 (by rw [c20_105]; decide) (by rw [c20_105]; decide) (by rw [c20_105]; rfl) (by decide) ?_
                refine lv_iload_n hx hb dX8_doAct_215 rfl (lv_at hl 3 rfl) ?_
                refine lv_if_le (tgt := 235) hx hb dX8_doAct_216 (by decide) (fun c216 => ?_) (fun c216 => ?_)
                · have hf := pf_t c216 hf
                  refine lv_ldcw (v := (-1000000)) hx hb hown (X.use ck_X8_283 rfl) dX8_doAct_235 ?_
                  exact hQ _ _ _ _ _ (t_all, t_pile, t_nextOff, t_decided, t_wasLate, t_askedOf, t_heldBehind, t_sum, t_heldAll, t_wasConverted, t_lastBits, t_lastSum, t_lastHeld, t_lastLeft, t_lastCode, t_last) (fun _ => 0) hf rfl w dX8_doAct_238
                · have hf := pf_e c216 hf
                  refine lv_aload_n hx hb dX8_doAct_219 rfl (lv_at hl 2 rfl) ?_
                  refine hm_get cb_X8 hx hb hown X w 0 51 fl_X8_113 dX8_doAct_220 rfl (by decide) rfl ?_
                  refine lv_iload_n hx hb dX8_doAct_223 rfl (lv_at hl 3 rfl) ?_
                  refine lv_iconst (v := 1) hx hb dX8_doAct_224 (by decide) ?_
                  refine lv_isub hx hb dX8_doAct_225 ?_
                  obtain ⟨g226, hf⟩ := pf_ckI hf
                  refine hm_iald hx hb X w 11 dX8_doAct_226 rfl g226 ?_
                  refine lv_iload_n hx hb dX8_doAct_227 rfl (lv_at hl 1 rfl) ?_
                  refine lv_icmp_ne (tgt := 235) hx hb dX8_doAct_228 (by decide) (fun c228 => ?_) (fun c228 => ?_)
                  · have hf := pf_e c228 hf
                    refine lv_ldcw (v := (-1000000)) hx hb hown (X.use ck_X8_283 rfl) dX8_doAct_235 ?_
                    exact hQ _ _ _ _ _ (t_all, t_pile, t_nextOff, t_decided, t_wasLate, t_askedOf, t_heldBehind, t_sum, t_heldAll, t_wasConverted, t_lastBits, t_lastSum, t_lastHeld, t_lastLeft, t_lastCode, t_last) (fun _ => 0) hf rfl w dX8_doAct_238
                  · have hf := pf_t c228 hf
                    refine lv_iload_n hx hb dX8_doAct_231 rfl (lv_at hl 1 rfl) ?_
                    refine lv_goto (tgt := 238) hx hb dX8_doAct_232 (by decide) ?_
                    exact hQ _ _ _ _ _ (t_all, t_pile, t_nextOff, t_decided, t_wasLate, t_askedOf, t_heldBehind, t_sum, t_heldAll, t_wasConverted, t_lastBits, t_lastSum, t_lastHeld, t_lastLeft, t_lastCode, t_last) (fun _ => 0) hf rfl w dX8_doAct_238
              · have hf := pf_e c20_105 hf
                by_cases c20_106 : x3 = 106
                · have hf := pf_t c20_106 hf
                  refine lv_tableIn (off := 195) (tgt := 215) hx hb dX8_doAct_20 (by rw [c20_106]; decide) (by rw [c20_106]; decide) (by rw [c20_106]; rfl) (by decide) ?_
                  refine lv_iload_n hx hb dX8_doAct_215 rfl (lv_at hl 3 rfl) ?_
                  refine lv_if_le (tgt := 235) hx hb dX8_doAct_216 (by decide) (fun c216 => ?_) (fun c216 => ?_)
                  · have hf := pf_t c216 hf
                    refine lv_ldcw (v := (-1000000)) hx hb hown (X.use ck_X8_283 rfl) dX8_doAct_235 ?_
                    exact hQ _ _ _ _ _ (t_all, t_pile, t_nextOff, t_decided, t_wasLate, t_askedOf, t_heldBehind, t_sum, t_heldAll, t_wasConverted, t_lastBits, t_lastSum, t_lastHeld, t_lastLeft, t_lastCode, t_last) (fun _ => 0) hf rfl w dX8_doAct_238
                  · have hf := pf_e c216 hf
                    refine lv_aload_n hx hb dX8_doAct_219 rfl (lv_at hl 2 rfl) ?_
                    refine hm_get cb_X8 hx hb hown X w 0 51 fl_X8_113 dX8_doAct_220 rfl (by decide) rfl ?_
                    refine lv_iload_n hx hb dX8_doAct_223 rfl (lv_at hl 3 rfl) ?_
                    refine lv_iconst (v := 1) hx hb dX8_doAct_224 (by decide) ?_
                    refine lv_isub hx hb dX8_doAct_225 ?_
                    obtain ⟨g226, hf⟩ := pf_ckI hf
                    refine hm_iald hx hb X w 11 dX8_doAct_226 rfl g226 ?_
                    refine lv_iload_n hx hb dX8_doAct_227 rfl (lv_at hl 1 rfl) ?_
                    refine lv_icmp_ne (tgt := 235) hx hb dX8_doAct_228 (by decide) (fun c228 => ?_) (fun c228 => ?_)
                    · have hf := pf_e c228 hf
                      refine lv_ldcw (v := (-1000000)) hx hb hown (X.use ck_X8_283 rfl) dX8_doAct_235 ?_
                      exact hQ _ _ _ _ _ (t_all, t_pile, t_nextOff, t_decided, t_wasLate, t_askedOf, t_heldBehind, t_sum, t_heldAll, t_wasConverted, t_lastBits, t_lastSum, t_lastHeld, t_lastLeft, t_lastCode, t_last) (fun _ => 0) hf rfl w dX8_doAct_238
                    · have hf := pf_t c228 hf
                      refine lv_iload_n hx hb dX8_doAct_231 rfl (lv_at hl 1 rfl) ?_
                      refine lv_goto (tgt := 238) hx hb dX8_doAct_232 (by decide) ?_
                      exact hQ _ _ _ _ _ (t_all, t_pile, t_nextOff, t_decided, t_wasLate, t_askedOf, t_heldBehind, t_sum, t_heldAll, t_wasConverted, t_lastBits, t_lastSum, t_lastHeld, t_lastLeft, t_lastCode, t_last) (fun _ => 0) hf rfl w dX8_doAct_238
                · have hf := pf_e c20_106 hf
                  by_cases c20_107 : x3 = 107
                  · have hf := pf_t c20_107 hf
                    refine lv_tableIn (off := 195) (tgt := 215) hx hb dX8_doAct_20 (by rw [c20_107]; decide) (by rw [c20_107]; decide) (by rw [c20_107]; rfl) (by decide) ?_
                    refine lv_iload_n hx hb dX8_doAct_215 rfl (lv_at hl 3 rfl) ?_
                    refine lv_if_le (tgt := 235) hx hb dX8_doAct_216 (by decide) (fun c216 => ?_) (fun c216 => ?_)
                    · have hf := pf_t c216 hf
                      refine lv_ldcw (v := (-1000000)) hx hb hown (X.use ck_X8_283 rfl) dX8_doAct_235 ?_
                      exact hQ _ _ _ _ _ (t_all, t_pile, t_nextOff, t_decided, t_wasLate, t_askedOf, t_heldBehind, t_sum, t_heldAll, t_wasConverted, t_lastBits, t_lastSum, t_lastHeld, t_lastLeft, t_lastCode, t_last) (fun _ => 0) hf rfl w dX8_doAct_238
                    · have hf := pf_e c216 hf
                      refine lv_aload_n hx hb dX8_doAct_219 rfl (lv_at hl 2 rfl) ?_
                      refine hm_get cb_X8 hx hb hown X w 0 51 fl_X8_113 dX8_doAct_220 rfl (by decide) rfl ?_
                      refine lv_iload_n hx hb dX8_doAct_223 rfl (lv_at hl 3 rfl) ?_
                      refine lv_iconst (v := 1) hx hb dX8_doAct_224 (by decide) ?_
                      refine lv_isub hx hb dX8_doAct_225 ?_
                      obtain ⟨g226, hf⟩ := pf_ckI hf
                      refine hm_iald hx hb X w 11 dX8_doAct_226 rfl g226 ?_
                      refine lv_iload_n hx hb dX8_doAct_227 rfl (lv_at hl 1 rfl) ?_
                      refine lv_icmp_ne (tgt := 235) hx hb dX8_doAct_228 (by decide) (fun c228 => ?_) (fun c228 => ?_)
                      · have hf := pf_e c228 hf
                        refine lv_ldcw (v := (-1000000)) hx hb hown (X.use ck_X8_283 rfl) dX8_doAct_235 ?_
                        exact hQ _ _ _ _ _ (t_all, t_pile, t_nextOff, t_decided, t_wasLate, t_askedOf, t_heldBehind, t_sum, t_heldAll, t_wasConverted, t_lastBits, t_lastSum, t_lastHeld, t_lastLeft, t_lastCode, t_last) (fun _ => 0) hf rfl w dX8_doAct_238
                      · have hf := pf_t c228 hf
                        refine lv_iload_n hx hb dX8_doAct_231 rfl (lv_at hl 1 rfl) ?_
                        refine lv_goto (tgt := 238) hx hb dX8_doAct_232 (by decide) ?_
                        exact hQ _ _ _ _ _ (t_all, t_pile, t_nextOff, t_decided, t_wasLate, t_askedOf, t_heldBehind, t_sum, t_heldAll, t_wasConverted, t_lastBits, t_lastSum, t_lastHeld, t_lastLeft, t_lastCode, t_last) (fun _ => 0) hf rfl w dX8_doAct_238
                  · have hf := pf_e c20_107 hf
                    by_cases c20_108 : x3 = 108
                    · have hf := pf_t c20_108 hf
                      refine lv_tableIn (off := 110) (tgt := 130) hx hb dX8_doAct_20 (by rw [c20_108]; decide) (by rw [c20_108]; decide) (by rw [c20_108]; rfl) (by decide) ?_
                      refine lv_aload_n hx hb dX8_doAct_130 rfl (lv_at hl 2 rfl) ?_
                      refine lv_iload_n hx hb dX8_doAct_131 rfl (lv_at hl 1 rfl) ?_
                      refine lv_iload_n hx hb dX8_doAct_132 rfl (lv_at hl 0 rfl) ?_
                      obtain ⟨r23, f24, f25, f26, f27, f28, x29, x30, hc133, hf⟩ := pf_bi_7 hf
                      refine hm_aft_i (ws' := fun _ => [oc8 h0 r_t t_base t_taped t_at t_faultPlace t_number t_newBits t_newTold t_newDoings t_newThings t_opened x29 x30 t_onPaper t_turned t_wasConverted t_lastBits t_lastSum t_lastHeld t_lastLeft t_lastCode t_writtenLong t_codeMany t_acts t_done0 t_stoppedAt, ic E (r_t 48) 40 t_act, ic E (r_t 49) 40 t_actA, ic E (r_t 50) 40 t_actB, ic E (r_t 0) 800 f24, ic E (r_t 27) 12 f27, ic E (r_t 25) 12 f25, ic E (r_t 28) 12 f28, ic E (r_t 39) 48 t_last, ic E (r_t 24) 12 t_nextOff, ic E (r_t 23) 90 t_pile, ic E (r_t 51) 40 t_toldBy, zc E (r_t 26) 12 f26]) (hm_runV (rest := []) hx hb hml hown X hA Y w 0 (ci := 7) (T := TX8) (N := 55) rfl rfl mw_X8_learn ml_X8_416 dX8_doAct_133 hm_ac0 [.int x1, .int x2] rfl [0, 4, 5, 6, 7, 12] rfl rfl (ct_X8_learn l E H.size h0 r_t t_base t_taped t_at t_faultPlace t_number t_newBits t_newTold t_newDoings t_newThings t_opened t_sum t_heldAll t_onPaper t_turned t_wasConverted t_lastBits t_lastSum t_lastHeld t_lastLeft t_lastCode t_writtenLong t_codeMany t_acts t_done0 t_stoppedAt t_all t_askedOf t_decided t_heldBehind t_wasLate x1 x2 (r23, f24, f25, f26, f27, f28, x29, x30) hc133) rfl hl.1 ⟨⟨rfl, rfl⟩, ⟨Nat.le_of_ble_eq_true rfl, Nat.le_of_ble_eq_true rfl⟩, ⟨Nat.le_of_ble_eq_true rfl, Nat.le_of_ble_eq_true rfl⟩, Nat.le_of_ble_eq_true rfl⟩) hA w [0, 4, 5, 6, 7, 12] [1, 2, 3, 8, 9, 10, 11] [7, 0, 1, 2, 8, 9, 10, 11, 3, 4, 5, 6, 12] rfl rfl (by decide) (fun _ => rfl) (fun _ H locs w => ?_)
                      refine lv_iconst (v := (-1)) hx hb dX8_doAct_136 (by decide) ?_
                      obtain ⟨r31, hc137, hf⟩ := pf_bi_0 hf
                      refine hm_aft_i (ws' := fun _ => [oc8 h0 r_t t_base t_taped t_at t_faultPlace t_number t_newBits t_newTold t_newDoings t_newThings t_opened x29 x30 t_onPaper t_turned t_wasConverted t_lastBits t_lastSum t_lastHeld t_lastLeft t_lastCode t_writtenLong t_codeMany t_acts t_done0 t_stoppedAt, ic E (r_t 48) 40 t_act, ic E (r_t 49) 40 t_actA, ic E (r_t 50) 40 t_actB, ic E (r_t 0) 800 f24, ic E (r_t 27) 12 f27, ic E (r_t 25) 12 f25, ic E (r_t 28) 12 f28, ic E (r_t 39) 48 t_last, ic E (r_t 24) 12 t_nextOff, ic E (r_t 23) 90 t_pile, ic E (r_t 51) 40 t_toldBy, zc E (r_t 26) 12 f26]) (hm_runS (rest := []) hx hb hml hown X hA Y w mw_X8_refusedBy ml_X8_419 dX8_doAct_137 hm_ac0 [.int r23, .int (-1)] rfl [] rfl rfl (ct_X8_refusedBy l E H.size r23 (-1) (r31, ()) hc137) rfl hl.1 ⟨⟨rfl, rfl⟩, ⟨Nat.le_of_ble_eq_true rfl, Nat.le_of_ble_eq_true rfl⟩, ⟨Nat.le_of_ble_eq_true rfl, Nat.le_of_ble_eq_true rfl⟩, Nat.le_of_ble_eq_true rfl⟩) hA w [] [0, 1, 2, 3, 4, 5, 6, 7, 8, 9, 10, 11, 12] [0, 1, 2, 3, 4, 5, 6, 7, 8, 9, 10, 11, 12] rfl rfl (by decide) (fun _ => rfl) (fun _ H locs w => ?_)
                      exact hQ _ _ _ _ _ (f24, t_pile, t_nextOff, f25, f26, f27, f28, x29, x30, t_wasConverted, t_lastBits, t_lastSum, t_lastHeld, t_lastLeft, t_lastCode, t_last) (fun _ => 0) hf rfl w dX8_doAct_140
                    · have hf := pf_e c20_108 hf
                      by_cases c20_109 : x3 = 109
                      · have hf := pf_t c20_109 hf
                        refine lv_tableIn (off := 195) (tgt := 215) hx hb dX8_doAct_20 (by rw [c20_109]; decide) (by rw [c20_109]; decide) (by rw [c20_109]; rfl) (by decide) ?_
                        refine lv_iload_n hx hb dX8_doAct_215 rfl (lv_at hl 3 rfl) ?_
                        refine lv_if_le (tgt := 235) hx hb dX8_doAct_216 (by decide) (fun c216 => ?_) (fun c216 => ?_)
                        · have hf := pf_t c216 hf
                          refine lv_ldcw (v := (-1000000)) hx hb hown (X.use ck_X8_283 rfl) dX8_doAct_235 ?_
                          exact hQ _ _ _ _ _ (t_all, t_pile, t_nextOff, t_decided, t_wasLate, t_askedOf, t_heldBehind, t_sum, t_heldAll, t_wasConverted, t_lastBits, t_lastSum, t_lastHeld, t_lastLeft, t_lastCode, t_last) (fun _ => 0) hf rfl w dX8_doAct_238
                        · have hf := pf_e c216 hf
                          refine lv_aload_n hx hb dX8_doAct_219 rfl (lv_at hl 2 rfl) ?_
                          refine hm_get cb_X8 hx hb hown X w 0 51 fl_X8_113 dX8_doAct_220 rfl (by decide) rfl ?_
                          refine lv_iload_n hx hb dX8_doAct_223 rfl (lv_at hl 3 rfl) ?_
                          refine lv_iconst (v := 1) hx hb dX8_doAct_224 (by decide) ?_
                          refine lv_isub hx hb dX8_doAct_225 ?_
                          obtain ⟨g226, hf⟩ := pf_ckI hf
                          refine hm_iald hx hb X w 11 dX8_doAct_226 rfl g226 ?_
                          refine lv_iload_n hx hb dX8_doAct_227 rfl (lv_at hl 1 rfl) ?_
                          refine lv_icmp_ne (tgt := 235) hx hb dX8_doAct_228 (by decide) (fun c228 => ?_) (fun c228 => ?_)
                          · have hf := pf_e c228 hf
                            refine lv_ldcw (v := (-1000000)) hx hb hown (X.use ck_X8_283 rfl) dX8_doAct_235 ?_
                            exact hQ _ _ _ _ _ (t_all, t_pile, t_nextOff, t_decided, t_wasLate, t_askedOf, t_heldBehind, t_sum, t_heldAll, t_wasConverted, t_lastBits, t_lastSum, t_lastHeld, t_lastLeft, t_lastCode, t_last) (fun _ => 0) hf rfl w dX8_doAct_238
                          · have hf := pf_t c228 hf
                            refine lv_iload_n hx hb dX8_doAct_231 rfl (lv_at hl 1 rfl) ?_
                            refine lv_goto (tgt := 238) hx hb dX8_doAct_232 (by decide) ?_
                            exact hQ _ _ _ _ _ (t_all, t_pile, t_nextOff, t_decided, t_wasLate, t_askedOf, t_heldBehind, t_sum, t_heldAll, t_wasConverted, t_lastBits, t_lastSum, t_lastHeld, t_lastLeft, t_lastCode, t_last) (fun _ => 0) hf rfl w dX8_doAct_238
                      · have hf := pf_e c20_109 hf
                        by_cases c20_110 : x3 = 110
                        · have hf := pf_t c20_110 hf
                          refine lv_tableIn (off := 195) (tgt := 215) hx hb dX8_doAct_20 (by rw [c20_110]; decide) (by rw [c20_110]; decide) (by rw [c20_110]; rfl) (by decide) ?_
                          refine lv_iload_n hx hb dX8_doAct_215 rfl (lv_at hl 3 rfl) ?_
                          refine lv_if_le (tgt := 235) hx hb dX8_doAct_216 (by decide) (fun c216 => ?_) (fun c216 => ?_)
                          · have hf := pf_t c216 hf
                            refine lv_ldcw (v := (-1000000)) hx hb hown (X.use ck_X8_283 rfl) dX8_doAct_235 ?_
                            exact hQ _ _ _ _ _ (t_all, t_pile, t_nextOff, t_decided, t_wasLate, t_askedOf, t_heldBehind, t_sum, t_heldAll, t_wasConverted, t_lastBits, t_lastSum, t_lastHeld, t_lastLeft, t_lastCode, t_last) (fun _ => 0) hf rfl w dX8_doAct_238
                          · have hf := pf_e c216 hf
                            refine lv_aload_n hx hb dX8_doAct_219 rfl (lv_at hl 2 rfl) ?_
                            refine hm_get cb_X8 hx hb hown X w 0 51 fl_X8_113 dX8_doAct_220 rfl (by decide) rfl ?_
                            refine lv_iload_n hx hb dX8_doAct_223 rfl (lv_at hl 3 rfl) ?_
                            refine lv_iconst (v := 1) hx hb dX8_doAct_224 (by decide) ?_
                            refine lv_isub hx hb dX8_doAct_225 ?_
                            obtain ⟨g226, hf⟩ := pf_ckI hf
                            refine hm_iald hx hb X w 11 dX8_doAct_226 rfl g226 ?_
                            refine lv_iload_n hx hb dX8_doAct_227 rfl (lv_at hl 1 rfl) ?_
                            refine lv_icmp_ne (tgt := 235) hx hb dX8_doAct_228 (by decide) (fun c228 => ?_) (fun c228 => ?_)
                            · have hf := pf_e c228 hf
                              refine lv_ldcw (v := (-1000000)) hx hb hown (X.use ck_X8_283 rfl) dX8_doAct_235 ?_
                              exact hQ _ _ _ _ _ (t_all, t_pile, t_nextOff, t_decided, t_wasLate, t_askedOf, t_heldBehind, t_sum, t_heldAll, t_wasConverted, t_lastBits, t_lastSum, t_lastHeld, t_lastLeft, t_lastCode, t_last) (fun _ => 0) hf rfl w dX8_doAct_238
                            · have hf := pf_t c228 hf
                              refine lv_iload_n hx hb dX8_doAct_231 rfl (lv_at hl 1 rfl) ?_
                              refine lv_goto (tgt := 238) hx hb dX8_doAct_232 (by decide) ?_
                              exact hQ _ _ _ _ _ (t_all, t_pile, t_nextOff, t_decided, t_wasLate, t_askedOf, t_heldBehind, t_sum, t_heldAll, t_wasConverted, t_lastBits, t_lastSum, t_lastHeld, t_lastLeft, t_lastCode, t_last) (fun _ => 0) hf rfl w dX8_doAct_238
                        · have hf := pf_e c20_110 hf
                          by_cases c20_111 : x3 = 111
                          · have hf := pf_t c20_111 hf
                            refine lv_tableIn (off := 164) (tgt := 184) hx hb dX8_doAct_20 (by rw [c20_111]; decide) (by rw [c20_111]; decide) (by rw [c20_111]; rfl) (by decide) ?_
                            refine lv_aload_n hx hb dX8_doAct_184 rfl (lv_at hl 2 rfl) ?_
                            refine lv_iload_n hx hb dX8_doAct_185 rfl (lv_at hl 1 rfl) ?_
                            refine lv_iload_n hx hb dX8_doAct_186 rfl (lv_at hl 0 rfl) ?_
                            obtain ⟨r32, f33, hc187, hf⟩ := pf_bi_1 hf
                            refine hm_aft_i (ws' := fun _ => [oc8 h0 r_t t_base t_taped t_at t_faultPlace t_number t_newBits t_newTold t_newDoings t_newThings t_opened t_sum t_heldAll t_onPaper t_turned t_wasConverted t_lastBits t_lastSum t_lastHeld t_lastLeft t_lastCode t_writtenLong t_codeMany t_acts t_done0 t_stoppedAt, ic E (r_t 48) 40 t_act, ic E (r_t 49) 40 t_actA, ic E (r_t 50) 40 t_actB, ic E (r_t 0) 800 f33, ic E (r_t 27) 12 t_askedOf, ic E (r_t 25) 12 t_decided, ic E (r_t 28) 12 t_heldBehind, ic E (r_t 39) 48 t_last, ic E (r_t 24) 12 t_nextOff, ic E (r_t 23) 90 t_pile, ic E (r_t 51) 40 t_toldBy, zc E (r_t 26) 12 t_wasLate]) (hm_runV (rest := []) hx hb hml hown X hA Y w 0 (ci := 7) (T := TX8) (N := 55) rfl rfl mw_X8_off ml_X8_431 dX8_doAct_187 hm_ac0 [.int x1, .int x2] rfl [0, 4] rfl rfl (ct_X8_off l E H.size h0 r_t t_base t_taped t_at t_faultPlace t_number t_newBits t_newTold t_newDoings t_newThings t_opened t_sum t_heldAll t_onPaper t_turned t_wasConverted t_lastBits t_lastSum t_lastHeld t_lastLeft t_lastCode t_writtenLong t_codeMany t_acts t_done0 t_stoppedAt t_all x1 x2 (r32, f33) hc187) rfl hl.1 ⟨⟨rfl, rfl⟩, ⟨Nat.le_of_ble_eq_true rfl, Nat.le_of_ble_eq_true rfl⟩, ⟨Nat.le_of_ble_eq_true rfl, Nat.le_of_ble_eq_true rfl⟩, Nat.le_of_ble_eq_true rfl⟩) hA w [0, 4] [1, 2, 3, 5, 6, 7, 8, 9, 10, 11, 12] [11, 0, 1, 2, 12, 3, 4, 5, 6, 7, 8, 9, 10] rfl rfl (by decide) (fun _ => rfl) (fun _ H locs w => ?_)
                            refine lv_if_eq (tgt := 197) hx hb dX8_doAct_190 (by decide) (fun c190 => ?_) (fun c190 => ?_)
                            · have hf := pf_t c190 hf
                              refine lv_ldcw (v := (-1000000)) hx hb hown (X.use ck_X8_283 rfl) dX8_doAct_197 ?_
                              exact hQ _ _ _ _ _ (f33, t_pile, t_nextOff, t_decided, t_wasLate, t_askedOf, t_heldBehind, t_sum, t_heldAll, t_wasConverted, t_lastBits, t_lastSum, t_lastHeld, t_lastLeft, t_lastCode, t_last) (fun _ => 0) hf rfl w dX8_doAct_200
                            · have hf := pf_e c190 hf
                              refine lv_iconst (v := 1) hx hb dX8_doAct_193 (by decide) ?_
                              refine lv_goto (tgt := 200) hx hb dX8_doAct_194 (by decide) ?_
                              exact hQ _ _ _ _ _ (f33, t_pile, t_nextOff, t_decided, t_wasLate, t_askedOf, t_heldBehind, t_sum, t_heldAll, t_wasConverted, t_lastBits, t_lastSum, t_lastHeld, t_lastLeft, t_lastCode, t_last) (fun _ => 0) hf rfl w dX8_doAct_200
                          · have hf := pf_e c20_111 hf
                            by_cases c20_112 : x3 = 112
                            · have hf := pf_t c20_112 hf
                              refine lv_tableIn (off := 121) (tgt := 141) hx hb dX8_doAct_20 (by rw [c20_112]; decide) (by rw [c20_112]; decide) (by rw [c20_112]; rfl) (by decide) ?_
                              refine lv_aload_n hx hb dX8_doAct_141 rfl (lv_at hl 2 rfl) ?_
                              refine lv_iload_n hx hb dX8_doAct_142 rfl (lv_at hl 1 rfl) ?_
                              obtain ⟨r34, f35, f36, f37, hc143, hf⟩ := pf_bi_3 hf
                              refine hm_aft_i (ws' := fun _ => [oc8 h0 r_t t_base t_taped t_at t_faultPlace t_number t_newBits t_newTold t_newDoings t_newThings t_opened t_sum t_heldAll t_onPaper t_turned t_wasConverted t_lastBits t_lastSum t_lastHeld t_lastLeft t_lastCode t_writtenLong t_codeMany t_acts t_done0 t_stoppedAt, ic E (r_t 48) 40 t_act, ic E (r_t 49) 40 t_actA, ic E (r_t 50) 40 t_actB, ic E (r_t 0) 800 f35, ic E (r_t 27) 12 t_askedOf, ic E (r_t 25) 12 t_decided, ic E (r_t 28) 12 t_heldBehind, ic E (r_t 39) 48 t_last, ic E (r_t 24) 12 f37, ic E (r_t 23) 90 f36, ic E (r_t 51) 40 t_toldBy, zc E (r_t 26) 12 t_wasLate]) (hm_runV (rest := []) hx hb hml hown X hA Y w 0 (ci := 7) (T := TX8) (N := 55) rfl rfl mw_X8_pass ml_X8_422 dX8_doAct_143 hm_ac0 [.int x1] rfl [0, 4, 9, 10] rfl rfl (ct_X8_pass l E H.size h0 r_t t_base t_taped t_at t_faultPlace t_number t_newBits t_newTold t_newDoings t_newThings t_opened t_sum t_heldAll t_onPaper t_turned t_wasConverted t_lastBits t_lastSum t_lastHeld t_lastLeft t_lastCode t_writtenLong t_codeMany t_acts t_done0 t_stoppedAt t_all t_nextOff t_pile x1 (r34, f35, f36, f37) hc143) rfl hl.1 ⟨⟨rfl, rfl⟩, ⟨Nat.le_of_ble_eq_true rfl, Nat.le_of_ble_eq_true rfl⟩, ⟨Nat.le_of_ble_eq_true rfl, Nat.le_of_ble_eq_true rfl⟩, Nat.le_of_ble_eq_true rfl⟩) hA w [0, 4, 9, 10] [1, 2, 3, 5, 6, 7, 8, 11, 12] [9, 0, 1, 2, 10, 3, 4, 5, 6, 11, 12, 7, 8] rfl rfl (by decide) (fun _ => rfl) (fun _ H locs w => ?_)
                              refine lv_iconst (v := (-1)) hx hb dX8_doAct_146 (by decide) ?_
                              obtain ⟨r38, hc147, hf⟩ := pf_bi_0 hf
                              refine hm_aft_i (ws' := fun _ => [oc8 h0 r_t t_base t_taped t_at t_faultPlace t_number t_newBits t_newTold t_newDoings t_newThings t_opened t_sum t_heldAll t_onPaper t_turned t_wasConverted t_lastBits t_lastSum t_lastHeld t_lastLeft t_lastCode t_writtenLong t_codeMany t_acts t_done0 t_stoppedAt, ic E (r_t 48) 40 t_act, ic E (r_t 49) 40 t_actA, ic E (r_t 50) 40 t_actB, ic E (r_t 0) 800 f35, ic E (r_t 27) 12 t_askedOf, ic E (r_t 25) 12 t_decided, ic E (r_t 28) 12 t_heldBehind, ic E (r_t 39) 48 t_last, ic E (r_t 24) 12 f37, ic E (r_t 23) 90 f36, ic E (r_t 51) 40 t_toldBy, zc E (r_t 26) 12 t_wasLate]) (hm_runS (rest := []) hx hb hml hown X hA Y w mw_X8_refusedBy ml_X8_419 dX8_doAct_147 hm_ac0 [.int r34, .int (-1)] rfl [] rfl rfl (ct_X8_refusedBy l E H.size r34 (-1) (r38, ()) hc147) rfl hl.1 ⟨⟨rfl, rfl⟩, ⟨Nat.le_of_ble_eq_true rfl, Nat.le_of_ble_eq_true rfl⟩, ⟨Nat.le_of_ble_eq_true rfl, Nat.le_of_ble_eq_true rfl⟩, Nat.le_of_ble_eq_true rfl⟩) hA w [] [0, 1, 2, 3, 4, 5, 6, 7, 8, 9, 10, 11, 12] [0, 1, 2, 3, 4, 5, 6, 7, 8, 9, 10, 11, 12] rfl rfl (by decide) (fun _ => rfl) (fun _ H locs w => ?_)
                              exact hQ _ _ _ _ _ (f35, f36, f37, t_decided, t_wasLate, t_askedOf, t_heldBehind, t_sum, t_heldAll, t_wasConverted, t_lastBits, t_lastSum, t_lastHeld, t_lastLeft, t_lastCode, t_last) (fun _ => 0) hf rfl w dX8_doAct_150
                            · have hf := pf_e c20_112 hf
                              by_cases c20_113 : x3 = 113
                              · have hf := pf_t c20_113 hf
                                refine lv_tableIn (off := 195) (tgt := 215) hx hb dX8_doAct_20 (by rw [c20_113]; decide) (by rw [c20_113]; decide) (by rw [c20_113]; rfl) (by decide) ?_
                                refine lv_iload_n hx hb dX8_doAct_215 rfl (lv_at hl 3 rfl) ?_
                                refine lv_if_le (tgt := 235) hx hb dX8_doAct_216 (by decide) (fun c216 => ?_) (fun c216 => ?_)
                                · have hf := pf_t c216 hf
                                  refine lv_ldcw (v := (-1000000)) hx hb hown (X.use ck_X8_283 rfl) dX8_doAct_235 ?_
                                  exact hQ _ _ _ _ _ (t_all, t_pile, t_nextOff, t_decided, t_wasLate, t_askedOf, t_heldBehind, t_sum, t_heldAll, t_wasConverted, t_lastBits, t_lastSum, t_lastHeld, t_lastLeft, t_lastCode, t_last) (fun _ => 0) hf rfl w dX8_doAct_238
                                · have hf := pf_e c216 hf
                                  refine lv_aload_n hx hb dX8_doAct_219 rfl (lv_at hl 2 rfl) ?_
                                  refine hm_get cb_X8 hx hb hown X w 0 51 fl_X8_113 dX8_doAct_220 rfl (by decide) rfl ?_
                                  refine lv_iload_n hx hb dX8_doAct_223 rfl (lv_at hl 3 rfl) ?_
                                  refine lv_iconst (v := 1) hx hb dX8_doAct_224 (by decide) ?_
                                  refine lv_isub hx hb dX8_doAct_225 ?_
                                  obtain ⟨g226, hf⟩ := pf_ckI hf
                                  refine hm_iald hx hb X w 11 dX8_doAct_226 rfl g226 ?_
                                  refine lv_iload_n hx hb dX8_doAct_227 rfl (lv_at hl 1 rfl) ?_
                                  refine lv_icmp_ne (tgt := 235) hx hb dX8_doAct_228 (by decide) (fun c228 => ?_) (fun c228 => ?_)
                                  · have hf := pf_e c228 hf
                                    refine lv_ldcw (v := (-1000000)) hx hb hown (X.use ck_X8_283 rfl) dX8_doAct_235 ?_
                                    exact hQ _ _ _ _ _ (t_all, t_pile, t_nextOff, t_decided, t_wasLate, t_askedOf, t_heldBehind, t_sum, t_heldAll, t_wasConverted, t_lastBits, t_lastSum, t_lastHeld, t_lastLeft, t_lastCode, t_last) (fun _ => 0) hf rfl w dX8_doAct_238
                                  · have hf := pf_t c228 hf
                                    refine lv_iload_n hx hb dX8_doAct_231 rfl (lv_at hl 1 rfl) ?_
                                    refine lv_goto (tgt := 238) hx hb dX8_doAct_232 (by decide) ?_
                                    exact hQ _ _ _ _ _ (t_all, t_pile, t_nextOff, t_decided, t_wasLate, t_askedOf, t_heldBehind, t_sum, t_heldAll, t_wasConverted, t_lastBits, t_lastSum, t_lastHeld, t_lastLeft, t_lastCode, t_last) (fun _ => 0) hf rfl w dX8_doAct_238
                              · have hf := pf_e c20_113 hf
                                by_cases c20_114 : x3 = 114
                                · have hf := pf_t c20_114 hf
                                  refine lv_tableIn (off := 195) (tgt := 215) hx hb dX8_doAct_20 (by rw [c20_114]; decide) (by rw [c20_114]; decide) (by rw [c20_114]; rfl) (by decide) ?_
                                  refine lv_iload_n hx hb dX8_doAct_215 rfl (lv_at hl 3 rfl) ?_
                                  refine lv_if_le (tgt := 235) hx hb dX8_doAct_216 (by decide) (fun c216 => ?_) (fun c216 => ?_)
                                  · have hf := pf_t c216 hf
                                    refine lv_ldcw (v := (-1000000)) hx hb hown (X.use ck_X8_283 rfl) dX8_doAct_235 ?_
                                    exact hQ _ _ _ _ _ (t_all, t_pile, t_nextOff, t_decided, t_wasLate, t_askedOf, t_heldBehind, t_sum, t_heldAll, t_wasConverted, t_lastBits, t_lastSum, t_lastHeld, t_lastLeft, t_lastCode, t_last) (fun _ => 0) hf rfl w dX8_doAct_238
                                  · have hf := pf_e c216 hf
                                    refine lv_aload_n hx hb dX8_doAct_219 rfl (lv_at hl 2 rfl) ?_
                                    refine hm_get cb_X8 hx hb hown X w 0 51 fl_X8_113 dX8_doAct_220 rfl (by decide) rfl ?_
                                    refine lv_iload_n hx hb dX8_doAct_223 rfl (lv_at hl 3 rfl) ?_
                                    refine lv_iconst (v := 1) hx hb dX8_doAct_224 (by decide) ?_
                                    refine lv_isub hx hb dX8_doAct_225 ?_
                                    obtain ⟨g226, hf⟩ := pf_ckI hf
                                    refine hm_iald hx hb X w 11 dX8_doAct_226 rfl g226 ?_
                                    refine lv_iload_n hx hb dX8_doAct_227 rfl (lv_at hl 1 rfl) ?_
                                    refine lv_icmp_ne (tgt := 235) hx hb dX8_doAct_228 (by decide) (fun c228 => ?_) (fun c228 => ?_)
                                    · have hf := pf_e c228 hf
                                      refine lv_ldcw (v := (-1000000)) hx hb hown (X.use ck_X8_283 rfl) dX8_doAct_235 ?_
                                      exact hQ _ _ _ _ _ (t_all, t_pile, t_nextOff, t_decided, t_wasLate, t_askedOf, t_heldBehind, t_sum, t_heldAll, t_wasConverted, t_lastBits, t_lastSum, t_lastHeld, t_lastLeft, t_lastCode, t_last) (fun _ => 0) hf rfl w dX8_doAct_238
                                    · have hf := pf_t c228 hf
                                      refine lv_iload_n hx hb dX8_doAct_231 rfl (lv_at hl 1 rfl) ?_
                                      refine lv_goto (tgt := 238) hx hb dX8_doAct_232 (by decide) ?_
                                      exact hQ _ _ _ _ _ (t_all, t_pile, t_nextOff, t_decided, t_wasLate, t_askedOf, t_heldBehind, t_sum, t_heldAll, t_wasConverted, t_lastBits, t_lastSum, t_lastHeld, t_lastLeft, t_lastCode, t_last) (fun _ => 0) hf rfl w dX8_doAct_238
                                · have hf := pf_e c20_114 hf
                                  by_cases c20_115 : x3 = 115
                                  · have hf := pf_t c20_115 hf
                                    refine lv_tableIn (off := 147) (tgt := 167) hx hb dX8_doAct_20 (by rw [c20_115]; decide) (by rw [c20_115]; decide) (by rw [c20_115]; rfl) (by decide) ?_
                                    refine lv_aload_n hx hb dX8_doAct_167 rfl (lv_at hl 2 rfl) ?_
                                    refine lv_iload_n hx hb dX8_doAct_168 rfl (lv_at hl 1 rfl) ?_
                                    refine lv_iload_n hx hb dX8_doAct_169 rfl (lv_at hl 0 rfl) ?_
                                    obtain ⟨r39, f40, hc170, hf⟩ := pf_bi_1 hf
                                    refine hm_aft_i (ws' := fun _ => [oc8 h0 r_t t_base t_taped t_at t_faultPlace t_number t_newBits t_newTold t_newDoings t_newThings t_opened t_sum t_heldAll t_onPaper t_turned t_wasConverted t_lastBits t_lastSum t_lastHeld t_lastLeft t_lastCode t_writtenLong t_codeMany t_acts t_done0 t_stoppedAt, ic E (r_t 48) 40 t_act, ic E (r_t 49) 40 t_actA, ic E (r_t 50) 40 t_actB, ic E (r_t 0) 800 f40, ic E (r_t 27) 12 t_askedOf, ic E (r_t 25) 12 t_decided, ic E (r_t 28) 12 t_heldBehind, ic E (r_t 39) 48 t_last, ic E (r_t 24) 12 t_nextOff, ic E (r_t 23) 90 t_pile, ic E (r_t 51) 40 t_toldBy, zc E (r_t 26) 12 t_wasLate]) (hm_runV (rest := []) hx hb hml hown X hA Y w 0 (ci := 7) (T := TX8) (N := 55) rfl rfl mw_X8_stick ml_X8_428 dX8_doAct_170 hm_ac0 [.int x1, .int x2] rfl [0, 4] rfl rfl (ct_X8_stick l E H.size h0 r_t t_base t_taped t_at t_faultPlace t_number t_newBits t_newTold t_newDoings t_newThings t_opened t_sum t_heldAll t_onPaper t_turned t_wasConverted t_lastBits t_lastSum t_lastHeld t_lastLeft t_lastCode t_writtenLong t_codeMany t_acts t_done0 t_stoppedAt t_all x1 x2 (r39, f40) hc170) rfl hl.1 ⟨⟨rfl, rfl⟩, ⟨Nat.le_of_ble_eq_true rfl, Nat.le_of_ble_eq_true rfl⟩, ⟨Nat.le_of_ble_eq_true rfl, Nat.le_of_ble_eq_true rfl⟩, Nat.le_of_ble_eq_true rfl⟩) hA w [0, 4] [1, 2, 3, 5, 6, 7, 8, 9, 10, 11, 12] [11, 0, 1, 2, 12, 3, 4, 5, 6, 7, 8, 9, 10] rfl rfl (by decide) (fun _ => rfl) (fun _ H locs w => ?_)
                                    refine lv_if_eq (tgt := 180) hx hb dX8_doAct_173 (by decide) (fun c173 => ?_) (fun c173 => ?_)
                                    · have hf := pf_t c173 hf
                                      refine lv_ldcw (v := (-1000000)) hx hb hown (X.use ck_X8_283 rfl) dX8_doAct_180 ?_
                                      exact hQ _ _ _ _ _ (f40, t_pile, t_nextOff, t_decided, t_wasLate, t_askedOf, t_heldBehind, t_sum, t_heldAll, t_wasConverted, t_lastBits, t_lastSum, t_lastHeld, t_lastLeft, t_lastCode, t_last) (fun _ => 0) hf rfl w dX8_doAct_183
                                    · have hf := pf_e c173 hf
                                      refine lv_iconst (v := 1) hx hb dX8_doAct_176 (by decide) ?_
                                      refine lv_goto (tgt := 183) hx hb dX8_doAct_177 (by decide) ?_
                                      exact hQ _ _ _ _ _ (f40, t_pile, t_nextOff, t_decided, t_wasLate, t_askedOf, t_heldBehind, t_sum, t_heldAll, t_wasConverted, t_lastBits, t_lastSum, t_lastHeld, t_lastLeft, t_lastCode, t_last) (fun _ => 0) hf rfl w dX8_doAct_183
                                  · have hf := pf_e c20_115 hf
                                    by_cases c20_116 : x3 = 116
                                    · have hf := pf_t c20_116 hf
                                      refine lv_tableIn (off := 195) (tgt := 215) hx hb dX8_doAct_20 (by rw [c20_116]; decide) (by rw [c20_116]; decide) (by rw [c20_116]; rfl) (by decide) ?_
                                      refine lv_iload_n hx hb dX8_doAct_215 rfl (lv_at hl 3 rfl) ?_
                                      refine lv_if_le (tgt := 235) hx hb dX8_doAct_216 (by decide) (fun c216 => ?_) (fun c216 => ?_)
                                      · have hf := pf_t c216 hf
                                        refine lv_ldcw (v := (-1000000)) hx hb hown (X.use ck_X8_283 rfl) dX8_doAct_235 ?_
                                        exact hQ _ _ _ _ _ (t_all, t_pile, t_nextOff, t_decided, t_wasLate, t_askedOf, t_heldBehind, t_sum, t_heldAll, t_wasConverted, t_lastBits, t_lastSum, t_lastHeld, t_lastLeft, t_lastCode, t_last) (fun _ => 0) hf rfl w dX8_doAct_238
                                      · have hf := pf_e c216 hf
                                        refine lv_aload_n hx hb dX8_doAct_219 rfl (lv_at hl 2 rfl) ?_
                                        refine hm_get cb_X8 hx hb hown X w 0 51 fl_X8_113 dX8_doAct_220 rfl (by decide) rfl ?_
                                        refine lv_iload_n hx hb dX8_doAct_223 rfl (lv_at hl 3 rfl) ?_
                                        refine lv_iconst (v := 1) hx hb dX8_doAct_224 (by decide) ?_
                                        refine lv_isub hx hb dX8_doAct_225 ?_
                                        obtain ⟨g226, hf⟩ := pf_ckI hf
                                        refine hm_iald hx hb X w 11 dX8_doAct_226 rfl g226 ?_
                                        refine lv_iload_n hx hb dX8_doAct_227 rfl (lv_at hl 1 rfl) ?_
                                        refine lv_icmp_ne (tgt := 235) hx hb dX8_doAct_228 (by decide) (fun c228 => ?_) (fun c228 => ?_)
                                        · have hf := pf_e c228 hf
                                          refine lv_ldcw (v := (-1000000)) hx hb hown (X.use ck_X8_283 rfl) dX8_doAct_235 ?_
                                          exact hQ _ _ _ _ _ (t_all, t_pile, t_nextOff, t_decided, t_wasLate, t_askedOf, t_heldBehind, t_sum, t_heldAll, t_wasConverted, t_lastBits, t_lastSum, t_lastHeld, t_lastLeft, t_lastCode, t_last) (fun _ => 0) hf rfl w dX8_doAct_238
                                        · have hf := pf_t c228 hf
                                          refine lv_iload_n hx hb dX8_doAct_231 rfl (lv_at hl 1 rfl) ?_
                                          refine lv_goto (tgt := 238) hx hb dX8_doAct_232 (by decide) ?_
                                          exact hQ _ _ _ _ _ (t_all, t_pile, t_nextOff, t_decided, t_wasLate, t_askedOf, t_heldBehind, t_sum, t_heldAll, t_wasConverted, t_lastBits, t_lastSum, t_lastHeld, t_lastLeft, t_lastCode, t_last) (fun _ => 0) hf rfl w dX8_doAct_238
                                    · have hf := pf_e c20_116 hf
                                      by_cases c20_117 : x3 = 117
                                      · have hf := pf_t c20_117 hf
                                        refine lv_tableIn (off := 195) (tgt := 215) hx hb dX8_doAct_20 (by rw [c20_117]; decide) (by rw [c20_117]; decide) (by rw [c20_117]; rfl) (by decide) ?_
                                        refine lv_iload_n hx hb dX8_doAct_215 rfl (lv_at hl 3 rfl) ?_
                                        refine lv_if_le (tgt := 235) hx hb dX8_doAct_216 (by decide) (fun c216 => ?_) (fun c216 => ?_)
                                        · have hf := pf_t c216 hf
                                          refine lv_ldcw (v := (-1000000)) hx hb hown (X.use ck_X8_283 rfl) dX8_doAct_235 ?_
                                          exact hQ _ _ _ _ _ (t_all, t_pile, t_nextOff, t_decided, t_wasLate, t_askedOf, t_heldBehind, t_sum, t_heldAll, t_wasConverted, t_lastBits, t_lastSum, t_lastHeld, t_lastLeft, t_lastCode, t_last) (fun _ => 0) hf rfl w dX8_doAct_238
                                        · have hf := pf_e c216 hf
                                          refine lv_aload_n hx hb dX8_doAct_219 rfl (lv_at hl 2 rfl) ?_
                                          refine hm_get cb_X8 hx hb hown X w 0 51 fl_X8_113 dX8_doAct_220 rfl (by decide) rfl ?_
                                          refine lv_iload_n hx hb dX8_doAct_223 rfl (lv_at hl 3 rfl) ?_
                                          refine lv_iconst (v := 1) hx hb dX8_doAct_224 (by decide) ?_
                                          refine lv_isub hx hb dX8_doAct_225 ?_
                                          obtain ⟨g226, hf⟩ := pf_ckI hf
                                          refine hm_iald hx hb X w 11 dX8_doAct_226 rfl g226 ?_
                                          refine lv_iload_n hx hb dX8_doAct_227 rfl (lv_at hl 1 rfl) ?_
                                          refine lv_icmp_ne (tgt := 235) hx hb dX8_doAct_228 (by decide) (fun c228 => ?_) (fun c228 => ?_)
                                          · have hf := pf_e c228 hf
                                            refine lv_ldcw (v := (-1000000)) hx hb hown (X.use ck_X8_283 rfl) dX8_doAct_235 ?_
                                            exact hQ _ _ _ _ _ (t_all, t_pile, t_nextOff, t_decided, t_wasLate, t_askedOf, t_heldBehind, t_sum, t_heldAll, t_wasConverted, t_lastBits, t_lastSum, t_lastHeld, t_lastLeft, t_lastCode, t_last) (fun _ => 0) hf rfl w dX8_doAct_238
                                          · have hf := pf_t c228 hf
                                            refine lv_iload_n hx hb dX8_doAct_231 rfl (lv_at hl 1 rfl) ?_
                                            refine lv_goto (tgt := 238) hx hb dX8_doAct_232 (by decide) ?_
                                            exact hQ _ _ _ _ _ (t_all, t_pile, t_nextOff, t_decided, t_wasLate, t_askedOf, t_heldBehind, t_sum, t_heldAll, t_wasConverted, t_lastBits, t_lastSum, t_lastHeld, t_lastLeft, t_lastCode, t_last) (fun _ => 0) hf rfl w dX8_doAct_238
                                      · have hf := pf_e c20_117 hf
                                        by_cases c20_118 : x3 = 118
                                        · have hf := pf_t c20_118 hf
                                          refine lv_tableIn (off := 195) (tgt := 215) hx hb dX8_doAct_20 (by rw [c20_118]; decide) (by rw [c20_118]; decide) (by rw [c20_118]; rfl) (by decide) ?_
                                          refine lv_iload_n hx hb dX8_doAct_215 rfl (lv_at hl 3 rfl) ?_
                                          refine lv_if_le (tgt := 235) hx hb dX8_doAct_216 (by decide) (fun c216 => ?_) (fun c216 => ?_)
                                          · have hf := pf_t c216 hf
                                            refine lv_ldcw (v := (-1000000)) hx hb hown (X.use ck_X8_283 rfl) dX8_doAct_235 ?_
                                            exact hQ _ _ _ _ _ (t_all, t_pile, t_nextOff, t_decided, t_wasLate, t_askedOf, t_heldBehind, t_sum, t_heldAll, t_wasConverted, t_lastBits, t_lastSum, t_lastHeld, t_lastLeft, t_lastCode, t_last) (fun _ => 0) hf rfl w dX8_doAct_238
                                          · have hf := pf_e c216 hf
                                            refine lv_aload_n hx hb dX8_doAct_219 rfl (lv_at hl 2 rfl) ?_
                                            refine hm_get cb_X8 hx hb hown X w 0 51 fl_X8_113 dX8_doAct_220 rfl (by decide) rfl ?_
                                            refine lv_iload_n hx hb dX8_doAct_223 rfl (lv_at hl 3 rfl) ?_
                                            refine lv_iconst (v := 1) hx hb dX8_doAct_224 (by decide) ?_
                                            refine lv_isub hx hb dX8_doAct_225 ?_
                                            obtain ⟨g226, hf⟩ := pf_ckI hf
                                            refine hm_iald hx hb X w 11 dX8_doAct_226 rfl g226 ?_
                                            refine lv_iload_n hx hb dX8_doAct_227 rfl (lv_at hl 1 rfl) ?_
                                            refine lv_icmp_ne (tgt := 235) hx hb dX8_doAct_228 (by decide) (fun c228 => ?_) (fun c228 => ?_)
                                            · have hf := pf_e c228 hf
                                              refine lv_ldcw (v := (-1000000)) hx hb hown (X.use ck_X8_283 rfl) dX8_doAct_235 ?_
                                              exact hQ _ _ _ _ _ (t_all, t_pile, t_nextOff, t_decided, t_wasLate, t_askedOf, t_heldBehind, t_sum, t_heldAll, t_wasConverted, t_lastBits, t_lastSum, t_lastHeld, t_lastLeft, t_lastCode, t_last) (fun _ => 0) hf rfl w dX8_doAct_238
                                            · have hf := pf_t c228 hf
                                              refine lv_iload_n hx hb dX8_doAct_231 rfl (lv_at hl 1 rfl) ?_
                                              refine lv_goto (tgt := 238) hx hb dX8_doAct_232 (by decide) ?_
                                              exact hQ _ _ _ _ _ (t_all, t_pile, t_nextOff, t_decided, t_wasLate, t_askedOf, t_heldBehind, t_sum, t_heldAll, t_wasConverted, t_lastBits, t_lastSum, t_lastHeld, t_lastLeft, t_lastCode, t_last) (fun _ => 0) hf rfl w dX8_doAct_238
                                        · have hf := pf_e c20_118 hf
                                          by_cases c20_119 : x3 = 119
                                          · have hf := pf_t c20_119 hf
                                            refine lv_tableIn (off := 195) (tgt := 215) hx hb dX8_doAct_20 (by rw [c20_119]; decide) (by rw [c20_119]; decide) (by rw [c20_119]; rfl) (by decide) ?_
                                            refine lv_iload_n hx hb dX8_doAct_215 rfl (lv_at hl 3 rfl) ?_
                                            refine lv_if_le (tgt := 235) hx hb dX8_doAct_216 (by decide) (fun c216 => ?_) (fun c216 => ?_)
                                            · have hf := pf_t c216 hf
                                              refine lv_ldcw (v := (-1000000)) hx hb hown (X.use ck_X8_283 rfl) dX8_doAct_235 ?_
                                              exact hQ _ _ _ _ _ (t_all, t_pile, t_nextOff, t_decided, t_wasLate, t_askedOf, t_heldBehind, t_sum, t_heldAll, t_wasConverted, t_lastBits, t_lastSum, t_lastHeld, t_lastLeft, t_lastCode, t_last) (fun _ => 0) hf rfl w dX8_doAct_238
                                            · have hf := pf_e c216 hf
                                              refine lv_aload_n hx hb dX8_doAct_219 rfl (lv_at hl 2 rfl) ?_
                                              refine hm_get cb_X8 hx hb hown X w 0 51 fl_X8_113 dX8_doAct_220 rfl (by decide) rfl ?_
                                              refine lv_iload_n hx hb dX8_doAct_223 rfl (lv_at hl 3 rfl) ?_
                                              refine lv_iconst (v := 1) hx hb dX8_doAct_224 (by decide) ?_
                                              refine lv_isub hx hb dX8_doAct_225 ?_
                                              obtain ⟨g226, hf⟩ := pf_ckI hf
                                              refine hm_iald hx hb X w 11 dX8_doAct_226 rfl g226 ?_
                                              refine lv_iload_n hx hb dX8_doAct_227 rfl (lv_at hl 1 rfl) ?_
                                              refine lv_icmp_ne (tgt := 235) hx hb dX8_doAct_228 (by decide) (fun c228 => ?_) (fun c228 => ?_)
                                              · have hf := pf_e c228 hf
                                                refine lv_ldcw (v := (-1000000)) hx hb hown (X.use ck_X8_283 rfl) dX8_doAct_235 ?_
                                                exact hQ _ _ _ _ _ (t_all, t_pile, t_nextOff, t_decided, t_wasLate, t_askedOf, t_heldBehind, t_sum, t_heldAll, t_wasConverted, t_lastBits, t_lastSum, t_lastHeld, t_lastLeft, t_lastCode, t_last) (fun _ => 0) hf rfl w dX8_doAct_238
                                              · have hf := pf_t c228 hf
                                                refine lv_iload_n hx hb dX8_doAct_231 rfl (lv_at hl 1 rfl) ?_
                                                refine lv_goto (tgt := 238) hx hb dX8_doAct_232 (by decide) ?_
                                                exact hQ _ _ _ _ _ (t_all, t_pile, t_nextOff, t_decided, t_wasLate, t_askedOf, t_heldBehind, t_sum, t_heldAll, t_wasConverted, t_lastBits, t_lastSum, t_lastHeld, t_lastLeft, t_lastCode, t_last) (fun _ => 0) hf rfl w dX8_doAct_238
                                          · have hf := pf_e c20_119 hf
                                            by_cases c20_120 : x3 = 120
                                            · have hf := pf_t c20_120 hf
                                              refine lv_tableIn (off := 186) (tgt := 206) hx hb dX8_doAct_20 (by rw [c20_120]; decide) (by rw [c20_120]; decide) (by rw [c20_120]; rfl) (by decide) ?_
                                              refine lv_aload_n hx hb dX8_doAct_206 rfl (lv_at hl 2 rfl) ?_
                                              refine lv_bipush (v := 6) hx hb dX8_doAct_207 (by decide) ?_
                                              refine lv_iload_n hx hb dX8_doAct_209 rfl (lv_at hl 1 rfl) ?_
                                              obtain ⟨f41, hc210, hf⟩ := pf_bv_1 hf
                                              refine hm_aft_v (ws' := fun _ => [oc8 h0 r_t t_base t_taped t_at t_faultPlace t_number t_newBits t_newTold t_newDoings t_newThings t_opened t_sum t_heldAll t_onPaper t_turned t_wasConverted t_lastBits t_lastSum t_lastHeld t_lastLeft t_lastCode t_writtenLong t_codeMany t_acts t_done0 t_stoppedAt, ic E (r_t 48) 40 t_act, ic E (r_t 49) 40 t_actA, ic E (r_t 50) 40 t_actB, ic E (r_t 0) 800 f41, ic E (r_t 27) 12 t_askedOf, ic E (r_t 25) 12 t_decided, ic E (r_t 28) 12 t_heldBehind, ic E (r_t 39) 48 t_last, ic E (r_t 24) 12 t_nextOff, ic E (r_t 23) 90 t_pile, ic E (r_t 51) 40 t_toldBy, zc E (r_t 26) 12 t_wasLate]) (hm_runV (rest := []) hx hb hml hown X hA Y w 0 (ci := 7) (T := TX8) (N := 55) rfl rfl mw_X8_put ml_X8_119 dX8_doAct_210 hm_ac0 [.int 6, .int x1] rfl [0, 4] rfl rfl (ct_X8_put l E H.size h0 r_t t_base t_taped t_at t_faultPlace t_number t_newBits t_newTold t_newDoings t_newThings t_opened t_sum t_heldAll t_onPaper t_turned t_wasConverted t_lastBits t_lastSum t_lastHeld t_lastLeft t_lastCode t_writtenLong t_codeMany t_acts t_done0 t_stoppedAt t_all 6 x1 f41 hc210) rfl hl.1 ⟨⟨rfl, rfl⟩, ⟨Nat.le_of_ble_eq_true rfl, Nat.le_of_ble_eq_true rfl⟩, ⟨Nat.le_of_ble_eq_true rfl, Nat.le_of_ble_eq_true rfl⟩, Nat.le_of_ble_eq_true rfl⟩) hA w [0, 4] [1, 2, 3, 5, 6, 7, 8, 9, 10, 11, 12] [11, 0, 1, 2, 12, 3, 4, 5, 6, 7, 8, 9, 10] rfl rfl (by decide) (fun _ => rfl) (fun _ H locs w => ?_)
                                              refine lv_iconst (v := 1) hx hb dX8_doAct_213 (by decide) ?_
                                              exact hQ _ _ _ _ _ (f41, t_pile, t_nextOff, t_decided, t_wasLate, t_askedOf, t_heldBehind, t_sum, t_heldAll, t_wasConverted, t_lastBits, t_lastSum, t_lastHeld, t_lastLeft, t_lastCode, t_last) (fun _ => 0) hf rfl w dX8_doAct_214
                                            · have hf := pf_e c20_120 hf
                                              refine lv_tableOut (tgt := 215) hx hb dX8_doAct_20 (hm_out (fun k h1 h2 => by have u := And.intro h1 h2; have v99 := hm_ti c20_99; rw [show (99 : Int32).toInt = 99 from by decide] at v99; have v100 := hm_ti c20_100; rw [show (100 : Int32).toInt = 100 from by decide] at v100; have v101 := hm_ti c20_101; rw [show (101 : Int32).toInt = 101 from by decide] at v101; have v102 := hm_ti c20_102; rw [show (102 : Int32).toInt = 102 from by decide] at v102; have v103 := hm_ti c20_103; rw [show (103 : Int32).toInt = 103 from by decide] at v103; have v104 := hm_ti c20_104; rw [show (104 : Int32).toInt = 104 from by decide] at v104; have v105 := hm_ti c20_105; rw [show (105 : Int32).toInt = 105 from by decide] at v105; have v106 := hm_ti c20_106; rw [show (106 : Int32).toInt = 106 from by decide] at v106; have v107 := hm_ti c20_107; rw [show (107 : Int32).toInt = 107 from by decide] at v107; have v108 := hm_ti c20_108; rw [show (108 : Int32).toInt = 108 from by decide] at v108; have v109 := hm_ti c20_109; rw [show (109 : Int32).toInt = 109 from by decide] at v109; have v110 := hm_ti c20_110; rw [show (110 : Int32).toInt = 110 from by decide] at v110; have v111 := hm_ti c20_111; rw [show (111 : Int32).toInt = 111 from by decide] at v111; have v112 := hm_ti c20_112; rw [show (112 : Int32).toInt = 112 from by decide] at v112; have v113 := hm_ti c20_113; rw [show (113 : Int32).toInt = 113 from by decide] at v113; have v114 := hm_ti c20_114; rw [show (114 : Int32).toInt = 114 from by decide] at v114; have v115 := hm_ti c20_115; rw [show (115 : Int32).toInt = 115 from by decide] at v115; have v116 := hm_ti c20_116; rw [show (116 : Int32).toInt = 116 from by decide] at v116; have v117 := hm_ti c20_117; rw [show (117 : Int32).toInt = 117 from by decide] at v117; have v118 := hm_ti c20_118; rw [show (118 : Int32).toInt = 118 from by decide] at v118; have v119 := hm_ti c20_119; rw [show (119 : Int32).toInt = 119 from by decide] at v119; have v120 := hm_ti c20_120; rw [show (120 : Int32).toInt = 120 from by decide] at v120; omega)) (by decide) ?_
                                              refine lv_iload_n hx hb dX8_doAct_215 rfl (lv_at hl 3 rfl) ?_
                                              refine lv_if_le (tgt := 235) hx hb dX8_doAct_216 (by decide) (fun c216 => ?_) (fun c216 => ?_)
                                              · have hf := pf_t c216 hf
                                                refine lv_ldcw (v := (-1000000)) hx hb hown (X.use ck_X8_283 rfl) dX8_doAct_235 ?_
                                                exact hQ _ _ _ _ _ (t_all, t_pile, t_nextOff, t_decided, t_wasLate, t_askedOf, t_heldBehind, t_sum, t_heldAll, t_wasConverted, t_lastBits, t_lastSum, t_lastHeld, t_lastLeft, t_lastCode, t_last) (fun _ => 0) hf rfl w dX8_doAct_238
                                              · have hf := pf_e c216 hf
                                                refine lv_aload_n hx hb dX8_doAct_219 rfl (lv_at hl 2 rfl) ?_
                                                refine hm_get cb_X8 hx hb hown X w 0 51 fl_X8_113 dX8_doAct_220 rfl (by decide) rfl ?_
                                                refine lv_iload_n hx hb dX8_doAct_223 rfl (lv_at hl 3 rfl) ?_
                                                refine lv_iconst (v := 1) hx hb dX8_doAct_224 (by decide) ?_
                                                refine lv_isub hx hb dX8_doAct_225 ?_
                                                obtain ⟨g226, hf⟩ := pf_ckI hf
                                                refine hm_iald hx hb X w 11 dX8_doAct_226 rfl g226 ?_
                                                refine lv_iload_n hx hb dX8_doAct_227 rfl (lv_at hl 1 rfl) ?_
                                                refine lv_icmp_ne (tgt := 235) hx hb dX8_doAct_228 (by decide) (fun c228 => ?_) (fun c228 => ?_)
                                                · have hf := pf_e c228 hf
                                                  refine lv_ldcw (v := (-1000000)) hx hb hown (X.use ck_X8_283 rfl) dX8_doAct_235 ?_
                                                  exact hQ _ _ _ _ _ (t_all, t_pile, t_nextOff, t_decided, t_wasLate, t_askedOf, t_heldBehind, t_sum, t_heldAll, t_wasConverted, t_lastBits, t_lastSum, t_lastHeld, t_lastLeft, t_lastCode, t_last) (fun _ => 0) hf rfl w dX8_doAct_238
                                                · have hf := pf_t c228 hf
                                                  refine lv_iload_n hx hb dX8_doAct_231 rfl (lv_at hl 1 rfl) ?_
                                                  refine lv_goto (tgt := 238) hx hb dX8_doAct_232 (by decide) ?_
                                                  exact hQ _ _ _ _ _ (t_all, t_pile, t_nextOff, t_decided, t_wasLate, t_askedOf, t_heldBehind, t_sum, t_heldAll, t_wasConverted, t_lastBits, t_lastSum, t_lastHeld, t_lastLeft, t_lastCode, t_last) (fun _ => 0) hf rfl w dX8_doAct_238
set_option maxHeartbeats 8000000 in
set_option maxRecDepth 100000 in
theorem ct_X8_bench (l : Launch) (E : hm_E) (sz : Nat) (h0 : Nat) (r_t : Nat → Nat) (t_base t_taped t_at t_faultPlace t_number t_newBits t_newTold t_newDoings t_newThings t_opened t_sum t_heldAll t_onPaper t_turned t_wasConverted t_lastBits t_lastSum t_lastHeld t_lastLeft t_lastCode t_writtenLong t_codeMany t_acts t_done0 t_stoppedAt : Int32) (t_act : Nat → Int32) (t_actA : Nat → Int32) (t_actB : Nat → Int32) (t_all : Nat → Int32) (t_askedOf : Nat → Int32) (t_decided : Nat → Int32) (t_heldBehind : Nat → Int32) (t_last : Nat → Int32) (t_nextOff : Nat → Int32) (t_pile : Nat → Int32) (t_tape : Nat → Int32) (t_toldBy : Nat → Int32) (t_wasLate : Nat → Int32) (R : Int32 × (Nat → Int32) × Int32 × Int32 × Int32 × Int32 × (Nat → Int32) × (Nat → Int32) × (Nat → Int32) × (Nat → Int32) × (Nat → Int32) × (Nat → Int32) × Int32 × Int32 × Int32 × Int32 × Int32 × Int32 × Int32 × Int32 × (Nat → Int32) × (Nat → Int32) × (Nat → Int32) × (Nat → Int32) × (Nat → Int32) × Int32 × Int32 × Int32) (hf : pf_X8_bench t_all t_base t_tape t_taped t_number t_pile t_nextOff t_decided t_wasLate t_askedOf t_heldBehind t_sum t_heldAll t_onPaper t_turned t_wasConverted t_lastBits t_lastSum t_lastHeld t_lastLeft t_lastCode t_last t_act t_actA t_actB t_toldBy t_done0 t_stoppedAt = some R) : hm_Mi l E yX8_bench cX8_bench 3 .int [] (hm_rr 7 168 0 0) [.ref h0] sz [oc8 h0 r_t t_base t_taped t_at t_faultPlace t_number t_newBits t_newTold t_newDoings t_newThings t_opened t_sum t_heldAll t_onPaper t_turned t_wasConverted t_lastBits t_lastSum t_lastHeld t_lastLeft t_lastCode t_writtenLong t_codeMany t_acts t_done0 t_stoppedAt, ic E (r_t 48) 40 t_act, ic E (r_t 49) 40 t_actA, ic E (r_t 50) 40 t_actB, ic E (r_t 0) 800 t_all, ic E (r_t 27) 12 t_askedOf, ic E (r_t 25) 12 t_decided, ic E (r_t 28) 12 t_heldBehind, ic E (r_t 39) 48 t_last, ic E (r_t 24) 12 t_nextOff, ic E (r_t 23) 90 t_pile, bc E (r_t 2) 400 t_tape, ic E (r_t 51) 40 t_toldBy, zc E (r_t 26) 12 t_wasLate] R.1 (fun _ => [oc8 h0 r_t t_base (R.2.2.1) (R.2.2.2.1) (R.2.2.2.2.1) (R.2.2.2.2.2.1) t_newBits t_newTold t_newDoings t_newThings t_opened (R.2.2.2.2.2.2.2.2.2.2.2.2.1) (R.2.2.2.2.2.2.2.2.2.2.2.2.2.1) t_onPaper t_turned (R.2.2.2.2.2.2.2.2.2.2.2.2.2.2.1) (R.2.2.2.2.2.2.2.2.2.2.2.2.2.2.2.1) (R.2.2.2.2.2.2.2.2.2.2.2.2.2.2.2.2.1) (R.2.2.2.2.2.2.2.2.2.2.2.2.2.2.2.2.2.1) (R.2.2.2.2.2.2.2.2.2.2.2.2.2.2.2.2.2.2.1) (R.2.2.2.2.2.2.2.2.2.2.2.2.2.2.2.2.2.2.2.1) t_writtenLong t_codeMany (R.2.2.2.2.2.2.2.2.2.2.2.2.2.2.2.2.2.2.2.2.2.2.2.2.2.1) (R.2.2.2.2.2.2.2.2.2.2.2.2.2.2.2.2.2.2.2.2.2.2.2.2.2.2.1) (R.2.2.2.2.2.2.2.2.2.2.2.2.2.2.2.2.2.2.2.2.2.2.2.2.2.2.2), ic E (r_t 48) 40 (R.2.2.2.2.2.2.2.2.2.2.2.2.2.2.2.2.2.2.2.2.2.1), ic E (r_t 49) 40 (R.2.2.2.2.2.2.2.2.2.2.2.2.2.2.2.2.2.2.2.2.2.2.1), ic E (r_t 50) 40 (R.2.2.2.2.2.2.2.2.2.2.2.2.2.2.2.2.2.2.2.2.2.2.2.1), ic E (r_t 0) 800 (R.2.1), ic E (r_t 27) 12 (R.2.2.2.2.2.2.2.2.2.2.1), ic E (r_t 25) 12 (R.2.2.2.2.2.2.2.2.1), ic E (r_t 28) 12 (R.2.2.2.2.2.2.2.2.2.2.2.1), ic E (r_t 39) 48 (R.2.2.2.2.2.2.2.2.2.2.2.2.2.2.2.2.2.2.2.2.1), ic E (r_t 24) 12 (R.2.2.2.2.2.2.2.1), ic E (r_t 23) 90 (R.2.2.2.2.2.2.1), bc E (r_t 2) 400 t_tape, ic E (r_t 51) 40 (R.2.2.2.2.2.2.2.2.2.2.2.2.2.2.2.2.2.2.2.2.2.2.2.2.1), zc E (r_t 26) 12 (R.2.2.2.2.2.2.2.2.2.1)]) := by
  refine hm_ct_i R (fun u qs => [oc8 h0 r_t t_base (u.2.1) (u.2.2.1) (u.2.2.2.1) (u.2.2.2.2.1) t_newBits t_newTold t_newDoings t_newThings t_opened (u.2.2.2.2.2.2.2.2.2.2.2.1) (u.2.2.2.2.2.2.2.2.2.2.2.2.1) t_onPaper t_turned (u.2.2.2.2.2.2.2.2.2.2.2.2.2.1) (u.2.2.2.2.2.2.2.2.2.2.2.2.2.2.1) (u.2.2.2.2.2.2.2.2.2.2.2.2.2.2.2.1) (u.2.2.2.2.2.2.2.2.2.2.2.2.2.2.2.2.1) (u.2.2.2.2.2.2.2.2.2.2.2.2.2.2.2.2.2.1) (u.2.2.2.2.2.2.2.2.2.2.2.2.2.2.2.2.2.2.1) t_writtenLong t_codeMany (u.2.2.2.2.2.2.2.2.2.2.2.2.2.2.2.2.2.2.2.2.2.2.2.2.1) (u.2.2.2.2.2.2.2.2.2.2.2.2.2.2.2.2.2.2.2.2.2.2.2.2.2.1) (u.2.2.2.2.2.2.2.2.2.2.2.2.2.2.2.2.2.2.2.2.2.2.2.2.2.2), ic E (r_t 48) 40 (u.2.2.2.2.2.2.2.2.2.2.2.2.2.2.2.2.2.2.2.2.1), ic E (r_t 49) 40 (u.2.2.2.2.2.2.2.2.2.2.2.2.2.2.2.2.2.2.2.2.2.1), ic E (r_t 50) 40 (u.2.2.2.2.2.2.2.2.2.2.2.2.2.2.2.2.2.2.2.2.2.2.1), ic E (r_t 0) 800 (u.1), ic E (r_t 27) 12 (u.2.2.2.2.2.2.2.2.2.1), ic E (r_t 25) 12 (u.2.2.2.2.2.2.2.1), ic E (r_t 28) 12 (u.2.2.2.2.2.2.2.2.2.2.1), ic E (r_t 39) 48 (u.2.2.2.2.2.2.2.2.2.2.2.2.2.2.2.2.2.2.2.1), ic E (r_t 24) 12 (u.2.2.2.2.2.2.1), ic E (r_t 23) 90 (u.2.2.2.2.2.1), bc E (r_t 2) 400 t_tape, ic E (r_t 51) 40 (u.2.2.2.2.2.2.2.2.2.2.2.2.2.2.2.2.2.2.2.2.2.2.2.1), zc E (r_t 26) 12 (u.2.2.2.2.2.2.2.2.1)]) (by decide) (Nat.le_of_ble_eq_true rfl) (Or.inl rfl) ?_
  intro p e s m args below meth c A Q ls H locs hx hb hml hown X hA Y hex w hl hQ
  have hl : lv_has ls 3 [(0, .ref h0)] := hl
  unfold pf_X8_bench at hf
  refine lv_aload_n hx hb dX8_bench_0 rfl (lv_at hl 0 rfl) ?_
  obtain ⟨r1, x2, x3, x4, f5, f6, f7, x8, hc1, hf⟩ := pf_bi_7 hf
  refine hm_aft_i (ws' := fun _ => [oc8 h0 r_t t_base t_taped x2 x3 x4 t_newBits t_newTold t_newDoings t_newThings t_opened t_sum t_heldAll t_onPaper t_turned t_wasConverted t_lastBits t_lastSum t_lastHeld t_lastLeft t_lastCode t_writtenLong t_codeMany x8 t_done0 t_stoppedAt, ic E (r_t 48) 40 f5, ic E (r_t 49) 40 f6, ic E (r_t 50) 40 f7, ic E (r_t 0) 800 t_all, ic E (r_t 27) 12 t_askedOf, ic E (r_t 25) 12 t_decided, ic E (r_t 28) 12 t_heldBehind, ic E (r_t 39) 48 t_last, ic E (r_t 24) 12 t_nextOff, ic E (r_t 23) 90 t_pile, bc E (r_t 2) 400 t_tape, ic E (r_t 51) 40 t_toldBy, zc E (r_t 26) 12 t_wasLate]) (hm_runV (rest := []) hx hb hml hown X hA Y w 0 (ci := 7) (T := TX8) (N := 55) rfl rfl mw_X8_readBench ml_X8_437 dX8_bench_1 hm_ac0 [] rfl [0, 1, 2, 3, 11] rfl rfl (ct_X8_readBench l E H.size h0 r_t t_base t_taped t_at t_faultPlace t_number t_newBits t_newTold t_newDoings t_newThings t_opened t_sum t_heldAll t_onPaper t_turned t_wasConverted t_lastBits t_lastSum t_lastHeld t_lastLeft t_lastCode t_writtenLong t_codeMany t_acts t_done0 t_stoppedAt t_act t_actA t_actB t_tape (r1, x2, x3, x4, f5, f6, f7, x8) hc1) rfl hl.1 ⟨⟨rfl, rfl⟩, ⟨Nat.le_of_ble_eq_true rfl, Nat.le_of_ble_eq_true rfl⟩, ⟨Nat.le_of_ble_eq_true rfl, Nat.le_of_ble_eq_true rfl⟩, Nat.le_of_ble_eq_true rfl⟩) hA w [0, 1, 2, 3, 11] [4, 5, 6, 7, 8, 9, 10, 12, 13] [9, 10, 11, 12, 0, 1, 2, 3, 4, 5, 6, 13, 7, 8] rfl rfl (by decide) (fun _ => rfl) (fun _ H locs w => ?_)
  refine lv_istore_n (lv' := [(1, .int r1), (0, .ref h0)]) hx hb dX8_bench_4 rfl hl (by decide) rfl (fun ls hl => ?_)
  refine lv_aload_n hx hb dX8_bench_5 rfl (lv_at hl 1 rfl) ?_
  refine lv_iconst (v := 0) hx hb dX8_bench_6 (by decide) ?_
  refine hm_put (ws' := [oc8 h0 r_t t_base 0 x2 x3 x4 t_newBits t_newTold t_newDoings t_newThings t_opened t_sum t_heldAll t_onPaper t_turned t_wasConverted t_lastBits t_lastSum t_lastHeld t_lastLeft t_lastCode t_writtenLong t_codeMany x8 t_done0 t_stoppedAt, ic E (r_t 48) 40 f5, ic E (r_t 49) 40 f6, ic E (r_t 50) 40 f7, ic E (r_t 0) 800 t_all, ic E (r_t 27) 12 t_askedOf, ic E (r_t 25) 12 t_decided, ic E (r_t 28) 12 t_heldBehind, ic E (r_t 39) 48 t_last, ic E (r_t 24) 12 t_nextOff, ic E (r_t 23) 90 t_pile, bc E (r_t 2) 400 t_tape, ic E (r_t 51) 40 t_toldBy, zc E (r_t 26) 12 t_wasLate]) cb_X8 hx hb hown X w 0 3 fl_X8_122 dX8_bench_7 rfl (by decide) (Nat.le_of_ble_eq_true rfl) rfl rfl rfl rfl (fun H locs w => ?_)
  refine lv_iload_n hx hb dX8_bench_10 rfl (lv_at hl 0 rfl) ?_
  refine lv_if_ne (tgt := 16) hx hb dX8_bench_11 (by decide) (fun c11 => ?_) (fun c11 => ?_)
  · have hf := pf_e c11 hf
    refine lv_aload_n hx hb dX8_bench_16 rfl (lv_at hl 1 rfl) ?_
    refine lv_iconst (v := 0) hx hb dX8_bench_17 (by decide) ?_
    refine hm_put (ws' := [oc8 h0 r_t t_base 0 x2 x3 x4 t_newBits t_newTold t_newDoings t_newThings t_opened t_sum t_heldAll t_onPaper t_turned t_wasConverted t_lastBits t_lastSum t_lastHeld t_lastLeft t_lastCode t_writtenLong t_codeMany x8 0 t_stoppedAt, ic E (r_t 48) 40 f5, ic E (r_t 49) 40 f6, ic E (r_t 50) 40 f7, ic E (r_t 0) 800 t_all, ic E (r_t 27) 12 t_askedOf, ic E (r_t 25) 12 t_decided, ic E (r_t 28) 12 t_heldBehind, ic E (r_t 39) 48 t_last, ic E (r_t 24) 12 t_nextOff, ic E (r_t 23) 90 t_pile, bc E (r_t 2) 400 t_tape, ic E (r_t 51) 40 t_toldBy, zc E (r_t 26) 12 t_wasLate]) cb_X8 hx hb hown X w 0 53 fl_X8_440 dX8_bench_18 rfl (by decide) (Nat.le_of_ble_eq_true rfl) rfl rfl rfl rfl (fun H locs w => ?_)
    refine lv_aload_n hx hb dX8_bench_21 rfl (lv_at hl 1 rfl) ?_
    refine lv_iconst (v := (-1)) hx hb dX8_bench_22 (by decide) ?_
    refine hm_put (ws' := [oc8 h0 r_t t_base 0 x2 x3 x4 t_newBits t_newTold t_newDoings t_newThings t_opened t_sum t_heldAll t_onPaper t_turned t_wasConverted t_lastBits t_lastSum t_lastHeld t_lastLeft t_lastCode t_writtenLong t_codeMany x8 0 (-1), ic E (r_t 48) 40 f5, ic E (r_t 49) 40 f6, ic E (r_t 50) 40 f7, ic E (r_t 0) 800 t_all, ic E (r_t 27) 12 t_askedOf, ic E (r_t 25) 12 t_decided, ic E (r_t 28) 12 t_heldBehind, ic E (r_t 39) 48 t_last, ic E (r_t 24) 12 t_nextOff, ic E (r_t 23) 90 t_pile, bc E (r_t 2) 400 t_tape, ic E (r_t 51) 40 t_toldBy, zc E (r_t 26) 12 t_wasLate]) cb_X8 hx hb hown X w 0 54 fl_X8_116 dX8_bench_23 rfl (by decide) (Nat.le_of_ble_eq_true rfl) rfl rfl rfl rfl (fun H locs w => ?_)
    have klp_X8_bench_26 : ∀ (n : Nat) (f9 : Nat → Int32) (f10 : Nat → Int32) (f11 : Nat → Int32) (f12 : Nat → Int32) (f13 : Nat → Int32) (f14 : Nat → Int32) (f15 : Nat → Int32) (x16 : Int32) (x17 : Int32) (x18 : Int32) (x19 : Int32) (x20 : Int32) (x21 : Int32) (x22 : Int32) (x23 : Int32) (f24 : Nat → Int32) (f25 : Nat → Int32) (x26 : Int32) (x27 : Int32) (H : Heap) (locs : List Loc) (ls : Array Slot), lp_X8_bench_26 t_base t_onPaper t_turned x2 x3 x4 f5 f6 f7 x8 n f9 f10 f11 f12 f13 f14 f15 x16 x17 x18 x19 x20 x21 x22 x23 f24 f25 x26 x27 = some R → hm_W E A s.heap [oc8 h0 r_t t_base 0 x2 x3 x4 t_newBits t_newTold t_newDoings t_newThings t_opened x16 x17 t_onPaper t_turned x18 x19 x20 x21 x22 x23 t_writtenLong t_codeMany x8 x26 x27, ic E (r_t 48) 40 f5, ic E (r_t 49) 40 f6, ic E (r_t 50) 40 f7, ic E (r_t 0) 800 f9, ic E (r_t 27) 12 f14, ic E (r_t 25) 12 f12, ic E (r_t 28) 12 f15, ic E (r_t 39) 48 f24, ic E (r_t 24) 12 f11, ic E (r_t 23) 90 f10, bc E (r_t 2) 400 t_tape, ic E (r_t 51) 40 f25, zc E (r_t 26) 12 f13] H locs → lv_has ls 3 [(0, .ref h0)] → W p l e (hm_rr 7 168 0 0) s m args below meth c H locs 0 0 Q (F0 m 26 ls []) := by
      intro n
      induction n with
      | zero =>
        intro f9 f10 f11 f12 f13 f14 f15 x16 x17 x18 x19 x20 x21 x22 x23 f24 f25 x26 x27 H locs ls hf w hl
        exact pf_no hf
      | succ n ih26 =>
        intro f9 f10 f11 f12 f13 f14 f15 x16 x17 x18 x19 x20 x21 x22 x23 f24 f25 x26 x27 H locs ls hf w hl
        rw [lp_X8_bench_26] at hf
        refine lv_aload_n hx hb dX8_bench_26 rfl (lv_at hl 0 rfl) ?_
        refine hm_get cb_X8 hx hb hown X w 0 53 fl_X8_440 dX8_bench_27 rfl (by decide) rfl ?_
        refine lv_aload_n hx hb dX8_bench_30 rfl (lv_at hl 0 rfl) ?_
        refine hm_get cb_X8 hx hb hown X w 0 52 fl_X8_403 dX8_bench_31 rfl (by decide) rfl ?_
        refine lv_icmp_ge (tgt := 95) hx hb dX8_bench_34 (by decide) (fun c34 => ?_) (fun c34 => ?_)
        · have hf := pf_t c34 hf
          refine lv_aload_n hx hb dX8_bench_95 rfl (lv_at hl 0 rfl) ?_
          refine hm_get cb_X8 hx hb hown X w 0 53 fl_X8_440 dX8_bench_96 rfl (by decide) rfl ?_
          exact hQ _ _ _ _ _ (f9, 0, x2, x3, x4, f10, f11, f12, f13, f14, f15, x16, x17, x18, x19, x20, x21, x22, x23, f24, f5, f6, f7, f25, x8, x26, x27) (fun _ => 0) hf rfl w dX8_bench_99
        · have hf := pf_e c34 hf
          refine lv_aload_n hx hb dX8_bench_37 rfl (lv_at hl 0 rfl) ?_
          refine hm_get cb_X8 hx hb hown X w 0 54 fl_X8_116 dX8_bench_38 rfl (by decide) rfl ?_
          refine lv_iconst (v := (-1)) hx hb dX8_bench_41 (by decide) ?_
          refine lv_icmp_ne (tgt := 95) hx hb dX8_bench_42 (by decide) (fun c42 => ?_) (fun c42 => ?_)
          · have hf := pf_e c42 hf
            refine lv_aload_n hx hb dX8_bench_95 rfl (lv_at hl 0 rfl) ?_
            refine hm_get cb_X8 hx hb hown X w 0 53 fl_X8_440 dX8_bench_96 rfl (by decide) rfl ?_
            exact hQ _ _ _ _ _ (f9, 0, x2, x3, x4, f10, f11, f12, f13, f14, f15, x16, x17, x18, x19, x20, x21, x22, x23, f24, f5, f6, f7, f25, x8, x26, x27) (fun _ => 0) hf rfl w dX8_bench_99
          · have hf := pf_t c42 hf
            refine lv_aload_n hx hb dX8_bench_45 rfl (lv_at hl 0 rfl) ?_
            refine lv_aload_n hx hb dX8_bench_46 rfl (lv_at hl 0 rfl) ?_
            refine hm_get cb_X8 hx hb hown X w 0 53 fl_X8_440 dX8_bench_47 rfl (by decide) rfl ?_
            obtain ⟨r28, f29, f30, f31, f32, f33, f34, f35, x36, x37, x38, x39, x40, x41, x42, x43, f44, hc50, hf⟩ := pf_bi_16 hf
            refine hm_aft_i (ws' := fun _ => [oc8 h0 r_t t_base 0 x2 x3 x4 t_newBits t_newTold t_newDoings t_newThings t_opened x36 x37 t_onPaper t_turned x38 x39 x40 x41 x42 x43 t_writtenLong t_codeMany x8 x26 x27, ic E (r_t 48) 40 f5, ic E (r_t 49) 40 f6, ic E (r_t 50) 40 f7, ic E (r_t 0) 800 f29, ic E (r_t 27) 12 f34, ic E (r_t 25) 12 f32, ic E (r_t 28) 12 f35, ic E (r_t 39) 48 f44, ic E (r_t 24) 12 f31, ic E (r_t 23) 90 f30, bc E (r_t 2) 400 t_tape, ic E (r_t 51) 40 f25, zc E (r_t 26) 12 f33]) (hm_runV (rest := []) hx hb hml hown X hA Y w 0 (ci := 7) (T := TX8) (N := 55) rfl rfl mw_X8_doAct ml_X8_443 dX8_bench_50 hm_ac0 [.int x26] rfl [0, 1, 2, 3, 4, 5, 6, 7, 8, 9, 10, 12, 13] rfl rfl (ct_X8_doAct l E H.size h0 r_t t_base 0 x2 x3 x4 t_newBits t_newTold t_newDoings t_newThings t_opened x16 x17 t_onPaper t_turned x18 x19 x20 x21 x22 x23 t_writtenLong t_codeMany x8 x26 x27 f5 f6 f7 f9 f14 f12 f15 f24 f11 f10 f25 f13 x26 (r28, f29, f30, f31, f32, f33, f34, f35, x36, x37, x38, x39, x40, x41, x42, x43, f44) hc50) rfl hl.1 ⟨⟨rfl, rfl⟩, ⟨Nat.le_of_ble_eq_true rfl, Nat.le_of_ble_eq_true rfl⟩, ⟨Nat.le_of_ble_eq_true rfl, Nat.le_of_ble_eq_true rfl⟩, Nat.le_of_ble_eq_true rfl⟩) hA w [0, 1, 2, 3, 4, 5, 6, 7, 8, 9, 10, 12, 13] [11] [1, 2, 3, 4, 5, 6, 7, 8, 9, 10, 11, 0, 12, 13] rfl rfl (by decide) (fun _ => rfl) (fun _ H locs w => ?_)
            refine lv_istore_n (lv' := [(2, .int r28), (0, .ref h0)]) hx hb dX8_bench_53 rfl hl (by decide) rfl (fun ls hl => ?_)
            refine lv_aload_n hx hb dX8_bench_54 rfl (lv_at hl 1 rfl) ?_
            refine hm_get cb_X8 hx hb hown X w 0 51 fl_X8_113 dX8_bench_55 rfl (by decide) rfl ?_
            refine lv_aload_n hx hb dX8_bench_58 rfl (lv_at hl 1 rfl) ?_
            refine hm_get cb_X8 hx hb hown X w 0 53 fl_X8_440 dX8_bench_59 rfl (by decide) rfl ?_
            refine lv_iload_n hx hb dX8_bench_62 rfl (lv_at hl 0 rfl) ?_
            obtain ⟨g63, hf⟩ := pf_ckI hf
            refine hm_iast (ws' := [oc8 h0 r_t t_base 0 x2 x3 x4 t_newBits t_newTold t_newDoings t_newThings t_opened x36 x37 t_onPaper t_turned x38 x39 x40 x41 x42 x43 t_writtenLong t_codeMany x8 x26 x27, ic E (r_t 48) 40 f5, ic E (r_t 49) 40 f6, ic E (r_t 50) 40 f7, ic E (r_t 0) 800 f29, ic E (r_t 27) 12 f34, ic E (r_t 25) 12 f32, ic E (r_t 28) 12 f35, ic E (r_t 39) 48 f44, ic E (r_t 24) 12 f31, ic E (r_t 23) 90 f30, bc E (r_t 2) 400 t_tape, ic E (r_t 51) 40 (upd f25 x26.toNatClampNeg r28), zc E (r_t 26) 12 f33]) hx hb X w 12 dX8_bench_63 rfl g63 rfl (fun H locs w => ?_)
            refine lv_iload_n hx hb dX8_bench_64 rfl (lv_at hl 0 rfl) ?_
            refine lv_ldcw (v := (-1000000)) hx hb hown (X.use ck_X8_283 rfl) dX8_bench_65 ?_
            refine lv_icmp_ne (tgt := 82) hx hb dX8_bench_68 (by decide) (fun c68 => ?_) (fun c68 => ?_)
            · have hf := pf_e c68 hf
              refine lv_aload_n hx hb dX8_bench_82 rfl (lv_at hl 1 rfl) ?_
              refine lv_dup hx hb dX8_bench_83 rfl ?_
              refine hm_get cb_X8 hx hb hown X w 0 53 fl_X8_440 dX8_bench_84 rfl (by decide) rfl ?_
              refine lv_iconst (v := 1) hx hb dX8_bench_87 (by decide) ?_
              refine lv_iadd hx hb dX8_bench_88 ?_
              refine lv_topi (fun x45 ex45 => ?_)
              have hf := pf_nm ex45 hf
              refine hm_put (ws' := [oc8 h0 r_t t_base 0 x2 x3 x4 t_newBits t_newTold t_newDoings t_newThings t_opened x36 x37 t_onPaper t_turned x38 x39 x40 x41 x42 x43 t_writtenLong t_codeMany x8 x45 x27, ic E (r_t 48) 40 f5, ic E (r_t 49) 40 f6, ic E (r_t 50) 40 f7, ic E (r_t 0) 800 f29, ic E (r_t 27) 12 f34, ic E (r_t 25) 12 f32, ic E (r_t 28) 12 f35, ic E (r_t 39) 48 f44, ic E (r_t 24) 12 f31, ic E (r_t 23) 90 f30, bc E (r_t 2) 400 t_tape, ic E (r_t 51) 40 (upd f25 x26.toNatClampNeg r28), zc E (r_t 26) 12 f33]) cb_X8 hx hb hown X w 0 53 fl_X8_440 dX8_bench_89 rfl (by decide) (Nat.le_of_ble_eq_true rfl) rfl rfl rfl rfl (fun H locs w => ?_)
              refine lv_goto (tgt := 26) hx hb dX8_bench_92 (by decide) ?_
              exact ih26 _ _ _ _ _ _ _ _ _ _ _ _ _ _ _ _ _ _ _ _ _ _ hf w (lv_sub hl [1] rfl)
            · have hf := pf_t c68 hf
              refine lv_aload_n hx hb dX8_bench_71 rfl (lv_at hl 1 rfl) ?_
              refine lv_aload_n hx hb dX8_bench_72 rfl (lv_at hl 1 rfl) ?_
              refine hm_get cb_X8 hx hb hown X w 0 53 fl_X8_440 dX8_bench_73 rfl (by decide) rfl ?_
              refine hm_put (ws' := [oc8 h0 r_t t_base 0 x2 x3 x4 t_newBits t_newTold t_newDoings t_newThings t_opened x36 x37 t_onPaper t_turned x38 x39 x40 x41 x42 x43 t_writtenLong t_codeMany x8 x26 x26, ic E (r_t 48) 40 f5, ic E (r_t 49) 40 f6, ic E (r_t 50) 40 f7, ic E (r_t 0) 800 f29, ic E (r_t 27) 12 f34, ic E (r_t 25) 12 f32, ic E (r_t 28) 12 f35, ic E (r_t 39) 48 f44, ic E (r_t 24) 12 f31, ic E (r_t 23) 90 f30, bc E (r_t 2) 400 t_tape, ic E (r_t 51) 40 (upd f25 x26.toNatClampNeg r28), zc E (r_t 26) 12 f33]) cb_X8 hx hb hown X w 0 54 fl_X8_116 dX8_bench_76 rfl (by decide) (Nat.le_of_ble_eq_true rfl) rfl rfl rfl rfl (fun H locs w => ?_)
              refine lv_goto (tgt := 92) hx hb dX8_bench_79 (by decide) ?_
              refine lv_goto (tgt := 26) hx hb dX8_bench_92 (by decide) ?_
              exact ih26 _ _ _ _ _ _ _ _ _ _ _ _ _ _ _ _ _ _ _ _ _ _ hf w (lv_sub hl [1] rfl)
    exact klp_X8_bench_26 FU _ _ _ _ _ _ _ _ _ _ _ _ _ _ _ _ _ _ _ _ _ _ hf w (lv_sub hl [1] rfl)
  · have hf := pf_t c11 hf
    refine lv_iconst (v := (-1)) hx hb dX8_bench_14 (by decide) ?_
    exact hQ _ _ _ _ _ (t_all, 0, x2, x3, x4, t_pile, t_nextOff, t_decided, t_wasLate, t_askedOf, t_heldBehind, t_sum, t_heldAll, t_wasConverted, t_lastBits, t_lastSum, t_lastHeld, t_lastLeft, t_lastCode, t_last, f5, f6, f7, t_toldBy, x8, t_done0, t_stoppedAt) (fun _ => 0) hf rfl w dX8_bench_15
set_option maxHeartbeats 8000000 in
set_option maxRecDepth 100000 in
theorem ct_X8_stopped (l : Launch) (E : hm_E) (sz : Nat) (h0 : Nat) (r_t : Nat → Nat) (t_base t_taped t_at t_faultPlace t_number t_newBits t_newTold t_newDoings t_newThings t_opened t_sum t_heldAll t_onPaper t_turned t_wasConverted t_lastBits t_lastSum t_lastHeld t_lastLeft t_lastCode t_writtenLong t_codeMany t_acts t_done0 t_stoppedAt : Int32) (R : Int32 × Unit) (hf : pf_X8_stopped t_stoppedAt = some R) : hm_Mi l E yX8_stopped cX8_stopped 1 .int [] (hm_rr 0 0 0 0) [.ref h0] sz [oc8 h0 r_t t_base t_taped t_at t_faultPlace t_number t_newBits t_newTold t_newDoings t_newThings t_opened t_sum t_heldAll t_onPaper t_turned t_wasConverted t_lastBits t_lastSum t_lastHeld t_lastLeft t_lastCode t_writtenLong t_codeMany t_acts t_done0 t_stoppedAt] R.1 (fun _ => [oc8 h0 r_t t_base t_taped t_at t_faultPlace t_number t_newBits t_newTold t_newDoings t_newThings t_opened t_sum t_heldAll t_onPaper t_turned t_wasConverted t_lastBits t_lastSum t_lastHeld t_lastLeft t_lastCode t_writtenLong t_codeMany t_acts t_done0 t_stoppedAt]) := by
  refine hm_ct_i R (fun u qs => [oc8 h0 r_t t_base t_taped t_at t_faultPlace t_number t_newBits t_newTold t_newDoings t_newThings t_opened t_sum t_heldAll t_onPaper t_turned t_wasConverted t_lastBits t_lastSum t_lastHeld t_lastLeft t_lastCode t_writtenLong t_codeMany t_acts t_done0 t_stoppedAt]) (by decide) (Nat.le_of_ble_eq_true rfl) (Or.inl rfl) ?_
  intro p e s m args below meth c A Q ls H locs hx hb hml hown X hA Y hex w hl hQ
  have hl : lv_has ls 1 [(0, .ref h0)] := hl
  unfold pf_X8_stopped at hf
  refine lv_aload_n hx hb dX8_stopped_0 rfl (lv_at hl 0 rfl) ?_
  refine hm_get cb_X8 hx hb hown X w 0 54 fl_X8_116 dX8_stopped_1 rfl (by decide) rfl ?_
  exact hQ _ _ _ _ _ () (fun _ => 0) hf rfl w dX8_stopped_4
set_option maxHeartbeats 8000000 in
set_option maxRecDepth 100000 in
theorem ct_X8_row (l : Launch) (E : hm_E) (sz : Nat) (h0 : Nat) (r_t : Nat → Nat) (t_base t_taped t_at t_faultPlace t_number t_newBits t_newTold t_newDoings t_newThings t_opened t_sum t_heldAll t_onPaper t_turned t_wasConverted t_lastBits t_lastSum t_lastHeld t_lastLeft t_lastCode t_writtenLong t_codeMany t_acts t_done0 t_stoppedAt : Int32) (t_toldBy : Nat → Int32) (a1 : Int32) (R : Int32 × Unit) (hf : pf_X8_row a1 t_toldBy t_done0 = some R) : hm_Mi l E yX8_row cX8_row 2 .int [] (hm_rr 1 22 0 0) [.ref h0, .int a1] sz [oc8 h0 r_t t_base t_taped t_at t_faultPlace t_number t_newBits t_newTold t_newDoings t_newThings t_opened t_sum t_heldAll t_onPaper t_turned t_wasConverted t_lastBits t_lastSum t_lastHeld t_lastLeft t_lastCode t_writtenLong t_codeMany t_acts t_done0 t_stoppedAt, ic E (r_t 51) 40 t_toldBy] R.1 (fun _ => [oc8 h0 r_t t_base t_taped t_at t_faultPlace t_number t_newBits t_newTold t_newDoings t_newThings t_opened t_sum t_heldAll t_onPaper t_turned t_wasConverted t_lastBits t_lastSum t_lastHeld t_lastLeft t_lastCode t_writtenLong t_codeMany t_acts t_done0 t_stoppedAt, ic E (r_t 51) 40 t_toldBy]) := by
  refine hm_ct_i R (fun u qs => [oc8 h0 r_t t_base t_taped t_at t_faultPlace t_number t_newBits t_newTold t_newDoings t_newThings t_opened t_sum t_heldAll t_onPaper t_turned t_wasConverted t_lastBits t_lastSum t_lastHeld t_lastLeft t_lastCode t_writtenLong t_codeMany t_acts t_done0 t_stoppedAt, ic E (r_t 51) 40 t_toldBy]) (by decide) (Nat.le_of_ble_eq_true rfl) (Or.inl rfl) ?_
  intro p e s m args below meth c A Q ls H locs hx hb hml hown X hA Y hex w hl hQ
  have hl : lv_has ls 2 [(0, .ref h0), (1, .int a1)] := hl
  unfold pf_X8_row at hf
  refine lv_iload_n hx hb dX8_row_0 rfl (lv_at hl 1 rfl) ?_
  refine lv_iconst (v := 0) hx hb dX8_row_1 (by decide) ?_
  refine lv_aload_n hx hb dX8_row_2 rfl (lv_at hl 0 rfl) ?_
  refine hm_get cb_X8 hx hb hown X w 0 53 fl_X8_440 dX8_row_3 rfl (by decide) rfl ?_
  refine lv_iconst (v := 1) hx hb dX8_row_6 (by decide) ?_
  refine lv_isub hx hb dX8_row_7 ?_
  obtain ⟨r1, hc8, hf⟩ := pf_bi_0 hf
  refine hm_aft_i (ws' := fun _ => [oc8 h0 r_t t_base t_taped t_at t_faultPlace t_number t_newBits t_newTold t_newDoings t_newThings t_opened t_sum t_heldAll t_onPaper t_turned t_wasConverted t_lastBits t_lastSum t_lastHeld t_lastLeft t_lastCode t_writtenLong t_codeMany t_acts t_done0 t_stoppedAt, ic E (r_t 51) 40 t_toldBy]) (hm_runS (rest := []) hx hb hml hown X hA Y w mw_X8_isIn ml_X8_129 dX8_row_8 hm_ac0 [.int a1, .int 0, .int (t_done0 - 1)] rfl [] rfl rfl (ct_X8_isIn l E H.size a1 0 (t_done0 - 1) (r1, ()) hc8) rfl hl.1 ⟨⟨rfl, rfl⟩, ⟨Nat.le_of_ble_eq_true rfl, Nat.le_of_ble_eq_true rfl⟩, ⟨Nat.le_of_ble_eq_true rfl, Nat.le_of_ble_eq_true rfl⟩, Nat.le_of_ble_eq_true rfl⟩) hA w [] [0, 1] [0, 1] rfl rfl (by decide) (fun _ => rfl) (fun _ H locs w => ?_)
  refine lv_if_eq (tgt := 23) hx hb dX8_row_11 (by decide) (fun c11 => ?_) (fun c11 => ?_)
  · have hf := pf_t c11 hf
    refine lv_ldcw (v := (-1000000)) hx hb hown (X.use ck_X8_283 rfl) dX8_row_23 ?_
    exact hQ _ _ _ _ _ () (fun _ => 0) hf rfl w dX8_row_26
  · have hf := pf_e c11 hf
    refine lv_aload_n hx hb dX8_row_14 rfl (lv_at hl 0 rfl) ?_
    refine hm_get cb_X8 hx hb hown X w 0 51 fl_X8_113 dX8_row_15 rfl (by decide) rfl ?_
    refine lv_iload_n hx hb dX8_row_18 rfl (lv_at hl 1 rfl) ?_
    obtain ⟨g19, hf⟩ := pf_ckI hf
    refine hm_iald hx hb X w 1 dX8_row_19 rfl g19 ?_
    refine lv_goto (tgt := 26) hx hb dX8_row_20 (by decide) ?_
    exact hQ _ _ _ _ _ () (fun _ => 0) hf rfl w dX8_row_26
set_option maxHeartbeats 8000000 in
set_option maxRecDepth 100000 in
theorem ct_X5_init (l : Launch) (E : hm_E) (sz : Nat) (h0 : Nat) (R : Unit) (hf : pf_X5_init = some R) : hm_Mv l E yX5_init cX5_init 1 [] (hm_rr 1 20 1 400) [.ref h0] sz [(h0, .inr (5, [.null, .int 0, .int 0, .int 0]))] (fun qs => [oc5 h0 (fun j => qs (j + 1)) 0 0 (-1), ic E (qs 1) 400 (fun _ => (0 : Int32))]) := by
  refine hm_ct_v R (fun u qs => [oc5 h0 (fun j => qs (j + 1)) 0 0 (-1), ic E (qs 1) 400 (fun _ => (0 : Int32))]) (by decide) (Nat.le_of_ble_eq_true rfl) ?_
  intro p e s m args below meth c A Q ls H locs hx hb hml hown X hA Y hex hin w hl hQ
  have hl : lv_has ls 1 [(0, .ref h0)] := hl
  unfold pf_X5_init at hf
  refine lv_aload_n hx hb dX5_init_0 rfl (lv_at hl 0 rfl) ?_
  refine W.objInit hx hb hown (X.use ml_X5_3 rfl) (X.use oi_m rfl) (X.use oi_c rfl) rfl (by rw [hml]; exact hl.1) rfl dX5_init_1 (Nat.le_of_ble_eq_true rfl) (Nat.le_of_ble_eq_true rfl) ?_
  refine W.eq (g2 := F0 m 4 ls []) rfl ?_
  refine lv_aload_n hx hb dX5_init_4 rfl (lv_at hl 0 rfl) ?_
  refine lv_sipush (v := 400) hx hb dX5_init_5 (by decide) ?_
  refine hm_newa (ty := .int) (N := 400) hx hb X hA w ar_int rfl (Or.inl rfl) 0 rfl dX5_init_8 (fun _ => rfl) (by decide) (by decide) (Nat.le_of_ble_eq_true rfl) (Nat.le_of_ble_eq_true rfl) (Nat.le_of_ble_eq_true rfl) (fun q1 H w => ?_)
  have w : hm_W E A s.heap [(h0, .inr (5, [.null, .int 0, .int 0, .int 0])), ic E q1 400 (fun _ => (0 : Int32))] H locs := w
  refine hm_putF (ws' := [(h0, .inr (5, [.ref q1, .int 0, .int 0, .int 0])), ic E q1 400 (fun _ => (0 : Int32))]) cb_X5 hx hb hown hin X w 0 0 fl_X5_9 dX5_init_10 rfl (by decide) (Nat.le_of_ble_eq_true rfl) rfl rfl rfl rfl rfl (fun H locs w => ?_)
  refine lv_aload_n hx hb dX5_init_13 rfl (lv_at hl 0 rfl) ?_
  refine lv_iconst (v := 0) hx hb dX5_init_14 (by decide) ?_
  refine hm_put (ws' := [(h0, .inr (5, [.ref q1, .int 0, .int 0, .int 0])), ic E q1 400 (fun _ => (0 : Int32))]) cb_X5 hx hb hown X w 0 1 fl_X5_15 dX5_init_15 rfl (by decide) (Nat.le_of_ble_eq_true rfl) rfl rfl rfl rfl (fun H locs w => ?_)
  refine lv_aload_n hx hb dX5_init_18 rfl (lv_at hl 0 rfl) ?_
  refine lv_iconst (v := 0) hx hb dX5_init_19 (by decide) ?_
  refine hm_put (ws' := [(h0, .inr (5, [.ref q1, .int 0, .int 0, .int 0])), ic E q1 400 (fun _ => (0 : Int32))]) cb_X5 hx hb hown X w 0 2 fl_X5_19 dX5_init_20 rfl (by decide) (Nat.le_of_ble_eq_true rfl) rfl rfl rfl rfl (fun H locs w => ?_)
  refine lv_aload_n hx hb dX5_init_23 rfl (lv_at hl 0 rfl) ?_
  refine lv_iconst (v := (-1)) hx hb dX5_init_24 (by decide) ?_
  refine hm_put (ws' := [(h0, .inr (5, [.ref q1, .int 0, .int 0, .int (-1)])), ic E q1 400 (fun _ => (0 : Int32))]) cb_X5 hx hb hown X w 0 3 fl_X5_22 dX5_init_25 rfl (by decide) (Nat.le_of_ble_eq_true rfl) rfl rfl rfl rfl (fun H locs w => ?_)
  have w := w.sub (ws' := [(h0, .inr (5, [.ref q1, .int 0, .int 0, .int (-1)])), ic E q1 400 (fun _ => (0 : Int32))]) [0, 1] (by decide) rfl
  exact hQ _ _ _ _ () (fun j => if j = 1 then q1 else 0) hf w dX5_init_28
set_option maxHeartbeats 8000000 in
set_option maxRecDepth 100000 in
theorem ct_X0_init (l : Launch) (E : hm_E) (sz : Nat) (h0 : Nat) (R : Unit) (hf : pf_X0_init = some R) : hm_Mv l E yX0_init cX0_init 1 [] (hm_rr 1 20 4 160) [.ref h0] sz [(h0, .inr (0, [.int 0, .null, .null, .null, .int 0, .null, .int 0]))] (fun qs => [oc0 h0 (fun j => qs (j + 1)) 0 0 (-1), ic E (qs 2) 40 (fun _ => (0 : Int32)), ic E (qs 3) 40 (fun _ => (0 : Int32)), ic E (qs 4) 40 (fun _ => (0 : Int32)), ic E (qs 6) 40 (fun _ => (0 : Int32))]) := by
  refine hm_ct_v R (fun u qs => [oc0 h0 (fun j => qs (j + 1)) 0 0 (-1), ic E (qs 2) 40 (fun _ => (0 : Int32)), ic E (qs 3) 40 (fun _ => (0 : Int32)), ic E (qs 4) 40 (fun _ => (0 : Int32)), ic E (qs 6) 40 (fun _ => (0 : Int32))]) (by decide) (Nat.le_of_ble_eq_true rfl) ?_
  intro p e s m args below meth c A Q ls H locs hx hb hml hown X hA Y hex hin w hl hQ
  have hl : lv_has ls 1 [(0, .ref h0)] := hl
  unfold pf_X0_init at hf
  refine lv_aload_n hx hb dX0_init_0 rfl (lv_at hl 0 rfl) ?_
  refine W.objInit hx hb hown (X.use ml_X0_3 rfl) (X.use oi_m rfl) (X.use oi_c rfl) rfl (by rw [hml]; exact hl.1) rfl dX0_init_1 (Nat.le_of_ble_eq_true rfl) (Nat.le_of_ble_eq_true rfl) ?_
  refine W.eq (g2 := F0 m 4 ls []) rfl ?_
  refine lv_aload_n hx hb dX0_init_4 rfl (lv_at hl 0 rfl) ?_
  refine lv_iconst (v := 0) hx hb dX0_init_5 (by decide) ?_
  refine hm_put (ws' := [(h0, .inr (0, [.int 0, .null, .null, .null, .int 0, .null, .int 0]))]) cb_X0 hx hb hown X w 0 0 fl_X0_9 dX0_init_6 rfl (by decide) (Nat.le_of_ble_eq_true rfl) rfl rfl rfl rfl (fun H locs w => ?_)
  refine lv_aload_n hx hb dX0_init_9 rfl (lv_at hl 0 rfl) ?_
  refine lv_bipush (v := 40) hx hb dX0_init_10 (by decide) ?_
  refine hm_newa (ty := .int) (N := 40) hx hb X hA w ar_int rfl (Or.inl rfl) 0 rfl dX0_init_12 (fun _ => rfl) (by decide) (by decide) (Nat.le_of_ble_eq_true rfl) (Nat.le_of_ble_eq_true rfl) (Nat.le_of_ble_eq_true rfl) (fun q1 H w => ?_)
  have w : hm_W E A s.heap [(h0, .inr (0, [.int 0, .null, .null, .null, .int 0, .null, .int 0])), ic E q1 40 (fun _ => (0 : Int32))] H locs := w
  refine hm_putF (ws' := [(h0, .inr (0, [.int 0, .ref q1, .null, .null, .int 0, .null, .int 0])), ic E q1 40 (fun _ => (0 : Int32))]) cb_X0 hx hb hown hin X w 0 1 fl_X0_15 dX0_init_14 rfl (by decide) (Nat.le_of_ble_eq_true rfl) rfl rfl rfl rfl rfl (fun H locs w => ?_)
  refine lv_aload_n hx hb dX0_init_17 rfl (lv_at hl 0 rfl) ?_
  refine lv_bipush (v := 40) hx hb dX0_init_18 (by decide) ?_
  refine hm_newa (ty := .int) (N := 40) hx hb X hA w ar_int rfl (Or.inl rfl) 0 rfl dX0_init_20 (fun _ => rfl) (by decide) (by decide) (Nat.le_of_ble_eq_true rfl) (Nat.le_of_ble_eq_true rfl) (Nat.le_of_ble_eq_true rfl) (fun q2 H w => ?_)
  have w : hm_W E A s.heap [(h0, .inr (0, [.int 0, .ref q1, .null, .null, .int 0, .null, .int 0])), ic E q1 40 (fun _ => (0 : Int32)), ic E q2 40 (fun _ => (0 : Int32))] H locs := w
  refine hm_putF (ws' := [(h0, .inr (0, [.int 0, .ref q1, .ref q2, .null, .int 0, .null, .int 0])), ic E q1 40 (fun _ => (0 : Int32)), ic E q2 40 (fun _ => (0 : Int32))]) cb_X0 hx hb hown hin X w 0 2 fl_X0_19 dX0_init_22 rfl (by decide) (Nat.le_of_ble_eq_true rfl) rfl rfl rfl rfl rfl (fun H locs w => ?_)
  refine lv_aload_n hx hb dX0_init_25 rfl (lv_at hl 0 rfl) ?_
  refine lv_bipush (v := 40) hx hb dX0_init_26 (by decide) ?_
  refine hm_newa (ty := .int) (N := 40) hx hb X hA w ar_int rfl (Or.inl rfl) 0 rfl dX0_init_28 (fun _ => rfl) (by decide) (by decide) (Nat.le_of_ble_eq_true rfl) (Nat.le_of_ble_eq_true rfl) (Nat.le_of_ble_eq_true rfl) (fun q3 H w => ?_)
  have w : hm_W E A s.heap [(h0, .inr (0, [.int 0, .ref q1, .ref q2, .null, .int 0, .null, .int 0])), ic E q1 40 (fun _ => (0 : Int32)), ic E q2 40 (fun _ => (0 : Int32)), ic E q3 40 (fun _ => (0 : Int32))] H locs := w
  refine hm_putF (ws' := [(h0, .inr (0, [.int 0, .ref q1, .ref q2, .ref q3, .int 0, .null, .int 0])), ic E q1 40 (fun _ => (0 : Int32)), ic E q2 40 (fun _ => (0 : Int32)), ic E q3 40 (fun _ => (0 : Int32))]) cb_X0 hx hb hown hin X w 0 3 fl_X0_22 dX0_init_30 rfl (by decide) (Nat.le_of_ble_eq_true rfl) rfl rfl rfl rfl rfl (fun H locs w => ?_)
  refine lv_aload_n hx hb dX0_init_33 rfl (lv_at hl 0 rfl) ?_
  refine lv_iconst (v := 0) hx hb dX0_init_34 (by decide) ?_
  refine hm_put (ws' := [(h0, .inr (0, [.int 0, .ref q1, .ref q2, .ref q3, .int 0, .null, .int 0])), ic E q1 40 (fun _ => (0 : Int32)), ic E q2 40 (fun _ => (0 : Int32)), ic E q3 40 (fun _ => (0 : Int32))]) cb_X0 hx hb hown X w 0 4 fl_X0_25 dX0_init_35 rfl (by decide) (Nat.le_of_ble_eq_true rfl) rfl rfl rfl rfl (fun H locs w => ?_)
  refine lv_aload_n hx hb dX0_init_38 rfl (lv_at hl 0 rfl) ?_
  refine lv_bipush (v := 40) hx hb dX0_init_39 (by decide) ?_
  refine hm_newa (ty := .int) (N := 40) hx hb X hA w ar_int rfl (Or.inl rfl) 0 rfl dX0_init_41 (fun _ => rfl) (by decide) (by decide) (Nat.le_of_ble_eq_true rfl) (Nat.le_of_ble_eq_true rfl) (Nat.le_of_ble_eq_true rfl) (fun q4 H w => ?_)
  have w : hm_W E A s.heap [(h0, .inr (0, [.int 0, .ref q1, .ref q2, .ref q3, .int 0, .null, .int 0])), ic E q1 40 (fun _ => (0 : Int32)), ic E q2 40 (fun _ => (0 : Int32)), ic E q3 40 (fun _ => (0 : Int32)), ic E q4 40 (fun _ => (0 : Int32))] H locs := w
  refine hm_putF (ws' := [(h0, .inr (0, [.int 0, .ref q1, .ref q2, .ref q3, .int 0, .ref q4, .int 0])), ic E q1 40 (fun _ => (0 : Int32)), ic E q2 40 (fun _ => (0 : Int32)), ic E q3 40 (fun _ => (0 : Int32)), ic E q4 40 (fun _ => (0 : Int32))]) cb_X0 hx hb hown hin X w 0 5 fl_X0_28 dX0_init_43 rfl (by decide) (Nat.le_of_ble_eq_true rfl) rfl rfl rfl rfl rfl (fun H locs w => ?_)
  refine lv_aload_n hx hb dX0_init_46 rfl (lv_at hl 0 rfl) ?_
  refine lv_iconst (v := (-1)) hx hb dX0_init_47 (by decide) ?_
  refine hm_put (ws' := [(h0, .inr (0, [.int 0, .ref q1, .ref q2, .ref q3, .int 0, .ref q4, .int (-1)])), ic E q1 40 (fun _ => (0 : Int32)), ic E q2 40 (fun _ => (0 : Int32)), ic E q3 40 (fun _ => (0 : Int32)), ic E q4 40 (fun _ => (0 : Int32))]) cb_X0 hx hb hown X w 0 6 fl_X0_31 dX0_init_48 rfl (by decide) (Nat.le_of_ble_eq_true rfl) rfl rfl rfl rfl (fun H locs w => ?_)
  have w := w.sub (ws' := [(h0, .inr (0, [.int 0, .ref q1, .ref q2, .ref q3, .int 0, .ref q4, .int (-1)])), ic E q1 40 (fun _ => (0 : Int32)), ic E q2 40 (fun _ => (0 : Int32)), ic E q3 40 (fun _ => (0 : Int32)), ic E q4 40 (fun _ => (0 : Int32))]) [0, 1, 2, 3, 4] (by decide) rfl
  exact hQ _ _ _ _ () (fun j => if j = 2 then q1 else if j = 3 then q2 else if j = 4 then q3 else if j = 6 then q4 else 0) hf w dX0_init_51
set_option maxHeartbeats 8000000 in
set_option maxRecDepth 100000 in
theorem ct_X1_init (l : Launch) (E : hm_E) (sz : Nat) (h0 : Nat) (R : Unit) (hf : pf_X1_init = some R) : hm_Mv l E yX1_init cX1_init 1 [] (hm_rr 1 20 4 48) [.ref h0] sz [(h0, .inr (1, [.int 0, .null, .null, .null, .null, .int 0, .int 0, .int 0, .int 0, .int 0, .int 0]))] (fun qs => [oc1 h0 (fun j => qs (j + 1)) 0 0 0 0 0 0 0, ic E (qs 2) 12 (fun _ => (0 : Int32)), ic E (qs 3) 12 (fun _ => (0 : Int32)), ic E (qs 4) 12 (fun _ => (0 : Int32)), ic E (qs 5) 12 (fun _ => (0 : Int32))]) := by
  refine hm_ct_v R (fun u qs => [oc1 h0 (fun j => qs (j + 1)) 0 0 0 0 0 0 0, ic E (qs 2) 12 (fun _ => (0 : Int32)), ic E (qs 3) 12 (fun _ => (0 : Int32)), ic E (qs 4) 12 (fun _ => (0 : Int32)), ic E (qs 5) 12 (fun _ => (0 : Int32))]) (by decide) (Nat.le_of_ble_eq_true rfl) ?_
  intro p e s m args below meth c A Q ls H locs hx hb hml hown X hA Y hex hin w hl hQ
  have hl : lv_has ls 1 [(0, .ref h0)] := hl
  unfold pf_X1_init at hf
  refine lv_aload_n hx hb dX1_init_0 rfl (lv_at hl 0 rfl) ?_
  refine W.objInit hx hb hown (X.use ml_X1_3 rfl) (X.use oi_m rfl) (X.use oi_c rfl) rfl (by rw [hml]; exact hl.1) rfl dX1_init_1 (Nat.le_of_ble_eq_true rfl) (Nat.le_of_ble_eq_true rfl) ?_
  refine W.eq (g2 := F0 m 4 ls []) rfl ?_
  refine lv_aload_n hx hb dX1_init_4 rfl (lv_at hl 0 rfl) ?_
  refine lv_iconst (v := 0) hx hb dX1_init_5 (by decide) ?_
  refine hm_put (ws' := [(h0, .inr (1, [.int 0, .null, .null, .null, .null, .int 0, .int 0, .int 0, .int 0, .int 0, .int 0]))]) cb_X1 hx hb hown X w 0 0 fl_X1_9 dX1_init_6 rfl (by decide) (Nat.le_of_ble_eq_true rfl) rfl rfl rfl rfl (fun H locs w => ?_)
  refine lv_aload_n hx hb dX1_init_9 rfl (lv_at hl 0 rfl) ?_
  refine lv_bipush (v := 12) hx hb dX1_init_10 (by decide) ?_
  refine hm_newa (ty := .int) (N := 12) hx hb X hA w ar_int rfl (Or.inl rfl) 0 rfl dX1_init_12 (fun _ => rfl) (by decide) (by decide) (Nat.le_of_ble_eq_true rfl) (Nat.le_of_ble_eq_true rfl) (Nat.le_of_ble_eq_true rfl) (fun q1 H w => ?_)
  have w : hm_W E A s.heap [(h0, .inr (1, [.int 0, .null, .null, .null, .null, .int 0, .int 0, .int 0, .int 0, .int 0, .int 0])), ic E q1 12 (fun _ => (0 : Int32))] H locs := w
  refine hm_putF (ws' := [(h0, .inr (1, [.int 0, .ref q1, .null, .null, .null, .int 0, .int 0, .int 0, .int 0, .int 0, .int 0])), ic E q1 12 (fun _ => (0 : Int32))]) cb_X1 hx hb hown hin X w 0 1 fl_X1_15 dX1_init_14 rfl (by decide) (Nat.le_of_ble_eq_true rfl) rfl rfl rfl rfl rfl (fun H locs w => ?_)
  refine lv_aload_n hx hb dX1_init_17 rfl (lv_at hl 0 rfl) ?_
  refine lv_bipush (v := 12) hx hb dX1_init_18 (by decide) ?_
  refine hm_newa (ty := .int) (N := 12) hx hb X hA w ar_int rfl (Or.inl rfl) 0 rfl dX1_init_20 (fun _ => rfl) (by decide) (by decide) (Nat.le_of_ble_eq_true rfl) (Nat.le_of_ble_eq_true rfl) (Nat.le_of_ble_eq_true rfl) (fun q2 H w => ?_)
  have w : hm_W E A s.heap [(h0, .inr (1, [.int 0, .ref q1, .null, .null, .null, .int 0, .int 0, .int 0, .int 0, .int 0, .int 0])), ic E q1 12 (fun _ => (0 : Int32)), ic E q2 12 (fun _ => (0 : Int32))] H locs := w
  refine hm_putF (ws' := [(h0, .inr (1, [.int 0, .ref q1, .ref q2, .null, .null, .int 0, .int 0, .int 0, .int 0, .int 0, .int 0])), ic E q1 12 (fun _ => (0 : Int32)), ic E q2 12 (fun _ => (0 : Int32))]) cb_X1 hx hb hown hin X w 0 2 fl_X1_19 dX1_init_22 rfl (by decide) (Nat.le_of_ble_eq_true rfl) rfl rfl rfl rfl rfl (fun H locs w => ?_)
  refine lv_aload_n hx hb dX1_init_25 rfl (lv_at hl 0 rfl) ?_
  refine lv_bipush (v := 12) hx hb dX1_init_26 (by decide) ?_
  refine hm_newa (ty := .int) (N := 12) hx hb X hA w ar_int rfl (Or.inl rfl) 0 rfl dX1_init_28 (fun _ => rfl) (by decide) (by decide) (Nat.le_of_ble_eq_true rfl) (Nat.le_of_ble_eq_true rfl) (Nat.le_of_ble_eq_true rfl) (fun q3 H w => ?_)
  have w : hm_W E A s.heap [(h0, .inr (1, [.int 0, .ref q1, .ref q2, .null, .null, .int 0, .int 0, .int 0, .int 0, .int 0, .int 0])), ic E q1 12 (fun _ => (0 : Int32)), ic E q2 12 (fun _ => (0 : Int32)), ic E q3 12 (fun _ => (0 : Int32))] H locs := w
  refine hm_putF (ws' := [(h0, .inr (1, [.int 0, .ref q1, .ref q2, .ref q3, .null, .int 0, .int 0, .int 0, .int 0, .int 0, .int 0])), ic E q1 12 (fun _ => (0 : Int32)), ic E q2 12 (fun _ => (0 : Int32)), ic E q3 12 (fun _ => (0 : Int32))]) cb_X1 hx hb hown hin X w 0 3 fl_X1_22 dX1_init_30 rfl (by decide) (Nat.le_of_ble_eq_true rfl) rfl rfl rfl rfl rfl (fun H locs w => ?_)
  refine lv_aload_n hx hb dX1_init_33 rfl (lv_at hl 0 rfl) ?_
  refine lv_bipush (v := 12) hx hb dX1_init_34 (by decide) ?_
  refine hm_newa (ty := .int) (N := 12) hx hb X hA w ar_int rfl (Or.inl rfl) 0 rfl dX1_init_36 (fun _ => rfl) (by decide) (by decide) (Nat.le_of_ble_eq_true rfl) (Nat.le_of_ble_eq_true rfl) (Nat.le_of_ble_eq_true rfl) (fun q4 H w => ?_)
  have w : hm_W E A s.heap [(h0, .inr (1, [.int 0, .ref q1, .ref q2, .ref q3, .null, .int 0, .int 0, .int 0, .int 0, .int 0, .int 0])), ic E q1 12 (fun _ => (0 : Int32)), ic E q2 12 (fun _ => (0 : Int32)), ic E q3 12 (fun _ => (0 : Int32)), ic E q4 12 (fun _ => (0 : Int32))] H locs := w
  refine hm_putF (ws' := [(h0, .inr (1, [.int 0, .ref q1, .ref q2, .ref q3, .ref q4, .int 0, .int 0, .int 0, .int 0, .int 0, .int 0])), ic E q1 12 (fun _ => (0 : Int32)), ic E q2 12 (fun _ => (0 : Int32)), ic E q3 12 (fun _ => (0 : Int32)), ic E q4 12 (fun _ => (0 : Int32))]) cb_X1 hx hb hown hin X w 0 4 fl_X1_25 dX1_init_38 rfl (by decide) (Nat.le_of_ble_eq_true rfl) rfl rfl rfl rfl rfl (fun H locs w => ?_)
  refine lv_aload_n hx hb dX1_init_41 rfl (lv_at hl 0 rfl) ?_
  refine lv_iconst (v := 0) hx hb dX1_init_42 (by decide) ?_
  refine hm_put (ws' := [(h0, .inr (1, [.int 0, .ref q1, .ref q2, .ref q3, .ref q4, .int 0, .int 0, .int 0, .int 0, .int 0, .int 0])), ic E q1 12 (fun _ => (0 : Int32)), ic E q2 12 (fun _ => (0 : Int32)), ic E q3 12 (fun _ => (0 : Int32)), ic E q4 12 (fun _ => (0 : Int32))]) cb_X1 hx hb hown X w 0 5 fl_X1_28 dX1_init_43 rfl (by decide) (Nat.le_of_ble_eq_true rfl) rfl rfl rfl rfl (fun H locs w => ?_)
  refine lv_aload_n hx hb dX1_init_46 rfl (lv_at hl 0 rfl) ?_
  refine lv_iconst (v := 0) hx hb dX1_init_47 (by decide) ?_
  refine hm_put (ws' := [(h0, .inr (1, [.int 0, .ref q1, .ref q2, .ref q3, .ref q4, .int 0, .int 0, .int 0, .int 0, .int 0, .int 0])), ic E q1 12 (fun _ => (0 : Int32)), ic E q2 12 (fun _ => (0 : Int32)), ic E q3 12 (fun _ => (0 : Int32)), ic E q4 12 (fun _ => (0 : Int32))]) cb_X1 hx hb hown X w 0 6 fl_X1_31 dX1_init_48 rfl (by decide) (Nat.le_of_ble_eq_true rfl) rfl rfl rfl rfl (fun H locs w => ?_)
  refine lv_aload_n hx hb dX1_init_51 rfl (lv_at hl 0 rfl) ?_
  refine lv_iconst (v := 0) hx hb dX1_init_52 (by decide) ?_
  refine hm_put (ws' := [(h0, .inr (1, [.int 0, .ref q1, .ref q2, .ref q3, .ref q4, .int 0, .int 0, .int 0, .int 0, .int 0, .int 0])), ic E q1 12 (fun _ => (0 : Int32)), ic E q2 12 (fun _ => (0 : Int32)), ic E q3 12 (fun _ => (0 : Int32)), ic E q4 12 (fun _ => (0 : Int32))]) cb_X1 hx hb hown X w 0 7 fl_X1_34 dX1_init_53 rfl (by decide) (Nat.le_of_ble_eq_true rfl) rfl rfl rfl rfl (fun H locs w => ?_)
  refine lv_aload_n hx hb dX1_init_56 rfl (lv_at hl 0 rfl) ?_
  refine lv_iconst (v := 0) hx hb dX1_init_57 (by decide) ?_
  refine hm_put (ws' := [(h0, .inr (1, [.int 0, .ref q1, .ref q2, .ref q3, .ref q4, .int 0, .int 0, .int 0, .int 0, .int 0, .int 0])), ic E q1 12 (fun _ => (0 : Int32)), ic E q2 12 (fun _ => (0 : Int32)), ic E q3 12 (fun _ => (0 : Int32)), ic E q4 12 (fun _ => (0 : Int32))]) cb_X1 hx hb hown X w 0 8 fl_X1_37 dX1_init_58 rfl (by decide) (Nat.le_of_ble_eq_true rfl) rfl rfl rfl rfl (fun H locs w => ?_)
  refine lv_aload_n hx hb dX1_init_61 rfl (lv_at hl 0 rfl) ?_
  refine lv_iconst (v := 0) hx hb dX1_init_62 (by decide) ?_
  refine hm_put (ws' := [(h0, .inr (1, [.int 0, .ref q1, .ref q2, .ref q3, .ref q4, .int 0, .int 0, .int 0, .int 0, .int 0, .int 0])), ic E q1 12 (fun _ => (0 : Int32)), ic E q2 12 (fun _ => (0 : Int32)), ic E q3 12 (fun _ => (0 : Int32)), ic E q4 12 (fun _ => (0 : Int32))]) cb_X1 hx hb hown X w 0 9 fl_X1_40 dX1_init_63 rfl (by decide) (Nat.le_of_ble_eq_true rfl) rfl rfl rfl rfl (fun H locs w => ?_)
  refine lv_aload_n hx hb dX1_init_66 rfl (lv_at hl 0 rfl) ?_
  refine lv_iconst (v := 0) hx hb dX1_init_67 (by decide) ?_
  refine hm_put (ws' := [(h0, .inr (1, [.int 0, .ref q1, .ref q2, .ref q3, .ref q4, .int 0, .int 0, .int 0, .int 0, .int 0, .int 0])), ic E q1 12 (fun _ => (0 : Int32)), ic E q2 12 (fun _ => (0 : Int32)), ic E q3 12 (fun _ => (0 : Int32)), ic E q4 12 (fun _ => (0 : Int32))]) cb_X1 hx hb hown X w 0 10 fl_X1_43 dX1_init_68 rfl (by decide) (Nat.le_of_ble_eq_true rfl) rfl rfl rfl rfl (fun H locs w => ?_)
  have w := w.sub (ws' := [(h0, .inr (1, [.int 0, .ref q1, .ref q2, .ref q3, .ref q4, .int 0, .int 0, .int 0, .int 0, .int 0, .int 0])), ic E q1 12 (fun _ => (0 : Int32)), ic E q2 12 (fun _ => (0 : Int32)), ic E q3 12 (fun _ => (0 : Int32)), ic E q4 12 (fun _ => (0 : Int32))]) [0, 1, 2, 3, 4] (by decide) rfl
  exact hQ _ _ _ _ () (fun j => if j = 2 then q1 else if j = 3 then q2 else if j = 4 then q3 else if j = 5 then q4 else 0) hf w dX1_init_71
set_option maxHeartbeats 8000000 in
set_option maxRecDepth 100000 in
theorem ct_X3_init (l : Launch) (E : hm_E) (sz : Nat) (h0 : Nat) (R : Unit) (hf : pf_X3_init = some R) : hm_Mv l E yX3_init cX3_init 1 [] (hm_rr 1 20 3 200) [.ref h0] sz [(h0, .inr (3, [.null, .null, .null, .int 0, .int 0, .int 0]))] (fun qs => [oc3 h0 (fun j => qs (j + 1)) 0 0 0, ic E (qs 1) 80 (fun _ => (0 : Int32)), ic E (qs 2) 80 (fun _ => (0 : Int32)), ic E (qs 3) 40 (fun _ => (0 : Int32))]) := by
  refine hm_ct_v R (fun u qs => [oc3 h0 (fun j => qs (j + 1)) 0 0 0, ic E (qs 1) 80 (fun _ => (0 : Int32)), ic E (qs 2) 80 (fun _ => (0 : Int32)), ic E (qs 3) 40 (fun _ => (0 : Int32))]) (by decide) (Nat.le_of_ble_eq_true rfl) ?_
  intro p e s m args below meth c A Q ls H locs hx hb hml hown X hA Y hex hin w hl hQ
  have hl : lv_has ls 1 [(0, .ref h0)] := hl
  unfold pf_X3_init at hf
  refine lv_aload_n hx hb dX3_init_0 rfl (lv_at hl 0 rfl) ?_
  refine W.objInit hx hb hown (X.use ml_X3_3 rfl) (X.use oi_m rfl) (X.use oi_c rfl) rfl (by rw [hml]; exact hl.1) rfl dX3_init_1 (Nat.le_of_ble_eq_true rfl) (Nat.le_of_ble_eq_true rfl) ?_
  refine W.eq (g2 := F0 m 4 ls []) rfl ?_
  refine lv_aload_n hx hb dX3_init_4 rfl (lv_at hl 0 rfl) ?_
  refine lv_bipush (v := 80) hx hb dX3_init_5 (by decide) ?_
  refine hm_newa (ty := .int) (N := 80) hx hb X hA w ar_int rfl (Or.inl rfl) 0 rfl dX3_init_7 (fun _ => rfl) (by decide) (by decide) (Nat.le_of_ble_eq_true rfl) (Nat.le_of_ble_eq_true rfl) (Nat.le_of_ble_eq_true rfl) (fun q1 H w => ?_)
  have w : hm_W E A s.heap [(h0, .inr (3, [.null, .null, .null, .int 0, .int 0, .int 0])), ic E q1 80 (fun _ => (0 : Int32))] H locs := w
  refine hm_putF (ws' := [(h0, .inr (3, [.ref q1, .null, .null, .int 0, .int 0, .int 0])), ic E q1 80 (fun _ => (0 : Int32))]) cb_X3 hx hb hown hin X w 0 0 fl_X3_11 dX3_init_9 rfl (by decide) (Nat.le_of_ble_eq_true rfl) rfl rfl rfl rfl rfl (fun H locs w => ?_)
  refine lv_aload_n hx hb dX3_init_12 rfl (lv_at hl 0 rfl) ?_
  refine lv_bipush (v := 80) hx hb dX3_init_13 (by decide) ?_
  refine hm_newa (ty := .int) (N := 80) hx hb X hA w ar_int rfl (Or.inl rfl) 0 rfl dX3_init_15 (fun _ => rfl) (by decide) (by decide) (Nat.le_of_ble_eq_true rfl) (Nat.le_of_ble_eq_true rfl) (Nat.le_of_ble_eq_true rfl) (fun q2 H w => ?_)
  have w : hm_W E A s.heap [(h0, .inr (3, [.ref q1, .null, .null, .int 0, .int 0, .int 0])), ic E q1 80 (fun _ => (0 : Int32)), ic E q2 80 (fun _ => (0 : Int32))] H locs := w
  refine hm_putF (ws' := [(h0, .inr (3, [.ref q1, .ref q2, .null, .int 0, .int 0, .int 0])), ic E q1 80 (fun _ => (0 : Int32)), ic E q2 80 (fun _ => (0 : Int32))]) cb_X3 hx hb hown hin X w 0 1 fl_X3_15 dX3_init_17 rfl (by decide) (Nat.le_of_ble_eq_true rfl) rfl rfl rfl rfl rfl (fun H locs w => ?_)
  refine lv_aload_n hx hb dX3_init_20 rfl (lv_at hl 0 rfl) ?_
  refine lv_bipush (v := 40) hx hb dX3_init_21 (by decide) ?_
  refine hm_newa (ty := .int) (N := 40) hx hb X hA w ar_int rfl (Or.inl rfl) 0 rfl dX3_init_23 (fun _ => rfl) (by decide) (by decide) (Nat.le_of_ble_eq_true rfl) (Nat.le_of_ble_eq_true rfl) (Nat.le_of_ble_eq_true rfl) (fun q3 H w => ?_)
  have w : hm_W E A s.heap [(h0, .inr (3, [.ref q1, .ref q2, .null, .int 0, .int 0, .int 0])), ic E q1 80 (fun _ => (0 : Int32)), ic E q2 80 (fun _ => (0 : Int32)), ic E q3 40 (fun _ => (0 : Int32))] H locs := w
  refine hm_putF (ws' := [(h0, .inr (3, [.ref q1, .ref q2, .ref q3, .int 0, .int 0, .int 0])), ic E q1 80 (fun _ => (0 : Int32)), ic E q2 80 (fun _ => (0 : Int32)), ic E q3 40 (fun _ => (0 : Int32))]) cb_X3 hx hb hown hin X w 0 2 fl_X3_18 dX3_init_25 rfl (by decide) (Nat.le_of_ble_eq_true rfl) rfl rfl rfl rfl rfl (fun H locs w => ?_)
  refine lv_aload_n hx hb dX3_init_28 rfl (lv_at hl 0 rfl) ?_
  refine lv_iconst (v := 0) hx hb dX3_init_29 (by decide) ?_
  refine hm_put (ws' := [(h0, .inr (3, [.ref q1, .ref q2, .ref q3, .int 0, .int 0, .int 0])), ic E q1 80 (fun _ => (0 : Int32)), ic E q2 80 (fun _ => (0 : Int32)), ic E q3 40 (fun _ => (0 : Int32))]) cb_X3 hx hb hown X w 0 3 fl_X3_21 dX3_init_30 rfl (by decide) (Nat.le_of_ble_eq_true rfl) rfl rfl rfl rfl (fun H locs w => ?_)
  refine lv_aload_n hx hb dX3_init_33 rfl (lv_at hl 0 rfl) ?_
  refine lv_iconst (v := 0) hx hb dX3_init_34 (by decide) ?_
  refine hm_put (ws' := [(h0, .inr (3, [.ref q1, .ref q2, .ref q3, .int 0, .int 0, .int 0])), ic E q1 80 (fun _ => (0 : Int32)), ic E q2 80 (fun _ => (0 : Int32)), ic E q3 40 (fun _ => (0 : Int32))]) cb_X3 hx hb hown X w 0 4 fl_X3_25 dX3_init_35 rfl (by decide) (Nat.le_of_ble_eq_true rfl) rfl rfl rfl rfl (fun H locs w => ?_)
  refine lv_aload_n hx hb dX3_init_38 rfl (lv_at hl 0 rfl) ?_
  refine lv_iconst (v := 0) hx hb dX3_init_39 (by decide) ?_
  refine hm_put (ws' := [(h0, .inr (3, [.ref q1, .ref q2, .ref q3, .int 0, .int 0, .int 0])), ic E q1 80 (fun _ => (0 : Int32)), ic E q2 80 (fun _ => (0 : Int32)), ic E q3 40 (fun _ => (0 : Int32))]) cb_X3 hx hb hown X w 0 5 fl_X3_28 dX3_init_40 rfl (by decide) (Nat.le_of_ble_eq_true rfl) rfl rfl rfl rfl (fun H locs w => ?_)
  have w := w.sub (ws' := [(h0, .inr (3, [.ref q1, .ref q2, .ref q3, .int 0, .int 0, .int 0])), ic E q1 80 (fun _ => (0 : Int32)), ic E q2 80 (fun _ => (0 : Int32)), ic E q3 40 (fun _ => (0 : Int32))]) [0, 1, 2, 3] (by decide) rfl
  exact hQ _ _ _ _ () (fun j => if j = 1 then q1 else if j = 2 then q2 else if j = 3 then q3 else 0) hf w dX3_init_43
set_option maxHeartbeats 8000000 in
set_option maxRecDepth 100000 in
theorem ct_X2_init (l : Launch) (E : hm_E) (sz : Nat) (h0 : Nat) (R : Unit) (hf : pf_X2_init = some R) : hm_Mv l E yX2_init cX2_init 1 [] (hm_rr 2 40 10 270) [.ref h0] sz [(h0, .inr (2, [.int 0, .null, .null, .null, .null, .int 0, .int 0, .int 0, .int 0, .int 0, .int 0, .int 0, .int 0, .null, .null, .null, .int 0]))] (fun qs => [oc2 h0 (fun j => qs (j + 1)) (qs 14) 0 0 0 3 0 1 1 0 0 0, ic E (qs 2) 12 (fun _ => (0 : Int32)), ic E (qs 3) 12 (fun _ => (0 : Int32)), ic E (qs 4) 12 (fun _ => (0 : Int32)), ic E (qs 5) 12 (fun _ => (0 : Int32)), oc3 (qs 14) (fun j => qs (1400 + j + 1)) 0 0 0, ic E (qs 1401) 80 (fun _ => (0 : Int32)), ic E (qs 1402) 80 (fun _ => (0 : Int32)), ic E (qs 1403) 40 (fun _ => (0 : Int32)), ic E (qs 15) 8 (fun _ => (0 : Int32)), ic E (qs 16) 8 (fun _ => (0 : Int32))]) := by
  refine hm_ct_v R (fun u qs => [oc2 h0 (fun j => qs (j + 1)) (qs 14) 0 0 0 3 0 1 1 0 0 0, ic E (qs 2) 12 (fun _ => (0 : Int32)), ic E (qs 3) 12 (fun _ => (0 : Int32)), ic E (qs 4) 12 (fun _ => (0 : Int32)), ic E (qs 5) 12 (fun _ => (0 : Int32)), oc3 (qs 14) (fun j => qs (1400 + j + 1)) 0 0 0, ic E (qs 1401) 80 (fun _ => (0 : Int32)), ic E (qs 1402) 80 (fun _ => (0 : Int32)), ic E (qs 1403) 40 (fun _ => (0 : Int32)), ic E (qs 15) 8 (fun _ => (0 : Int32)), ic E (qs 16) 8 (fun _ => (0 : Int32))]) (by decide) (Nat.le_of_ble_eq_true rfl) ?_
  intro p e s m args below meth c A Q ls H locs hx hb hml hown X hA Y hex hin w hl hQ
  have hl : lv_has ls 1 [(0, .ref h0)] := hl
  unfold pf_X2_init at hf
  refine lv_aload_n hx hb dX2_init_0 rfl (lv_at hl 0 rfl) ?_
  refine W.objInit hx hb hown (X.use ml_X2_3 rfl) (X.use oi_m rfl) (X.use oi_c rfl) rfl (by rw [hml]; exact hl.1) rfl dX2_init_1 (Nat.le_of_ble_eq_true rfl) (Nat.le_of_ble_eq_true rfl) ?_
  refine W.eq (g2 := F0 m 4 ls []) rfl ?_
  refine lv_aload_n hx hb dX2_init_4 rfl (lv_at hl 0 rfl) ?_
  refine lv_iconst (v := 0) hx hb dX2_init_5 (by decide) ?_
  refine hm_put (ws' := [(h0, .inr (2, [.int 0, .null, .null, .null, .null, .int 0, .int 0, .int 0, .int 0, .int 0, .int 0, .int 0, .int 0, .null, .null, .null, .int 0]))]) cb_X2 hx hb hown X w 0 0 fl_X2_9 dX2_init_6 rfl (by decide) (Nat.le_of_ble_eq_true rfl) rfl rfl rfl rfl (fun H locs w => ?_)
  refine lv_aload_n hx hb dX2_init_9 rfl (lv_at hl 0 rfl) ?_
  refine lv_bipush (v := 12) hx hb dX2_init_10 (by decide) ?_
  refine hm_newa (ty := .int) (N := 12) hx hb X hA w ar_int rfl (Or.inl rfl) 0 rfl dX2_init_12 (fun _ => rfl) (by decide) (by decide) (Nat.le_of_ble_eq_true rfl) (Nat.le_of_ble_eq_true rfl) (Nat.le_of_ble_eq_true rfl) (fun q1 H w => ?_)
  have w : hm_W E A s.heap [(h0, .inr (2, [.int 0, .null, .null, .null, .null, .int 0, .int 0, .int 0, .int 0, .int 0, .int 0, .int 0, .int 0, .null, .null, .null, .int 0])), ic E q1 12 (fun _ => (0 : Int32))] H locs := w
  refine hm_putF (ws' := [(h0, .inr (2, [.int 0, .ref q1, .null, .null, .null, .int 0, .int 0, .int 0, .int 0, .int 0, .int 0, .int 0, .int 0, .null, .null, .null, .int 0])), ic E q1 12 (fun _ => (0 : Int32))]) cb_X2 hx hb hown hin X w 0 1 fl_X2_15 dX2_init_14 rfl (by decide) (Nat.le_of_ble_eq_true rfl) rfl rfl rfl rfl rfl (fun H locs w => ?_)
  refine lv_aload_n hx hb dX2_init_17 rfl (lv_at hl 0 rfl) ?_
  refine lv_bipush (v := 12) hx hb dX2_init_18 (by decide) ?_
  refine hm_newa (ty := .int) (N := 12) hx hb X hA w ar_int rfl (Or.inl rfl) 0 rfl dX2_init_20 (fun _ => rfl) (by decide) (by decide) (Nat.le_of_ble_eq_true rfl) (Nat.le_of_ble_eq_true rfl) (Nat.le_of_ble_eq_true rfl) (fun q2 H w => ?_)
  have w : hm_W E A s.heap [(h0, .inr (2, [.int 0, .ref q1, .null, .null, .null, .int 0, .int 0, .int 0, .int 0, .int 0, .int 0, .int 0, .int 0, .null, .null, .null, .int 0])), ic E q1 12 (fun _ => (0 : Int32)), ic E q2 12 (fun _ => (0 : Int32))] H locs := w
  refine hm_putF (ws' := [(h0, .inr (2, [.int 0, .ref q1, .ref q2, .null, .null, .int 0, .int 0, .int 0, .int 0, .int 0, .int 0, .int 0, .int 0, .null, .null, .null, .int 0])), ic E q1 12 (fun _ => (0 : Int32)), ic E q2 12 (fun _ => (0 : Int32))]) cb_X2 hx hb hown hin X w 0 2 fl_X2_19 dX2_init_22 rfl (by decide) (Nat.le_of_ble_eq_true rfl) rfl rfl rfl rfl rfl (fun H locs w => ?_)
  refine lv_aload_n hx hb dX2_init_25 rfl (lv_at hl 0 rfl) ?_
  refine lv_bipush (v := 12) hx hb dX2_init_26 (by decide) ?_
  refine hm_newa (ty := .int) (N := 12) hx hb X hA w ar_int rfl (Or.inl rfl) 0 rfl dX2_init_28 (fun _ => rfl) (by decide) (by decide) (Nat.le_of_ble_eq_true rfl) (Nat.le_of_ble_eq_true rfl) (Nat.le_of_ble_eq_true rfl) (fun q3 H w => ?_)
  have w : hm_W E A s.heap [(h0, .inr (2, [.int 0, .ref q1, .ref q2, .null, .null, .int 0, .int 0, .int 0, .int 0, .int 0, .int 0, .int 0, .int 0, .null, .null, .null, .int 0])), ic E q1 12 (fun _ => (0 : Int32)), ic E q2 12 (fun _ => (0 : Int32)), ic E q3 12 (fun _ => (0 : Int32))] H locs := w
  refine hm_putF (ws' := [(h0, .inr (2, [.int 0, .ref q1, .ref q2, .ref q3, .null, .int 0, .int 0, .int 0, .int 0, .int 0, .int 0, .int 0, .int 0, .null, .null, .null, .int 0])), ic E q1 12 (fun _ => (0 : Int32)), ic E q2 12 (fun _ => (0 : Int32)), ic E q3 12 (fun _ => (0 : Int32))]) cb_X2 hx hb hown hin X w 0 3 fl_X2_22 dX2_init_30 rfl (by decide) (Nat.le_of_ble_eq_true rfl) rfl rfl rfl rfl rfl (fun H locs w => ?_)
  refine lv_aload_n hx hb dX2_init_33 rfl (lv_at hl 0 rfl) ?_
  refine lv_bipush (v := 12) hx hb dX2_init_34 (by decide) ?_
  refine hm_newa (ty := .int) (N := 12) hx hb X hA w ar_int rfl (Or.inl rfl) 0 rfl dX2_init_36 (fun _ => rfl) (by decide) (by decide) (Nat.le_of_ble_eq_true rfl) (Nat.le_of_ble_eq_true rfl) (Nat.le_of_ble_eq_true rfl) (fun q4 H w => ?_)
  have w : hm_W E A s.heap [(h0, .inr (2, [.int 0, .ref q1, .ref q2, .ref q3, .null, .int 0, .int 0, .int 0, .int 0, .int 0, .int 0, .int 0, .int 0, .null, .null, .null, .int 0])), ic E q1 12 (fun _ => (0 : Int32)), ic E q2 12 (fun _ => (0 : Int32)), ic E q3 12 (fun _ => (0 : Int32)), ic E q4 12 (fun _ => (0 : Int32))] H locs := w
  refine hm_putF (ws' := [(h0, .inr (2, [.int 0, .ref q1, .ref q2, .ref q3, .ref q4, .int 0, .int 0, .int 0, .int 0, .int 0, .int 0, .int 0, .int 0, .null, .null, .null, .int 0])), ic E q1 12 (fun _ => (0 : Int32)), ic E q2 12 (fun _ => (0 : Int32)), ic E q3 12 (fun _ => (0 : Int32)), ic E q4 12 (fun _ => (0 : Int32))]) cb_X2 hx hb hown hin X w 0 4 fl_X2_25 dX2_init_38 rfl (by decide) (Nat.le_of_ble_eq_true rfl) rfl rfl rfl rfl rfl (fun H locs w => ?_)
  refine lv_aload_n hx hb dX2_init_41 rfl (lv_at hl 0 rfl) ?_
  refine lv_iconst (v := 0) hx hb dX2_init_42 (by decide) ?_
  refine hm_put (ws' := [(h0, .inr (2, [.int 0, .ref q1, .ref q2, .ref q3, .ref q4, .int 0, .int 0, .int 0, .int 0, .int 0, .int 0, .int 0, .int 0, .null, .null, .null, .int 0])), ic E q1 12 (fun _ => (0 : Int32)), ic E q2 12 (fun _ => (0 : Int32)), ic E q3 12 (fun _ => (0 : Int32)), ic E q4 12 (fun _ => (0 : Int32))]) cb_X2 hx hb hown X w 0 5 fl_X2_28 dX2_init_43 rfl (by decide) (Nat.le_of_ble_eq_true rfl) rfl rfl rfl rfl (fun H locs w => ?_)
  refine lv_aload_n hx hb dX2_init_46 rfl (lv_at hl 0 rfl) ?_
  refine lv_iconst (v := 0) hx hb dX2_init_47 (by decide) ?_
  refine hm_put (ws' := [(h0, .inr (2, [.int 0, .ref q1, .ref q2, .ref q3, .ref q4, .int 0, .int 0, .int 0, .int 0, .int 0, .int 0, .int 0, .int 0, .null, .null, .null, .int 0])), ic E q1 12 (fun _ => (0 : Int32)), ic E q2 12 (fun _ => (0 : Int32)), ic E q3 12 (fun _ => (0 : Int32)), ic E q4 12 (fun _ => (0 : Int32))]) cb_X2 hx hb hown X w 0 6 fl_X2_31 dX2_init_48 rfl (by decide) (Nat.le_of_ble_eq_true rfl) rfl rfl rfl rfl (fun H locs w => ?_)
  refine lv_aload_n hx hb dX2_init_51 rfl (lv_at hl 0 rfl) ?_
  refine lv_iconst (v := 3) hx hb dX2_init_52 (by decide) ?_
  refine hm_put (ws' := [(h0, .inr (2, [.int 0, .ref q1, .ref q2, .ref q3, .ref q4, .int 0, .int 0, .int 3, .int 0, .int 0, .int 0, .int 0, .int 0, .null, .null, .null, .int 0])), ic E q1 12 (fun _ => (0 : Int32)), ic E q2 12 (fun _ => (0 : Int32)), ic E q3 12 (fun _ => (0 : Int32)), ic E q4 12 (fun _ => (0 : Int32))]) cb_X2 hx hb hown X w 0 7 fl_X2_34 dX2_init_53 rfl (by decide) (Nat.le_of_ble_eq_true rfl) rfl rfl rfl rfl (fun H locs w => ?_)
  refine lv_aload_n hx hb dX2_init_56 rfl (lv_at hl 0 rfl) ?_
  refine lv_iconst (v := 0) hx hb dX2_init_57 (by decide) ?_
  refine hm_put (ws' := [(h0, .inr (2, [.int 0, .ref q1, .ref q2, .ref q3, .ref q4, .int 0, .int 0, .int 3, .int 0, .int 0, .int 0, .int 0, .int 0, .null, .null, .null, .int 0])), ic E q1 12 (fun _ => (0 : Int32)), ic E q2 12 (fun _ => (0 : Int32)), ic E q3 12 (fun _ => (0 : Int32)), ic E q4 12 (fun _ => (0 : Int32))]) cb_X2 hx hb hown X w 0 8 fl_X2_37 dX2_init_58 rfl (by decide) (Nat.le_of_ble_eq_true rfl) rfl rfl rfl rfl (fun H locs w => ?_)
  refine lv_aload_n hx hb dX2_init_61 rfl (lv_at hl 0 rfl) ?_
  refine lv_iconst (v := 1) hx hb dX2_init_62 (by decide) ?_
  refine hm_put (ws' := [(h0, .inr (2, [.int 0, .ref q1, .ref q2, .ref q3, .ref q4, .int 0, .int 0, .int 3, .int 0, .int 1, .int 0, .int 0, .int 0, .null, .null, .null, .int 0])), ic E q1 12 (fun _ => (0 : Int32)), ic E q2 12 (fun _ => (0 : Int32)), ic E q3 12 (fun _ => (0 : Int32)), ic E q4 12 (fun _ => (0 : Int32))]) cb_X2 hx hb hown X w 0 9 fl_X2_40 dX2_init_63 rfl (by decide) (Nat.le_of_ble_eq_true rfl) rfl rfl rfl rfl (fun H locs w => ?_)
  refine lv_aload_n hx hb dX2_init_66 rfl (lv_at hl 0 rfl) ?_
  refine lv_iconst (v := 1) hx hb dX2_init_67 (by decide) ?_
  refine hm_put (ws' := [(h0, .inr (2, [.int 0, .ref q1, .ref q2, .ref q3, .ref q4, .int 0, .int 0, .int 3, .int 0, .int 1, .int 1, .int 0, .int 0, .null, .null, .null, .int 0])), ic E q1 12 (fun _ => (0 : Int32)), ic E q2 12 (fun _ => (0 : Int32)), ic E q3 12 (fun _ => (0 : Int32)), ic E q4 12 (fun _ => (0 : Int32))]) cb_X2 hx hb hown X w 0 10 fl_X2_43 dX2_init_68 rfl (by decide) (Nat.le_of_ble_eq_true rfl) rfl rfl rfl rfl (fun H locs w => ?_)
  refine lv_aload_n hx hb dX2_init_71 rfl (lv_at hl 0 rfl) ?_
  refine lv_iconst (v := 0) hx hb dX2_init_72 (by decide) ?_
  refine hm_put (ws' := [(h0, .inr (2, [.int 0, .ref q1, .ref q2, .ref q3, .ref q4, .int 0, .int 0, .int 3, .int 0, .int 1, .int 1, .int 0, .int 0, .null, .null, .null, .int 0])), ic E q1 12 (fun _ => (0 : Int32)), ic E q2 12 (fun _ => (0 : Int32)), ic E q3 12 (fun _ => (0 : Int32)), ic E q4 12 (fun _ => (0 : Int32))]) cb_X2 hx hb hown X w 0 11 fl_X2_46 dX2_init_73 rfl (by decide) (Nat.le_of_ble_eq_true rfl) rfl rfl rfl rfl (fun H locs w => ?_)
  refine lv_aload_n hx hb dX2_init_76 rfl (lv_at hl 0 rfl) ?_
  refine lv_iconst (v := 0) hx hb dX2_init_77 (by decide) ?_
  refine hm_put (ws' := [(h0, .inr (2, [.int 0, .ref q1, .ref q2, .ref q3, .ref q4, .int 0, .int 0, .int 3, .int 0, .int 1, .int 1, .int 0, .int 0, .null, .null, .null, .int 0])), ic E q1 12 (fun _ => (0 : Int32)), ic E q2 12 (fun _ => (0 : Int32)), ic E q3 12 (fun _ => (0 : Int32)), ic E q4 12 (fun _ => (0 : Int32))]) cb_X2 hx hb hown X w 0 12 fl_X2_49 dX2_init_78 rfl (by decide) (Nat.le_of_ble_eq_true rfl) rfl rfl rfl rfl (fun H locs w => ?_)
  refine lv_aload_n hx hb dX2_init_81 rfl (lv_at hl 0 rfl) ?_
  refine hm_new (fs := [.null, .null, .null, .int 0, .int 0, .int 0]) cb_X3 hx hb hown X hA w cl_X2_52 is_X3 in_X3 dX2_init_82 df_X3 (Nat.le_of_ble_eq_true rfl) (Nat.le_of_ble_eq_true rfl) (fun q5 H w => ?_)
  have w : hm_W E A s.heap [(h0, .inr (2, [.int 0, .ref q1, .ref q2, .ref q3, .ref q4, .int 0, .int 0, .int 3, .int 0, .int 1, .int 1, .int 0, .int 0, .null, .null, .null, .int 0])), ic E q1 12 (fun _ => (0 : Int32)), ic E q2 12 (fun _ => (0 : Int32)), ic E q3 12 (fun _ => (0 : Int32)), ic E q4 12 (fun _ => (0 : Int32)), (q5, .inr (3, [.null, .null, .null, .int 0, .int 0, .int 0]))] H locs := w
  refine lv_dup hx hb dX2_init_85 rfl ?_
  obtain ⟨hc86, hf⟩ := pf_bv_0 hf
  refine hm_aft_v (ws' := fun qs86 => [(h0, .inr (2, [.int 0, .ref q1, .ref q2, .ref q3, .ref q4, .int 0, .int 0, .int 3, .int 0, .int 1, .int 1, .int 0, .int 0, .null, .null, .null, .int 0])), ic E q1 12 (fun _ => (0 : Int32)), ic E q2 12 (fun _ => (0 : Int32)), ic E q3 12 (fun _ => (0 : Int32)), ic E q4 12 (fun _ => (0 : Int32)), oc3 q5 (fun j => qs86 (j + 1)) 0 0 0, ic E (qs86 1) 80 (fun _ => (0 : Int32)), ic E (qs86 2) 80 (fun _ => (0 : Int32)), ic E (qs86 3) 40 (fun _ => (0 : Int32))]) (hm_runIN (rest := [.ref q5, .ref h0]) hx hb hml hown X hA Y w mw_X3_init ml_X2_54 dX2_init_86 hm_ac0 [] rfl [5] rfl rfl (ct_X3_init l E H.size q5 () hc86) rfl hl.1 ⟨⟨rfl, rfl⟩, ⟨Nat.le_of_ble_eq_true rfl, Nat.le_of_ble_eq_true rfl⟩, ⟨Nat.le_of_ble_eq_true rfl, Nat.le_of_ble_eq_true rfl⟩, Nat.le_of_ble_eq_true rfl⟩) hA w [5] [0, 1, 2, 3, 4] [0, 1, 2, 3, 4, 5, 6, 7, 8] rfl rfl (by decide) (fun _ => rfl) (fun qs86 H locs w => ?_)
  refine hm_put (ws' := [(h0, .inr (2, [.int 0, .ref q1, .ref q2, .ref q3, .ref q4, .int 0, .int 0, .int 3, .int 0, .int 1, .int 1, .int 0, .int 0, .ref q5, .null, .null, .int 0])), ic E q1 12 (fun _ => (0 : Int32)), ic E q2 12 (fun _ => (0 : Int32)), ic E q3 12 (fun _ => (0 : Int32)), ic E q4 12 (fun _ => (0 : Int32)), oc3 q5 (fun j => qs86 (j + 1)) 0 0 0, ic E (qs86 1) 80 (fun _ => (0 : Int32)), ic E (qs86 2) 80 (fun _ => (0 : Int32)), ic E (qs86 3) 40 (fun _ => (0 : Int32))]) cb_X2 hx hb hown X w 0 13 fl_X2_55 dX2_init_89 rfl (by decide) (Nat.le_of_ble_eq_true rfl) rfl rfl rfl rfl (fun H locs w => ?_)
  refine lv_aload_n hx hb dX2_init_92 rfl (lv_at hl 0 rfl) ?_
  refine lv_bipush (v := 8) hx hb dX2_init_93 (by decide) ?_
  refine hm_newa (ty := .int) (N := 8) hx hb X hA w ar_int rfl (Or.inl rfl) 0 rfl dX2_init_95 (fun _ => rfl) (by decide) (by decide) (Nat.le_of_ble_eq_true rfl) (Nat.le_of_ble_eq_true rfl) (Nat.le_of_ble_eq_true rfl) (fun q6 H w => ?_)
  have w : hm_W E A s.heap [(h0, .inr (2, [.int 0, .ref q1, .ref q2, .ref q3, .ref q4, .int 0, .int 0, .int 3, .int 0, .int 1, .int 1, .int 0, .int 0, .ref q5, .null, .null, .int 0])), ic E q1 12 (fun _ => (0 : Int32)), ic E q2 12 (fun _ => (0 : Int32)), ic E q3 12 (fun _ => (0 : Int32)), ic E q4 12 (fun _ => (0 : Int32)), oc3 q5 (fun j => qs86 (j + 1)) 0 0 0, ic E (qs86 1) 80 (fun _ => (0 : Int32)), ic E (qs86 2) 80 (fun _ => (0 : Int32)), ic E (qs86 3) 40 (fun _ => (0 : Int32)), ic E q6 8 (fun _ => (0 : Int32))] H locs := w
  refine hm_putF (ws' := [(h0, .inr (2, [.int 0, .ref q1, .ref q2, .ref q3, .ref q4, .int 0, .int 0, .int 3, .int 0, .int 1, .int 1, .int 0, .int 0, .ref q5, .ref q6, .null, .int 0])), ic E q1 12 (fun _ => (0 : Int32)), ic E q2 12 (fun _ => (0 : Int32)), ic E q3 12 (fun _ => (0 : Int32)), ic E q4 12 (fun _ => (0 : Int32)), oc3 q5 (fun j => qs86 (j + 1)) 0 0 0, ic E (qs86 1) 80 (fun _ => (0 : Int32)), ic E (qs86 2) 80 (fun _ => (0 : Int32)), ic E (qs86 3) 40 (fun _ => (0 : Int32)), ic E q6 8 (fun _ => (0 : Int32))]) cb_X2 hx hb hown hin X w 0 14 fl_X2_59 dX2_init_97 rfl (by decide) (Nat.le_of_ble_eq_true rfl) rfl rfl rfl rfl rfl (fun H locs w => ?_)
  refine lv_aload_n hx hb dX2_init_100 rfl (lv_at hl 0 rfl) ?_
  refine lv_bipush (v := 8) hx hb dX2_init_101 (by decide) ?_
  refine hm_newa (ty := .int) (N := 8) hx hb X hA w ar_int rfl (Or.inl rfl) 0 rfl dX2_init_103 (fun _ => rfl) (by decide) (by decide) (Nat.le_of_ble_eq_true rfl) (Nat.le_of_ble_eq_true rfl) (Nat.le_of_ble_eq_true rfl) (fun q7 H w => ?_)
  have w : hm_W E A s.heap [(h0, .inr (2, [.int 0, .ref q1, .ref q2, .ref q3, .ref q4, .int 0, .int 0, .int 3, .int 0, .int 1, .int 1, .int 0, .int 0, .ref q5, .ref q6, .null, .int 0])), ic E q1 12 (fun _ => (0 : Int32)), ic E q2 12 (fun _ => (0 : Int32)), ic E q3 12 (fun _ => (0 : Int32)), ic E q4 12 (fun _ => (0 : Int32)), oc3 q5 (fun j => qs86 (j + 1)) 0 0 0, ic E (qs86 1) 80 (fun _ => (0 : Int32)), ic E (qs86 2) 80 (fun _ => (0 : Int32)), ic E (qs86 3) 40 (fun _ => (0 : Int32)), ic E q6 8 (fun _ => (0 : Int32)), ic E q7 8 (fun _ => (0 : Int32))] H locs := w
  refine hm_putF (ws' := [(h0, .inr (2, [.int 0, .ref q1, .ref q2, .ref q3, .ref q4, .int 0, .int 0, .int 3, .int 0, .int 1, .int 1, .int 0, .int 0, .ref q5, .ref q6, .ref q7, .int 0])), ic E q1 12 (fun _ => (0 : Int32)), ic E q2 12 (fun _ => (0 : Int32)), ic E q3 12 (fun _ => (0 : Int32)), ic E q4 12 (fun _ => (0 : Int32)), oc3 q5 (fun j => qs86 (j + 1)) 0 0 0, ic E (qs86 1) 80 (fun _ => (0 : Int32)), ic E (qs86 2) 80 (fun _ => (0 : Int32)), ic E (qs86 3) 40 (fun _ => (0 : Int32)), ic E q6 8 (fun _ => (0 : Int32)), ic E q7 8 (fun _ => (0 : Int32))]) cb_X2 hx hb hown hin X w 0 15 fl_X2_62 dX2_init_105 rfl (by decide) (Nat.le_of_ble_eq_true rfl) rfl rfl rfl rfl rfl (fun H locs w => ?_)
  refine lv_aload_n hx hb dX2_init_108 rfl (lv_at hl 0 rfl) ?_
  refine lv_iconst (v := 0) hx hb dX2_init_109 (by decide) ?_
  refine hm_put (ws' := [(h0, .inr (2, [.int 0, .ref q1, .ref q2, .ref q3, .ref q4, .int 0, .int 0, .int 3, .int 0, .int 1, .int 1, .int 0, .int 0, .ref q5, .ref q6, .ref q7, .int 0])), ic E q1 12 (fun _ => (0 : Int32)), ic E q2 12 (fun _ => (0 : Int32)), ic E q3 12 (fun _ => (0 : Int32)), ic E q4 12 (fun _ => (0 : Int32)), oc3 q5 (fun j => qs86 (j + 1)) 0 0 0, ic E (qs86 1) 80 (fun _ => (0 : Int32)), ic E (qs86 2) 80 (fun _ => (0 : Int32)), ic E (qs86 3) 40 (fun _ => (0 : Int32)), ic E q6 8 (fun _ => (0 : Int32)), ic E q7 8 (fun _ => (0 : Int32))]) cb_X2 hx hb hown X w 0 16 fl_X2_65 dX2_init_110 rfl (by decide) (Nat.le_of_ble_eq_true rfl) rfl rfl rfl rfl (fun H locs w => ?_)
  have w := w.sub (ws' := [(h0, .inr (2, [.int 0, .ref q1, .ref q2, .ref q3, .ref q4, .int 0, .int 0, .int 3, .int 0, .int 1, .int 1, .int 0, .int 0, .ref q5, .ref q6, .ref q7, .int 0])), ic E q1 12 (fun _ => (0 : Int32)), ic E q2 12 (fun _ => (0 : Int32)), ic E q3 12 (fun _ => (0 : Int32)), ic E q4 12 (fun _ => (0 : Int32)), oc3 q5 (fun j => qs86 (j + 1)) 0 0 0, ic E (qs86 1) 80 (fun _ => (0 : Int32)), ic E (qs86 2) 80 (fun _ => (0 : Int32)), ic E (qs86 3) 40 (fun _ => (0 : Int32)), ic E q6 8 (fun _ => (0 : Int32)), ic E q7 8 (fun _ => (0 : Int32))]) [0, 1, 2, 3, 4, 5, 6, 7, 8, 9, 10] (by decide) rfl
  exact hQ _ _ _ _ () (fun j => if j = 2 then q1 else if j = 3 then q2 else if j = 4 then q3 else if j = 5 then q4 else if j = 14 then q5 else if j = 1401 then (qs86 1) else if j = 1402 then (qs86 2) else if j = 1403 then (qs86 3) else if j = 15 then q6 else if j = 16 then q7 else 0) hf w dX2_init_113
set_option maxHeartbeats 8000000 in
set_option maxRecDepth 100000 in
theorem ct_X4_init (l : Launch) (E : hm_E) (sz : Nat) (h0 : Nat) (R : Unit) (hf : pf_X4_init = some R) : hm_Mv l E yX4_init cX4_init 1 [] (hm_rr 1 20 1 4096) [.ref h0] sz [(h0, .inr (4, [.null, .int 0, .int 0, .int 0, .int 0, .int 0, .int 0, .int 0, .int 0, .int 0, .int 0, .int 0]))] (fun qs => [oc4 h0 (fun j => qs (j + 1)) 0 0 0 0 0 0 0 0 0 0 (-1), ic E (qs 1) 4096 (fun _ => (0 : Int32))]) := by
  refine hm_ct_v R (fun u qs => [oc4 h0 (fun j => qs (j + 1)) 0 0 0 0 0 0 0 0 0 0 (-1), ic E (qs 1) 4096 (fun _ => (0 : Int32))]) (by decide) (Nat.le_of_ble_eq_true rfl) ?_
  intro p e s m args below meth c A Q ls H locs hx hb hml hown X hA Y hex hin w hl hQ
  have hl : lv_has ls 1 [(0, .ref h0)] := hl
  unfold pf_X4_init at hf
  refine lv_aload_n hx hb dX4_init_0 rfl (lv_at hl 0 rfl) ?_
  refine W.objInit hx hb hown (X.use ml_X4_3 rfl) (X.use oi_m rfl) (X.use oi_c rfl) rfl (by rw [hml]; exact hl.1) rfl dX4_init_1 (Nat.le_of_ble_eq_true rfl) (Nat.le_of_ble_eq_true rfl) ?_
  refine W.eq (g2 := F0 m 4 ls []) rfl ?_
  refine lv_aload_n hx hb dX4_init_4 rfl (lv_at hl 0 rfl) ?_
  refine lv_sipush (v := 4096) hx hb dX4_init_5 (by decide) ?_
  refine hm_newa (ty := .int) (N := 4096) hx hb X hA w ar_int rfl (Or.inl rfl) 0 rfl dX4_init_8 (fun _ => rfl) (by decide) (by decide) (Nat.le_of_ble_eq_true rfl) (Nat.le_of_ble_eq_true rfl) (Nat.le_of_ble_eq_true rfl) (fun q1 H w => ?_)
  have w : hm_W E A s.heap [(h0, .inr (4, [.null, .int 0, .int 0, .int 0, .int 0, .int 0, .int 0, .int 0, .int 0, .int 0, .int 0, .int 0])), ic E q1 4096 (fun _ => (0 : Int32))] H locs := w
  refine hm_putF (ws' := [(h0, .inr (4, [.ref q1, .int 0, .int 0, .int 0, .int 0, .int 0, .int 0, .int 0, .int 0, .int 0, .int 0, .int 0])), ic E q1 4096 (fun _ => (0 : Int32))]) cb_X4 hx hb hown hin X w 0 0 fl_X4_11 dX4_init_10 rfl (by decide) (Nat.le_of_ble_eq_true rfl) rfl rfl rfl rfl rfl (fun H locs w => ?_)
  refine lv_aload_n hx hb dX4_init_13 rfl (lv_at hl 0 rfl) ?_
  refine lv_iconst (v := 0) hx hb dX4_init_14 (by decide) ?_
  refine hm_put (ws' := [(h0, .inr (4, [.ref q1, .int 0, .int 0, .int 0, .int 0, .int 0, .int 0, .int 0, .int 0, .int 0, .int 0, .int 0])), ic E q1 4096 (fun _ => (0 : Int32))]) cb_X4 hx hb hown X w 0 1 fl_X4_15 dX4_init_15 rfl (by decide) (Nat.le_of_ble_eq_true rfl) rfl rfl rfl rfl (fun H locs w => ?_)
  refine lv_aload_n hx hb dX4_init_18 rfl (lv_at hl 0 rfl) ?_
  refine lv_iconst (v := 0) hx hb dX4_init_19 (by decide) ?_
  refine hm_put (ws' := [(h0, .inr (4, [.ref q1, .int 0, .int 0, .int 0, .int 0, .int 0, .int 0, .int 0, .int 0, .int 0, .int 0, .int 0])), ic E q1 4096 (fun _ => (0 : Int32))]) cb_X4 hx hb hown X w 0 2 fl_X4_19 dX4_init_20 rfl (by decide) (Nat.le_of_ble_eq_true rfl) rfl rfl rfl rfl (fun H locs w => ?_)
  refine lv_aload_n hx hb dX4_init_23 rfl (lv_at hl 0 rfl) ?_
  refine lv_iconst (v := 0) hx hb dX4_init_24 (by decide) ?_
  refine hm_put (ws' := [(h0, .inr (4, [.ref q1, .int 0, .int 0, .int 0, .int 0, .int 0, .int 0, .int 0, .int 0, .int 0, .int 0, .int 0])), ic E q1 4096 (fun _ => (0 : Int32))]) cb_X4 hx hb hown X w 0 3 fl_X4_22 dX4_init_25 rfl (by decide) (Nat.le_of_ble_eq_true rfl) rfl rfl rfl rfl (fun H locs w => ?_)
  refine lv_aload_n hx hb dX4_init_28 rfl (lv_at hl 0 rfl) ?_
  refine lv_iconst (v := 0) hx hb dX4_init_29 (by decide) ?_
  refine hm_put (ws' := [(h0, .inr (4, [.ref q1, .int 0, .int 0, .int 0, .int 0, .int 0, .int 0, .int 0, .int 0, .int 0, .int 0, .int 0])), ic E q1 4096 (fun _ => (0 : Int32))]) cb_X4 hx hb hown X w 0 4 fl_X4_25 dX4_init_30 rfl (by decide) (Nat.le_of_ble_eq_true rfl) rfl rfl rfl rfl (fun H locs w => ?_)
  refine lv_aload_n hx hb dX4_init_33 rfl (lv_at hl 0 rfl) ?_
  refine lv_iconst (v := 0) hx hb dX4_init_34 (by decide) ?_
  refine hm_put (ws' := [(h0, .inr (4, [.ref q1, .int 0, .int 0, .int 0, .int 0, .int 0, .int 0, .int 0, .int 0, .int 0, .int 0, .int 0])), ic E q1 4096 (fun _ => (0 : Int32))]) cb_X4 hx hb hown X w 0 5 fl_X4_28 dX4_init_35 rfl (by decide) (Nat.le_of_ble_eq_true rfl) rfl rfl rfl rfl (fun H locs w => ?_)
  refine lv_aload_n hx hb dX4_init_38 rfl (lv_at hl 0 rfl) ?_
  refine lv_iconst (v := 0) hx hb dX4_init_39 (by decide) ?_
  refine hm_put (ws' := [(h0, .inr (4, [.ref q1, .int 0, .int 0, .int 0, .int 0, .int 0, .int 0, .int 0, .int 0, .int 0, .int 0, .int 0])), ic E q1 4096 (fun _ => (0 : Int32))]) cb_X4 hx hb hown X w 0 6 fl_X4_31 dX4_init_40 rfl (by decide) (Nat.le_of_ble_eq_true rfl) rfl rfl rfl rfl (fun H locs w => ?_)
  refine lv_aload_n hx hb dX4_init_43 rfl (lv_at hl 0 rfl) ?_
  refine lv_iconst (v := 0) hx hb dX4_init_44 (by decide) ?_
  refine hm_put (ws' := [(h0, .inr (4, [.ref q1, .int 0, .int 0, .int 0, .int 0, .int 0, .int 0, .int 0, .int 0, .int 0, .int 0, .int 0])), ic E q1 4096 (fun _ => (0 : Int32))]) cb_X4 hx hb hown X w 0 7 fl_X4_34 dX4_init_45 rfl (by decide) (Nat.le_of_ble_eq_true rfl) rfl rfl rfl rfl (fun H locs w => ?_)
  refine lv_aload_n hx hb dX4_init_48 rfl (lv_at hl 0 rfl) ?_
  refine lv_iconst (v := 0) hx hb dX4_init_49 (by decide) ?_
  refine hm_put (ws' := [(h0, .inr (4, [.ref q1, .int 0, .int 0, .int 0, .int 0, .int 0, .int 0, .int 0, .int 0, .int 0, .int 0, .int 0])), ic E q1 4096 (fun _ => (0 : Int32))]) cb_X4 hx hb hown X w 0 8 fl_X4_37 dX4_init_50 rfl (by decide) (Nat.le_of_ble_eq_true rfl) rfl rfl rfl rfl (fun H locs w => ?_)
  refine lv_aload_n hx hb dX4_init_53 rfl (lv_at hl 0 rfl) ?_
  refine lv_iconst (v := 0) hx hb dX4_init_54 (by decide) ?_
  refine hm_put (ws' := [(h0, .inr (4, [.ref q1, .int 0, .int 0, .int 0, .int 0, .int 0, .int 0, .int 0, .int 0, .int 0, .int 0, .int 0])), ic E q1 4096 (fun _ => (0 : Int32))]) cb_X4 hx hb hown X w 0 9 fl_X4_40 dX4_init_55 rfl (by decide) (Nat.le_of_ble_eq_true rfl) rfl rfl rfl rfl (fun H locs w => ?_)
  refine lv_aload_n hx hb dX4_init_58 rfl (lv_at hl 0 rfl) ?_
  refine lv_iconst (v := 0) hx hb dX4_init_59 (by decide) ?_
  refine hm_put (ws' := [(h0, .inr (4, [.ref q1, .int 0, .int 0, .int 0, .int 0, .int 0, .int 0, .int 0, .int 0, .int 0, .int 0, .int 0])), ic E q1 4096 (fun _ => (0 : Int32))]) cb_X4 hx hb hown X w 0 10 fl_X4_43 dX4_init_60 rfl (by decide) (Nat.le_of_ble_eq_true rfl) rfl rfl rfl rfl (fun H locs w => ?_)
  refine lv_aload_n hx hb dX4_init_63 rfl (lv_at hl 0 rfl) ?_
  refine lv_iconst (v := (-1)) hx hb dX4_init_64 (by decide) ?_
  refine hm_put (ws' := [(h0, .inr (4, [.ref q1, .int 0, .int 0, .int 0, .int 0, .int 0, .int 0, .int 0, .int 0, .int 0, .int 0, .int (-1)])), ic E q1 4096 (fun _ => (0 : Int32))]) cb_X4 hx hb hown X w 0 11 fl_X4_46 dX4_init_65 rfl (by decide) (Nat.le_of_ble_eq_true rfl) rfl rfl rfl rfl (fun H locs w => ?_)
  have w := w.sub (ws' := [(h0, .inr (4, [.ref q1, .int 0, .int 0, .int 0, .int 0, .int 0, .int 0, .int 0, .int 0, .int 0, .int 0, .int (-1)])), ic E q1 4096 (fun _ => (0 : Int32))]) [0, 1] (by decide) rfl
  exact hQ _ _ _ _ () (fun j => if j = 1 then q1 else 0) hf w dX4_init_68
set_option maxHeartbeats 8000000 in
set_option maxRecDepth 100000 in
theorem ct_X7_init (l : Launch) (E : hm_E) (sz : Nat) (h0 : Nat) (R : Unit) (hf : pf_X7_init = some R) : hm_Mv l E yX7_init cX7_init 1 [] (hm_rr 3 60 43 5386) [.ref h0] sz [(h0, .inr (6, [.null, .null, .null, .null, .null, .null, .null, .null, .null, .int 0, .int 0]))] (fun qs => [oc7 h0 (fun j => qs (j + 1)) 0 (-1), oc5 (qs 1) (fun j => qs (100 + j + 1)) 0 0 (-1), ic E (qs 101) 400 (fun _ => (0 : Int32)), oc2 (qs 2) (fun j => qs (200 + j + 1)) (qs 214) 0 0 0 3 0 1 1 0 0 0, ic E (qs 202) 12 (fun _ => (0 : Int32)), ic E (qs 203) 12 (fun _ => (0 : Int32)), ic E (qs 204) 12 (fun _ => (0 : Int32)), ic E (qs 205) 12 (fun _ => (0 : Int32)), oc3 (qs 214) (fun j => qs (21400 + j + 1)) 0 0 0, ic E (qs 21401) 80 (fun _ => (0 : Int32)), ic E (qs 21402) 80 (fun _ => (0 : Int32)), ic E (qs 21403) 40 (fun _ => (0 : Int32)), ic E (qs 215) 8 (fun _ => (0 : Int32)), ic E (qs 216) 8 (fun _ => (0 : Int32)), oc2 (qs 3) (fun j => qs (300 + j + 1)) (qs 314) 0 0 0 3 0 1 1 0 0 0, ic E (qs 302) 12 (fun _ => (0 : Int32)), ic E (qs 303) 12 (fun _ => (0 : Int32)), ic E (qs 304) 12 (fun _ => (0 : Int32)), ic E (qs 305) 12 (fun _ => (0 : Int32)), oc3 (qs 314) (fun j => qs (31400 + j + 1)) 0 0 0, ic E (qs 31401) 80 (fun _ => (0 : Int32)), ic E (qs 31402) 80 (fun _ => (0 : Int32)), ic E (qs 31403) 40 (fun _ => (0 : Int32)), ic E (qs 315) 8 (fun _ => (0 : Int32)), ic E (qs 316) 8 (fun _ => (0 : Int32)), qc E (qs 4) 3 (fun _ => none), oc1 (qs 5) (fun j => qs (500 + j + 1)) 0 0 0 0 0 0 0, ic E (qs 502) 12 (fun _ => (0 : Int32)), ic E (qs 503) 12 (fun _ => (0 : Int32)), ic E (qs 504) 12 (fun _ => (0 : Int32)), ic E (qs 505) 12 (fun _ => (0 : Int32)), oc1 (qs 6) (fun j => qs (600 + j + 1)) 0 0 0 0 0 0 0, ic E (qs 602) 12 (fun _ => (0 : Int32)), ic E (qs 603) 12 (fun _ => (0 : Int32)), ic E (qs 604) 12 (fun _ => (0 : Int32)), ic E (qs 605) 12 (fun _ => (0 : Int32)), oc4 (qs 7) (fun j => qs (700 + j + 1)) 0 0 0 0 0 0 0 0 0 0 (-1), ic E (qs 701) 4096 (fun _ => (0 : Int32)), oc0 (qs 8) (fun j => qs (800 + j + 1)) 0 0 (-1), ic E (qs 802) 40 (fun _ => (0 : Int32)), ic E (qs 803) 40 (fun _ => (0 : Int32)), ic E (qs 804) 40 (fun _ => (0 : Int32)), ic E (qs 806) 40 (fun _ => (0 : Int32)), ic E (qs 9) 12 (fun _ => (0 : Int32))]) := by
  refine hm_ct_v R (fun u qs => [oc7 h0 (fun j => qs (j + 1)) 0 (-1), oc5 (qs 1) (fun j => qs (100 + j + 1)) 0 0 (-1), ic E (qs 101) 400 (fun _ => (0 : Int32)), oc2 (qs 2) (fun j => qs (200 + j + 1)) (qs 214) 0 0 0 3 0 1 1 0 0 0, ic E (qs 202) 12 (fun _ => (0 : Int32)), ic E (qs 203) 12 (fun _ => (0 : Int32)), ic E (qs 204) 12 (fun _ => (0 : Int32)), ic E (qs 205) 12 (fun _ => (0 : Int32)), oc3 (qs 214) (fun j => qs (21400 + j + 1)) 0 0 0, ic E (qs 21401) 80 (fun _ => (0 : Int32)), ic E (qs 21402) 80 (fun _ => (0 : Int32)), ic E (qs 21403) 40 (fun _ => (0 : Int32)), ic E (qs 215) 8 (fun _ => (0 : Int32)), ic E (qs 216) 8 (fun _ => (0 : Int32)), oc2 (qs 3) (fun j => qs (300 + j + 1)) (qs 314) 0 0 0 3 0 1 1 0 0 0, ic E (qs 302) 12 (fun _ => (0 : Int32)), ic E (qs 303) 12 (fun _ => (0 : Int32)), ic E (qs 304) 12 (fun _ => (0 : Int32)), ic E (qs 305) 12 (fun _ => (0 : Int32)), oc3 (qs 314) (fun j => qs (31400 + j + 1)) 0 0 0, ic E (qs 31401) 80 (fun _ => (0 : Int32)), ic E (qs 31402) 80 (fun _ => (0 : Int32)), ic E (qs 31403) 40 (fun _ => (0 : Int32)), ic E (qs 315) 8 (fun _ => (0 : Int32)), ic E (qs 316) 8 (fun _ => (0 : Int32)), qc E (qs 4) 3 (fun _ => none), oc1 (qs 5) (fun j => qs (500 + j + 1)) 0 0 0 0 0 0 0, ic E (qs 502) 12 (fun _ => (0 : Int32)), ic E (qs 503) 12 (fun _ => (0 : Int32)), ic E (qs 504) 12 (fun _ => (0 : Int32)), ic E (qs 505) 12 (fun _ => (0 : Int32)), oc1 (qs 6) (fun j => qs (600 + j + 1)) 0 0 0 0 0 0 0, ic E (qs 602) 12 (fun _ => (0 : Int32)), ic E (qs 603) 12 (fun _ => (0 : Int32)), ic E (qs 604) 12 (fun _ => (0 : Int32)), ic E (qs 605) 12 (fun _ => (0 : Int32)), oc4 (qs 7) (fun j => qs (700 + j + 1)) 0 0 0 0 0 0 0 0 0 0 (-1), ic E (qs 701) 4096 (fun _ => (0 : Int32)), oc0 (qs 8) (fun j => qs (800 + j + 1)) 0 0 (-1), ic E (qs 802) 40 (fun _ => (0 : Int32)), ic E (qs 803) 40 (fun _ => (0 : Int32)), ic E (qs 804) 40 (fun _ => (0 : Int32)), ic E (qs 806) 40 (fun _ => (0 : Int32)), ic E (qs 9) 12 (fun _ => (0 : Int32))]) (by decide) (Nat.le_of_ble_eq_true rfl) ?_
  intro p e s m args below meth c A Q ls H locs hx hb hml hown X hA Y hex hin w hl hQ
  have hl : lv_has ls 1 [(0, .ref h0)] := hl
  unfold pf_X7_init at hf
  refine lv_aload_n hx hb dX7_init_0 rfl (lv_at hl 0 rfl) ?_
  refine W.objInit hx hb hown (X.use ml_X7_1 rfl) (X.use oi_m rfl) (X.use oi_c rfl) rfl (by rw [hml]; exact hl.1) rfl dX7_init_1 (Nat.le_of_ble_eq_true rfl) (Nat.le_of_ble_eq_true rfl) ?_
  refine W.eq (g2 := F0 m 4 ls []) rfl ?_
  refine lv_aload_n hx hb dX7_init_4 rfl (lv_at hl 0 rfl) ?_
  refine hm_new (fs := [.null, .int 0, .int 0, .int 0]) cb_X5 hx hb hown X hA w cl_X7_7 is_X5 in_X5 dX7_init_5 df_X5 (Nat.le_of_ble_eq_true rfl) (Nat.le_of_ble_eq_true rfl) (fun q1 H w => ?_)
  have w : hm_W E A s.heap [(h0, .inr (6, [.null, .null, .null, .null, .null, .null, .null, .null, .null, .int 0, .int 0])), (q1, .inr (5, [.null, .int 0, .int 0, .int 0]))] H locs := w
  refine lv_dup hx hb dX7_init_8 rfl ?_
  obtain ⟨hc9, hf⟩ := pf_bv_0 hf
  refine hm_aft_v (ws' := fun qs9 => [(h0, .inr (6, [.null, .null, .null, .null, .null, .null, .null, .null, .null, .int 0, .int 0])), oc5 q1 (fun j => qs9 (j + 1)) 0 0 (-1), ic E (qs9 1) 400 (fun _ => (0 : Int32))]) (hm_runIN (rest := [.ref q1, .ref h0]) hx hb hml hown X hA Y w mw_X5_init ml_X7_9 dX7_init_9 hm_ac0 [] rfl [1] rfl rfl (ct_X5_init l E H.size q1 () hc9) rfl hl.1 ⟨⟨rfl, rfl⟩, ⟨Nat.le_of_ble_eq_true rfl, Nat.le_of_ble_eq_true rfl⟩, ⟨Nat.le_of_ble_eq_true rfl, Nat.le_of_ble_eq_true rfl⟩, Nat.le_of_ble_eq_true rfl⟩) hA w [1] [0] [0, 1, 2] rfl rfl (by decide) (fun _ => rfl) (fun qs9 H locs w => ?_)
  refine hm_putF (ws' := [(h0, .inr (6, [.ref q1, .null, .null, .null, .null, .null, .null, .null, .null, .int 0, .int 0])), oc5 q1 (fun j => qs9 (j + 1)) 0 0 (-1), ic E (qs9 1) 400 (fun _ => (0 : Int32))]) cb_X7 hx hb hown hin X w 0 0 fl_X7_10 dX7_init_12 rfl (by decide) (Nat.le_of_ble_eq_true rfl) rfl rfl rfl rfl rfl (fun H locs w => ?_)
  refine lv_aload_n hx hb dX7_init_15 rfl (lv_at hl 0 rfl) ?_
  refine hm_new (fs := [.int 0, .null, .null, .null, .null, .int 0, .int 0, .int 0, .int 0, .int 0, .int 0, .int 0, .int 0, .null, .null, .null, .int 0]) cb_X2 hx hb hown X hA w cl_X7_16 is_X2 in_X2 dX7_init_16 df_X2 (Nat.le_of_ble_eq_true rfl) (Nat.le_of_ble_eq_true rfl) (fun q2 H w => ?_)
  have w : hm_W E A s.heap [(h0, .inr (6, [.ref q1, .null, .null, .null, .null, .null, .null, .null, .null, .int 0, .int 0])), oc5 q1 (fun j => qs9 (j + 1)) 0 0 (-1), ic E (qs9 1) 400 (fun _ => (0 : Int32)), (q2, .inr (2, [.int 0, .null, .null, .null, .null, .int 0, .int 0, .int 0, .int 0, .int 0, .int 0, .int 0, .int 0, .null, .null, .null, .int 0]))] H locs := w
  refine lv_dup hx hb dX7_init_19 rfl ?_
  obtain ⟨hc20, hf⟩ := pf_bv_0 hf
  refine hm_aft_v (ws' := fun qs20 => [(h0, .inr (6, [.ref q1, .null, .null, .null, .null, .null, .null, .null, .null, .int 0, .int 0])), oc5 q1 (fun j => qs9 (j + 1)) 0 0 (-1), ic E (qs9 1) 400 (fun _ => (0 : Int32)), oc2 q2 (fun j => qs20 (j + 1)) (qs20 14) 0 0 0 3 0 1 1 0 0 0, ic E (qs20 2) 12 (fun _ => (0 : Int32)), ic E (qs20 3) 12 (fun _ => (0 : Int32)), ic E (qs20 4) 12 (fun _ => (0 : Int32)), ic E (qs20 5) 12 (fun _ => (0 : Int32)), oc3 (qs20 14) (fun j => qs20 (1400 + j + 1)) 0 0 0, ic E (qs20 1401) 80 (fun _ => (0 : Int32)), ic E (qs20 1402) 80 (fun _ => (0 : Int32)), ic E (qs20 1403) 40 (fun _ => (0 : Int32)), ic E (qs20 15) 8 (fun _ => (0 : Int32)), ic E (qs20 16) 8 (fun _ => (0 : Int32))]) (hm_runIN (rest := [.ref q2, .ref h0]) hx hb hml hown X hA Y w mw_X2_init ml_X7_18 dX7_init_20 hm_ac0 [] rfl [3] rfl rfl (ct_X2_init l E H.size q2 () hc20) rfl hl.1 ⟨⟨rfl, rfl⟩, ⟨Nat.le_of_ble_eq_true rfl, Nat.le_of_ble_eq_true rfl⟩, ⟨Nat.le_of_ble_eq_true rfl, Nat.le_of_ble_eq_true rfl⟩, Nat.le_of_ble_eq_true rfl⟩) hA w [3] [0, 1, 2] [0, 1, 2, 3, 4, 5, 6, 7, 8, 9, 10, 11, 12, 13] rfl rfl (by decide) (fun _ => rfl) (fun qs20 H locs w => ?_)
  refine hm_putF (ws' := [(h0, .inr (6, [.ref q1, .ref q2, .null, .null, .null, .null, .null, .null, .null, .int 0, .int 0])), oc5 q1 (fun j => qs9 (j + 1)) 0 0 (-1), ic E (qs9 1) 400 (fun _ => (0 : Int32)), oc2 q2 (fun j => qs20 (j + 1)) (qs20 14) 0 0 0 3 0 1 1 0 0 0, ic E (qs20 2) 12 (fun _ => (0 : Int32)), ic E (qs20 3) 12 (fun _ => (0 : Int32)), ic E (qs20 4) 12 (fun _ => (0 : Int32)), ic E (qs20 5) 12 (fun _ => (0 : Int32)), oc3 (qs20 14) (fun j => qs20 (1400 + j + 1)) 0 0 0, ic E (qs20 1401) 80 (fun _ => (0 : Int32)), ic E (qs20 1402) 80 (fun _ => (0 : Int32)), ic E (qs20 1403) 40 (fun _ => (0 : Int32)), ic E (qs20 15) 8 (fun _ => (0 : Int32)), ic E (qs20 16) 8 (fun _ => (0 : Int32))]) cb_X7 hx hb hown hin X w 0 1 fl_X7_19 dX7_init_23 rfl (by decide) (Nat.le_of_ble_eq_true rfl) rfl rfl rfl rfl rfl (fun H locs w => ?_)
  refine lv_aload_n hx hb dX7_init_26 rfl (lv_at hl 0 rfl) ?_
  refine hm_new (fs := [.int 0, .null, .null, .null, .null, .int 0, .int 0, .int 0, .int 0, .int 0, .int 0, .int 0, .int 0, .null, .null, .null, .int 0]) cb_X2 hx hb hown X hA w cl_X7_16 is_X2 in_X2 dX7_init_27 df_X2 (Nat.le_of_ble_eq_true rfl) (Nat.le_of_ble_eq_true rfl) (fun q3 H w => ?_)
  have w : hm_W E A s.heap [(h0, .inr (6, [.ref q1, .ref q2, .null, .null, .null, .null, .null, .null, .null, .int 0, .int 0])), oc5 q1 (fun j => qs9 (j + 1)) 0 0 (-1), ic E (qs9 1) 400 (fun _ => (0 : Int32)), oc2 q2 (fun j => qs20 (j + 1)) (qs20 14) 0 0 0 3 0 1 1 0 0 0, ic E (qs20 2) 12 (fun _ => (0 : Int32)), ic E (qs20 3) 12 (fun _ => (0 : Int32)), ic E (qs20 4) 12 (fun _ => (0 : Int32)), ic E (qs20 5) 12 (fun _ => (0 : Int32)), oc3 (qs20 14) (fun j => qs20 (1400 + j + 1)) 0 0 0, ic E (qs20 1401) 80 (fun _ => (0 : Int32)), ic E (qs20 1402) 80 (fun _ => (0 : Int32)), ic E (qs20 1403) 40 (fun _ => (0 : Int32)), ic E (qs20 15) 8 (fun _ => (0 : Int32)), ic E (qs20 16) 8 (fun _ => (0 : Int32)), (q3, .inr (2, [.int 0, .null, .null, .null, .null, .int 0, .int 0, .int 0, .int 0, .int 0, .int 0, .int 0, .int 0, .null, .null, .null, .int 0]))] H locs := w
  refine lv_dup hx hb dX7_init_30 rfl ?_
  obtain ⟨hc31, hf⟩ := pf_bv_0 hf
  refine hm_aft_v (ws' := fun qs31 => [(h0, .inr (6, [.ref q1, .ref q2, .null, .null, .null, .null, .null, .null, .null, .int 0, .int 0])), oc5 q1 (fun j => qs9 (j + 1)) 0 0 (-1), ic E (qs9 1) 400 (fun _ => (0 : Int32)), oc2 q2 (fun j => qs20 (j + 1)) (qs20 14) 0 0 0 3 0 1 1 0 0 0, ic E (qs20 2) 12 (fun _ => (0 : Int32)), ic E (qs20 3) 12 (fun _ => (0 : Int32)), ic E (qs20 4) 12 (fun _ => (0 : Int32)), ic E (qs20 5) 12 (fun _ => (0 : Int32)), oc3 (qs20 14) (fun j => qs20 (1400 + j + 1)) 0 0 0, ic E (qs20 1401) 80 (fun _ => (0 : Int32)), ic E (qs20 1402) 80 (fun _ => (0 : Int32)), ic E (qs20 1403) 40 (fun _ => (0 : Int32)), ic E (qs20 15) 8 (fun _ => (0 : Int32)), ic E (qs20 16) 8 (fun _ => (0 : Int32)), oc2 q3 (fun j => qs31 (j + 1)) (qs31 14) 0 0 0 3 0 1 1 0 0 0, ic E (qs31 2) 12 (fun _ => (0 : Int32)), ic E (qs31 3) 12 (fun _ => (0 : Int32)), ic E (qs31 4) 12 (fun _ => (0 : Int32)), ic E (qs31 5) 12 (fun _ => (0 : Int32)), oc3 (qs31 14) (fun j => qs31 (1400 + j + 1)) 0 0 0, ic E (qs31 1401) 80 (fun _ => (0 : Int32)), ic E (qs31 1402) 80 (fun _ => (0 : Int32)), ic E (qs31 1403) 40 (fun _ => (0 : Int32)), ic E (qs31 15) 8 (fun _ => (0 : Int32)), ic E (qs31 16) 8 (fun _ => (0 : Int32))]) (hm_runIN (rest := [.ref q3, .ref h0]) hx hb hml hown X hA Y w mw_X2_init ml_X7_18 dX7_init_31 hm_ac0 [] rfl [14] rfl rfl (ct_X2_init l E H.size q3 () hc31) rfl hl.1 ⟨⟨rfl, rfl⟩, ⟨Nat.le_of_ble_eq_true rfl, Nat.le_of_ble_eq_true rfl⟩, ⟨Nat.le_of_ble_eq_true rfl, Nat.le_of_ble_eq_true rfl⟩, Nat.le_of_ble_eq_true rfl⟩) hA w [14] [0, 1, 2, 3, 4, 5, 6, 7, 8, 9, 10, 11, 12, 13] [0, 1, 2, 3, 4, 5, 6, 7, 8, 9, 10, 11, 12, 13, 14, 15, 16, 17, 18, 19, 20, 21, 22, 23, 24] rfl rfl (by decide) (fun _ => rfl) (fun qs31 H locs w => ?_)
  refine hm_putF (ws' := [(h0, .inr (6, [.ref q1, .ref q2, .ref q3, .null, .null, .null, .null, .null, .null, .int 0, .int 0])), oc5 q1 (fun j => qs9 (j + 1)) 0 0 (-1), ic E (qs9 1) 400 (fun _ => (0 : Int32)), oc2 q2 (fun j => qs20 (j + 1)) (qs20 14) 0 0 0 3 0 1 1 0 0 0, ic E (qs20 2) 12 (fun _ => (0 : Int32)), ic E (qs20 3) 12 (fun _ => (0 : Int32)), ic E (qs20 4) 12 (fun _ => (0 : Int32)), ic E (qs20 5) 12 (fun _ => (0 : Int32)), oc3 (qs20 14) (fun j => qs20 (1400 + j + 1)) 0 0 0, ic E (qs20 1401) 80 (fun _ => (0 : Int32)), ic E (qs20 1402) 80 (fun _ => (0 : Int32)), ic E (qs20 1403) 40 (fun _ => (0 : Int32)), ic E (qs20 15) 8 (fun _ => (0 : Int32)), ic E (qs20 16) 8 (fun _ => (0 : Int32)), oc2 q3 (fun j => qs31 (j + 1)) (qs31 14) 0 0 0 3 0 1 1 0 0 0, ic E (qs31 2) 12 (fun _ => (0 : Int32)), ic E (qs31 3) 12 (fun _ => (0 : Int32)), ic E (qs31 4) 12 (fun _ => (0 : Int32)), ic E (qs31 5) 12 (fun _ => (0 : Int32)), oc3 (qs31 14) (fun j => qs31 (1400 + j + 1)) 0 0 0, ic E (qs31 1401) 80 (fun _ => (0 : Int32)), ic E (qs31 1402) 80 (fun _ => (0 : Int32)), ic E (qs31 1403) 40 (fun _ => (0 : Int32)), ic E (qs31 15) 8 (fun _ => (0 : Int32)), ic E (qs31 16) 8 (fun _ => (0 : Int32))]) cb_X7 hx hb hown hin X w 0 2 fl_X7_23 dX7_init_34 rfl (by decide) (Nat.le_of_ble_eq_true rfl) rfl rfl rfl rfl rfl (fun H locs w => ?_)
  refine lv_aload_n hx hb dX7_init_37 rfl (lv_at hl 0 rfl) ?_
  refine lv_iconst (v := 3) hx hb dX7_init_38 (by decide) ?_
  refine hm_newq (N := 3) hx hb hown X hA w cl_X7_16 dX7_init_39 (by decide) (by decide) (Nat.le_of_ble_eq_true rfl) (Nat.le_of_ble_eq_true rfl) (Nat.le_of_ble_eq_true rfl) (fun q4 H w => ?_)
  have w : hm_W E A s.heap [(h0, .inr (6, [.ref q1, .ref q2, .ref q3, .null, .null, .null, .null, .null, .null, .int 0, .int 0])), oc5 q1 (fun j => qs9 (j + 1)) 0 0 (-1), ic E (qs9 1) 400 (fun _ => (0 : Int32)), oc2 q2 (fun j => qs20 (j + 1)) (qs20 14) 0 0 0 3 0 1 1 0 0 0, ic E (qs20 2) 12 (fun _ => (0 : Int32)), ic E (qs20 3) 12 (fun _ => (0 : Int32)), ic E (qs20 4) 12 (fun _ => (0 : Int32)), ic E (qs20 5) 12 (fun _ => (0 : Int32)), oc3 (qs20 14) (fun j => qs20 (1400 + j + 1)) 0 0 0, ic E (qs20 1401) 80 (fun _ => (0 : Int32)), ic E (qs20 1402) 80 (fun _ => (0 : Int32)), ic E (qs20 1403) 40 (fun _ => (0 : Int32)), ic E (qs20 15) 8 (fun _ => (0 : Int32)), ic E (qs20 16) 8 (fun _ => (0 : Int32)), oc2 q3 (fun j => qs31 (j + 1)) (qs31 14) 0 0 0 3 0 1 1 0 0 0, ic E (qs31 2) 12 (fun _ => (0 : Int32)), ic E (qs31 3) 12 (fun _ => (0 : Int32)), ic E (qs31 4) 12 (fun _ => (0 : Int32)), ic E (qs31 5) 12 (fun _ => (0 : Int32)), oc3 (qs31 14) (fun j => qs31 (1400 + j + 1)) 0 0 0, ic E (qs31 1401) 80 (fun _ => (0 : Int32)), ic E (qs31 1402) 80 (fun _ => (0 : Int32)), ic E (qs31 1403) 40 (fun _ => (0 : Int32)), ic E (qs31 15) 8 (fun _ => (0 : Int32)), ic E (qs31 16) 8 (fun _ => (0 : Int32)), qc E q4 3 (fun _ => none)] H locs := w
  refine hm_putF (ws' := [(h0, .inr (6, [.ref q1, .ref q2, .ref q3, .ref q4, .null, .null, .null, .null, .null, .int 0, .int 0])), oc5 q1 (fun j => qs9 (j + 1)) 0 0 (-1), ic E (qs9 1) 400 (fun _ => (0 : Int32)), oc2 q2 (fun j => qs20 (j + 1)) (qs20 14) 0 0 0 3 0 1 1 0 0 0, ic E (qs20 2) 12 (fun _ => (0 : Int32)), ic E (qs20 3) 12 (fun _ => (0 : Int32)), ic E (qs20 4) 12 (fun _ => (0 : Int32)), ic E (qs20 5) 12 (fun _ => (0 : Int32)), oc3 (qs20 14) (fun j => qs20 (1400 + j + 1)) 0 0 0, ic E (qs20 1401) 80 (fun _ => (0 : Int32)), ic E (qs20 1402) 80 (fun _ => (0 : Int32)), ic E (qs20 1403) 40 (fun _ => (0 : Int32)), ic E (qs20 15) 8 (fun _ => (0 : Int32)), ic E (qs20 16) 8 (fun _ => (0 : Int32)), oc2 q3 (fun j => qs31 (j + 1)) (qs31 14) 0 0 0 3 0 1 1 0 0 0, ic E (qs31 2) 12 (fun _ => (0 : Int32)), ic E (qs31 3) 12 (fun _ => (0 : Int32)), ic E (qs31 4) 12 (fun _ => (0 : Int32)), ic E (qs31 5) 12 (fun _ => (0 : Int32)), oc3 (qs31 14) (fun j => qs31 (1400 + j + 1)) 0 0 0, ic E (qs31 1401) 80 (fun _ => (0 : Int32)), ic E (qs31 1402) 80 (fun _ => (0 : Int32)), ic E (qs31 1403) 40 (fun _ => (0 : Int32)), ic E (qs31 15) 8 (fun _ => (0 : Int32)), ic E (qs31 16) 8 (fun _ => (0 : Int32)), qc E q4 3 (fun _ => none)]) cb_X7 hx hb hown hin X w 0 3 fl_X7_26 dX7_init_42 rfl (by decide) (Nat.le_of_ble_eq_true rfl) rfl rfl rfl rfl rfl (fun H locs w => ?_)
  refine lv_aload_n hx hb dX7_init_45 rfl (lv_at hl 0 rfl) ?_
  refine hm_new (fs := [.int 0, .null, .null, .null, .null, .int 0, .int 0, .int 0, .int 0, .int 0, .int 0]) cb_X1 hx hb hown X hA w cl_X7_30 is_X1 in_X1 dX7_init_46 df_X1 (Nat.le_of_ble_eq_true rfl) (Nat.le_of_ble_eq_true rfl) (fun q5 H w => ?_)
  have w : hm_W E A s.heap [(h0, .inr (6, [.ref q1, .ref q2, .ref q3, .ref q4, .null, .null, .null, .null, .null, .int 0, .int 0])), oc5 q1 (fun j => qs9 (j + 1)) 0 0 (-1), ic E (qs9 1) 400 (fun _ => (0 : Int32)), oc2 q2 (fun j => qs20 (j + 1)) (qs20 14) 0 0 0 3 0 1 1 0 0 0, ic E (qs20 2) 12 (fun _ => (0 : Int32)), ic E (qs20 3) 12 (fun _ => (0 : Int32)), ic E (qs20 4) 12 (fun _ => (0 : Int32)), ic E (qs20 5) 12 (fun _ => (0 : Int32)), oc3 (qs20 14) (fun j => qs20 (1400 + j + 1)) 0 0 0, ic E (qs20 1401) 80 (fun _ => (0 : Int32)), ic E (qs20 1402) 80 (fun _ => (0 : Int32)), ic E (qs20 1403) 40 (fun _ => (0 : Int32)), ic E (qs20 15) 8 (fun _ => (0 : Int32)), ic E (qs20 16) 8 (fun _ => (0 : Int32)), oc2 q3 (fun j => qs31 (j + 1)) (qs31 14) 0 0 0 3 0 1 1 0 0 0, ic E (qs31 2) 12 (fun _ => (0 : Int32)), ic E (qs31 3) 12 (fun _ => (0 : Int32)), ic E (qs31 4) 12 (fun _ => (0 : Int32)), ic E (qs31 5) 12 (fun _ => (0 : Int32)), oc3 (qs31 14) (fun j => qs31 (1400 + j + 1)) 0 0 0, ic E (qs31 1401) 80 (fun _ => (0 : Int32)), ic E (qs31 1402) 80 (fun _ => (0 : Int32)), ic E (qs31 1403) 40 (fun _ => (0 : Int32)), ic E (qs31 15) 8 (fun _ => (0 : Int32)), ic E (qs31 16) 8 (fun _ => (0 : Int32)), qc E q4 3 (fun _ => none), (q5, .inr (1, [.int 0, .null, .null, .null, .null, .int 0, .int 0, .int 0, .int 0, .int 0, .int 0]))] H locs := w
  refine lv_dup hx hb dX7_init_49 rfl ?_
  obtain ⟨hc50, hf⟩ := pf_bv_0 hf
  refine hm_aft_v (ws' := fun qs50 => [(h0, .inr (6, [.ref q1, .ref q2, .ref q3, .ref q4, .null, .null, .null, .null, .null, .int 0, .int 0])), oc5 q1 (fun j => qs9 (j + 1)) 0 0 (-1), ic E (qs9 1) 400 (fun _ => (0 : Int32)), oc2 q2 (fun j => qs20 (j + 1)) (qs20 14) 0 0 0 3 0 1 1 0 0 0, ic E (qs20 2) 12 (fun _ => (0 : Int32)), ic E (qs20 3) 12 (fun _ => (0 : Int32)), ic E (qs20 4) 12 (fun _ => (0 : Int32)), ic E (qs20 5) 12 (fun _ => (0 : Int32)), oc3 (qs20 14) (fun j => qs20 (1400 + j + 1)) 0 0 0, ic E (qs20 1401) 80 (fun _ => (0 : Int32)), ic E (qs20 1402) 80 (fun _ => (0 : Int32)), ic E (qs20 1403) 40 (fun _ => (0 : Int32)), ic E (qs20 15) 8 (fun _ => (0 : Int32)), ic E (qs20 16) 8 (fun _ => (0 : Int32)), oc2 q3 (fun j => qs31 (j + 1)) (qs31 14) 0 0 0 3 0 1 1 0 0 0, ic E (qs31 2) 12 (fun _ => (0 : Int32)), ic E (qs31 3) 12 (fun _ => (0 : Int32)), ic E (qs31 4) 12 (fun _ => (0 : Int32)), ic E (qs31 5) 12 (fun _ => (0 : Int32)), oc3 (qs31 14) (fun j => qs31 (1400 + j + 1)) 0 0 0, ic E (qs31 1401) 80 (fun _ => (0 : Int32)), ic E (qs31 1402) 80 (fun _ => (0 : Int32)), ic E (qs31 1403) 40 (fun _ => (0 : Int32)), ic E (qs31 15) 8 (fun _ => (0 : Int32)), ic E (qs31 16) 8 (fun _ => (0 : Int32)), qc E q4 3 (fun _ => none), oc1 q5 (fun j => qs50 (j + 1)) 0 0 0 0 0 0 0, ic E (qs50 2) 12 (fun _ => (0 : Int32)), ic E (qs50 3) 12 (fun _ => (0 : Int32)), ic E (qs50 4) 12 (fun _ => (0 : Int32)), ic E (qs50 5) 12 (fun _ => (0 : Int32))]) (hm_runIN (rest := [.ref q5, .ref h0]) hx hb hml hown X hA Y w mw_X1_init ml_X7_32 dX7_init_50 hm_ac0 [] rfl [26] rfl rfl (ct_X1_init l E H.size q5 () hc50) rfl hl.1 ⟨⟨rfl, rfl⟩, ⟨Nat.le_of_ble_eq_true rfl, Nat.le_of_ble_eq_true rfl⟩, ⟨Nat.le_of_ble_eq_true rfl, Nat.le_of_ble_eq_true rfl⟩, Nat.le_of_ble_eq_true rfl⟩) hA w [26] [0, 1, 2, 3, 4, 5, 6, 7, 8, 9, 10, 11, 12, 13, 14, 15, 16, 17, 18, 19, 20, 21, 22, 23, 24, 25] [0, 1, 2, 3, 4, 5, 6, 7, 8, 9, 10, 11, 12, 13, 14, 15, 16, 17, 18, 19, 20, 21, 22, 23, 24, 25, 26, 27, 28, 29, 30] rfl rfl (by decide) (fun _ => rfl) (fun qs50 H locs w => ?_)
  refine hm_putF (ws' := [(h0, .inr (6, [.ref q1, .ref q2, .ref q3, .ref q4, .ref q5, .null, .null, .null, .null, .int 0, .int 0])), oc5 q1 (fun j => qs9 (j + 1)) 0 0 (-1), ic E (qs9 1) 400 (fun _ => (0 : Int32)), oc2 q2 (fun j => qs20 (j + 1)) (qs20 14) 0 0 0 3 0 1 1 0 0 0, ic E (qs20 2) 12 (fun _ => (0 : Int32)), ic E (qs20 3) 12 (fun _ => (0 : Int32)), ic E (qs20 4) 12 (fun _ => (0 : Int32)), ic E (qs20 5) 12 (fun _ => (0 : Int32)), oc3 (qs20 14) (fun j => qs20 (1400 + j + 1)) 0 0 0, ic E (qs20 1401) 80 (fun _ => (0 : Int32)), ic E (qs20 1402) 80 (fun _ => (0 : Int32)), ic E (qs20 1403) 40 (fun _ => (0 : Int32)), ic E (qs20 15) 8 (fun _ => (0 : Int32)), ic E (qs20 16) 8 (fun _ => (0 : Int32)), oc2 q3 (fun j => qs31 (j + 1)) (qs31 14) 0 0 0 3 0 1 1 0 0 0, ic E (qs31 2) 12 (fun _ => (0 : Int32)), ic E (qs31 3) 12 (fun _ => (0 : Int32)), ic E (qs31 4) 12 (fun _ => (0 : Int32)), ic E (qs31 5) 12 (fun _ => (0 : Int32)), oc3 (qs31 14) (fun j => qs31 (1400 + j + 1)) 0 0 0, ic E (qs31 1401) 80 (fun _ => (0 : Int32)), ic E (qs31 1402) 80 (fun _ => (0 : Int32)), ic E (qs31 1403) 40 (fun _ => (0 : Int32)), ic E (qs31 15) 8 (fun _ => (0 : Int32)), ic E (qs31 16) 8 (fun _ => (0 : Int32)), qc E q4 3 (fun _ => none), oc1 q5 (fun j => qs50 (j + 1)) 0 0 0 0 0 0 0, ic E (qs50 2) 12 (fun _ => (0 : Int32)), ic E (qs50 3) 12 (fun _ => (0 : Int32)), ic E (qs50 4) 12 (fun _ => (0 : Int32)), ic E (qs50 5) 12 (fun _ => (0 : Int32))]) cb_X7 hx hb hown hin X w 0 4 fl_X7_33 dX7_init_53 rfl (by decide) (Nat.le_of_ble_eq_true rfl) rfl rfl rfl rfl rfl (fun H locs w => ?_)
  refine lv_aload_n hx hb dX7_init_56 rfl (lv_at hl 0 rfl) ?_
  refine hm_new (fs := [.int 0, .null, .null, .null, .null, .int 0, .int 0, .int 0, .int 0, .int 0, .int 0]) cb_X1 hx hb hown X hA w cl_X7_30 is_X1 in_X1 dX7_init_57 df_X1 (Nat.le_of_ble_eq_true rfl) (Nat.le_of_ble_eq_true rfl) (fun q6 H w => ?_)
  have w : hm_W E A s.heap [(h0, .inr (6, [.ref q1, .ref q2, .ref q3, .ref q4, .ref q5, .null, .null, .null, .null, .int 0, .int 0])), oc5 q1 (fun j => qs9 (j + 1)) 0 0 (-1), ic E (qs9 1) 400 (fun _ => (0 : Int32)), oc2 q2 (fun j => qs20 (j + 1)) (qs20 14) 0 0 0 3 0 1 1 0 0 0, ic E (qs20 2) 12 (fun _ => (0 : Int32)), ic E (qs20 3) 12 (fun _ => (0 : Int32)), ic E (qs20 4) 12 (fun _ => (0 : Int32)), ic E (qs20 5) 12 (fun _ => (0 : Int32)), oc3 (qs20 14) (fun j => qs20 (1400 + j + 1)) 0 0 0, ic E (qs20 1401) 80 (fun _ => (0 : Int32)), ic E (qs20 1402) 80 (fun _ => (0 : Int32)), ic E (qs20 1403) 40 (fun _ => (0 : Int32)), ic E (qs20 15) 8 (fun _ => (0 : Int32)), ic E (qs20 16) 8 (fun _ => (0 : Int32)), oc2 q3 (fun j => qs31 (j + 1)) (qs31 14) 0 0 0 3 0 1 1 0 0 0, ic E (qs31 2) 12 (fun _ => (0 : Int32)), ic E (qs31 3) 12 (fun _ => (0 : Int32)), ic E (qs31 4) 12 (fun _ => (0 : Int32)), ic E (qs31 5) 12 (fun _ => (0 : Int32)), oc3 (qs31 14) (fun j => qs31 (1400 + j + 1)) 0 0 0, ic E (qs31 1401) 80 (fun _ => (0 : Int32)), ic E (qs31 1402) 80 (fun _ => (0 : Int32)), ic E (qs31 1403) 40 (fun _ => (0 : Int32)), ic E (qs31 15) 8 (fun _ => (0 : Int32)), ic E (qs31 16) 8 (fun _ => (0 : Int32)), qc E q4 3 (fun _ => none), oc1 q5 (fun j => qs50 (j + 1)) 0 0 0 0 0 0 0, ic E (qs50 2) 12 (fun _ => (0 : Int32)), ic E (qs50 3) 12 (fun _ => (0 : Int32)), ic E (qs50 4) 12 (fun _ => (0 : Int32)), ic E (qs50 5) 12 (fun _ => (0 : Int32)), (q6, .inr (1, [.int 0, .null, .null, .null, .null, .int 0, .int 0, .int 0, .int 0, .int 0, .int 0]))] H locs := w
  refine lv_dup hx hb dX7_init_60 rfl ?_
  obtain ⟨hc61, hf⟩ := pf_bv_0 hf
  refine hm_aft_v (ws' := fun qs61 => [(h0, .inr (6, [.ref q1, .ref q2, .ref q3, .ref q4, .ref q5, .null, .null, .null, .null, .int 0, .int 0])), oc5 q1 (fun j => qs9 (j + 1)) 0 0 (-1), ic E (qs9 1) 400 (fun _ => (0 : Int32)), oc2 q2 (fun j => qs20 (j + 1)) (qs20 14) 0 0 0 3 0 1 1 0 0 0, ic E (qs20 2) 12 (fun _ => (0 : Int32)), ic E (qs20 3) 12 (fun _ => (0 : Int32)), ic E (qs20 4) 12 (fun _ => (0 : Int32)), ic E (qs20 5) 12 (fun _ => (0 : Int32)), oc3 (qs20 14) (fun j => qs20 (1400 + j + 1)) 0 0 0, ic E (qs20 1401) 80 (fun _ => (0 : Int32)), ic E (qs20 1402) 80 (fun _ => (0 : Int32)), ic E (qs20 1403) 40 (fun _ => (0 : Int32)), ic E (qs20 15) 8 (fun _ => (0 : Int32)), ic E (qs20 16) 8 (fun _ => (0 : Int32)), oc2 q3 (fun j => qs31 (j + 1)) (qs31 14) 0 0 0 3 0 1 1 0 0 0, ic E (qs31 2) 12 (fun _ => (0 : Int32)), ic E (qs31 3) 12 (fun _ => (0 : Int32)), ic E (qs31 4) 12 (fun _ => (0 : Int32)), ic E (qs31 5) 12 (fun _ => (0 : Int32)), oc3 (qs31 14) (fun j => qs31 (1400 + j + 1)) 0 0 0, ic E (qs31 1401) 80 (fun _ => (0 : Int32)), ic E (qs31 1402) 80 (fun _ => (0 : Int32)), ic E (qs31 1403) 40 (fun _ => (0 : Int32)), ic E (qs31 15) 8 (fun _ => (0 : Int32)), ic E (qs31 16) 8 (fun _ => (0 : Int32)), qc E q4 3 (fun _ => none), oc1 q5 (fun j => qs50 (j + 1)) 0 0 0 0 0 0 0, ic E (qs50 2) 12 (fun _ => (0 : Int32)), ic E (qs50 3) 12 (fun _ => (0 : Int32)), ic E (qs50 4) 12 (fun _ => (0 : Int32)), ic E (qs50 5) 12 (fun _ => (0 : Int32)), oc1 q6 (fun j => qs61 (j + 1)) 0 0 0 0 0 0 0, ic E (qs61 2) 12 (fun _ => (0 : Int32)), ic E (qs61 3) 12 (fun _ => (0 : Int32)), ic E (qs61 4) 12 (fun _ => (0 : Int32)), ic E (qs61 5) 12 (fun _ => (0 : Int32))]) (hm_runIN (rest := [.ref q6, .ref h0]) hx hb hml hown X hA Y w mw_X1_init ml_X7_32 dX7_init_61 hm_ac0 [] rfl [31] rfl rfl (ct_X1_init l E H.size q6 () hc61) rfl hl.1 ⟨⟨rfl, rfl⟩, ⟨Nat.le_of_ble_eq_true rfl, Nat.le_of_ble_eq_true rfl⟩, ⟨Nat.le_of_ble_eq_true rfl, Nat.le_of_ble_eq_true rfl⟩, Nat.le_of_ble_eq_true rfl⟩) hA w [31] [0, 1, 2, 3, 4, 5, 6, 7, 8, 9, 10, 11, 12, 13, 14, 15, 16, 17, 18, 19, 20, 21, 22, 23, 24, 25, 26, 27, 28, 29, 30] [0, 1, 2, 3, 4, 5, 6, 7, 8, 9, 10, 11, 12, 13, 14, 15, 16, 17, 18, 19, 20, 21, 22, 23, 24, 25, 26, 27, 28, 29, 30, 31, 32, 33, 34, 35] rfl rfl (by decide) (fun _ => rfl) (fun qs61 H locs w => ?_)
  refine hm_putF (ws' := [(h0, .inr (6, [.ref q1, .ref q2, .ref q3, .ref q4, .ref q5, .ref q6, .null, .null, .null, .int 0, .int 0])), oc5 q1 (fun j => qs9 (j + 1)) 0 0 (-1), ic E (qs9 1) 400 (fun _ => (0 : Int32)), oc2 q2 (fun j => qs20 (j + 1)) (qs20 14) 0 0 0 3 0 1 1 0 0 0, ic E (qs20 2) 12 (fun _ => (0 : Int32)), ic E (qs20 3) 12 (fun _ => (0 : Int32)), ic E (qs20 4) 12 (fun _ => (0 : Int32)), ic E (qs20 5) 12 (fun _ => (0 : Int32)), oc3 (qs20 14) (fun j => qs20 (1400 + j + 1)) 0 0 0, ic E (qs20 1401) 80 (fun _ => (0 : Int32)), ic E (qs20 1402) 80 (fun _ => (0 : Int32)), ic E (qs20 1403) 40 (fun _ => (0 : Int32)), ic E (qs20 15) 8 (fun _ => (0 : Int32)), ic E (qs20 16) 8 (fun _ => (0 : Int32)), oc2 q3 (fun j => qs31 (j + 1)) (qs31 14) 0 0 0 3 0 1 1 0 0 0, ic E (qs31 2) 12 (fun _ => (0 : Int32)), ic E (qs31 3) 12 (fun _ => (0 : Int32)), ic E (qs31 4) 12 (fun _ => (0 : Int32)), ic E (qs31 5) 12 (fun _ => (0 : Int32)), oc3 (qs31 14) (fun j => qs31 (1400 + j + 1)) 0 0 0, ic E (qs31 1401) 80 (fun _ => (0 : Int32)), ic E (qs31 1402) 80 (fun _ => (0 : Int32)), ic E (qs31 1403) 40 (fun _ => (0 : Int32)), ic E (qs31 15) 8 (fun _ => (0 : Int32)), ic E (qs31 16) 8 (fun _ => (0 : Int32)), qc E q4 3 (fun _ => none), oc1 q5 (fun j => qs50 (j + 1)) 0 0 0 0 0 0 0, ic E (qs50 2) 12 (fun _ => (0 : Int32)), ic E (qs50 3) 12 (fun _ => (0 : Int32)), ic E (qs50 4) 12 (fun _ => (0 : Int32)), ic E (qs50 5) 12 (fun _ => (0 : Int32)), oc1 q6 (fun j => qs61 (j + 1)) 0 0 0 0 0 0 0, ic E (qs61 2) 12 (fun _ => (0 : Int32)), ic E (qs61 3) 12 (fun _ => (0 : Int32)), ic E (qs61 4) 12 (fun _ => (0 : Int32)), ic E (qs61 5) 12 (fun _ => (0 : Int32))]) cb_X7 hx hb hown hin X w 0 5 fl_X7_37 dX7_init_64 rfl (by decide) (Nat.le_of_ble_eq_true rfl) rfl rfl rfl rfl rfl (fun H locs w => ?_)
  refine lv_aload_n hx hb dX7_init_67 rfl (lv_at hl 0 rfl) ?_
  refine hm_new (fs := [.null, .int 0, .int 0, .int 0, .int 0, .int 0, .int 0, .int 0, .int 0, .int 0, .int 0, .int 0]) cb_X4 hx hb hown X hA w cl_X7_40 is_X4 in_X4 dX7_init_68 df_X4 (Nat.le_of_ble_eq_true rfl) (Nat.le_of_ble_eq_true rfl) (fun q7 H w => ?_)
  have w : hm_W E A s.heap [(h0, .inr (6, [.ref q1, .ref q2, .ref q3, .ref q4, .ref q5, .ref q6, .null, .null, .null, .int 0, .int 0])), oc5 q1 (fun j => qs9 (j + 1)) 0 0 (-1), ic E (qs9 1) 400 (fun _ => (0 : Int32)), oc2 q2 (fun j => qs20 (j + 1)) (qs20 14) 0 0 0 3 0 1 1 0 0 0, ic E (qs20 2) 12 (fun _ => (0 : Int32)), ic E (qs20 3) 12 (fun _ => (0 : Int32)), ic E (qs20 4) 12 (fun _ => (0 : Int32)), ic E (qs20 5) 12 (fun _ => (0 : Int32)), oc3 (qs20 14) (fun j => qs20 (1400 + j + 1)) 0 0 0, ic E (qs20 1401) 80 (fun _ => (0 : Int32)), ic E (qs20 1402) 80 (fun _ => (0 : Int32)), ic E (qs20 1403) 40 (fun _ => (0 : Int32)), ic E (qs20 15) 8 (fun _ => (0 : Int32)), ic E (qs20 16) 8 (fun _ => (0 : Int32)), oc2 q3 (fun j => qs31 (j + 1)) (qs31 14) 0 0 0 3 0 1 1 0 0 0, ic E (qs31 2) 12 (fun _ => (0 : Int32)), ic E (qs31 3) 12 (fun _ => (0 : Int32)), ic E (qs31 4) 12 (fun _ => (0 : Int32)), ic E (qs31 5) 12 (fun _ => (0 : Int32)), oc3 (qs31 14) (fun j => qs31 (1400 + j + 1)) 0 0 0, ic E (qs31 1401) 80 (fun _ => (0 : Int32)), ic E (qs31 1402) 80 (fun _ => (0 : Int32)), ic E (qs31 1403) 40 (fun _ => (0 : Int32)), ic E (qs31 15) 8 (fun _ => (0 : Int32)), ic E (qs31 16) 8 (fun _ => (0 : Int32)), qc E q4 3 (fun _ => none), oc1 q5 (fun j => qs50 (j + 1)) 0 0 0 0 0 0 0, ic E (qs50 2) 12 (fun _ => (0 : Int32)), ic E (qs50 3) 12 (fun _ => (0 : Int32)), ic E (qs50 4) 12 (fun _ => (0 : Int32)), ic E (qs50 5) 12 (fun _ => (0 : Int32)), oc1 q6 (fun j => qs61 (j + 1)) 0 0 0 0 0 0 0, ic E (qs61 2) 12 (fun _ => (0 : Int32)), ic E (qs61 3) 12 (fun _ => (0 : Int32)), ic E (qs61 4) 12 (fun _ => (0 : Int32)), ic E (qs61 5) 12 (fun _ => (0 : Int32)), (q7, .inr (4, [.null, .int 0, .int 0, .int 0, .int 0, .int 0, .int 0, .int 0, .int 0, .int 0, .int 0, .int 0]))] H locs := w
  refine lv_dup hx hb dX7_init_71 rfl ?_
  obtain ⟨hc72, hf⟩ := pf_bv_0 hf
  refine hm_aft_v (ws' := fun qs72 => [(h0, .inr (6, [.ref q1, .ref q2, .ref q3, .ref q4, .ref q5, .ref q6, .null, .null, .null, .int 0, .int 0])), oc5 q1 (fun j => qs9 (j + 1)) 0 0 (-1), ic E (qs9 1) 400 (fun _ => (0 : Int32)), oc2 q2 (fun j => qs20 (j + 1)) (qs20 14) 0 0 0 3 0 1 1 0 0 0, ic E (qs20 2) 12 (fun _ => (0 : Int32)), ic E (qs20 3) 12 (fun _ => (0 : Int32)), ic E (qs20 4) 12 (fun _ => (0 : Int32)), ic E (qs20 5) 12 (fun _ => (0 : Int32)), oc3 (qs20 14) (fun j => qs20 (1400 + j + 1)) 0 0 0, ic E (qs20 1401) 80 (fun _ => (0 : Int32)), ic E (qs20 1402) 80 (fun _ => (0 : Int32)), ic E (qs20 1403) 40 (fun _ => (0 : Int32)), ic E (qs20 15) 8 (fun _ => (0 : Int32)), ic E (qs20 16) 8 (fun _ => (0 : Int32)), oc2 q3 (fun j => qs31 (j + 1)) (qs31 14) 0 0 0 3 0 1 1 0 0 0, ic E (qs31 2) 12 (fun _ => (0 : Int32)), ic E (qs31 3) 12 (fun _ => (0 : Int32)), ic E (qs31 4) 12 (fun _ => (0 : Int32)), ic E (qs31 5) 12 (fun _ => (0 : Int32)), oc3 (qs31 14) (fun j => qs31 (1400 + j + 1)) 0 0 0, ic E (qs31 1401) 80 (fun _ => (0 : Int32)), ic E (qs31 1402) 80 (fun _ => (0 : Int32)), ic E (qs31 1403) 40 (fun _ => (0 : Int32)), ic E (qs31 15) 8 (fun _ => (0 : Int32)), ic E (qs31 16) 8 (fun _ => (0 : Int32)), qc E q4 3 (fun _ => none), oc1 q5 (fun j => qs50 (j + 1)) 0 0 0 0 0 0 0, ic E (qs50 2) 12 (fun _ => (0 : Int32)), ic E (qs50 3) 12 (fun _ => (0 : Int32)), ic E (qs50 4) 12 (fun _ => (0 : Int32)), ic E (qs50 5) 12 (fun _ => (0 : Int32)), oc1 q6 (fun j => qs61 (j + 1)) 0 0 0 0 0 0 0, ic E (qs61 2) 12 (fun _ => (0 : Int32)), ic E (qs61 3) 12 (fun _ => (0 : Int32)), ic E (qs61 4) 12 (fun _ => (0 : Int32)), ic E (qs61 5) 12 (fun _ => (0 : Int32)), oc4 q7 (fun j => qs72 (j + 1)) 0 0 0 0 0 0 0 0 0 0 (-1), ic E (qs72 1) 4096 (fun _ => (0 : Int32))]) (hm_runIN (rest := [.ref q7, .ref h0]) hx hb hml hown X hA Y w mw_X4_init ml_X7_42 dX7_init_72 hm_ac0 [] rfl [36] rfl rfl (ct_X4_init l E H.size q7 () hc72) rfl hl.1 ⟨⟨rfl, rfl⟩, ⟨Nat.le_of_ble_eq_true rfl, Nat.le_of_ble_eq_true rfl⟩, ⟨Nat.le_of_ble_eq_true rfl, Nat.le_of_ble_eq_true rfl⟩, Nat.le_of_ble_eq_true rfl⟩) hA w [36] [0, 1, 2, 3, 4, 5, 6, 7, 8, 9, 10, 11, 12, 13, 14, 15, 16, 17, 18, 19, 20, 21, 22, 23, 24, 25, 26, 27, 28, 29, 30, 31, 32, 33, 34, 35] [0, 1, 2, 3, 4, 5, 6, 7, 8, 9, 10, 11, 12, 13, 14, 15, 16, 17, 18, 19, 20, 21, 22, 23, 24, 25, 26, 27, 28, 29, 30, 31, 32, 33, 34, 35, 36, 37] rfl rfl (by decide) (fun _ => rfl) (fun qs72 H locs w => ?_)
  refine hm_putF (ws' := [(h0, .inr (6, [.ref q1, .ref q2, .ref q3, .ref q4, .ref q5, .ref q6, .ref q7, .null, .null, .int 0, .int 0])), oc5 q1 (fun j => qs9 (j + 1)) 0 0 (-1), ic E (qs9 1) 400 (fun _ => (0 : Int32)), oc2 q2 (fun j => qs20 (j + 1)) (qs20 14) 0 0 0 3 0 1 1 0 0 0, ic E (qs20 2) 12 (fun _ => (0 : Int32)), ic E (qs20 3) 12 (fun _ => (0 : Int32)), ic E (qs20 4) 12 (fun _ => (0 : Int32)), ic E (qs20 5) 12 (fun _ => (0 : Int32)), oc3 (qs20 14) (fun j => qs20 (1400 + j + 1)) 0 0 0, ic E (qs20 1401) 80 (fun _ => (0 : Int32)), ic E (qs20 1402) 80 (fun _ => (0 : Int32)), ic E (qs20 1403) 40 (fun _ => (0 : Int32)), ic E (qs20 15) 8 (fun _ => (0 : Int32)), ic E (qs20 16) 8 (fun _ => (0 : Int32)), oc2 q3 (fun j => qs31 (j + 1)) (qs31 14) 0 0 0 3 0 1 1 0 0 0, ic E (qs31 2) 12 (fun _ => (0 : Int32)), ic E (qs31 3) 12 (fun _ => (0 : Int32)), ic E (qs31 4) 12 (fun _ => (0 : Int32)), ic E (qs31 5) 12 (fun _ => (0 : Int32)), oc3 (qs31 14) (fun j => qs31 (1400 + j + 1)) 0 0 0, ic E (qs31 1401) 80 (fun _ => (0 : Int32)), ic E (qs31 1402) 80 (fun _ => (0 : Int32)), ic E (qs31 1403) 40 (fun _ => (0 : Int32)), ic E (qs31 15) 8 (fun _ => (0 : Int32)), ic E (qs31 16) 8 (fun _ => (0 : Int32)), qc E q4 3 (fun _ => none), oc1 q5 (fun j => qs50 (j + 1)) 0 0 0 0 0 0 0, ic E (qs50 2) 12 (fun _ => (0 : Int32)), ic E (qs50 3) 12 (fun _ => (0 : Int32)), ic E (qs50 4) 12 (fun _ => (0 : Int32)), ic E (qs50 5) 12 (fun _ => (0 : Int32)), oc1 q6 (fun j => qs61 (j + 1)) 0 0 0 0 0 0 0, ic E (qs61 2) 12 (fun _ => (0 : Int32)), ic E (qs61 3) 12 (fun _ => (0 : Int32)), ic E (qs61 4) 12 (fun _ => (0 : Int32)), ic E (qs61 5) 12 (fun _ => (0 : Int32)), oc4 q7 (fun j => qs72 (j + 1)) 0 0 0 0 0 0 0 0 0 0 (-1), ic E (qs72 1) 4096 (fun _ => (0 : Int32))]) cb_X7 hx hb hown hin X w 0 6 fl_X7_43 dX7_init_75 rfl (by decide) (Nat.le_of_ble_eq_true rfl) rfl rfl rfl rfl rfl (fun H locs w => ?_)
  refine lv_aload_n hx hb dX7_init_78 rfl (lv_at hl 0 rfl) ?_
  refine hm_new (fs := [.int 0, .null, .null, .null, .int 0, .null, .int 0]) cb_X0 hx hb hown X hA w cl_X7_47 is_X0 in_X0 dX7_init_79 df_X0 (Nat.le_of_ble_eq_true rfl) (Nat.le_of_ble_eq_true rfl) (fun q8 H w => ?_)
  have w : hm_W E A s.heap [(h0, .inr (6, [.ref q1, .ref q2, .ref q3, .ref q4, .ref q5, .ref q6, .ref q7, .null, .null, .int 0, .int 0])), oc5 q1 (fun j => qs9 (j + 1)) 0 0 (-1), ic E (qs9 1) 400 (fun _ => (0 : Int32)), oc2 q2 (fun j => qs20 (j + 1)) (qs20 14) 0 0 0 3 0 1 1 0 0 0, ic E (qs20 2) 12 (fun _ => (0 : Int32)), ic E (qs20 3) 12 (fun _ => (0 : Int32)), ic E (qs20 4) 12 (fun _ => (0 : Int32)), ic E (qs20 5) 12 (fun _ => (0 : Int32)), oc3 (qs20 14) (fun j => qs20 (1400 + j + 1)) 0 0 0, ic E (qs20 1401) 80 (fun _ => (0 : Int32)), ic E (qs20 1402) 80 (fun _ => (0 : Int32)), ic E (qs20 1403) 40 (fun _ => (0 : Int32)), ic E (qs20 15) 8 (fun _ => (0 : Int32)), ic E (qs20 16) 8 (fun _ => (0 : Int32)), oc2 q3 (fun j => qs31 (j + 1)) (qs31 14) 0 0 0 3 0 1 1 0 0 0, ic E (qs31 2) 12 (fun _ => (0 : Int32)), ic E (qs31 3) 12 (fun _ => (0 : Int32)), ic E (qs31 4) 12 (fun _ => (0 : Int32)), ic E (qs31 5) 12 (fun _ => (0 : Int32)), oc3 (qs31 14) (fun j => qs31 (1400 + j + 1)) 0 0 0, ic E (qs31 1401) 80 (fun _ => (0 : Int32)), ic E (qs31 1402) 80 (fun _ => (0 : Int32)), ic E (qs31 1403) 40 (fun _ => (0 : Int32)), ic E (qs31 15) 8 (fun _ => (0 : Int32)), ic E (qs31 16) 8 (fun _ => (0 : Int32)), qc E q4 3 (fun _ => none), oc1 q5 (fun j => qs50 (j + 1)) 0 0 0 0 0 0 0, ic E (qs50 2) 12 (fun _ => (0 : Int32)), ic E (qs50 3) 12 (fun _ => (0 : Int32)), ic E (qs50 4) 12 (fun _ => (0 : Int32)), ic E (qs50 5) 12 (fun _ => (0 : Int32)), oc1 q6 (fun j => qs61 (j + 1)) 0 0 0 0 0 0 0, ic E (qs61 2) 12 (fun _ => (0 : Int32)), ic E (qs61 3) 12 (fun _ => (0 : Int32)), ic E (qs61 4) 12 (fun _ => (0 : Int32)), ic E (qs61 5) 12 (fun _ => (0 : Int32)), oc4 q7 (fun j => qs72 (j + 1)) 0 0 0 0 0 0 0 0 0 0 (-1), ic E (qs72 1) 4096 (fun _ => (0 : Int32)), (q8, .inr (0, [.int 0, .null, .null, .null, .int 0, .null, .int 0]))] H locs := w
  refine lv_dup hx hb dX7_init_82 rfl ?_
  obtain ⟨hc83, hf⟩ := pf_bv_0 hf
  refine hm_aft_v (ws' := fun qs83 => [(h0, .inr (6, [.ref q1, .ref q2, .ref q3, .ref q4, .ref q5, .ref q6, .ref q7, .null, .null, .int 0, .int 0])), oc5 q1 (fun j => qs9 (j + 1)) 0 0 (-1), ic E (qs9 1) 400 (fun _ => (0 : Int32)), oc2 q2 (fun j => qs20 (j + 1)) (qs20 14) 0 0 0 3 0 1 1 0 0 0, ic E (qs20 2) 12 (fun _ => (0 : Int32)), ic E (qs20 3) 12 (fun _ => (0 : Int32)), ic E (qs20 4) 12 (fun _ => (0 : Int32)), ic E (qs20 5) 12 (fun _ => (0 : Int32)), oc3 (qs20 14) (fun j => qs20 (1400 + j + 1)) 0 0 0, ic E (qs20 1401) 80 (fun _ => (0 : Int32)), ic E (qs20 1402) 80 (fun _ => (0 : Int32)), ic E (qs20 1403) 40 (fun _ => (0 : Int32)), ic E (qs20 15) 8 (fun _ => (0 : Int32)), ic E (qs20 16) 8 (fun _ => (0 : Int32)), oc2 q3 (fun j => qs31 (j + 1)) (qs31 14) 0 0 0 3 0 1 1 0 0 0, ic E (qs31 2) 12 (fun _ => (0 : Int32)), ic E (qs31 3) 12 (fun _ => (0 : Int32)), ic E (qs31 4) 12 (fun _ => (0 : Int32)), ic E (qs31 5) 12 (fun _ => (0 : Int32)), oc3 (qs31 14) (fun j => qs31 (1400 + j + 1)) 0 0 0, ic E (qs31 1401) 80 (fun _ => (0 : Int32)), ic E (qs31 1402) 80 (fun _ => (0 : Int32)), ic E (qs31 1403) 40 (fun _ => (0 : Int32)), ic E (qs31 15) 8 (fun _ => (0 : Int32)), ic E (qs31 16) 8 (fun _ => (0 : Int32)), qc E q4 3 (fun _ => none), oc1 q5 (fun j => qs50 (j + 1)) 0 0 0 0 0 0 0, ic E (qs50 2) 12 (fun _ => (0 : Int32)), ic E (qs50 3) 12 (fun _ => (0 : Int32)), ic E (qs50 4) 12 (fun _ => (0 : Int32)), ic E (qs50 5) 12 (fun _ => (0 : Int32)), oc1 q6 (fun j => qs61 (j + 1)) 0 0 0 0 0 0 0, ic E (qs61 2) 12 (fun _ => (0 : Int32)), ic E (qs61 3) 12 (fun _ => (0 : Int32)), ic E (qs61 4) 12 (fun _ => (0 : Int32)), ic E (qs61 5) 12 (fun _ => (0 : Int32)), oc4 q7 (fun j => qs72 (j + 1)) 0 0 0 0 0 0 0 0 0 0 (-1), ic E (qs72 1) 4096 (fun _ => (0 : Int32)), oc0 q8 (fun j => qs83 (j + 1)) 0 0 (-1), ic E (qs83 2) 40 (fun _ => (0 : Int32)), ic E (qs83 3) 40 (fun _ => (0 : Int32)), ic E (qs83 4) 40 (fun _ => (0 : Int32)), ic E (qs83 6) 40 (fun _ => (0 : Int32))]) (hm_runIN (rest := [.ref q8, .ref h0]) hx hb hml hown X hA Y w mw_X0_init ml_X7_49 dX7_init_83 hm_ac0 [] rfl [38] rfl rfl (ct_X0_init l E H.size q8 () hc83) rfl hl.1 ⟨⟨rfl, rfl⟩, ⟨Nat.le_of_ble_eq_true rfl, Nat.le_of_ble_eq_true rfl⟩, ⟨Nat.le_of_ble_eq_true rfl, Nat.le_of_ble_eq_true rfl⟩, Nat.le_of_ble_eq_true rfl⟩) hA w [38] [0, 1, 2, 3, 4, 5, 6, 7, 8, 9, 10, 11, 12, 13, 14, 15, 16, 17, 18, 19, 20, 21, 22, 23, 24, 25, 26, 27, 28, 29, 30, 31, 32, 33, 34, 35, 36, 37] [0, 1, 2, 3, 4, 5, 6, 7, 8, 9, 10, 11, 12, 13, 14, 15, 16, 17, 18, 19, 20, 21, 22, 23, 24, 25, 26, 27, 28, 29, 30, 31, 32, 33, 34, 35, 36, 37, 38, 39, 40, 41, 42] rfl rfl (by decide) (fun _ => rfl) (fun qs83 H locs w => ?_)
  refine hm_putF (ws' := [(h0, .inr (6, [.ref q1, .ref q2, .ref q3, .ref q4, .ref q5, .ref q6, .ref q7, .ref q8, .null, .int 0, .int 0])), oc5 q1 (fun j => qs9 (j + 1)) 0 0 (-1), ic E (qs9 1) 400 (fun _ => (0 : Int32)), oc2 q2 (fun j => qs20 (j + 1)) (qs20 14) 0 0 0 3 0 1 1 0 0 0, ic E (qs20 2) 12 (fun _ => (0 : Int32)), ic E (qs20 3) 12 (fun _ => (0 : Int32)), ic E (qs20 4) 12 (fun _ => (0 : Int32)), ic E (qs20 5) 12 (fun _ => (0 : Int32)), oc3 (qs20 14) (fun j => qs20 (1400 + j + 1)) 0 0 0, ic E (qs20 1401) 80 (fun _ => (0 : Int32)), ic E (qs20 1402) 80 (fun _ => (0 : Int32)), ic E (qs20 1403) 40 (fun _ => (0 : Int32)), ic E (qs20 15) 8 (fun _ => (0 : Int32)), ic E (qs20 16) 8 (fun _ => (0 : Int32)), oc2 q3 (fun j => qs31 (j + 1)) (qs31 14) 0 0 0 3 0 1 1 0 0 0, ic E (qs31 2) 12 (fun _ => (0 : Int32)), ic E (qs31 3) 12 (fun _ => (0 : Int32)), ic E (qs31 4) 12 (fun _ => (0 : Int32)), ic E (qs31 5) 12 (fun _ => (0 : Int32)), oc3 (qs31 14) (fun j => qs31 (1400 + j + 1)) 0 0 0, ic E (qs31 1401) 80 (fun _ => (0 : Int32)), ic E (qs31 1402) 80 (fun _ => (0 : Int32)), ic E (qs31 1403) 40 (fun _ => (0 : Int32)), ic E (qs31 15) 8 (fun _ => (0 : Int32)), ic E (qs31 16) 8 (fun _ => (0 : Int32)), qc E q4 3 (fun _ => none), oc1 q5 (fun j => qs50 (j + 1)) 0 0 0 0 0 0 0, ic E (qs50 2) 12 (fun _ => (0 : Int32)), ic E (qs50 3) 12 (fun _ => (0 : Int32)), ic E (qs50 4) 12 (fun _ => (0 : Int32)), ic E (qs50 5) 12 (fun _ => (0 : Int32)), oc1 q6 (fun j => qs61 (j + 1)) 0 0 0 0 0 0 0, ic E (qs61 2) 12 (fun _ => (0 : Int32)), ic E (qs61 3) 12 (fun _ => (0 : Int32)), ic E (qs61 4) 12 (fun _ => (0 : Int32)), ic E (qs61 5) 12 (fun _ => (0 : Int32)), oc4 q7 (fun j => qs72 (j + 1)) 0 0 0 0 0 0 0 0 0 0 (-1), ic E (qs72 1) 4096 (fun _ => (0 : Int32)), oc0 q8 (fun j => qs83 (j + 1)) 0 0 (-1), ic E (qs83 2) 40 (fun _ => (0 : Int32)), ic E (qs83 3) 40 (fun _ => (0 : Int32)), ic E (qs83 4) 40 (fun _ => (0 : Int32)), ic E (qs83 6) 40 (fun _ => (0 : Int32))]) cb_X7 hx hb hown hin X w 0 7 fl_X7_50 dX7_init_86 rfl (by decide) (Nat.le_of_ble_eq_true rfl) rfl rfl rfl rfl rfl (fun H locs w => ?_)
  refine lv_aload_n hx hb dX7_init_89 rfl (lv_at hl 0 rfl) ?_
  refine lv_bipush (v := 12) hx hb dX7_init_90 (by decide) ?_
  refine hm_newa (ty := .int) (N := 12) hx hb X hA w ar_int rfl (Or.inl rfl) 0 rfl dX7_init_92 (fun _ => rfl) (by decide) (by decide) (Nat.le_of_ble_eq_true rfl) (Nat.le_of_ble_eq_true rfl) (Nat.le_of_ble_eq_true rfl) (fun q9 H w => ?_)
  have w : hm_W E A s.heap [(h0, .inr (6, [.ref q1, .ref q2, .ref q3, .ref q4, .ref q5, .ref q6, .ref q7, .ref q8, .null, .int 0, .int 0])), oc5 q1 (fun j => qs9 (j + 1)) 0 0 (-1), ic E (qs9 1) 400 (fun _ => (0 : Int32)), oc2 q2 (fun j => qs20 (j + 1)) (qs20 14) 0 0 0 3 0 1 1 0 0 0, ic E (qs20 2) 12 (fun _ => (0 : Int32)), ic E (qs20 3) 12 (fun _ => (0 : Int32)), ic E (qs20 4) 12 (fun _ => (0 : Int32)), ic E (qs20 5) 12 (fun _ => (0 : Int32)), oc3 (qs20 14) (fun j => qs20 (1400 + j + 1)) 0 0 0, ic E (qs20 1401) 80 (fun _ => (0 : Int32)), ic E (qs20 1402) 80 (fun _ => (0 : Int32)), ic E (qs20 1403) 40 (fun _ => (0 : Int32)), ic E (qs20 15) 8 (fun _ => (0 : Int32)), ic E (qs20 16) 8 (fun _ => (0 : Int32)), oc2 q3 (fun j => qs31 (j + 1)) (qs31 14) 0 0 0 3 0 1 1 0 0 0, ic E (qs31 2) 12 (fun _ => (0 : Int32)), ic E (qs31 3) 12 (fun _ => (0 : Int32)), ic E (qs31 4) 12 (fun _ => (0 : Int32)), ic E (qs31 5) 12 (fun _ => (0 : Int32)), oc3 (qs31 14) (fun j => qs31 (1400 + j + 1)) 0 0 0, ic E (qs31 1401) 80 (fun _ => (0 : Int32)), ic E (qs31 1402) 80 (fun _ => (0 : Int32)), ic E (qs31 1403) 40 (fun _ => (0 : Int32)), ic E (qs31 15) 8 (fun _ => (0 : Int32)), ic E (qs31 16) 8 (fun _ => (0 : Int32)), qc E q4 3 (fun _ => none), oc1 q5 (fun j => qs50 (j + 1)) 0 0 0 0 0 0 0, ic E (qs50 2) 12 (fun _ => (0 : Int32)), ic E (qs50 3) 12 (fun _ => (0 : Int32)), ic E (qs50 4) 12 (fun _ => (0 : Int32)), ic E (qs50 5) 12 (fun _ => (0 : Int32)), oc1 q6 (fun j => qs61 (j + 1)) 0 0 0 0 0 0 0, ic E (qs61 2) 12 (fun _ => (0 : Int32)), ic E (qs61 3) 12 (fun _ => (0 : Int32)), ic E (qs61 4) 12 (fun _ => (0 : Int32)), ic E (qs61 5) 12 (fun _ => (0 : Int32)), oc4 q7 (fun j => qs72 (j + 1)) 0 0 0 0 0 0 0 0 0 0 (-1), ic E (qs72 1) 4096 (fun _ => (0 : Int32)), oc0 q8 (fun j => qs83 (j + 1)) 0 0 (-1), ic E (qs83 2) 40 (fun _ => (0 : Int32)), ic E (qs83 3) 40 (fun _ => (0 : Int32)), ic E (qs83 4) 40 (fun _ => (0 : Int32)), ic E (qs83 6) 40 (fun _ => (0 : Int32)), ic E q9 12 (fun _ => (0 : Int32))] H locs := w
  refine hm_putF (ws' := [(h0, .inr (6, [.ref q1, .ref q2, .ref q3, .ref q4, .ref q5, .ref q6, .ref q7, .ref q8, .ref q9, .int 0, .int 0])), oc5 q1 (fun j => qs9 (j + 1)) 0 0 (-1), ic E (qs9 1) 400 (fun _ => (0 : Int32)), oc2 q2 (fun j => qs20 (j + 1)) (qs20 14) 0 0 0 3 0 1 1 0 0 0, ic E (qs20 2) 12 (fun _ => (0 : Int32)), ic E (qs20 3) 12 (fun _ => (0 : Int32)), ic E (qs20 4) 12 (fun _ => (0 : Int32)), ic E (qs20 5) 12 (fun _ => (0 : Int32)), oc3 (qs20 14) (fun j => qs20 (1400 + j + 1)) 0 0 0, ic E (qs20 1401) 80 (fun _ => (0 : Int32)), ic E (qs20 1402) 80 (fun _ => (0 : Int32)), ic E (qs20 1403) 40 (fun _ => (0 : Int32)), ic E (qs20 15) 8 (fun _ => (0 : Int32)), ic E (qs20 16) 8 (fun _ => (0 : Int32)), oc2 q3 (fun j => qs31 (j + 1)) (qs31 14) 0 0 0 3 0 1 1 0 0 0, ic E (qs31 2) 12 (fun _ => (0 : Int32)), ic E (qs31 3) 12 (fun _ => (0 : Int32)), ic E (qs31 4) 12 (fun _ => (0 : Int32)), ic E (qs31 5) 12 (fun _ => (0 : Int32)), oc3 (qs31 14) (fun j => qs31 (1400 + j + 1)) 0 0 0, ic E (qs31 1401) 80 (fun _ => (0 : Int32)), ic E (qs31 1402) 80 (fun _ => (0 : Int32)), ic E (qs31 1403) 40 (fun _ => (0 : Int32)), ic E (qs31 15) 8 (fun _ => (0 : Int32)), ic E (qs31 16) 8 (fun _ => (0 : Int32)), qc E q4 3 (fun _ => none), oc1 q5 (fun j => qs50 (j + 1)) 0 0 0 0 0 0 0, ic E (qs50 2) 12 (fun _ => (0 : Int32)), ic E (qs50 3) 12 (fun _ => (0 : Int32)), ic E (qs50 4) 12 (fun _ => (0 : Int32)), ic E (qs50 5) 12 (fun _ => (0 : Int32)), oc1 q6 (fun j => qs61 (j + 1)) 0 0 0 0 0 0 0, ic E (qs61 2) 12 (fun _ => (0 : Int32)), ic E (qs61 3) 12 (fun _ => (0 : Int32)), ic E (qs61 4) 12 (fun _ => (0 : Int32)), ic E (qs61 5) 12 (fun _ => (0 : Int32)), oc4 q7 (fun j => qs72 (j + 1)) 0 0 0 0 0 0 0 0 0 0 (-1), ic E (qs72 1) 4096 (fun _ => (0 : Int32)), oc0 q8 (fun j => qs83 (j + 1)) 0 0 (-1), ic E (qs83 2) 40 (fun _ => (0 : Int32)), ic E (qs83 3) 40 (fun _ => (0 : Int32)), ic E (qs83 4) 40 (fun _ => (0 : Int32)), ic E (qs83 6) 40 (fun _ => (0 : Int32)), ic E q9 12 (fun _ => (0 : Int32))]) cb_X7 hx hb hown hin X w 0 8 fl_X7_54 dX7_init_94 rfl (by decide) (Nat.le_of_ble_eq_true rfl) rfl rfl rfl rfl rfl (fun H locs w => ?_)
  refine lv_aload_n hx hb dX7_init_97 rfl (lv_at hl 0 rfl) ?_
  refine lv_iconst (v := 0) hx hb dX7_init_98 (by decide) ?_
  refine hm_put (ws' := [(h0, .inr (6, [.ref q1, .ref q2, .ref q3, .ref q4, .ref q5, .ref q6, .ref q7, .ref q8, .ref q9, .int 0, .int 0])), oc5 q1 (fun j => qs9 (j + 1)) 0 0 (-1), ic E (qs9 1) 400 (fun _ => (0 : Int32)), oc2 q2 (fun j => qs20 (j + 1)) (qs20 14) 0 0 0 3 0 1 1 0 0 0, ic E (qs20 2) 12 (fun _ => (0 : Int32)), ic E (qs20 3) 12 (fun _ => (0 : Int32)), ic E (qs20 4) 12 (fun _ => (0 : Int32)), ic E (qs20 5) 12 (fun _ => (0 : Int32)), oc3 (qs20 14) (fun j => qs20 (1400 + j + 1)) 0 0 0, ic E (qs20 1401) 80 (fun _ => (0 : Int32)), ic E (qs20 1402) 80 (fun _ => (0 : Int32)), ic E (qs20 1403) 40 (fun _ => (0 : Int32)), ic E (qs20 15) 8 (fun _ => (0 : Int32)), ic E (qs20 16) 8 (fun _ => (0 : Int32)), oc2 q3 (fun j => qs31 (j + 1)) (qs31 14) 0 0 0 3 0 1 1 0 0 0, ic E (qs31 2) 12 (fun _ => (0 : Int32)), ic E (qs31 3) 12 (fun _ => (0 : Int32)), ic E (qs31 4) 12 (fun _ => (0 : Int32)), ic E (qs31 5) 12 (fun _ => (0 : Int32)), oc3 (qs31 14) (fun j => qs31 (1400 + j + 1)) 0 0 0, ic E (qs31 1401) 80 (fun _ => (0 : Int32)), ic E (qs31 1402) 80 (fun _ => (0 : Int32)), ic E (qs31 1403) 40 (fun _ => (0 : Int32)), ic E (qs31 15) 8 (fun _ => (0 : Int32)), ic E (qs31 16) 8 (fun _ => (0 : Int32)), qc E q4 3 (fun _ => none), oc1 q5 (fun j => qs50 (j + 1)) 0 0 0 0 0 0 0, ic E (qs50 2) 12 (fun _ => (0 : Int32)), ic E (qs50 3) 12 (fun _ => (0 : Int32)), ic E (qs50 4) 12 (fun _ => (0 : Int32)), ic E (qs50 5) 12 (fun _ => (0 : Int32)), oc1 q6 (fun j => qs61 (j + 1)) 0 0 0 0 0 0 0, ic E (qs61 2) 12 (fun _ => (0 : Int32)), ic E (qs61 3) 12 (fun _ => (0 : Int32)), ic E (qs61 4) 12 (fun _ => (0 : Int32)), ic E (qs61 5) 12 (fun _ => (0 : Int32)), oc4 q7 (fun j => qs72 (j + 1)) 0 0 0 0 0 0 0 0 0 0 (-1), ic E (qs72 1) 4096 (fun _ => (0 : Int32)), oc0 q8 (fun j => qs83 (j + 1)) 0 0 (-1), ic E (qs83 2) 40 (fun _ => (0 : Int32)), ic E (qs83 3) 40 (fun _ => (0 : Int32)), ic E (qs83 4) 40 (fun _ => (0 : Int32)), ic E (qs83 6) 40 (fun _ => (0 : Int32)), ic E q9 12 (fun _ => (0 : Int32))]) cb_X7 hx hb hown X w 0 9 fl_X7_58 dX7_init_99 rfl (by decide) (Nat.le_of_ble_eq_true rfl) rfl rfl rfl rfl (fun H locs w => ?_)
  refine lv_aload_n hx hb dX7_init_102 rfl (lv_at hl 0 rfl) ?_
  refine lv_iconst (v := (-1)) hx hb dX7_init_103 (by decide) ?_
  refine hm_put (ws' := [(h0, .inr (6, [.ref q1, .ref q2, .ref q3, .ref q4, .ref q5, .ref q6, .ref q7, .ref q8, .ref q9, .int 0, .int (-1)])), oc5 q1 (fun j => qs9 (j + 1)) 0 0 (-1), ic E (qs9 1) 400 (fun _ => (0 : Int32)), oc2 q2 (fun j => qs20 (j + 1)) (qs20 14) 0 0 0 3 0 1 1 0 0 0, ic E (qs20 2) 12 (fun _ => (0 : Int32)), ic E (qs20 3) 12 (fun _ => (0 : Int32)), ic E (qs20 4) 12 (fun _ => (0 : Int32)), ic E (qs20 5) 12 (fun _ => (0 : Int32)), oc3 (qs20 14) (fun j => qs20 (1400 + j + 1)) 0 0 0, ic E (qs20 1401) 80 (fun _ => (0 : Int32)), ic E (qs20 1402) 80 (fun _ => (0 : Int32)), ic E (qs20 1403) 40 (fun _ => (0 : Int32)), ic E (qs20 15) 8 (fun _ => (0 : Int32)), ic E (qs20 16) 8 (fun _ => (0 : Int32)), oc2 q3 (fun j => qs31 (j + 1)) (qs31 14) 0 0 0 3 0 1 1 0 0 0, ic E (qs31 2) 12 (fun _ => (0 : Int32)), ic E (qs31 3) 12 (fun _ => (0 : Int32)), ic E (qs31 4) 12 (fun _ => (0 : Int32)), ic E (qs31 5) 12 (fun _ => (0 : Int32)), oc3 (qs31 14) (fun j => qs31 (1400 + j + 1)) 0 0 0, ic E (qs31 1401) 80 (fun _ => (0 : Int32)), ic E (qs31 1402) 80 (fun _ => (0 : Int32)), ic E (qs31 1403) 40 (fun _ => (0 : Int32)), ic E (qs31 15) 8 (fun _ => (0 : Int32)), ic E (qs31 16) 8 (fun _ => (0 : Int32)), qc E q4 3 (fun _ => none), oc1 q5 (fun j => qs50 (j + 1)) 0 0 0 0 0 0 0, ic E (qs50 2) 12 (fun _ => (0 : Int32)), ic E (qs50 3) 12 (fun _ => (0 : Int32)), ic E (qs50 4) 12 (fun _ => (0 : Int32)), ic E (qs50 5) 12 (fun _ => (0 : Int32)), oc1 q6 (fun j => qs61 (j + 1)) 0 0 0 0 0 0 0, ic E (qs61 2) 12 (fun _ => (0 : Int32)), ic E (qs61 3) 12 (fun _ => (0 : Int32)), ic E (qs61 4) 12 (fun _ => (0 : Int32)), ic E (qs61 5) 12 (fun _ => (0 : Int32)), oc4 q7 (fun j => qs72 (j + 1)) 0 0 0 0 0 0 0 0 0 0 (-1), ic E (qs72 1) 4096 (fun _ => (0 : Int32)), oc0 q8 (fun j => qs83 (j + 1)) 0 0 (-1), ic E (qs83 2) 40 (fun _ => (0 : Int32)), ic E (qs83 3) 40 (fun _ => (0 : Int32)), ic E (qs83 4) 40 (fun _ => (0 : Int32)), ic E (qs83 6) 40 (fun _ => (0 : Int32)), ic E q9 12 (fun _ => (0 : Int32))]) cb_X7 hx hb hown X w 0 10 fl_X7_62 dX7_init_104 rfl (by decide) (Nat.le_of_ble_eq_true rfl) rfl rfl rfl rfl (fun H locs w => ?_)
  have w := w.sub (ws' := [(h0, .inr (6, [.ref q1, .ref q2, .ref q3, .ref q4, .ref q5, .ref q6, .ref q7, .ref q8, .ref q9, .int 0, .int (-1)])), oc5 q1 (fun j => qs9 (j + 1)) 0 0 (-1), ic E (qs9 1) 400 (fun _ => (0 : Int32)), oc2 q2 (fun j => qs20 (j + 1)) (qs20 14) 0 0 0 3 0 1 1 0 0 0, ic E (qs20 2) 12 (fun _ => (0 : Int32)), ic E (qs20 3) 12 (fun _ => (0 : Int32)), ic E (qs20 4) 12 (fun _ => (0 : Int32)), ic E (qs20 5) 12 (fun _ => (0 : Int32)), oc3 (qs20 14) (fun j => qs20 (1400 + j + 1)) 0 0 0, ic E (qs20 1401) 80 (fun _ => (0 : Int32)), ic E (qs20 1402) 80 (fun _ => (0 : Int32)), ic E (qs20 1403) 40 (fun _ => (0 : Int32)), ic E (qs20 15) 8 (fun _ => (0 : Int32)), ic E (qs20 16) 8 (fun _ => (0 : Int32)), oc2 q3 (fun j => qs31 (j + 1)) (qs31 14) 0 0 0 3 0 1 1 0 0 0, ic E (qs31 2) 12 (fun _ => (0 : Int32)), ic E (qs31 3) 12 (fun _ => (0 : Int32)), ic E (qs31 4) 12 (fun _ => (0 : Int32)), ic E (qs31 5) 12 (fun _ => (0 : Int32)), oc3 (qs31 14) (fun j => qs31 (1400 + j + 1)) 0 0 0, ic E (qs31 1401) 80 (fun _ => (0 : Int32)), ic E (qs31 1402) 80 (fun _ => (0 : Int32)), ic E (qs31 1403) 40 (fun _ => (0 : Int32)), ic E (qs31 15) 8 (fun _ => (0 : Int32)), ic E (qs31 16) 8 (fun _ => (0 : Int32)), qc E q4 3 (fun _ => none), oc1 q5 (fun j => qs50 (j + 1)) 0 0 0 0 0 0 0, ic E (qs50 2) 12 (fun _ => (0 : Int32)), ic E (qs50 3) 12 (fun _ => (0 : Int32)), ic E (qs50 4) 12 (fun _ => (0 : Int32)), ic E (qs50 5) 12 (fun _ => (0 : Int32)), oc1 q6 (fun j => qs61 (j + 1)) 0 0 0 0 0 0 0, ic E (qs61 2) 12 (fun _ => (0 : Int32)), ic E (qs61 3) 12 (fun _ => (0 : Int32)), ic E (qs61 4) 12 (fun _ => (0 : Int32)), ic E (qs61 5) 12 (fun _ => (0 : Int32)), oc4 q7 (fun j => qs72 (j + 1)) 0 0 0 0 0 0 0 0 0 0 (-1), ic E (qs72 1) 4096 (fun _ => (0 : Int32)), oc0 q8 (fun j => qs83 (j + 1)) 0 0 (-1), ic E (qs83 2) 40 (fun _ => (0 : Int32)), ic E (qs83 3) 40 (fun _ => (0 : Int32)), ic E (qs83 4) 40 (fun _ => (0 : Int32)), ic E (qs83 6) 40 (fun _ => (0 : Int32)), ic E q9 12 (fun _ => (0 : Int32))]) [0, 1, 2, 3, 4, 5, 6, 7, 8, 9, 10, 11, 12, 13, 14, 15, 16, 17, 18, 19, 20, 21, 22, 23, 24, 25, 26, 27, 28, 29, 30, 31, 32, 33, 34, 35, 36, 37, 38, 39, 40, 41, 42, 43] (by decide) rfl
  exact hQ _ _ _ _ () (fun j => if j = 1 then q1 else if j = 101 then (qs9 1) else if j = 2 then q2 else if j = 202 then (qs20 2) else if j = 203 then (qs20 3) else if j = 204 then (qs20 4) else if j = 205 then (qs20 5) else if j = 214 then (qs20 14) else if j = 21401 then (qs20 1401) else if j = 21402 then (qs20 1402) else if j = 21403 then (qs20 1403) else if j = 215 then (qs20 15) else if j = 216 then (qs20 16) else if j = 3 then q3 else if j = 302 then (qs31 2) else if j = 303 then (qs31 3) else if j = 304 then (qs31 4) else if j = 305 then (qs31 5) else if j = 314 then (qs31 14) else if j = 31401 then (qs31 1401) else if j = 31402 then (qs31 1402) else if j = 31403 then (qs31 1403) else if j = 315 then (qs31 15) else if j = 316 then (qs31 16) else if j = 4 then q4 else if j = 5 then q5 else if j = 502 then (qs50 2) else if j = 503 then (qs50 3) else if j = 504 then (qs50 4) else if j = 505 then (qs50 5) else if j = 6 then q6 else if j = 602 then (qs61 2) else if j = 603 then (qs61 3) else if j = 604 then (qs61 4) else if j = 605 then (qs61 5) else if j = 7 then q7 else if j = 701 then (qs72 1) else if j = 8 then q8 else if j = 802 then (qs83 2) else if j = 803 then (qs83 3) else if j = 804 then (qs83 4) else if j = 806 then (qs83 6) else if j = 9 then q9 else 0) hf w dX7_init_107