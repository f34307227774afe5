set_option maxHeartbeats 8000000 in
set_option maxRecDepth 100000 in
theorem ct_X8_isIn (l : Launch) (E : hm_E) (sz : Nat) (a0 : Int32) (a1 : Int32) (a2 : Int32) (R : Int32 × Unit) (hf : pf_X8_isIn a0 a1 a2 = some R) : hm_Mi l E yX8_isIn cX8_isIn 3 .boolean [] (hm_rr 0 0 0 0) [.int a0, .int a1, .int a2] sz [] R.1 (fun _ => []) := by
  refine hm_ct_i R (fun u qs => []) (by decide) (Nat.le_of_ble_eq_true rfl) (Or.inr rfl) ?_
  intro p e s m args below meth c A Q ls H locs hx hb hml hown X hA Y hex w hl hQ
  have hl : lv_has ls 3 [(0, .int a0), (1, .int a1), (2, .int a2)] := hl
  unfold pf_X8_isIn at hf
  refine lv_iload_n hx hb dX8_isIn_0 rfl (lv_at hl 0 rfl) ?_
  refine lv_iload_n hx hb dX8_isIn_1 rfl (lv_at hl 1 rfl) ?_
  refine lv_icmp_lt (tgt := 14) hx hb dX8_isIn_2 (by decide) (fun c2 => ?_) (fun c2 => ?_)
  · have hf := pf_t c2 hf
    refine lv_iconst (v := 0) hx hb dX8_isIn_14 (by decide) ?_
    exact hQ _ _ _ _ _ () (fun _ => 0) hf rfl w dX8_isIn_15
  · have hf := pf_e c2 hf
    refine lv_iload_n hx hb dX8_isIn_5 rfl (lv_at hl 0 rfl) ?_
    refine lv_iload_n hx hb dX8_isIn_6 rfl (lv_at hl 2 rfl) ?_
    refine lv_icmp_gt (tgt := 14) hx hb dX8_isIn_7 (by decide) (fun c7 => ?_) (fun c7 => ?_)
    · have hf := pf_t c7 hf
      refine lv_iconst (v := 0) hx hb dX8_isIn_14 (by decide) ?_
      exact hQ _ _ _ _ _ () (fun _ => 0) hf rfl w dX8_isIn_15
    · have hf := pf_e c7 hf
      refine lv_iconst (v := 1) hx hb dX8_isIn_10 (by decide) ?_
      refine lv_goto (tgt := 15) hx hb dX8_isIn_11 (by decide) ?_
      exact hQ _ _ _ _ _ () (fun _ => 0) hf rfl w dX8_isIn_15
set_option maxHeartbeats 8000000 in
set_option maxRecDepth 100000 in
theorem ct_X8_get (l : Launch) (E : hm_E) (sz : Nat) (h0 : Nat) (r_t : Nat → Nat) (t_base t_taped t_at t_faultPlace t_number t_newBits t_newTold t_newDoings t_newThings t_opened t_sum t_heldAll t_onPaper t_turned t_wasConverted t_lastBits t_lastSum t_lastHeld t_lastLeft t_lastCode t_writtenLong t_codeMany t_acts t_done0 t_stoppedAt : Int32) (t_all : Nat → Int32) (a1 : Int32) (R : Int32 × Unit) (hf : pf_X8_get a1 t_all t_base = some R) : hm_Mi l E yX8_get cX8_get 2 .int [] (hm_rr 0 0 0 0) [.ref h0, .int a1] sz [oc8 h0 r_t t_base t_taped t_at t_faultPlace t_number t_newBits t_newTold t_newDoings t_newThings t_opened t_sum t_heldAll t_onPaper t_turned t_wasConverted t_lastBits t_lastSum t_lastHeld t_lastLeft t_lastCode t_writtenLong t_codeMany t_acts t_done0 t_stoppedAt, ic E (r_t 0) 800 t_all] R.1 (fun _ => [oc8 h0 r_t t_base t_taped t_at t_faultPlace t_number t_newBits t_newTold t_newDoings t_newThings t_opened t_sum t_heldAll t_onPaper t_turned t_wasConverted t_lastBits t_lastSum t_lastHeld t_lastLeft t_lastCode t_writtenLong t_codeMany t_acts t_done0 t_stoppedAt, ic E (r_t 0) 800 t_all]) := by
  refine hm_ct_i R (fun u qs => [oc8 h0 r_t t_base t_taped t_at t_faultPlace t_number t_newBits t_newTold t_newDoings t_newThings t_opened t_sum t_heldAll t_onPaper t_turned t_wasConverted t_lastBits t_lastSum t_lastHeld t_lastLeft t_lastCode t_writtenLong t_codeMany t_acts t_done0 t_stoppedAt, ic E (r_t 0) 800 t_all]) (by decide) (Nat.le_of_ble_eq_true rfl) (Or.inl rfl) ?_
  intro p e s m args below meth c A Q ls H locs hx hb hml hown X hA Y hex w hl hQ
  have hl : lv_has ls 2 [(0, .ref h0), (1, .int a1)] := hl
  unfold pf_X8_get at hf
  refine lv_aload_n hx hb dX8_get_0 rfl (lv_at hl 0 rfl) ?_
  refine hm_get cb_X8 hx hb hown X w 0 0 fl_X8_1 dX8_get_1 rfl (by decide) rfl ?_
  refine lv_aload_n hx hb dX8_get_4 rfl (lv_at hl 0 rfl) ?_
  refine hm_get cb_X8 hx hb hown X w 0 1 fl_X8_7 dX8_get_5 rfl (by decide) rfl ?_
  refine lv_iload_n hx hb dX8_get_8 rfl (lv_at hl 1 rfl) ?_
  refine lv_iadd hx hb dX8_get_9 ?_
  obtain ⟨g10, hf⟩ := pf_ckI hf
  refine hm_iald hx hb X w 1 dX8_get_10 rfl g10 ?_
  exact hQ _ _ _ _ _ () (fun _ => 0) hf rfl w dX8_get_11
set_option maxHeartbeats 8000000 in
set_option maxRecDepth 100000 in
theorem ct_X8_put (l : Launch) (E : hm_E) (sz : Nat) (h0 : Nat) (r_t : Nat → Nat) (t_base t_taped t_at t_faultPlace t_number t_newBits t_newTold t_newDoings t_newThings t_opened t_sum t_heldAll t_onPaper t_turned t_wasConverted t_lastBits t_lastSum t_lastHeld t_lastLeft t_lastCode t_writtenLong t_codeMany t_acts t_done0 t_stoppedAt : Int32) (t_all : Nat → Int32) (a1 : Int32) (a2 : Int32) (R : (Nat → Int32)) (hf : pf_X8_put a1 a2 t_all t_base = some R) : hm_Mv l E yX8_put cX8_put 3 [] (hm_rr 0 0 0 0) [.ref h0, .int a1, .int a2] sz [oc8 h0 r_t t_base t_taped t_at t_faultPlace t_number t_newBits t_newTold t_newDoings t_newThings t_opened t_sum t_heldAll t_onPaper t_turned t_wasConverted t_lastBits t_lastSum t_lastHeld t_lastLeft t_lastCode t_writtenLong t_codeMany t_acts t_done0 t_stoppedAt, ic E (r_t 0) 800 t_all] (fun _ => [oc8 h0 r_t t_base t_taped t_at t_faultPlace t_number t_newBits t_newTold t_newDoings t_newThings t_opened t_sum t_heldAll t_onPaper t_turned t_wasConverted t_lastBits t_lastSum t_lastHeld t_lastLeft t_lastCode t_writtenLong t_codeMany t_acts t_done0 t_stoppedAt, ic E (r_t 0) 800 R]) := by
  refine hm_ct_v R (fun u _ => [oc8 h0 r_t t_base t_taped t_at t_faultPlace t_number t_newBits t_newTold t_newDoings t_newThings t_opened t_sum t_heldAll t_onPaper t_turned t_wasConverted t_lastBits t_lastSum t_lastHeld t_lastLeft t_lastCode t_writtenLong t_codeMany t_acts t_done0 t_stoppedAt, ic E (r_t 0) 800 u]) (by decide) (Nat.le_of_ble_eq_true rfl) ?_
  intro p e s m args below meth c A Q ls H locs hx hb hml hown X hA Y hex hin w hl hQ
  have hl : lv_has ls 3 [(0, .ref h0), (1, .int a1), (2, .int a2)] := hl
  unfold pf_X8_put at hf
  refine lv_aload_n hx hb dX8_put_0 rfl (lv_at hl 0 rfl) ?_
  refine hm_get cb_X8 hx hb hown X w 0 0 fl_X8_1 dX8_put_1 rfl (by decide) rfl ?_
  refine lv_aload_n hx hb dX8_put_4 rfl (lv_at hl 0 rfl) ?_
  refine hm_get cb_X8 hx hb hown X w 0 1 fl_X8_7 dX8_put_5 rfl (by decide) rfl ?_
  refine lv_iload_n hx hb dX8_put_8 rfl (lv_at hl 1 rfl) ?_
  refine lv_iadd hx hb dX8_put_9 ?_
  refine lv_iload_n hx hb dX8_put_10 rfl (lv_at hl 2 rfl) ?_
  obtain ⟨g11, hf⟩ := pf_ckI hf
  refine hm_iast (ws' := [oc8 h0 r_t t_base t_taped t_at t_faultPlace t_number t_newBits t_newTold t_newDoings t_newThings t_opened t_sum t_heldAll t_onPaper t_turned t_wasConverted t_lastBits t_lastSum t_lastHeld t_lastLeft t_lastCode t_writtenLong t_codeMany t_acts t_done0 t_stoppedAt, ic E (r_t 0) 800 (upd t_all (t_base + a1).toNatClampNeg a2)]) hx hb X w 1 dX8_put_11 rfl g11 rfl (fun H locs w => ?_)
  exact hQ _ _ _ _ (upd t_all (t_base + a1).toNatClampNeg a2) (fun _ => 0) hf w dX8_put_12
set_option maxHeartbeats 8000000 in
set_option maxRecDepth 100000 in
theorem ct_X8_copyRow (l : Launch) (E : hm_E) (sz : Nat) (h0 : Nat) (r_t : Nat → Nat) (t_base t_taped t_at t_faultPlace t_number t_newBits t_newTold t_newDoings t_newThings t_opened t_sum t_heldAll t_onPaper t_turned t_wasConverted t_lastBits t_lastSum t_lastHeld t_lastLeft t_lastCode t_writtenLong t_codeMany t_acts t_done0 t_stoppedAt : Int32) (t_all : Nat → Int32) (a1 : Int32) (a2 : Int32) (R : (Nat → Int32)) (hf : pf_X8_copyRow a1 a2 t_all = some R) : hm_Mv l E yX8_copyRow cX8_copyRow 4 [] (hm_rr 0 0 0 0) [.ref h0, .int a1, .int a2] sz [oc8 h0 r_t t_base t_taped t_at t_faultPlace t_number t_newBits t_newTold t_newDoings t_newThings t_opened t_sum t_heldAll t_onPaper t_turned t_wasConverted t_lastBits t_lastSum t_lastHeld t_lastLeft t_lastCode t_writtenLong t_codeMany t_acts t_done0 t_stoppedAt, ic E (r_t 0) 800 t_all] (fun _ => [oc8 h0 r_t t_base t_taped t_at t_faultPlace t_number t_newBits t_newTold t_newDoings t_newThings t_opened t_sum t_heldAll t_onPaper t_turned t_wasConverted t_lastBits t_lastSum t_lastHeld t_lastLeft t_lastCode t_writtenLong t_codeMany t_acts t_done0 t_stoppedAt, ic E (r_t 0) 800 R]) := by
  refine hm_ct_v R (fun u _ => [oc8 h0 r_t t_base t_taped t_at t_faultPlace t_number t_newBits t_newTold t_newDoings t_newThings t_opened t_sum t_heldAll t_onPaper t_turned t_wasConverted t_lastBits t_lastSum t_lastHeld t_lastLeft t_lastCode t_writtenLong t_codeMany t_acts t_done0 t_stoppedAt, ic E (r_t 0) 800 u]) (by decide) (Nat.le_of_ble_eq_true rfl) ?_
  intro p e s m args below meth c A Q ls H locs hx hb hml hown X hA Y hex hin w hl hQ
  have hl : lv_has ls 4 [(0, .ref h0), (1, .int a1), (2, .int a2)] := hl
  unfold pf_X8_copyRow at hf
  refine lv_iconst (v := 0) hx hb dX8_copyRow_0 (by decide) ?_
  refine lv_istore_n (lv' := [(3, .int 0), (0, .ref h0), (1, .int a1), (2, .int a2)]) hx hb dX8_copyRow_1 rfl hl (by decide) rfl (fun ls hl => ?_)
  have klp_X8_copyRow_2 : ∀ (n : Nat) (x1 : Int32) (f2 : Nat → Int32) (H : Heap) (locs : List Loc) (ls : Array Slot), lp_X8_copyRow_2 a1 a2 n x1 f2 = some R → hm_W E A s.heap [oc8 h0 r_t t_base t_taped t_at t_faultPlace t_number t_newBits t_newTold t_newDoings t_newThings t_opened t_sum t_heldAll t_onPaper t_turned t_wasConverted t_lastBits t_lastSum t_lastHeld t_lastLeft t_lastCode t_writtenLong t_codeMany t_acts t_done0 t_stoppedAt, ic E (r_t 0) 800 f2] H locs → lv_has ls 4 [(0, .ref h0), (1, .int a1), (2, .int a2), (3, .int x1)] → W p l e (hm_rr 0 0 0 0) s m args below meth c H locs 0 0 Q (F0 m 2 ls []) := by
    intro n
    induction n with
    | zero =>
      intro x1 f2 H locs ls hf w hl
      exact pf_no hf
    | succ n ih2 =>
      intro x1 f2 H locs ls hf w hl
      rw [lp_X8_copyRow_2] at hf
      refine lv_iload_n hx hb dX8_copyRow_2 rfl (lv_at hl 3 rfl) ?_
      refine lv_sipush (v := 160) hx hb dX8_copyRow_3 (by decide) ?_
      refine lv_icmp_ge (tgt := 39) hx hb dX8_copyRow_6 (by decide) (fun c6 => ?_) (fun c6 => ?_)
      · have hf := pf_t c6 hf
        exact hQ _ _ _ _ f2 (fun _ => 0) hf w dX8_copyRow_39
      · have hf := pf_e c6 hf
        refine lv_aload_n hx hb dX8_copyRow_9 rfl (lv_at hl 0 rfl) ?_
        refine hm_get cb_X8 hx hb hown X w 0 0 fl_X8_1 dX8_copyRow_10 rfl (by decide) rfl ?_
        refine lv_sipush (v := 160) hx hb dX8_copyRow_13 (by decide) ?_
        refine lv_iload_n hx hb dX8_copyRow_16 rfl (lv_at hl 2 rfl) ?_
        refine lv_imul hx hb dX8_copyRow_17 ?_
        refine lv_iload_n hx hb dX8_copyRow_18 rfl (lv_at hl 3 rfl) ?_
        refine lv_iadd hx hb dX8_copyRow_19 ?_
        refine lv_aload_n hx hb dX8_copyRow_20 rfl (lv_at hl 0 rfl) ?_
        refine hm_get cb_X8 hx hb hown X w 0 0 fl_X8_1 dX8_copyRow_21 rfl (by decide) rfl ?_
        refine lv_sipush (v := 160) hx hb dX8_copyRow_24 (by decide) ?_
        refine lv_iload_n hx hb dX8_copyRow_27 rfl (lv_at hl 1 rfl) ?_
        refine lv_imul hx hb dX8_copyRow_28 ?_
        refine lv_iload_n hx hb dX8_copyRow_29 rfl (lv_at hl 3 rfl) ?_
        refine lv_iadd hx hb dX8_copyRow_30 ?_
        obtain ⟨g31, hf⟩ := pf_ckI hf
        refine hm_iald hx hb X w 1 dX8_copyRow_31 rfl g31 ?_
        refine lv_topi (fun x3 ex3 => ?_)
        have hf := pf_nm ex3 hf
        obtain ⟨g32, hf⟩ := pf_ckI hf
        refine hm_iast (ws' := [oc8 h0 r_t t_base t_taped t_at t_faultPlace t_number t_newBits t_newTold t_newDoings t_newThings t_opened t_sum t_heldAll t_onPaper t_turned t_wasConverted t_lastBits t_lastSum t_lastHeld t_lastLeft t_lastCode t_writtenLong t_codeMany t_acts t_done0 t_stoppedAt, ic E (r_t 0) 800 (upd f2 ((160 * a2) + x1).toNatClampNeg x3)]) hx hb X w 1 dX8_copyRow_32 rfl g32 rfl (fun H locs w => ?_)
        obtain ⟨x4, ex4⟩ : ∃ y : Int32, y = (x1 + 1) := ⟨_, rfl⟩
        have hf := pf_nm ex4 hf
        refine lv_iinc (v := x4) (lv' := [(3, .int x4), (0, .ref h0), (1, .int a1), (2, .int a2)]) hx hb dX8_copyRow_33 hl (k := 3) rfl (by rw [ex4]; rfl) (by decide) rfl (fun ls hl => ?_)
        refine lv_goto (tgt := 2) hx hb dX8_copyRow_36 (by decide) ?_
        exact ih2 _ _ _ _ _ hf w (lv_sub hl [1, 2, 3, 0] rfl)
  exact klp_X8_copyRow_2 FU _ _ _ _ _ hf w (lv_sub hl [1, 2, 3, 0] rfl)
set_option maxHeartbeats 8000000 in
set_option maxRecDepth 100000 in
theorem ct_X8_goAside (l : Launch) (E : hm_E) (sz : Nat) (h0 : Nat) (r_t : Nat → Nat) (t_base t_taped t_at t_faultPlace t_number t_newBits t_newTold t_newDoings t_newThings t_opened t_sum t_heldAll t_onPaper t_turned t_wasConverted t_lastBits t_lastSum t_lastHeld t_lastLeft t_lastCode t_writtenLong t_codeMany t_acts t_done0 t_stoppedAt : Int32) (t_all : Nat → Int32) (R : (Nat → Int32) × Int32) (hf : pf_X8_goAside t_all = some R) : hm_Mv l E yX8_goAside cX8_goAside 1 [] (hm_rr 1 23 0 0) [.ref h0] sz [oc8 h0 r_t t_base t_taped t_at t_faultPlace t_number t_newBits t_newTold t_newDoings t_newThings t_opened t_sum t_heldAll t_onPaper t_turned t_wasConverted t_lastBits t_lastSum t_lastHeld t_lastLeft t_lastCode t_writtenLong t_codeMany t_acts t_done0 t_stoppedAt, ic E (r_t 0) 800 t_all] (fun _ => [oc8 h0 r_t (R.2) t_taped t_at t_faultPlace t_number t_newBits t_newTold t_newDoings t_newThings t_opened t_sum t_heldAll t_onPaper t_turned t_wasConverted t_lastBits t_lastSum t_lastHeld t_lastLeft t_lastCode t_writtenLong t_codeMany t_acts t_done0 t_stoppedAt, ic E (r_t 0) 800 (R.1)]) := by
  refine hm_ct_v R (fun u _ => [oc8 h0 r_t (u.2) t_taped t_at t_faultPlace t_number t_newBits t_newTold t_newDoings t_newThings t_opened t_sum t_heldAll t_onPaper t_turned t_wasConverted t_lastBits t_lastSum t_lastHeld t_lastLeft t_lastCode t_writtenLong t_codeMany t_acts t_done0 t_stoppedAt, ic E (r_t 0) 800 (u.1)]) (by decide) (Nat.le_of_ble_eq_true rfl) ?_
  intro p e s m args below meth c A Q ls H locs hx hb hml hown X hA Y hex hin w hl hQ
  have hl : lv_has ls 1 [(0, .ref h0)] := hl
  unfold pf_X8_goAside at hf
  refine lv_aload_n hx hb dX8_goAside_0 rfl (lv_at hl 0 rfl) ?_
  refine lv_iconst (v := 0) hx hb dX8_goAside_1 (by decide) ?_
  refine lv_iconst (v := 4) hx hb dX8_goAside_2 (by decide) ?_
  obtain ⟨f1, hc3, hf⟩ := pf_bv_1 hf
  refine hm_aft_v (ws' := fun _ => [oc8 h0 r_t t_base t_taped t_at t_faultPlace t_number t_newBits t_newTold t_newDoings t_newThings t_opened t_sum t_heldAll t_onPaper t_turned t_wasConverted t_lastBits t_lastSum t_lastHeld t_lastLeft t_lastCode t_writtenLong t_codeMany t_acts t_done0 t_stoppedAt, ic E (r_t 0) 800 f1]) (hm_runV (rest := []) hx hb hml hown X hA Y w 0 (ci := 7) (T := TX8) (N := 55) rfl rfl mw_X8_copyRow ml_X8_11 dX8_goAside_3 hm_ac0 [.int 0, .int 4] rfl [0, 1] rfl rfl (ct_X8_copyRow l E H.size h0 r_t t_base t_taped t_at t_faultPlace t_number t_newBits t_newTold t_newDoings t_newThings t_opened t_sum t_heldAll t_onPaper t_turned t_wasConverted t_lastBits t_lastSum t_lastHeld t_lastLeft t_lastCode t_writtenLong t_codeMany t_acts t_done0 t_stoppedAt t_all 0 4 f1 hc3) rfl hl.1 ⟨⟨rfl, rfl⟩, ⟨Nat.le_of_ble_eq_true rfl, Nat.le_of_ble_eq_true rfl⟩, ⟨Nat.le_of_ble_eq_true rfl, Nat.le_of_ble_eq_true rfl⟩, Nat.le_of_ble_eq_true rfl⟩) hA w [0, 1] [] [0, 1] rfl rfl (by decide) (fun _ => rfl) (fun _ H locs w => ?_)
  refine lv_aload_n hx hb dX8_goAside_6 rfl (lv_at hl 0 rfl) ?_
  refine lv_sipush (v := 640) hx hb dX8_goAside_7 (by decide) ?_
  refine hm_put (ws' := [oc8 h0 r_t 640 t_taped t_at t_faultPlace t_number t_newBits t_newTold t_newDoings t_newThings t_opened t_sum t_heldAll t_onPaper t_turned t_wasConverted t_lastBits t_lastSum t_lastHeld t_lastLeft t_lastCode t_writtenLong t_codeMany t_acts t_done0 t_stoppedAt, ic E (r_t 0) 800 f1]) cb_X8 hx hb hown X w 0 1 fl_X8_7 dX8_goAside_10 rfl (by decide) (Nat.le_of_ble_eq_true rfl) rfl rfl rfl rfl (fun H locs w => ?_)
  exact hQ _ _ _ _ (f1, 640) (fun _ => 0) hf w dX8_goAside_13
set_option maxHeartbeats 8000000 in
set_option maxRecDepth 100000 in
theorem ct_X8_comeBack (l : Launch) (E : hm_E) (sz : Nat) (h0 : Nat) (r_t : Nat → Nat) (t_base t_taped t_at t_faultPlace t_number t_newBits t_newTold t_newDoings t_newThings t_opened t_sum t_heldAll t_onPaper t_turned t_wasConverted t_lastBits t_lastSum t_lastHeld t_lastLeft t_lastCode t_writtenLong t_codeMany t_acts t_done0 t_stoppedAt : Int32) (R : Int32) (hf : pf_X8_comeBack = some R) : hm_Mv l E yX8_comeBack cX8_comeBack 1 [] (hm_rr 0 0 0 0) [.ref h0] sz [oc8 h0 r_t t_base t_taped t_at t_faultPlace t_number t_newBits t_newTold t_newDoings t_newThings t_opened t_sum t_heldAll t_onPaper t_turned t_wasConverted t_lastBits t_lastSum t_lastHeld t_lastLeft t_lastCode t_writtenLong t_codeMany t_acts t_done0 t_stoppedAt] (fun _ => [oc8 h0 r_t R t_taped t_at t_faultPlace t_number t_newBits t_newTold t_newDoings t_newThings t_opened t_sum t_heldAll t_onPaper t_turned t_wasConverted t_lastBits t_lastSum t_lastHeld t_lastLeft t_lastCode t_writtenLong t_codeMany t_acts t_done0 t_stoppedAt]) := by
  refine hm_ct_v R (fun u _ => [oc8 h0 r_t u t_taped t_at t_faultPlace t_number t_newBits t_newTold t_newDoings t_newThings t_opened t_sum t_heldAll t_onPaper t_turned t_wasConverted t_lastBits t_lastSum t_lastHeld t_lastLeft t_lastCode t_writtenLong t_codeMany t_acts t_done0 t_stoppedAt]) (by decide) (Nat.le_of_ble_eq_true rfl) ?_
  intro p e s m args below meth c A Q ls H locs hx hb hml hown X hA Y hex hin w hl hQ
  have hl : lv_has ls 1 [(0, .ref h0)] := hl
  unfold pf_X8_comeBack at hf
  refine lv_aload_n hx hb dX8_comeBack_0 rfl (lv_at hl 0 rfl) ?_
  refine lv_iconst (v := 0) hx hb dX8_comeBack_1 (by decide) ?_
  refine hm_put (ws' := [oc8 h0 r_t 0 t_taped t_at t_faultPlace t_number t_newBits t_newTold t_newDoings t_newThings t_opened t_sum t_heldAll t_onPaper t_turned t_wasConverted t_lastBits t_lastSum t_lastHeld t_lastLeft t_lastCode t_writtenLong t_codeMany t_acts t_done0 t_stoppedAt]) cb_X8 hx hb hown X w 0 1 fl_X8_7 dX8_comeBack_2 rfl (by decide) (Nat.le_of_ble_eq_true rfl) rfl rfl rfl rfl (fun H locs w => ?_)
  exact hQ _ _ _ _ 0 (fun _ => 0) hf w dX8_comeBack_5
set_option maxHeartbeats 8000000 in
set_option maxRecDepth 100000 in
theorem ct_X8_four (l : Launch) (E : hm_E) (sz : Nat) (h0 : Nat) (r_t : Nat → Nat) (t_base t_taped t_at t_faultPlace t_number t_newBits t_newTold t_newDoings t_newThings t_opened t_sum t_heldAll t_onPaper t_turned t_wasConverted t_lastBits t_lastSum t_lastHeld t_lastLeft t_lastCode t_writtenLong t_codeMany t_acts t_done0 t_stoppedAt : Int32) (t_tape : Nat → Int32) (a1 : Int32) (R : (Nat → Int32) × Int32) (hf : pf_X8_four a1 t_tape t_taped = some R) : hm_Mv l E yX8_four cX8_four 3 [] (hm_rr 0 0 0 0) [.ref h0, .int a1] sz [oc8 h0 r_t t_base t_taped t_at t_faultPlace t_number t_newBits t_newTold t_newDoings t_newThings t_opened t_sum t_heldAll t_onPaper t_turned t_wasConverted t_lastBits t_lastSum t_lastHeld t_lastLeft t_lastCode t_writtenLong t_codeMany t_acts t_done0 t_stoppedAt, bc E (r_t 2) 400 t_tape] (fun _ => [oc8 h0 r_t t_base (R.2) t_at t_faultPlace t_number t_newBits t_newTold t_newDoings t_newThings t_opened t_sum t_heldAll t_onPaper t_turned t_wasConverted t_lastBits t_lastSum t_lastHeld t_lastLeft t_lastCode t_writtenLong t_codeMany t_acts t_done0 t_stoppedAt, bc E (r_t 2) 400 (R.1)]) := by
  refine hm_ct_v R (fun u _ => [oc8 h0 r_t t_base (u.2) t_at t_faultPlace t_number t_newBits t_newTold t_newDoings t_newThings t_opened t_sum t_heldAll t_onPaper t_turned t_wasConverted t_lastBits t_lastSum t_lastHeld t_lastLeft t_lastCode t_writtenLong t_codeMany t_acts t_done0 t_stoppedAt, bc E (r_t 2) 400 (u.1)]) (by decide) (Nat.le_of_ble_eq_true rfl) ?_
  intro p e s m args below meth c A Q ls H locs hx hb hml hown X hA Y hex hin w hl hQ
  have hl : lv_has ls 3 [(0, .ref h0), (1, .int a1)] := hl
  unfold pf_X8_four at hf
  refine lv_bipush (v := 24) hx hb dX8_four_0 (by decide) ?_
  refine lv_istore_n (lv' := [(2, .int 24), (0, .ref h0), (1, .int a1)]) hx hb dX8_four_2 rfl hl (by decide) rfl (fun ls hl => ?_)
  have klp_X8_four_3 : ∀ (n : Nat) (x1 : Int32) (f2 : Nat → Int32) (x3 : Int32) (H : Heap) (locs : List Loc) (ls : Array Slot), lp_X8_four_3 a1 n x1 f2 x3 = some R → hm_W E A s.heap [oc8 h0 r_t t_base x3 t_at t_faultPlace t_number t_newBits t_newTold t_newDoings t_newThings t_opened t_sum t_heldAll t_onPaper t_turned t_wasConverted t_lastBits t_lastSum t_lastHeld t_lastLeft t_lastCode t_writtenLong t_codeMany t_acts t_done0 t_stoppedAt, bc E (r_t 2) 400 f2] H locs → lv_has ls 3 [(0, .ref h0), (1, .int a1), (2, .int x1)] → W p l e (hm_rr 0 0 0 0) s m args below meth c H locs 0 0 Q (F0 m 3 ls []) := by
    intro n
    induction n with
    | zero =>
      intro x1 f2 x3 H locs ls hf w hl
      exact pf_no hf
    | succ n ih3 =>
      intro x1 f2 x3 H locs ls hf w hl
      rw [lp_X8_four_3] at hf
      refine lv_iload_n hx hb dX8_four_3 rfl (lv_at hl 2 rfl) ?_
      refine lv_if_lt (tgt := 36) hx hb dX8_four_4 (by decide) (fun c4 => ?_) (fun c4 => ?_)
      · have hf := pf_t c4 hf
        exact hQ _ _ _ _ (f2, x3) (fun _ => 0) hf w dX8_four_36
      · have hf := pf_e c4 hf
        refine lv_aload_n hx hb dX8_four_7 rfl (lv_at hl 0 rfl) ?_
        refine hm_get cb_X8 hx hb hown X w 0 2 fl_X8_21 dX8_four_8 rfl (by decide) rfl ?_
        refine lv_aload_n hx hb dX8_four_11 rfl (lv_at hl 0 rfl) ?_
        refine hm_get cb_X8 hx hb hown X w 0 3 fl_X8_122 dX8_four_12 rfl (by decide) rfl ?_
        refine lv_iload_n hx hb dX8_four_15 rfl (lv_at hl 1 rfl) ?_
        refine lv_iload_n hx hb dX8_four_16 rfl (lv_at hl 2 rfl) ?_
        refine lv_ishr hx hb dX8_four_17 ?_
        refine lv_i2b hx hb dX8_four_18 rfl ?_
        refine lv_topi (fun x4 ex4 => ?_)
        have hf := pf_nm ex4 hf
        obtain ⟨g19, hf⟩ := pf_ckI hf
        refine hm_bast (ws' := [oc8 h0 r_t t_base x3 t_at t_faultPlace t_number t_newBits t_newTold t_newDoings t_newThings t_opened t_sum t_heldAll t_onPaper t_turned t_wasConverted t_lastBits t_lastSum t_lastHeld t_lastLeft t_lastCode t_writtenLong t_codeMany t_acts t_done0 t_stoppedAt, bc E (r_t 2) 400 (upd f2 x3.toNatClampNeg (vp_nar .byte x4))]) hx hb X w 1 dX8_four_19 rfl g19 rfl (fun H locs w => ?_)
        refine lv_aload_n hx hb dX8_four_20 rfl (lv_at hl 0 rfl) ?_
        refine lv_dup hx hb dX8_four_21 rfl ?_
        refine hm_get cb_X8 hx hb hown X w 0 3 fl_X8_122 dX8_four_22 rfl (by decide) rfl ?_
        refine lv_iconst (v := 1) hx hb dX8_four_25 (by decide) ?_
        refine lv_iadd hx hb dX8_four_26 ?_
        refine lv_topi (fun x5 ex5 => ?_)
        have hf := pf_nm ex5 hf
        refine hm_put (ws' := [oc8 h0 r_t t_base x5 t_at t_faultPlace t_number t_newBits t_newTold t_newDoings t_newThings t_opened t_sum t_heldAll t_onPaper t_turned t_wasConverted t_lastBits t_lastSum t_lastHeld t_lastLeft t_lastCode t_writtenLong t_codeMany t_acts t_done0 t_stoppedAt, bc E (r_t 2) 400 (upd f2 x3.toNatClampNeg (vp_nar .byte x4))]) cb_X8 hx hb hown X w 0 3 fl_X8_122 dX8_four_27 rfl (by decide) (Nat.le_of_ble_eq_true rfl) rfl rfl rfl rfl (fun H locs w => ?_)
        obtain ⟨x6, ex6⟩ : ∃ y : Int32, y = (x1 + (-8)) := ⟨_, rfl⟩
        have hf := pf_nm ex6 hf
        refine lv_iinc (v := x6) (lv' := [(2, .int x6), (0, .ref h0), (1, .int a1)]) hx hb dX8_four_30 hl (k := 2) rfl (by rw [ex6]; rfl) (by decide) rfl (fun ls hl => ?_)
        refine lv_goto (tgt := 3) hx hb dX8_four_33 (by decide) ?_
        exact ih3 _ _ _ _ _ _ hf w (lv_sub hl [1, 2, 0] rfl)
  exact klp_X8_four_3 FU _ _ _ _ _ _ hf w (lv_sub hl [1, 2, 0] rfl)
set_option maxHeartbeats 8000000 in
set_option maxRecDepth 100000 in
theorem ct_X8_feed (l : Launch) (E : hm_E) (sz : Nat) (h0 : Nat) (r_t : Nat → Nat) (t_base t_taped t_at t_faultPlace t_number t_newBits t_newTold t_newDoings t_newThings t_opened t_sum t_heldAll t_onPaper t_turned t_wasConverted t_lastBits t_lastSum t_lastHeld t_lastLeft t_lastCode t_writtenLong t_codeMany t_acts t_done0 t_stoppedAt : Int32) (t_tape : Nat → Int32) (a1 : Int32) (a2 : Int32) (a3 : Int32) (a4 : Int32) (a5 : Int32) (R : Int32 × (Nat → Int32) × Int32) (hf : pf_X8_feed a1 a2 a3 a4 a5 t_tape t_taped = some R) : hm_Mi l E yX8_feed cX8_feed 6 .int [] (hm_rr 1 22 0 0) [.ref h0, .int a1, .int a2, .int a3, .int a4, .int a5] sz [oc8 h0 r_t t_base t_taped t_at t_faultPlace t_number t_newBits t_newTold t_newDoings t_newThings t_opened t_sum t_heldAll t_onPaper t_turned t_wasConverted t_lastBits t_lastSum t_lastHeld t_lastLeft t_lastCode t_writtenLong t_codeMany t_acts t_done0 t_stoppedAt, bc E (r_t 2) 400 t_tape] R.1 (fun _ => [oc8 h0 r_t t_base (R.2.2) t_at t_faultPlace t_number t_newBits t_newTold t_newDoings t_newThings t_opened t_sum t_heldAll t_onPaper t_turned t_wasConverted t_lastBits t_lastSum t_lastHeld t_lastLeft t_lastCode t_writtenLong t_codeMany t_acts t_done0 t_stoppedAt, bc E (r_t 2) 400 (R.2.1)]) := by
  refine hm_ct_i R (fun u qs => [oc8 h0 r_t t_base (u.2) t_at t_faultPlace t_number t_newBits t_newTold t_newDoings t_newThings t_opened t_sum t_heldAll t_onPaper t_turned t_wasConverted t_lastBits t_lastSum t_lastHeld t_lastLeft t_lastCode t_writtenLong t_codeMany t_acts t_done0 t_stoppedAt, bc E (r_t 2) 400 (u.1)]) (by decide) (Nat.le_of_ble_eq_true rfl) (Or.inl rfl) ?_
  intro p e s m args below meth c A Q ls H locs hx hb hml hown X hA Y hex w hl hQ
  have hl : lv_has ls 6 [(0, .ref h0), (1, .int a1), (2, .int a2), (3, .int a3), (4, .int a4), (5, .int a5)] := hl
  unfold pf_X8_feed at hf
  refine lv_aload_n hx hb dX8_feed_0 rfl (lv_at hl 0 rfl) ?_
  refine hm_get cb_X8 hx hb hown X w 0 3 fl_X8_122 dX8_feed_1 rfl (by decide) rfl ?_
  refine lv_bipush (v := 20) hx hb dX8_feed_4 (by decide) ?_
  refine lv_iadd hx hb dX8_feed_6 ?_
  refine lv_sipush (v := 400) hx hb dX8_feed_7 (by decide) ?_
  refine lv_icmp_le (tgt := 15) hx hb dX8_feed_10 (by decide) (fun c10 => ?_) (fun c10 => ?_)
  · have hf := pf_t c10 hf
    refine lv_aload_n hx hb dX8_feed_15 rfl (lv_at hl 0 rfl) ?_
    refine lv_iload_n hx hb dX8_feed_16 rfl (lv_at hl 1 rfl) ?_
    obtain ⟨f1, x2, hc17, hf⟩ := pf_bv_2 hf
    refine hm_aft_v (ws' := fun _ => [oc8 h0 r_t t_base x2 t_at t_faultPlace t_number t_newBits t_newTold t_newDoings t_newThings t_opened t_sum t_heldAll t_onPaper t_turned t_wasConverted t_lastBits t_lastSum t_lastHeld t_lastLeft t_lastCode t_writtenLong t_codeMany t_acts t_done0 t_stoppedAt, bc E (r_t 2) 400 f1]) (hm_runV (rest := []) hx hb hml hown X hA Y w 0 (ci := 7) (T := TX8) (N := 55) rfl rfl mw_X8_four ml_X8_125 dX8_feed_17 hm_ac0 [.int a1] rfl [0, 1] rfl rfl (ct_X8_four l E H.size h0 r_t t_base t_taped t_at t_faultPlace t_number t_newBits t_newTold t_newDoings t_newThings t_opened t_sum t_heldAll t_onPaper t_turned t_wasConverted t_lastBits t_lastSum t_lastHeld t_lastLeft t_lastCode t_writtenLong t_codeMany t_acts t_done0 t_stoppedAt t_tape a1 (f1, x2) hc17) rfl hl.1 ⟨⟨rfl, rfl⟩, ⟨Nat.le_of_ble_eq_true rfl, Nat.le_of_ble_eq_true rfl⟩, ⟨Nat.le_of_ble_eq_true rfl, Nat.le_of_ble_eq_true rfl⟩, Nat.le_of_ble_eq_true rfl⟩) hA w [0, 1] [] [0, 1] rfl rfl (by decide) (fun _ => rfl) (fun _ H locs w => ?_)
    refine lv_aload_n hx hb dX8_feed_20 rfl (lv_at hl 0 rfl) ?_
    refine lv_iload_n hx hb dX8_feed_21 rfl (lv_at hl 2 rfl) ?_
    obtain ⟨f3, x4, hc22, hf⟩ := pf_bv_2 hf
    refine hm_aft_v (ws' := fun _ => [oc8 h0 r_t t_base x4 t_at t_faultPlace t_number t_newBits t_newTold t_newDoings t_newThings t_opened t_sum t_heldAll t_onPaper t_turned t_wasConverted t_lastBits t_lastSum t_lastHeld t_lastLeft t_lastCode t_writtenLong t_codeMany t_acts t_done0 t_stoppedAt, bc E (r_t 2) 400 f3]) (hm_runV (rest := []) hx hb hml hown X hA Y w 0 (ci := 7) (T := TX8) (N := 55) rfl rfl mw_X8_four ml_X8_125 dX8_feed_22 hm_ac0 [.int a2] rfl [0, 1] rfl rfl (ct_X8_four l E H.size h0 r_t t_base x2 t_at t_faultPlace t_number t_newBits t_newTold t_newDoings t_newThings t_opened t_sum t_heldAll t_onPaper t_turned t_wasConverted t_lastBits t_lastSum t_lastHeld t_lastLeft t_lastCode t_writtenLong t_codeMany t_acts t_done0 t_stoppedAt f1 a2 (f3, x4) hc22) rfl hl.1 ⟨⟨rfl, rfl⟩, ⟨Nat.le_of_ble_eq_true rfl, Nat.le_of_ble_eq_true rfl⟩, ⟨Nat.le_of_ble_eq_true rfl, Nat.le_of_ble_eq_true rfl⟩, Nat.le_of_ble_eq_true rfl⟩) hA w [0, 1] [] [0, 1] rfl rfl (by decide) (fun _ => rfl) (fun _ H locs w => ?_)
    refine lv_aload_n hx hb dX8_feed_25 rfl (lv_at hl 0 rfl) ?_
    refine lv_iload_n hx hb dX8_feed_26 rfl (lv_at hl 3 rfl) ?_
    obtain ⟨f5, x6, hc27, hf⟩ := pf_bv_2 hf
    refine hm_aft_v (ws' := fun _ => [oc8 h0 r_t t_base x6 t_at t_faultPlace t_number t_newBits t_newTold t_newDoings t_newThings t_opened t_sum t_heldAll t_onPaper t_turned t_wasConverted t_lastBits t_lastSum t_lastHeld t_lastLeft t_lastCode t_writtenLong t_codeMany t_acts t_done0 t_stoppedAt, bc E (r_t 2) 400 f5]) (hm_runV (rest := []) hx hb hml hown X hA Y w 0 (ci := 7) (T := TX8) (N := 55) rfl rfl mw_X8_four ml_X8_125 dX8_feed_27 hm_ac0 [.int a3] rfl [0, 1] rfl rfl (ct_X8_four l E H.size h0 r_t t_base x4 t_at t_faultPlace t_number t_newBits t_newTold t_newDoings t_newThings t_opened t_sum t_heldAll t_onPaper t_turned t_wasConverted t_lastBits t_lastSum t_lastHeld t_lastLeft t_lastCode t_writtenLong t_codeMany t_acts t_done0 t_stoppedAt f3 a3 (f5, x6) hc27) rfl hl.1 ⟨⟨rfl, rfl⟩, ⟨Nat.le_of_ble_eq_true rfl, Nat.le_of_ble_eq_true rfl⟩, ⟨Nat.le_of_ble_eq_true rfl, Nat.le_of_ble_eq_true rfl⟩, Nat.le_of_ble_eq_true rfl⟩) hA w [0, 1] [] [0, 1] rfl rfl (by decide) (fun _ => rfl) (fun _ H locs w => ?_)
    refine lv_aload_n hx hb dX8_feed_30 rfl (lv_at hl 0 rfl) ?_
    refine lv_iload hx hb dX8_feed_31 (lv_at hl 4 rfl) ?_
    obtain ⟨f7, x8, hc33, hf⟩ := pf_bv_2 hf
    refine hm_aft_v (ws' := fun _ => [oc8 h0 r_t t_base x8 t_at t_faultPlace t_number t_newBits t_newTold t_newDoings t_newThings t_opened t_sum t_heldAll t_onPaper t_turned t_wasConverted t_lastBits t_lastSum t_lastHeld t_lastLeft t_lastCode t_writtenLong t_codeMany t_acts t_done0 t_stoppedAt, bc E (r_t 2) 400 f7]) (hm_runV (rest := []) hx hb hml hown X hA Y w 0 (ci := 7) (T := TX8) (N := 55) rfl rfl mw_X8_four ml_X8_125 dX8_feed_33 hm_ac0 [.int a4] rfl [0, 1] rfl rfl (ct_X8_four l E H.size h0 r_t t_base x6 t_at t_faultPlace t_number t_newBits t_newTold t_newDoings t_newThings t_opened t_sum t_heldAll t_onPaper t_turned t_wasConverted t_lastBits t_lastSum t_lastHeld t_lastLeft t_lastCode t_writtenLong t_codeMany t_acts t_done0 t_stoppedAt f5 a4 (f7, x8) hc33) rfl hl.1 ⟨⟨rfl, rfl⟩, ⟨Nat.le_of_ble_eq_true rfl, Nat.le_of_ble_eq_true rfl⟩, ⟨Nat.le_of_ble_eq_true rfl, Nat.le_of_ble_eq_true rfl⟩, Nat.le_of_ble_eq_true rfl⟩) hA w [0, 1] [] [0, 1] rfl rfl (by decide) (fun _ => rfl) (fun _ H locs w => ?_)
    refine lv_aload_n hx hb dX8_feed_36 rfl (lv_at hl 0 rfl) ?_
    refine lv_iload hx hb dX8_feed_37 (lv_at hl 5 rfl) ?_
    obtain ⟨f9, x10, hc39, hf⟩ := pf_bv_2 hf
    refine hm_aft_v (ws' := fun _ => [oc8 h0 r_t t_base x10 t_at t_faultPlace t_number t_newBits t_newTold t_newDoings t_newThings t_opened t_sum t_heldAll t_onPaper t_turned t_wasConverted t_lastBits t_lastSum t_lastHeld t_lastLeft t_lastCode t_writtenLong t_codeMany t_acts t_done0 t_stoppedAt, bc E (r_t 2) 400 f9]) (hm_runV (rest := []) hx hb hml hown X hA Y w 0 (ci := 7) (T := TX8) (N := 55) rfl rfl mw_X8_four ml_X8_125 dX8_feed_39 hm_ac0 [.int a5] rfl [0, 1] rfl rfl (ct_X8_four l E H.size h0 r_t t_base x8 t_at t_faultPlace t_number t_newBits t_newTold t_newDoings t_newThings t_opened t_sum t_heldAll t_onPaper t_turned t_wasConverted t_lastBits t_lastSum t_lastHeld t_lastLeft t_lastCode t_writtenLong t_codeMany t_acts t_done0 t_stoppedAt f7 a5 (f9, x10) hc39) rfl hl.1 ⟨⟨rfl, rfl⟩, ⟨Nat.le_of_ble_eq_true rfl, Nat.le_of_ble_eq_true rfl⟩, ⟨Nat.le_of_ble_eq_true rfl, Nat.le_of_ble_eq_true rfl⟩, Nat.le_of_ble_eq_true rfl⟩) hA w [0, 1] [] [0, 1] rfl rfl (by decide) (fun _ => rfl) (fun _ H locs w => ?_)
    refine lv_aload_n hx hb dX8_feed_42 rfl (lv_at hl 0 rfl) ?_
    refine hm_get cb_X8 hx hb hown X w 0 3 fl_X8_122 dX8_feed_43 rfl (by decide) rfl ?_
    exact hQ _ _ _ _ _ (f9, x10) (fun _ => 0) hf rfl w dX8_feed_46
  · have hf := pf_e c10 hf
    refine lv_iconst (v := (-1)) hx hb dX8_feed_13 (by decide) ?_
    exact hQ _ _ _ _ _ (t_tape, t_taped) (fun _ => 0) hf rfl w dX8_feed_14
set_option maxHeartbeats 8000000 in
set_option maxRecDepth 100000 in
theorem ct_X8_end (l : Launch) (E : hm_E) (sz : Nat) (h0 : Nat) (r_t : Nat → Nat) (t_base t_taped t_at t_faultPlace t_number t_newBits t_newTold t_newDoings t_newThings t_opened t_sum t_heldAll t_onPaper t_turned t_wasConverted t_lastBits t_lastSum t_lastHeld t_lastLeft t_lastCode t_writtenLong t_codeMany t_acts t_done0 t_stoppedAt : Int32) (a1 : Int32) (R : Int32 × Int32) (hf : pf_X8_end a1 t_taped = some R) : hm_Mi l E yX8_end cX8_end 2 .int [] (hm_rr 1 22 0 0) [.ref h0, .int a1] sz [oc8 h0 r_t t_base t_taped t_at t_faultPlace t_number t_newBits t_newTold t_newDoings t_newThings t_opened t_sum t_heldAll t_onPaper t_turned t_wasConverted t_lastBits t_lastSum t_lastHeld t_lastLeft t_lastCode t_writtenLong t_codeMany t_acts t_done0 t_stoppedAt] R.1 (fun _ => [oc8 h0 r_t t_base R.2 t_at t_faultPlace t_number t_newBits t_newTold t_newDoings t_newThings t_opened t_sum t_heldAll t_onPaper t_turned t_wasConverted t_lastBits t_lastSum t_lastHeld t_lastLeft t_lastCode t_writtenLong t_codeMany t_acts t_done0 t_stoppedAt]) := by
  refine hm_ct_i R (fun u qs => [oc8 h0 r_t t_base u t_at t_faultPlace t_number t_newBits t_newTold t_newDoings t_newThings t_opened t_sum t_heldAll t_onPaper t_turned t_wasConverted t_lastBits t_lastSum t_lastHeld t_lastLeft t_lastCode t_writtenLong t_codeMany t_acts t_done0 t_stoppedAt]) (by decide) (Nat.le_of_ble_eq_true rfl) (Or.inl rfl) ?_
  intro p e s m args below meth c A Q ls H locs hx hb hml hown X hA Y hex w hl hQ
  have hl : lv_has ls 2 [(0, .ref h0), (1, .int a1)] := hl
  unfold pf_X8_end at hf
  refine lv_iload_n hx hb dX8_end_0 rfl (lv_at hl 1 rfl) ?_
  refine lv_iconst (v := 0) hx hb dX8_end_1 (by decide) ?_
  refine lv_aload_n hx hb dX8_end_2 rfl (lv_at hl 0 rfl) ?_
  refine hm_get cb_X8 hx hb hown X w 0 3 fl_X8_122 dX8_end_3 rfl (by decide) rfl ?_
  obtain ⟨r1, hc6, hf⟩ := pf_bi_0 hf
  refine hm_aft_i (ws' := fun _ => [oc8 h0 r_t t_base t_taped t_at t_faultPlace t_number t_newBits t_newTold t_newDoings t_newThings t_opened t_sum t_heldAll t_onPaper t_turned t_wasConverted t_lastBits t_lastSum t_lastHeld t_lastLeft t_lastCode t_writtenLong t_codeMany t_acts t_done0 t_stoppedAt]) (hm_runS (rest := []) hx hb hml hown X hA Y w mw_X8_isIn ml_X8_129 dX8_end_6 hm_ac0 [.int a1, .int 0, .int t_taped] rfl [] rfl rfl (ct_X8_isIn l E H.size a1 0 t_taped (r1, ()) hc6) rfl hl.1 ⟨⟨rfl, rfl⟩, ⟨Nat.le_of_ble_eq_true rfl, Nat.le_of_ble_eq_true rfl⟩, ⟨Nat.le_of_ble_eq_true rfl, Nat.le_of_ble_eq_true rfl⟩, Nat.le_of_ble_eq_true rfl⟩) hA w [] [0] [0] rfl rfl (by decide) (fun _ => rfl) (fun _ H locs w => ?_)
  refine lv_if_ne (tgt := 14) hx hb dX8_end_9 (by decide) (fun c9 => ?_) (fun c9 => ?_)
  · have hf := pf_e c9 hf
    refine lv_aload_n hx hb dX8_end_14 rfl (lv_at hl 0 rfl) ?_
    refine lv_iload_n hx hb dX8_end_15 rfl (lv_at hl 1 rfl) ?_
    refine hm_put (ws' := [oc8 h0 r_t t_base a1 t_at t_faultPlace t_number t_newBits t_newTold t_newDoings t_newThings t_opened t_sum t_heldAll t_onPaper t_turned t_wasConverted t_lastBits t_lastSum t_lastHeld t_lastLeft t_lastCode t_writtenLong t_codeMany t_acts t_done0 t_stoppedAt]) cb_X8 hx hb hown X w 0 3 fl_X8_122 dX8_end_16 rfl (by decide) (Nat.le_of_ble_eq_true rfl) rfl rfl rfl rfl (fun H locs w => ?_)
    refine lv_iload_n hx hb dX8_end_19 rfl (lv_at hl 1 rfl) ?_
    exact hQ _ _ _ _ _ a1 (fun _ => 0) hf rfl w dX8_end_20
  · have hf := pf_t c9 hf
    refine lv_iconst (v := (-1)) hx hb dX8_end_12 (by decide) ?_
    exact hQ _ _ _ _ _ t_taped (fun _ => 0) hf rfl w dX8_end_13
set_option maxHeartbeats 8000000 in
set_option maxRecDepth 100000 in
theorem ct_X8_here (l : Launch) (E : hm_E) (sz : Nat) (h0 : Nat) (r_t : Nat → Nat) (t_base t_taped t_at t_faultPlace t_number t_newBits t_newTold t_newDoings t_newThings t_opened t_sum t_heldAll t_onPaper t_turned t_wasConverted t_lastBits t_lastSum t_lastHeld t_lastLeft t_lastCode t_writtenLong t_codeMany t_acts t_done0 t_stoppedAt : Int32) (t_tape : Nat → Int32) (R : Int32 × Unit) (hf : pf_X8_here t_tape t_taped t_at = some R) : hm_Mi l E yX8_here cX8_here 1 .int [] (hm_rr 0 0 0 0) [.ref h0] sz [oc8 h0 r_t t_base t_taped t_at t_faultPlace t_number t_newBits t_newTold t_newDoings t_newThings t_opened t_sum t_heldAll t_onPaper t_turned t_wasConverted t_lastBits t_lastSum t_lastHeld t_lastLeft t_lastCode t_writtenLong t_codeMany t_acts t_done0 t_stoppedAt, bc E (r_t 2) 400 t_tape] R.1 (fun _ => [oc8 h0 r_t t_base t_taped t_at t_faultPlace t_number t_newBits t_newTold t_newDoings t_newThings t_opened t_sum t_heldAll t_onPaper t_turned t_wasConverted t_lastBits t_lastSum t_lastHeld t_lastLeft t_lastCode t_writtenLong t_codeMany t_acts t_done0 t_stoppedAt, bc E (r_t 2) 400 t_tape]) := by
  refine hm_ct_i R (fun u qs => [oc8 h0 r_t t_base t_taped t_at t_faultPlace t_number t_newBits t_newTold t_newDoings t_newThings t_opened t_sum t_heldAll t_onPaper t_turned t_wasConverted t_lastBits t_lastSum t_lastHeld t_lastLeft t_lastCode t_writtenLong t_codeMany t_acts t_done0 t_stoppedAt, bc E (r_t 2) 400 t_tape]) (by decide) (Nat.le_of_ble_eq_true rfl) (Or.inl rfl) ?_
  intro p e s m args below meth c A Q ls H locs hx hb hml hown X hA Y hex w hl hQ
  have hl : lv_has ls 1 [(0, .ref h0)] := hl
  unfold pf_X8_here at hf
  refine lv_aload_n hx hb dX8_here_0 rfl (lv_at hl 0 rfl) ?_
  refine hm_get cb_X8 hx hb hown X w 0 4 fl_X8_133 dX8_here_1 rfl (by decide) rfl ?_
  refine lv_aload_n hx hb dX8_here_4 rfl (lv_at hl 0 rfl) ?_
  refine hm_get cb_X8 hx hb hown X w 0 3 fl_X8_122 dX8_here_5 rfl (by decide) rfl ?_
  refine lv_icmp_ge (tgt := 27) hx hb dX8_here_8 (by decide) (fun c8 => ?_) (fun c8 => ?_)
  · have hf := pf_t c8 hf
    refine lv_iconst (v := (-1)) hx hb dX8_here_27 (by decide) ?_
    exact hQ _ _ _ _ _ () (fun _ => 0) hf rfl w dX8_here_28
  · have hf := pf_e c8 hf
    refine lv_aload_n hx hb dX8_here_11 rfl (lv_at hl 0 rfl) ?_
    refine hm_get cb_X8 hx hb hown X w 0 2 fl_X8_21 dX8_here_12 rfl (by decide) rfl ?_
    refine lv_aload_n hx hb dX8_here_15 rfl (lv_at hl 0 rfl) ?_
    refine hm_get cb_X8 hx hb hown X w 0 4 fl_X8_133 dX8_here_16 rfl (by decide) rfl ?_
    obtain ⟨g19, hf⟩ := pf_ckI hf
    refine hm_bald hx hb X w 1 dX8_here_19 rfl g19 ?_
    refine lv_sipush (v := 255) hx hb dX8_here_20 (by decide) ?_
    refine lv_iand hx hb dX8_here_23 ?_
    refine lv_goto (tgt := 28) hx hb dX8_here_24 (by decide) ?_
    exact hQ _ _ _ _ _ () (fun _ => 0) hf rfl w dX8_here_28
set_option maxHeartbeats 8000000 in
set_option maxRecDepth 100000 in
theorem ct_X8_isFigure (l : Launch) (E : hm_E) (sz : Nat) (a0 : Int32) (R : Int32 × Unit) (hf : pf_X8_isFigure a0 = some R) : hm_Mi l E yX8_isFigure cX8_isFigure 1 .boolean [] (hm_rr 0 0 0 0) [.int a0] sz [] R.1 (fun _ => []) := by
  refine hm_ct_i R (fun u qs => []) (by decide) (Nat.le_of_ble_eq_true rfl) (Or.inr rfl) ?_
  intro p e s m args below meth c A Q ls H locs hx hb hml hown X hA Y hex w hl hQ
  have hl : lv_has ls 1 [(0, .int a0)] := hl
  unfold pf_X8_isFigure at hf
  refine lv_iload_n hx hb dX8_isFigure_0 rfl (lv_at hl 0 rfl) ?_
  refine lv_bipush (v := 48) hx hb dX8_isFigure_1 (by decide) ?_
  refine lv_icmp_lt (tgt := 16) hx hb dX8_isFigure_3 (by decide) (fun c3 => ?_) (fun c3 => ?_)
  · have hf := pf_t c3 hf
    refine lv_iconst (v := 0) hx hb dX8_isFigure_16 (by decide) ?_
    exact hQ _ _ _ _ _ () (fun _ => 0) hf rfl w dX8_isFigure_17
  · have hf := pf_e c3 hf
    refine lv_iload_n hx hb dX8_isFigure_6 rfl (lv_at hl 0 rfl) ?_
    refine lv_bipush (v := 57) hx hb dX8_isFigure_7 (by decide) ?_
    refine lv_icmp_gt (tgt := 16) hx hb dX8_isFigure_9 (by decide) (fun c9 => ?_) (fun c9 => ?_)
    · have hf := pf_t c9 hf
      refine lv_iconst (v := 0) hx hb dX8_isFigure_16 (by decide) ?_
      exact hQ _ _ _ _ _ () (fun _ => 0) hf rfl w dX8_isFigure_17
    · have hf := pf_e c9 hf
      refine lv_iconst (v := 1) hx hb dX8_isFigure_12 (by decide) ?_
      refine lv_goto (tgt := 17) hx hb dX8_isFigure_13 (by decide) ?_
      exact hQ _ _ _ _ _ () (fun _ => 0) hf rfl w dX8_isFigure_17
set_option maxHeartbeats 8000000 in
set_option maxRecDepth 100000 in
theorem ct_X8_fails (l : Launch) (E : hm_E) (sz : Nat) (h0 : Nat) (r_t : Nat → Nat) (t_base t_taped t_at t_faultPlace t_number t_newBits t_newTold t_newDoings t_newThings t_opened t_sum t_heldAll t_onPaper t_turned t_wasConverted t_lastBits t_lastSum t_lastHeld t_lastLeft t_lastCode t_writtenLong t_codeMany t_acts t_done0 t_stoppedAt : Int32) (a1 : Int32) (R : Int32 × Int32) (hf : pf_X8_fails a1 = some R) : hm_Mi l E yX8_fails cX8_fails 2 .boolean [] (hm_rr 0 0 0 0) [.ref h0, .int a1] sz [oc8 h0 r_t t_base t_taped t_at t_faultPlace t_number t_newBits t_newTold t_newDoings t_newThings t_opened t_sum t_heldAll t_onPaper t_turned t_wasConverted t_lastBits t_lastSum t_lastHeld t_lastLeft t_lastCode t_writtenLong t_codeMany t_acts t_done0 t_stoppedAt] R.1 (fun _ => [oc8 h0 r_t t_base t_taped t_at R.2 t_number t_newBits t_newTold t_newDoings t_newThings t_opened t_sum t_heldAll t_onPaper t_turned t_wasConverted t_lastBits t_lastSum t_lastHeld t_lastLeft t_lastCode t_writtenLong t_codeMany t_acts t_done0 t_stoppedAt]) := by
  refine hm_ct_i R (fun u qs => [oc8 h0 r_t t_base t_taped t_at u t_number t_newBits t_newTold t_newDoings t_newThings t_opened t_sum t_heldAll t_onPaper t_turned t_wasConverted t_lastBits t_lastSum t_lastHeld t_lastLeft t_lastCode t_writtenLong t_codeMany t_acts t_done0 t_stoppedAt]) (by decide) (Nat.le_of_ble_eq_true rfl) (Or.inr rfl) ?_
  intro p e s m args below meth c A Q ls H locs hx hb hml hown X hA Y hex w hl hQ
  have hl : lv_has ls 2 [(0, .ref h0), (1, .int a1)] := hl
  unfold pf_X8_fails at hf
  refine lv_aload_n hx hb dX8_fails_0 rfl (lv_at hl 0 rfl) ?_
  refine lv_iload_n hx hb dX8_fails_1 rfl (lv_at hl 1 rfl) ?_
  refine hm_put (ws' := [oc8 h0 r_t t_base t_taped t_at a1 t_number t_newBits t_newTold t_newDoings t_newThings t_opened t_sum t_heldAll t_onPaper t_turned t_wasConverted t_lastBits t_lastSum t_lastHeld t_lastLeft t_lastCode t_writtenLong t_codeMany t_acts t_done0 t_stoppedAt]) cb_X8 hx hb hown X w 0 5 fl_X8_25 dX8_fails_2 rfl (by decide) (Nat.le_of_ble_eq_true rfl) rfl rfl rfl rfl (fun H locs w => ?_)
  refine lv_iconst (v := 0) hx hb dX8_fails_5 (by decide) ?_
  exact hQ _ _ _ _ _ a1 (fun _ => 0) hf rfl w dX8_fails_6
set_option maxHeartbeats 8000000 in
set_option maxRecDepth 100000 in
theorem ct_X8_readDigits (l : Launch) (E : hm_E) (sz : Nat) (h0 : Nat) (r_t : Nat → Nat) (t_base t_taped t_at t_faultPlace t_number t_newBits t_newTold t_newDoings t_newThings t_opened t_sum t_heldAll t_onPaper t_turned t_wasConverted t_lastBits t_lastSum t_lastHeld t_lastLeft t_lastCode t_writtenLong t_codeMany t_acts t_done0 t_stoppedAt : Int32) (t_tape : Nat → Int32) (R : Int32 × Int32 × Int32 × Int32) (hf : pf_X8_readDigits t_tape t_taped t_at t_faultPlace t_number = some R) : hm_Mi l E yX8_readDigits cX8_readDigits 2 .boolean [] (hm_rr 1 21 0 0) [.ref h0] sz [oc8 h0 r_t t_base t_taped t_at t_faultPlace t_number t_newBits t_newTold t_newDoings t_newThings t_opened t_sum t_heldAll t_onPaper t_turned t_wasConverted t_lastBits t_lastSum t_lastHeld t_lastLeft t_lastCode t_writtenLong t_codeMany t_acts t_done0 t_stoppedAt, bc E (r_t 2) 400 t_tape] R.1 (fun _ => [oc8 h0 r_t t_base t_taped (R.2.1) (R.2.2.1) (R.2.2.2) t_newBits t_newTold t_newDoings t_newThings t_opened t_sum t_heldAll t_onPaper t_turned t_wasConverted t_lastBits t_lastSum t_lastHeld t_lastLeft t_lastCode t_writtenLong t_codeMany t_acts t_done0 t_stoppedAt, bc E (r_t 2) 400 t_tape]) := by
  refine hm_ct_i R (fun u qs => [oc8 h0 r_t t_base t_taped (u.1) (u.2.1) (u.2.2) t_newBits t_newTold t_newDoings t_newThings t_opened t_sum t_heldAll t_onPaper t_turned t_wasConverted t_lastBits t_lastSum t_lastHeld t_lastLeft t_lastCode t_writtenLong t_codeMany t_acts t_done0 t_stoppedAt, bc E (r_t 2) 400 t_tape]) (by decide) (Nat.le_of_ble_eq_true rfl) (Or.inr rfl) ?_
  intro p e s m args below meth c A Q ls H locs hx hb hml hown X hA Y hex w hl hQ
  have hl : lv_has ls 2 [(0, .ref h0)] := hl
  unfold pf_X8_readDigits at hf
  refine lv_aload_n hx hb dX8_readDigits_0 rfl (lv_at hl 0 rfl) ?_
  obtain ⟨r1, hc1, hf⟩ := pf_bi_0 hf
  refine hm_aft_i (ws' := fun _ => [oc8 h0 r_t t_base t_taped t_at t_faultPlace t_number t_newBits t_newTold t_newDoings t_newThings t_opened t_sum t_heldAll t_onPaper t_turned t_wasConverted t_lastBits t_lastSum t_lastHeld t_lastLeft t_lastCode t_writtenLong t_codeMany t_acts t_done0 t_stoppedAt, bc E (r_t 2) 400 t_tape]) (hm_runV (rest := []) hx hb hml hown X hA Y w 0 (ci := 7) (T := TX8) (N := 55) rfl rfl mw_X8_here ml_X8_136 dX8_readDigits_1 hm_ac0 [] rfl [0, 1] rfl rfl (ct_X8_here l E H.size h0 r_t t_base t_taped t_at t_faultPlace t_number t_newBits t_newTold t_newDoings t_newThings t_opened t_sum t_heldAll t_onPaper t_turned t_wasConverted t_lastBits t_lastSum t_lastHeld t_lastLeft t_lastCode t_writtenLong t_codeMany t_acts t_done0 t_stoppedAt t_tape (r1, ()) hc1) rfl hl.1 ⟨⟨rfl, rfl⟩, ⟨Nat.le_of_ble_eq_true rfl, Nat.le_of_ble_eq_true rfl⟩, ⟨Nat.le_of_ble_eq_true rfl, Nat.le_of_ble_eq_true rfl⟩, Nat.le_of_ble_eq_true rfl⟩) hA w [0, 1] [] [0, 1] rfl rfl (by decide) (fun _ => rfl) (fun _ H locs w => ?_)
  obtain ⟨r2, hc4, hf⟩ := pf_bi_0 hf
  refine hm_aft_i (ws' := fun _ => [oc8 h0 r_t t_base t_taped t_at t_faultPlace t_number t_newBits t_newTold t_newDoings t_newThings t_opened t_sum t_heldAll t_onPaper t_turned t_wasConverted t_lastBits t_lastSum t_lastHeld t_lastLeft t_lastCode t_writtenLong t_codeMany t_acts t_done0 t_stoppedAt, bc E (r_t 2) 400 t_tape]) (hm_runS (rest := []) hx hb hml hown X hA Y w mw_X8_isFigure ml_X8_140 dX8_readDigits_4 hm_ac0 [.int r1] rfl [] rfl rfl (ct_X8_isFigure l E H.size r1 (r2, ()) hc4) rfl hl.1 ⟨⟨rfl, rfl⟩, ⟨Nat.le_of_ble_eq_true rfl, Nat.le_of_ble_eq_true rfl⟩, ⟨Nat.le_of_ble_eq_true rfl, Nat.le_of_ble_eq_true rfl⟩, Nat.le_of_ble_eq_true rfl⟩) hA w [] [0, 1] [0, 1] rfl rfl (by decide) (fun _ => rfl) (fun _ H locs w => ?_)
  refine lv_if_ne (tgt := 19) hx hb dX8_readDigits_7 (by decide) (fun c7 => ?_) (fun c7 => ?_)
  · have hf := pf_e c7 hf
    refine lv_aload_n hx hb dX8_readDigits_19 rfl (lv_at hl 0 rfl) ?_
    refine lv_iconst (v := 0) hx hb dX8_readDigits_20 (by decide) ?_
    refine hm_put (ws' := [oc8 h0 r_t t_base t_taped t_at t_faultPlace 0 t_newBits t_newTold t_newDoings t_newThings t_opened t_sum t_heldAll t_onPaper t_turned t_wasConverted t_lastBits t_lastSum t_lastHeld t_lastLeft t_lastCode t_writtenLong t_codeMany t_acts t_done0 t_stoppedAt, bc E (r_t 2) 400 t_tape]) cb_X8 hx hb hown X w 0 6 fl_X8_147 dX8_readDigits_21 rfl (by decide) (Nat.le_of_ble_eq_true rfl) rfl rfl rfl rfl (fun H locs w => ?_)
    refine lv_aload_n hx hb dX8_readDigits_24 rfl (lv_at hl 0 rfl) ?_
    refine hm_get cb_X8 hx hb hown X w 0 4 fl_X8_133 dX8_readDigits_25 rfl (by decide) rfl ?_
    refine lv_istore_n (lv' := [(1, .int t_at), (0, .ref h0)]) hx hb dX8_readDigits_28 rfl hl (by decide) rfl (fun ls hl => ?_)
    obtain ⟨J81, hJ81, hf⟩ := pf_jn hf
    have kJ81 : ∀ (x3 : Int32) (x4 : Int32) (H : Heap) (locs : List Loc) (ls : Array Slot), J81 x3 x4 = some R → hm_W E A s.heap [oc8 h0 r_t t_base t_taped x3 t_faultPlace x4 t_newBits t_newTold t_newDoings t_newThings t_opened t_sum t_heldAll t_onPaper t_turned t_wasConverted t_lastBits t_lastSum t_lastHeld t_lastLeft t_lastCode t_writtenLong t_codeMany t_acts t_done0 t_stoppedAt, bc E (r_t 2) 400 t_tape] H locs → lv_has ls 2 [(0, .ref h0)] → W p l e (hm_rr 1 21 0 0) s m args below meth c H locs 0 0 Q (F0 m 81 ls []) := by
      intro x3 x4 H locs ls hf w hl
      have hf := pf_j2 hJ81 hf
      refine lv_aload_n hx hb dX8_readDigits_81 rfl (lv_at hl 0 rfl) ?_
      obtain ⟨r5, hc82, hf⟩ := pf_bi_0 hf
      refine hm_aft_i (ws' := fun _ => [oc8 h0 r_t t_base t_taped x3 t_faultPlace x4 t_newBits t_newTold t_newDoings t_newThings t_opened t_sum t_heldAll t_onPaper t_turned t_wasConverted t_lastBits t_lastSum t_lastHeld t_lastLeft t_lastCode t_writtenLong t_codeMany t_acts t_done0 t_stoppedAt, bc E (r_t 2) 400 t_tape]) (hm_runV (rest := []) hx hb hml hown X hA Y w 0 (ci := 7) (T := TX8) (N := 55) rfl rfl mw_X8_here ml_X8_136 dX8_readDigits_82 hm_ac0 [] rfl [0, 1] rfl rfl (ct_X8_here l E H.size h0 r_t t_base t_taped x3 t_faultPlace x4 t_newBits t_newTold t_newDoings t_newThings t_opened t_sum t_heldAll t_onPaper t_turned t_wasConverted t_lastBits t_lastSum t_lastHeld t_lastLeft t_lastCode t_writtenLong t_codeMany t_acts t_done0 t_stoppedAt t_tape (r5, ()) hc82) rfl hl.1 ⟨⟨rfl, rfl⟩, ⟨Nat.le_of_ble_eq_true rfl, Nat.le_of_ble_eq_true rfl⟩, ⟨Nat.le_of_ble_eq_true rfl, Nat.le_of_ble_eq_true rfl⟩, Nat.le_of_ble_eq_true rfl⟩) hA w [0, 1] [] [0, 1] rfl rfl (by decide) (fun _ => rfl) (fun _ H locs w => ?_)
      obtain ⟨r6, hc85, hf⟩ := pf_bi_0 hf
      refine hm_aft_i (ws' := fun _ => [oc8 h0 r_t t_base t_taped x3 t_faultPlace x4 t_newBits t_newTold t_newDoings t_newThings t_opened t_sum t_heldAll t_onPaper t_turned t_wasConverted t_lastBits t_lastSum t_lastHeld t_lastLeft t_lastCode t_writtenLong t_codeMany t_acts t_done0 t_stoppedAt, bc E (r_t 2) 400 t_tape]) (hm_runS (rest := []) hx hb hml hown X hA Y w mw_X8_isFigure ml_X8_140 dX8_readDigits_85 hm_ac0 [.int r5] rfl [] rfl rfl (ct_X8_isFigure l E H.size r5 (r6, ()) hc85) rfl hl.1 ⟨⟨rfl, rfl⟩, ⟨Nat.le_of_ble_eq_true rfl, Nat.le_of_ble_eq_true rfl⟩, ⟨Nat.le_of_ble_eq_true rfl, Nat.le_of_ble_eq_true rfl⟩, Nat.le_of_ble_eq_true rfl⟩) hA w [] [0, 1] [0, 1] rfl rfl (by decide) (fun _ => rfl) (fun _ H locs w => ?_)
      refine lv_if_eq (tgt := 102) hx hb dX8_readDigits_88 (by decide) (fun c88 => ?_) (fun c88 => ?_)
      · have hf := pf_t c88 hf
        refine lv_iconst (v := 1) hx hb dX8_readDigits_102 (by decide) ?_
        refine lv_goto (tgt := 107) hx hb dX8_readDigits_103 (by decide) ?_
        exact hQ _ _ _ _ _ (x3, t_faultPlace, x4) (fun _ => 0) hf rfl w dX8_readDigits_107
      · have hf := pf_e c88 hf
        refine lv_aload_n hx hb dX8_readDigits_91 rfl (lv_at hl 0 rfl) ?_
        refine lv_aload_n hx hb dX8_readDigits_92 rfl (lv_at hl 0 rfl) ?_
        refine hm_get cb_X8 hx hb hown X w 0 4 fl_X8_133 dX8_readDigits_93 rfl (by decide) rfl ?_
        obtain ⟨r7, x8, hc96, hf⟩ := pf_bi_1 hf
        refine hm_aft_i (ws' := fun _ => [oc8 h0 r_t t_base t_taped x3 x8 x4 t_newBits t_newTold t_newDoings t_newThings t_opened t_sum t_heldAll t_onPaper t_turned t_wasConverted t_lastBits t_lastSum t_lastHeld t_lastLeft t_lastCode t_writtenLong t_codeMany t_acts t_done0 t_stoppedAt, bc E (r_t 2) 400 t_tape]) (hm_runV (rest := []) hx hb hml hown X hA Y w 0 (ci := 7) (T := TX8) (N := 55) rfl rfl mw_X8_fails ml_X8_144 dX8_readDigits_96 hm_ac0 [.int x3] rfl [0] rfl rfl (ct_X8_fails l E H.size h0 r_t t_base t_taped x3 t_faultPlace x4 t_newBits t_newTold t_newDoings t_newThings t_opened t_sum t_heldAll t_onPaper t_turned t_wasConverted t_lastBits t_lastSum t_lastHeld t_lastLeft t_lastCode t_writtenLong t_codeMany t_acts t_done0 t_stoppedAt x3 (r7, x8) hc96) rfl hl.1 ⟨⟨rfl, rfl⟩, ⟨Nat.le_of_ble_eq_true rfl, Nat.le_of_ble_eq_true rfl⟩, ⟨Nat.le_of_ble_eq_true rfl, Nat.le_of_ble_eq_true rfl⟩, Nat.le_of_ble_eq_true rfl⟩) hA w [0] [1] [1, 0] rfl rfl (by decide) (fun _ => rfl) (fun _ H locs w => ?_)
        refine lv_if_eq (tgt := 106) hx hb dX8_readDigits_99 (by decide) (fun c99 => ?_) (fun c99 => ?_)
        · have hf := pf_t c99 hf
          refine lv_iconst (v := 0) hx hb dX8_readDigits_106 (by decide) ?_
          exact hQ _ _ _ _ _ (x3, x8, x4) (fun _ => 0) hf rfl w dX8_readDigits_107
        · have hf := pf_e c99 hf
          refine lv_iconst (v := 1) hx hb dX8_readDigits_102 (by decide) ?_
          refine lv_goto (tgt := 107) hx hb dX8_readDigits_103 (by decide) ?_
          exact hQ _ _ _ _ _ (x3, x8, x4) (fun _ => 0) hf rfl w dX8_readDigits_107
    have klp_X8_readDigits_29 : ∀ (n : Nat) (x9 : Int32) (x10 : Int32) (H : Heap) (locs : List Loc) (ls : Array Slot), lp_X8_readDigits_29 t_taped t_at t_tape J81 n x9 x10 = some R → hm_W E A s.heap [oc8 h0 r_t t_base t_taped x9 t_faultPlace x10 t_newBits t_newTold t_newDoings t_newThings t_opened t_sum t_heldAll t_onPaper t_turned t_wasConverted t_lastBits t_lastSum t_lastHeld t_lastLeft t_lastCode t_writtenLong t_codeMany t_acts t_done0 t_stoppedAt, bc E (r_t 2) 400 t_tape] H locs → lv_has ls 2 [(0, .ref h0), (1, .int t_at)] → W p l e (hm_rr 1 21 0 0) s m args below meth c H locs 0 0 Q (F0 m 29 ls []) := by
      intro n
      induction n with
      | zero =>
        intro x9 x10 H locs ls hf w hl
        exact pf_no hf
      | succ n ih29 =>
        intro x9 x10 H locs ls hf w hl
        rw [lp_X8_readDigits_29] at hf
        refine lv_aload_n hx hb dX8_readDigits_29 rfl (lv_at hl 0 rfl) ?_
        obtain ⟨r11, hc30, hf⟩ := pf_bi_0 hf
        refine hm_aft_i (ws' := fun _ => [oc8 h0 r_t t_base t_taped x9 t_faultPlace x10 t_newBits t_newTold t_newDoings t_newThings t_opened t_sum t_heldAll t_onPaper t_turned t_wasConverted t_lastBits t_lastSum t_lastHeld t_lastLeft t_lastCode t_writtenLong t_codeMany t_acts t_done0 t_stoppedAt, bc E (r_t 2) 400 t_tape]) (hm_runV (rest := []) hx hb hml hown X hA Y w 0 (ci := 7) (T := TX8) (N := 55) rfl rfl mw_X8_here ml_X8_136 dX8_readDigits_30 hm_ac0 [] rfl [0, 1] rfl rfl (ct_X8_here l E H.size h0 r_t t_base t_taped x9 t_faultPlace x10 t_newBits t_newTold t_newDoings t_newThings t_opened t_sum t_heldAll t_onPaper t_turned t_wasConverted t_lastBits t_lastSum t_lastHeld t_lastLeft t_lastCode t_writtenLong t_codeMany t_acts t_done0 t_stoppedAt t_tape (r11, ()) hc30) rfl hl.1 ⟨⟨rfl, rfl⟩, ⟨Nat.le_of_ble_eq_true rfl, Nat.le_of_ble_eq_true rfl⟩, ⟨Nat.le_of_ble_eq_true rfl, Nat.le_of_ble_eq_true rfl⟩, Nat.le_of_ble_eq_true rfl⟩) hA w [0, 1] [] [0, 1] rfl rfl (by decide) (fun _ => rfl) (fun _ H locs w => ?_)
        obtain ⟨r12, hc33, hf⟩ := pf_bi_0 hf
        refine hm_aft_i (ws' := fun _ => [oc8 h0 r_t t_base t_taped x9 t_faultPlace x10 t_newBits t_newTold t_newDoings t_newThings t_opened t_sum t_heldAll t_onPaper t_turned t_wasConverted t_lastBits t_lastSum t_lastHeld t_lastLeft t_lastCode t_writtenLong t_codeMany t_acts t_done0 t_stoppedAt, bc E (r_t 2) 400 t_tape]) (hm_runS (rest := []) hx hb hml hown X hA Y w mw_X8_isFigure ml_X8_140 dX8_readDigits_33 hm_ac0 [.int r11] rfl [] rfl rfl (ct_X8_isFigure l E H.size r11 (r12, ()) hc33) rfl hl.1 ⟨⟨rfl, rfl⟩, ⟨Nat.le_of_ble_eq_true rfl, Nat.le_of_ble_eq_true rfl⟩, ⟨Nat.le_of_ble_eq_true rfl, Nat.le_of_ble_eq_true rfl⟩, Nat.le_of_ble_eq_true rfl⟩) hA w [] [0, 1] [0, 1] rfl rfl (by decide) (fun _ => rfl) (fun _ H locs w => ?_)
        refine lv_if_eq (tgt := 81) hx hb dX8_readDigits_36 (by decide) (fun c36 => ?_) (fun c36 => ?_)
        · have hf := pf_t c36 hf
          exact kJ81 _ _ _ _ _ hf w (lv_sub hl [0] rfl)
        · have hf := pf_e c36 hf
          refine lv_aload_n hx hb dX8_readDigits_39 rfl (lv_at hl 0 rfl) ?_
          refine hm_get cb_X8 hx hb hown X w 0 4 fl_X8_133 dX8_readDigits_40 rfl (by decide) rfl ?_
          refine lv_iload_n hx hb dX8_readDigits_43 rfl (lv_at hl 1 rfl) ?_
          refine lv_isub hx hb dX8_readDigits_44 ?_
          refine lv_iconst (v := 4) hx hb dX8_readDigits_45 (by decide) ?_
          refine lv_icmp_ge (tgt := 81) hx hb dX8_readDigits_46 (by decide) (fun c46 => ?_) (fun c46 => ?_)
          · have hf := pf_t c46 hf
            exact kJ81 _ _ _ _ _ hf w (lv_sub hl [0] rfl)
          · have hf := pf_e c46 hf
            refine lv_aload_n hx hb dX8_readDigits_49 rfl (lv_at hl 0 rfl) ?_
            refine lv_bipush (v := 10) hx hb dX8_readDigits_50 (by decide) ?_
            refine lv_aload_n hx hb dX8_readDigits_52 rfl (lv_at hl 0 rfl) ?_
            refine hm_get cb_X8 hx hb hown X w 0 6 fl_X8_147 dX8_readDigits_53 rfl (by decide) rfl ?_
            refine lv_imul hx hb dX8_readDigits_56 ?_
            refine lv_aload_n hx hb dX8_readDigits_57 rfl (lv_at hl 0 rfl) ?_
            obtain ⟨r13, hc58, hf⟩ := pf_bi_0 hf
            refine hm_aft_i (ws' := fun _ => [oc8 h0 r_t t_base t_taped x9 t_faultPlace x10 t_newBits t_newTold t_newDoings t_newThings t_opened t_sum t_heldAll t_onPaper t_turned t_wasConverted t_lastBits t_lastSum t_lastHeld t_lastLeft t_lastCode t_writtenLong t_codeMany t_acts t_done0 t_stoppedAt, bc E (r_t 2) 400 t_tape]) (hm_runV (rest := [.int (10 * x10), .ref h0]) hx hb hml hown X hA Y w 0 (ci := 7) (T := TX8) (N := 55) rfl rfl mw_X8_here ml_X8_136 dX8_readDigits_58 hm_ac0 [] rfl [0, 1] rfl rfl (ct_X8_here l E H.size h0 r_t t_base t_taped x9 t_faultPlace x10 t_newBits t_newTold t_newDoings t_newThings t_opened t_sum t_heldAll t_onPaper t_turned t_wasConverted t_lastBits t_lastSum t_lastHeld t_lastLeft t_lastCode t_writtenLong t_codeMany t_acts t_done0 t_stoppedAt t_tape (r13, ()) hc58) rfl hl.1 ⟨⟨rfl, rfl⟩, ⟨Nat.le_of_ble_eq_true rfl, Nat.le_of_ble_eq_true rfl⟩, ⟨Nat.le_of_ble_eq_true rfl, Nat.le_of_ble_eq_true rfl⟩, Nat.le_of_ble_eq_true rfl⟩) hA w [0, 1] [] [0, 1] rfl rfl (by decide) (fun _ => rfl) (fun _ H locs w => ?_)
            refine lv_iadd hx hb dX8_readDigits_61 ?_
            refine lv_bipush (v := 48) hx hb dX8_readDigits_62 (by decide) ?_
            refine lv_isub hx hb dX8_readDigits_64 ?_
            refine lv_topi (fun x14 ex14 => ?_)
            have hf := pf_nm ex14 hf
            refine hm_put (ws' := [oc8 h0 r_t t_base t_taped x9 t_faultPlace x14 t_newBits t_newTold t_newDoings t_newThings t_opened t_sum t_heldAll t_onPaper t_turned t_wasConverted t_lastBits t_lastSum t_lastHeld t_lastLeft t_lastCode t_writtenLong t_codeMany t_acts t_done0 t_stoppedAt, bc E (r_t 2) 400 t_tape]) cb_X8 hx hb hown X w 0 6 fl_X8_147 dX8_readDigits_65 rfl (by decide) (Nat.le_of_ble_eq_true rfl) rfl rfl rfl rfl (fun H locs w => ?_)
            refine lv_aload_n hx hb dX8_readDigits_68 rfl (lv_at hl 0 rfl) ?_
            refine lv_dup hx hb dX8_readDigits_69 rfl ?_
            refine hm_get cb_X8 hx hb hown X w 0 4 fl_X8_133 dX8_readDigits_70 rfl (by decide) rfl ?_
            refine lv_iconst (v := 1) hx hb dX8_readDigits_73 (by decide) ?_
            refine lv_iadd hx hb dX8_readDigits_74 ?_
            refine lv_topi (fun x15 ex15 => ?_)
            have hf := pf_nm ex15 hf
            refine hm_put (ws' := [oc8 h0 r_t t_base t_taped x15 t_faultPlace x14 t_newBits t_newTold t_newDoings t_newThings t_opened t_sum t_heldAll t_onPaper t_turned t_wasConverted t_lastBits t_lastSum t_lastHeld t_lastLeft t_lastCode t_writtenLong t_codeMany t_acts t_done0 t_stoppedAt, bc E (r_t 2) 400 t_tape]) cb_X8 hx hb hown X w 0 4 fl_X8_133 dX8_readDigits_75 rfl (by decide) (Nat.le_of_ble_eq_true rfl) rfl rfl rfl rfl (fun H locs w => ?_)
            refine lv_goto (tgt := 29) hx hb dX8_readDigits_78 (by decide) ?_
            exact ih29 _ _ _ _ _ hf w (lv_sub hl [0, 1] rfl)
    exact klp_X8_readDigits_29 FU _ _ _ _ _ hf w (lv_sub hl [1, 0] rfl)
  · have hf := pf_t c7 hf
    refine lv_aload_n hx hb dX8_readDigits_10 rfl (lv_at hl 0 rfl) ?_
    refine lv_aload_n hx hb dX8_readDigits_11 rfl (lv_at hl 0 rfl) ?_
    refine hm_get cb_X8 hx hb hown X w 0 4 fl_X8_133 dX8_readDigits_12 rfl (by decide) rfl ?_
    obtain ⟨r16, x17, hc15, hf⟩ := pf_bi_1 hf
    refine hm_aft_i (ws' := fun _ => [oc8 h0 r_t t_base t_taped t_at x17 t_number t_newBits t_newTold t_newDoings t_newThings t_opened t_sum t_heldAll t_onPaper t_turned t_wasConverted t_lastBits t_lastSum t_lastHeld t_lastLeft t_lastCode t_writtenLong t_codeMany t_acts t_done0 t_stoppedAt, bc E (r_t 2) 400 t_tape]) (hm_runV (rest := []) hx hb hml hown X hA Y w 0 (ci := 7) (T := TX8) (N := 55) rfl rfl mw_X8_fails ml_X8_144 dX8_readDigits_15 hm_ac0 [.int t_at] rfl [0] rfl rfl (ct_X8_fails l E H.size h0 r_t t_base t_taped t_at t_faultPlace t_number t_newBits t_newTold t_newDoings t_newThings t_opened t_sum t_heldAll t_onPaper t_turned t_wasConverted t_lastBits t_lastSum t_lastHeld t_lastLeft t_lastCode t_writtenLong t_codeMany t_acts t_done0 t_stoppedAt t_at (r16, x17) hc15) rfl hl.1 ⟨⟨rfl, rfl⟩, ⟨Nat.le_of_ble_eq_true rfl, Nat.le_of_ble_eq_true rfl⟩, ⟨Nat.le_of_ble_eq_true rfl, Nat.le_of_ble_eq_true rfl⟩, Nat.le_of_ble_eq_true rfl⟩) hA w [0] [1] [1, 0] rfl rfl (by decide) (fun _ => rfl) (fun _ H locs w => ?_)
    obtain ⟨g18, hf⟩ := pf_ckZ hf
    exact hQ _ _ _ _ _ (t_at, x17, t_number) (fun _ => 0) hf (hm_z g18) w dX8_readDigits_18
set_option maxHeartbeats 8000000 in
set_option maxRecDepth 100000 in
theorem ct_X8_readNumber (l : Launch) (E : hm_E) (sz : Nat) (h0 : Nat) (r_t : Nat → Nat) (t_base t_taped t_at t_faultPlace t_number t_newBits t_newTold t_newDoings t_newThings t_opened t_sum t_heldAll t_onPaper t_turned t_wasConverted t_lastBits t_lastSum t_lastHeld t_lastLeft t_lastCode t_writtenLong t_codeMany t_acts t_done0 t_stoppedAt : Int32) (t_tape : Nat → Int32) (a1 : Int32) (a2 : Int32) (R : Int32 × Int32 × Int32 × Int32) (hf : pf_X8_readNumber a1 a2 t_tape t_taped t_at t_faultPlace t_number = some R) : hm_Mi l E yX8_readNumber cX8_readNumber 5 .boolean [] (hm_rr 2 42 0 0) [.ref h0, .int a1, .int a2] sz [oc8 h0 r_t t_base t_taped t_at t_faultPlace t_number t_newBits t_newTold t_newDoings t_newThings t_opened t_sum t_heldAll t_onPaper t_turned t_wasConverted t_lastBits t_lastSum t_lastHeld t_lastLeft t_lastCode t_writtenLong t_codeMany t_acts t_done0 t_stoppedAt, bc E (r_t 2) 400 t_tape] R.1 (fun _ => [oc8 h0 r_t t_base t_taped (R.2.1) (R.2.2.1) (R.2.2.2) t_newBits t_newTold t_newDoings t_newThings t_opened t_sum t_heldAll t_onPaper t_turned t_wasConverted t_lastBits t_lastSum t_lastHeld t_lastLeft t_lastCode t_writtenLong t_codeMany t_acts t_done0 t_stoppedAt, bc E (r_t 2) 400 t_tape]) := by
  refine hm_ct_i R (fun u qs => [oc8 h0 r_t t_base t_taped (u.1) (u.2.1) (u.2.2) t_newBits t_newTold t_newDoings t_newThings t_opened t_sum t_heldAll t_onPaper t_turned t_wasConverted t_lastBits t_lastSum t_lastHeld t_lastLeft t_lastCode t_writtenLong t_codeMany t_acts t_done0 t_stoppedAt, bc E (r_t 2) 400 t_tape]) (by decide) (Nat.le_of_ble_eq_true rfl) (Or.inr rfl) ?_
  intro p e s m args below meth c A Q ls H locs hx hb hml hown X hA Y hex w hl hQ
  have hl : lv_has ls 5 [(0, .ref h0), (1, .int a1), (2, .int a2)] := hl
  unfold pf_X8_readNumber at hf
  refine lv_aload_n hx hb dX8_readNumber_0 rfl (lv_at hl 0 rfl) ?_
  refine hm_get cb_X8 hx hb hown X w 0 4 fl_X8_133 dX8_readNumber_1 rfl (by decide) rfl ?_
  refine lv_istore_n (lv' := [(3, .int t_at), (0, .ref h0), (1, .int a1), (2, .int a2)]) hx hb dX8_readNumber_4 rfl hl (by decide) rfl (fun ls hl => ?_)
  refine lv_iload_n hx hb dX8_readNumber_5 rfl (lv_at hl 2 rfl) ?_
  obtain ⟨J23, hJ23, hf⟩ := pf_jn hf
  have kJ23 : ∀ (x1 : Int32) (H : Heap) (locs : List Loc) (ls : Array Slot), J23 x1 = some R → hm_W E A s.heap [oc8 h0 r_t t_base t_taped t_at t_faultPlace t_number t_newBits t_newTold t_newDoings t_newThings t_opened t_sum t_heldAll t_onPaper t_turned t_wasConverted t_lastBits t_lastSum t_lastHeld t_lastLeft t_lastCode t_writtenLong t_codeMany t_acts t_done0 t_stoppedAt, bc E (r_t 2) 400 t_tape] H locs → lv_has ls 5 [(0, .ref h0), (1, .int a1), (2, .int a2), (3, .int t_at)] → W p l e (hm_rr 2 42 0 0) s m args below meth c H locs 0 0 Q (F0 m 23 ls [.int x1]) := by
    intro x1 H locs ls hf w hl
    have hf := pf_j1 hJ23 hf
    refine lv_istore (lv' := [(4, .int x1), (0, .ref h0), (1, .int a1), (2, .int a2), (3, .int t_at)]) hx hb dX8_readNumber_23 hl (by decide) rfl (fun ls hl => ?_)
    refine lv_iload hx hb dX8_readNumber_25 (lv_at hl 0 rfl) ?_
    obtain ⟨J40, hJ40, hf⟩ := pf_jn hf
    have kJ40 : ∀ (x2 : Int32) (H : Heap) (locs : List Loc) (ls : Array Slot), J40 x2 = some R → hm_W E A s.heap [oc8 h0 r_t t_base t_taped x2 t_faultPlace t_number t_newBits t_newTold t_newDoings t_newThings t_opened t_sum t_heldAll t_onPaper t_turned t_wasConverted t_lastBits t_lastSum t_lastHeld t_lastLeft t_lastCode t_writtenLong t_codeMany t_acts t_done0 t_stoppedAt, bc E (r_t 2) 400 t_tape] H locs → lv_has ls 5 [(0, .ref h0), (1, .int a1), (2, .int a2), (3, .int t_at), (4, .int x1)] → W p l e (hm_rr 2 42 0 0) s m args below meth c H locs 0 0 Q (F0 m 40 ls []) := by
      intro x2 H locs ls hf w hl
      have hf := pf_j1 hJ40 hf
      refine lv_aload_n hx hb dX8_readNumber_40 rfl (lv_at hl 0 rfl) ?_
      obtain ⟨r3, x4, x5, x6, hc41, hf⟩ := pf_bi_3 hf
      refine hm_aft_i (ws' := fun _ => [oc8 h0 r_t t_base t_taped x4 x5 x6 t_newBits t_newTold t_newDoings t_newThings t_opened t_sum t_heldAll t_onPaper t_turned t_wasConverted t_lastBits t_lastSum t_lastHeld t_lastLeft t_lastCode t_writtenLong t_codeMany t_acts t_done0 t_stoppedAt, bc E (r_t 2) 400 t_tape]) (hm_runV (rest := []) hx hb hml hown X hA Y w 0 (ci := 7) (T := TX8) (N := 55) rfl rfl mw_X8_readDigits ml_X8_150 dX8_readNumber_41 hm_ac0 [] rfl [0, 1] rfl rfl (ct_X8_readDigits l E H.size h0 r_t t_base t_taped x2 t_faultPlace t_number t_newBits t_newTold t_newDoings t_newThings t_opened t_sum t_heldAll t_onPaper t_turned t_wasConverted t_lastBits t_lastSum t_lastHeld t_lastLeft t_lastCode t_writtenLong t_codeMany t_acts t_done0 t_stoppedAt t_tape (r3, x4, x5, x6) hc41) rfl hl.1 ⟨⟨rfl, rfl⟩, ⟨Nat.le_of_ble_eq_true rfl, Nat.le_of_ble_eq_true rfl⟩, ⟨Nat.le_of_ble_eq_true rfl, Nat.le_of_ble_eq_true rfl⟩, Nat.le_of_ble_eq_true rfl⟩) hA w [0, 1] [] [0, 1] rfl rfl (by decide) (fun _ => rfl) (fun _ H locs w => ?_)
      refine lv_if_ne (tgt := 49) hx hb dX8_readNumber_44 (by decide) (fun c44 => ?_) (fun c44 => ?_)
      · have hf := pf_e c44 hf
        refine lv_iload hx hb dX8_readNumber_49 (lv_at hl 4 rfl) ?_
        obtain ⟨J63, hJ63, hf⟩ := pf_jn hf
        have kJ63 : ∀ (x7 : Int32) (H : Heap) (locs : List Loc) (ls : Array Slot), J63 x7 = some R → hm_W E A s.heap [oc8 h0 r_t t_base t_taped x4 x5 x7 t_newBits t_newTold t_newDoings t_newThings t_opened t_sum t_heldAll t_onPaper t_turned t_wasConverted t_lastBits t_lastSum t_lastHeld t_lastLeft t_lastCode t_writtenLong t_codeMany t_acts t_done0 t_stoppedAt, bc E (r_t 2) 400 t_tape] H locs → lv_has ls 5 [(0, .ref h0), (1, .int a1), (2, .int a2), (3, .int t_at)] → W p l e (hm_rr 2 42 0 0) s m args below meth c H locs 0 0 Q (F0 m 63 ls []) := by
          intro x7 H locs ls hf w hl
          have hf := pf_j1 hJ63 hf
          refine lv_aload_n hx hb dX8_readNumber_63 rfl (lv_at hl 0 rfl) ?_
          refine hm_get cb_X8 hx hb hown X w 0 6 fl_X8_147 dX8_readNumber_64 rfl (by decide) rfl ?_
          refine lv_iload_n hx hb dX8_readNumber_67 rfl (lv_at hl 1 rfl) ?_
          refine lv_iload_n hx hb dX8_readNumber_68 rfl (lv_at hl 2 rfl) ?_
          obtain ⟨r8, hc69, hf⟩ := pf_bi_0 hf
          refine hm_aft_i (ws' := fun _ => [oc8 h0 r_t t_base t_taped x4 x5 x7 t_newBits t_newTold t_newDoings t_newThings t_opened t_sum t_heldAll t_onPaper t_turned t_wasConverted t_lastBits t_lastSum t_lastHeld t_lastLeft t_lastCode t_writtenLong t_codeMany t_acts t_done0 t_stoppedAt, bc E (r_t 2) 400 t_tape]) (hm_runS (rest := []) hx hb hml hown X hA Y w mw_X8_isIn ml_X8_129 dX8_readNumber_69 hm_ac0 [.int x7, .int a1, .int a2] rfl [] rfl rfl (ct_X8_isIn l E H.size x7 a1 a2 (r8, ()) hc69) rfl hl.1 ⟨⟨rfl, rfl⟩, ⟨Nat.le_of_ble_eq_true rfl, Nat.le_of_ble_eq_true rfl⟩, ⟨Nat.le_of_ble_eq_true rfl, Nat.le_of_ble_eq_true rfl⟩, Nat.le_of_ble_eq_true rfl⟩) hA w [] [0, 1] [0, 1] rfl rfl (by decide) (fun _ => rfl) (fun _ H locs w => ?_)
          refine lv_if_ne (tgt := 83) hx hb dX8_readNumber_72 (by decide) (fun c72 => ?_) (fun c72 => ?_)
          · have hf := pf_e c72 hf
            refine lv_iconst (v := 1) hx hb dX8_readNumber_83 (by decide) ?_
            refine lv_goto (tgt := 88) hx hb dX8_readNumber_84 (by decide) ?_
            exact hQ _ _ _ _ _ (x4, x5, x7) (fun _ => 0) hf rfl w dX8_readNumber_88
          · have hf := pf_t c72 hf
            refine lv_aload_n hx hb dX8_readNumber_75 rfl (lv_at hl 0 rfl) ?_
            refine lv_iload_n hx hb dX8_readNumber_76 rfl (lv_at hl 3 rfl) ?_
            obtain ⟨r9, x10, hc77, hf⟩ := pf_bi_1 hf
            refine hm_aft_i (ws' := fun _ => [oc8 h0 r_t t_base t_taped x4 x10 x7 t_newBits t_newTold t_newDoings t_newThings t_opened t_sum t_heldAll t_onPaper t_turned t_wasConverted t_lastBits t_lastSum t_lastHeld t_lastLeft t_lastCode t_writtenLong t_codeMany t_acts t_done0 t_stoppedAt, bc E (r_t 2) 400 t_tape]) (hm_runV (rest := []) hx hb hml hown X hA Y w 0 (ci := 7) (T := TX8) (N := 55) rfl rfl mw_X8_fails ml_X8_144 dX8_readNumber_77 hm_ac0 [.int t_at] rfl [0] rfl rfl (ct_X8_fails l E H.size h0 r_t t_base t_taped x4 x5 x7 t_newBits t_newTold t_newDoings t_newThings t_opened t_sum t_heldAll t_onPaper t_turned t_wasConverted t_lastBits t_lastSum t_lastHeld t_lastLeft t_lastCode t_writtenLong t_codeMany t_acts t_done0 t_stoppedAt t_at (r9, x10) hc77) rfl hl.1 ⟨⟨rfl, rfl⟩, ⟨Nat.le_of_ble_eq_true rfl, Nat.le_of_ble_eq_true rfl⟩, ⟨Nat.le_of_ble_eq_true rfl, Nat.le_of_ble_eq_true rfl⟩, Nat.le_of_ble_eq_true rfl⟩) hA w [0] [1] [1, 0] rfl rfl (by decide) (fun _ => rfl) (fun _ H locs w => ?_)
            refine lv_if_eq (tgt := 87) hx hb dX8_readNumber_80 (by decide) (fun c80 => ?_) (fun c80 => ?_)
            · have hf := pf_t c80 hf
              refine lv_iconst (v := 0) hx hb dX8_readNumber_87 (by decide) ?_
              exact hQ _ _ _ _ _ (x4, x10, x7) (fun _ => 0) hf rfl w dX8_readNumber_88
            · have hf := pf_e c80 hf
              refine lv_iconst (v := 1) hx hb dX8_readNumber_83 (by decide) ?_
              refine lv_goto (tgt := 88) hx hb dX8_readNumber_84 (by decide) ?_
              exact hQ _ _ _ _ _ (x4, x10, x7) (fun _ => 0) hf rfl w dX8_readNumber_88
        refine lv_if_eq (tgt := 63) hx hb dX8_readNumber_51 (by decide) (fun c51 => ?_) (fun c51 => ?_)
        · have hf := pf_t c51 hf
          exact kJ63 _ _ _ _ hf w (lv_sub hl [0, 1, 2, 3] rfl)
        · have hf := pf_e c51 hf
          refine lv_aload_n hx hb dX8_readNumber_54 rfl (lv_at hl 0 rfl) ?_
          refine lv_aload_n hx hb dX8_readNumber_55 rfl (lv_at hl 0 rfl) ?_
          refine hm_get cb_X8 hx hb hown X w 0 6 fl_X8_147 dX8_readNumber_56 rfl (by decide) rfl ?_
          refine lv_ineg hx hb dX8_readNumber_59 ?_
          refine lv_topi (fun x11 ex11 => ?_)
          have hf := pf_nm ex11 hf
          refine hm_put (ws' := [oc8 h0 r_t t_base t_taped x4 x5 x11 t_newBits t_newTold t_newDoings t_newThings t_opened t_sum t_heldAll t_onPaper t_turned t_wasConverted t_lastBits t_lastSum t_lastHeld t_lastLeft t_lastCode t_writtenLong t_codeMany t_acts t_done0 t_stoppedAt, bc E (r_t 2) 400 t_tape]) cb_X8 hx hb hown X w 0 6 fl_X8_147 dX8_readNumber_60 rfl (by decide) (Nat.le_of_ble_eq_true rfl) rfl rfl rfl rfl (fun H locs w => ?_)
          exact kJ63 _ _ _ _ hf w (lv_sub hl [0, 1, 2, 3] rfl)
      · have hf := pf_t c44 hf
        refine lv_iconst (v := 0) hx hb dX8_readNumber_47 (by decide) ?_
        exact hQ _ _ _ _ _ (x4, x5, x6) (fun _ => 0) hf rfl w dX8_readNumber_48
    refine lv_if_eq (tgt := 40) hx hb dX8_readNumber_27 (by decide) (fun c27 => ?_) (fun c27 => ?_)
    · have hf := pf_t c27 hf
      exact kJ40 _ _ _ _ hf w (lv_sub hl [1, 2, 3, 4, 0] rfl)
    · have hf := pf_e c27 hf
      refine lv_aload_n hx hb dX8_readNumber_30 rfl (lv_at hl 1 rfl) ?_
      refine lv_dup hx hb dX8_readNumber_31 rfl ?_
      refine hm_get cb_X8 hx hb hown X w 0 4 fl_X8_133 dX8_readNumber_32 rfl (by decide) rfl ?_
      refine lv_iconst (v := 1) hx hb dX8_readNumber_35 (by decide) ?_
      refine lv_iadd hx hb dX8_readNumber_36 ?_
      refine lv_topi (fun x12 ex12 => ?_)
      have hf := pf_nm ex12 hf
      refine hm_put (ws' := [oc8 h0 r_t t_base t_taped x12 t_faultPlace t_number t_newBits t_newTold t_newDoings t_newThings t_opened t_sum t_heldAll t_onPaper t_turned t_wasConverted t_lastBits t_lastSum t_lastHeld t_lastLeft t_lastCode t_writtenLong t_codeMany t_acts t_done0 t_stoppedAt, bc E (r_t 2) 400 t_tape]) cb_X8 hx hb hown X w 0 4 fl_X8_133 dX8_readNumber_37 rfl (by decide) (Nat.le_of_ble_eq_true rfl) rfl rfl rfl rfl (fun H locs w => ?_)
      exact kJ40 _ _ _ _ hf w (lv_sub hl [1, 2, 3, 4, 0] rfl)
  obtain ⟨J22, hJ22, hf⟩ := pf_jn hf
  have kJ22 : ∀ (H : Heap) (locs : List Loc) (ls : Array Slot), J22 = some R → hm_W E A s.heap [oc8 h0 r_t t_base t_taped t_at t_faultPlace t_number t_newBits t_newTold t_newDoings t_newThings t_opened t_sum t_heldAll t_onPaper t_turned t_wasConverted t_lastBits t_lastSum t_lastHeld t_lastLeft t_lastCode t_writtenLong t_codeMany t_acts t_done0 t_stoppedAt, bc E (r_t 2) 400 t_tape] H locs → lv_has ls 5 [(0, .ref h0), (1, .int a1), (2, .int a2), (3, .int t_at)] → W p l e (hm_rr 2 42 0 0) s m args below meth c H locs 0 0 Q (F0 m 22 ls []) := by
    intro H locs ls hf w hl
    have hf := pf_j0 hJ22 hf
    refine lv_iconst (v := 0) hx hb dX8_readNumber_22 (by decide) ?_
    exact kJ23 _ _ _ _ hf w (lv_sub hl [0, 1, 2, 3] rfl)
  refine lv_if_ge (tgt := 22) hx hb dX8_readNumber_6 (by decide) (fun c6 => ?_) (fun c6 => ?_)
  · have hf := pf_t c6 hf
    exact kJ22 _ _ _ hf w (lv_sub hl [1, 2, 3, 0] rfl)
  · have hf := pf_e c6 hf
    refine lv_aload_n hx hb dX8_readNumber_9 rfl (lv_at hl 1 rfl) ?_
    obtain ⟨r13, hc10, hf⟩ := pf_bi_0 hf
    refine hm_aft_i (ws' := fun _ => [oc8 h0 r_t t_base t_taped t_at t_faultPlace t_number t_newBits t_newTold t_newDoings t_newThings t_opened t_sum t_heldAll t_onPaper t_turned t_wasConverted t_lastBits t_lastSum t_lastHeld t_lastLeft t_lastCode t_writtenLong t_codeMany t_acts t_done0 t_stoppedAt, bc E (r_t 2) 400 t_tape]) (hm_runV (rest := []) hx hb hml hown X hA Y w 0 (ci := 7) (T := TX8) (N := 55) rfl rfl mw_X8_here ml_X8_136 dX8_readNumber_10 hm_ac0 [] rfl [0, 1] rfl rfl (ct_X8_here l E H.size h0 r_t t_base t_taped t_at t_faultPlace t_number t_newBits t_newTold t_newDoings t_newThings t_opened t_sum t_heldAll t_onPaper t_turned t_wasConverted t_lastBits t_lastSum t_lastHeld t_lastLeft t_lastCode t_writtenLong t_codeMany t_acts t_done0 t_stoppedAt t_tape (r13, ()) hc10) rfl hl.1 ⟨⟨rfl, rfl⟩, ⟨Nat.le_of_ble_eq_true rfl, Nat.le_of_ble_eq_true rfl⟩, ⟨Nat.le_of_ble_eq_true rfl, Nat.le_of_ble_eq_true rfl⟩, Nat.le_of_ble_eq_true rfl⟩) hA w [0, 1] [] [0, 1] rfl rfl (by decide) (fun _ => rfl) (fun _ H locs w => ?_)
    refine lv_bipush (v := 45) hx hb dX8_readNumber_13 (by decide) ?_
    refine lv_icmp_ne (tgt := 22) hx hb dX8_readNumber_15 (by decide) (fun c15 => ?_) (fun c15 => ?_)
    · have hf := pf_e c15 hf
      exact kJ22 _ _ _ hf w (lv_sub hl [1, 2, 3, 0] rfl)
    · have hf := pf_t c15 hf
      refine lv_iconst (v := 1) hx hb dX8_readNumber_18 (by decide) ?_
      refine lv_goto (tgt := 23) hx hb dX8_readNumber_19 (by decide) ?_
      exact kJ23 _ _ _ _ hf w (lv_sub hl [1, 2, 3, 0] rfl)
set_option maxHeartbeats 8000000 in
set_option maxRecDepth 100000 in
theorem ct_X8_ruleOf (l : Launch) (E : hm_E) (sz : Nat) (a0 : Int32) (R : Int32 × Unit) (hf : pf_X8_ruleOf a0 = some R) : hm_Mi l E yX8_ruleOf cX8_ruleOf 1 .int [] (hm_rr 0 0 0 0) [.int a0] sz [] R.1 (fun _ => []) := by
  refine hm_ct_i R (fun u qs => []) (by decide) (Nat.le_of_ble_eq_true rfl) (Or.inl rfl) ?_
  intro p e s m args below meth c A Q ls H locs hx hb hml hown X hA Y hex w hl hQ
  have hl : lv_has ls 1 [(0, .int a0)] := hl
  unfold pf_X8_ruleOf at hf
  refine lv_iload_n hx hb dX8_ruleOf_0 rfl (lv_at hl 0 rfl) ?_
  refine lv_bipush (v := 111) hx hb dX8_ruleOf_1 (by decide) ?_
  refine lv_icmp_ne (tgt := 10) hx hb dX8_ruleOf_3 (by decide) (fun c3 => ?_) (fun c3 => ?_)
  · have hf := pf_e c3 hf
    refine lv_iload_n hx hb dX8_ruleOf_10 rfl (lv_at hl 0 rfl) ?_
    refine lv_bipush (v := 100) hx hb dX8_ruleOf_11 (by decide) ?_
    refine lv_icmp_ne (tgt := 20) hx hb dX8_ruleOf_13 (by decide) (fun c13 => ?_) (fun c13 => ?_)
    · have hf := pf_e c13 hf
      refine lv_iload_n hx hb dX8_ruleOf_20 rfl (lv_at hl 0 rfl) ?_
      refine lv_bipush (v := 114) hx hb dX8_ruleOf_21 (by decide) ?_
      refine lv_icmp_ne (tgt := 30) hx hb dX8_ruleOf_23 (by decide) (fun c23 => ?_) (fun c23 => ?_)
      · have hf := pf_e c23 hf
        refine lv_iload_n hx hb dX8_ruleOf_30 rfl (lv_at hl 0 rfl) ?_
        refine lv_bipush (v := 110) hx hb dX8_ruleOf_31 (by decide) ?_
        refine lv_icmp_ne (tgt := 40) hx hb dX8_ruleOf_33 (by decide) (fun c33 => ?_) (fun c33 => ?_)
        · have hf := pf_e c33 hf
          refine lv_iload_n hx hb dX8_ruleOf_40 rfl (lv_at hl 0 rfl) ?_
          refine lv_bipush (v := 103) hx hb dX8_ruleOf_41 (by decide) ?_
          refine lv_icmp_ne (tgt := 50) hx hb dX8_ruleOf_43 (by decide) (fun c43 => ?_) (fun c43 => ?_)
          · have hf := pf_e c43 hf
            refine lv_iconst (v := (-1)) hx hb dX8_ruleOf_50 (by decide) ?_
            exact hQ _ _ _ _ _ () (fun _ => 0) hf rfl w dX8_ruleOf_51
          · have hf := pf_t c43 hf
            refine lv_iconst (v := 4) hx hb dX8_ruleOf_46 (by decide) ?_
            refine lv_goto (tgt := 51) hx hb dX8_ruleOf_47 (by decide) ?_
            exact hQ _ _ _ _ _ () (fun _ => 0) hf rfl w dX8_ruleOf_51
        · have hf := pf_t c33 hf
          refine lv_iconst (v := 3) hx hb dX8_ruleOf_36 (by decide) ?_
          refine lv_goto (tgt := 51) hx hb dX8_ruleOf_37 (by decide) ?_
          exact hQ _ _ _ _ _ () (fun _ => 0) hf rfl w dX8_ruleOf_51
      · have hf := pf_t c23 hf
        refine lv_iconst (v := 2) hx hb dX8_ruleOf_26 (by decide) ?_
        refine lv_goto (tgt := 51) hx hb dX8_ruleOf_27 (by decide) ?_
        exact hQ _ _ _ _ _ () (fun _ => 0) hf rfl w dX8_ruleOf_51
    · have hf := pf_t c13 hf
      refine lv_iconst (v := 1) hx hb dX8_ruleOf_16 (by decide) ?_
      refine lv_goto (tgt := 51) hx hb dX8_ruleOf_17 (by decide) ?_
      exact hQ _ _ _ _ _ () (fun _ => 0) hf rfl w dX8_ruleOf_51
  · have hf := pf_t c3 hf
    refine lv_iconst (v := 0) hx hb dX8_ruleOf_6 (by decide) ?_
    refine lv_goto (tgt := 51) hx hb dX8_ruleOf_7 (by decide) ?_
    exact hQ _ _ _ _ _ () (fun _ => 0) hf rfl w dX8_ruleOf_51
set_option maxHeartbeats 8000000 in
set_option maxRecDepth 100000 in
theorem ct_X8_readBit (l : Launch) (E : hm_E) (sz : Nat) (h0 : Nat) (r_t : Nat → Nat) (t_base t_taped t_at t_faultPlace t_number t_newBits t_newTold t_newDoings t_newThings t_opened t_sum t_heldAll t_onPaper t_turned t_wasConverted t_lastBits t_lastSum t_lastHeld t_lastLeft t_lastCode t_writtenLong t_codeMany t_acts t_done0 t_stoppedAt : Int32) (t_newOff : Nat → Int32) (t_newSize : Nat → Int32) (t_tape : Nat → Int32) (R : Int32 × Int32 × Int32 × Int32 × (Nat → Int32) × (Nat → Int32) × Int32) (hf : pf_X8_readBit t_tape t_taped t_at t_faultPlace t_number t_newSize t_newOff t_newBits = some R) : hm_Mi l E yX8_readBit cX8_readBit 2 .boolean [] (hm_rr 3 66 0 0) [.ref h0] sz [oc8 h0 r_t t_base t_taped t_at t_faultPlace t_number t_newBits t_newTold t_newDoings t_newThings t_opened t_sum t_heldAll t_onPaper t_turned t_wasConverted t_lastBits t_lastSum t_lastHeld t_lastLeft t_lastCode t_writtenLong t_codeMany t_acts t_done0 t_stoppedAt, ic E (r_t 10) 12 t_newOff, ic E (r_t 9) 12 t_newSize, bc E (r_t 2) 400 t_tape] R.1 (fun _ => [oc8 h0 r_t t_base t_taped (R.2.1) (R.2.2.1) (R.2.2.2.1) (R.2.2.2.2.2.2) t_newTold t_newDoings t_newThings t_opened t_sum t_heldAll t_onPaper t_turned t_wasConverted t_lastBits t_lastSum t_lastHeld t_lastLeft t_lastCode t_writtenLong t_codeMany t_acts t_done0 t_stoppedAt, ic E (r_t 10) 12 (R.2.2.2.2.2.1), ic E (r_t 9) 12 (R.2.2.2.2.1), bc E (r_t 2) 400 t_tape]) := by
  refine hm_ct_i R (fun u qs => [oc8 h0 r_t t_base t_taped (u.1) (u.2.1) (u.2.2.1) (u.2.2.2.2.2) t_newTold t_newDoings t_newThings t_opened t_sum t_heldAll t_onPaper t_turned t_wasConverted t_lastBits t_lastSum t_lastHeld t_lastLeft t_lastCode t_writtenLong t_codeMany t_acts t_done0 t_stoppedAt, ic E (r_t 10) 12 (u.2.2.2.2.1), ic E (r_t 9) 12 (u.2.2.2.1), bc E (r_t 2) 400 t_tape]) (by decide) (Nat.le_of_ble_eq_true rfl) (Or.inr rfl) ?_
  intro p e s m args below meth c A Q ls H locs hx hb hml hown X hA Y hex w hl hQ
  have hl : lv_has ls 2 [(0, .ref h0)] := hl
  unfold pf_X8_readBit at hf
  refine lv_aload_n hx hb dX8_readBit_0 rfl (lv_at hl 0 rfl) ?_
  refine hm_get cb_X8 hx hb hown X w 0 4 fl_X8_133 dX8_readBit_1 rfl (by decide) rfl ?_
  refine lv_istore_n (lv' := [(1, .int t_at), (0, .ref h0)]) hx hb dX8_readBit_4 rfl hl (by decide) rfl (fun ls hl => ?_)
  refine lv_aload_n hx hb dX8_readBit_5 rfl (lv_at hl 1 rfl) ?_
  refine hm_get cb_X8 hx hb hown X w 0 12 fl_X8_154 dX8_readBit_6 rfl (by decide) rfl ?_
  refine lv_bipush (v := 12) hx hb dX8_readBit_9 (by decide) ?_
  refine lv_icmp_ne (tgt := 20) hx hb dX8_readBit_11 (by decide) (fun c11 => ?_) (fun c11 => ?_)
  · have hf := pf_e c11 hf
    refine lv_aload_n hx hb dX8_readBit_20 rfl (lv_at hl 1 rfl) ?_
    refine lv_dup hx hb dX8_readBit_21 rfl ?_
    refine hm_get cb_X8 hx hb hown X w 0 4 fl_X8_133 dX8_readBit_22 rfl (by decide) rfl ?_
    refine lv_iconst (v := 1) hx hb dX8_readBit_25 (by decide) ?_
    refine lv_iadd hx hb dX8_readBit_26 ?_
    refine lv_topi (fun x1 ex1 => ?_)
    have hf := pf_nm ex1 hf
    refine hm_put (ws' := [oc8 h0 r_t t_base t_taped x1 t_faultPlace t_number t_newBits t_newTold t_newDoings t_newThings t_opened t_sum t_heldAll t_onPaper t_turned t_wasConverted t_lastBits t_lastSum t_lastHeld t_lastLeft t_lastCode t_writtenLong t_codeMany t_acts t_done0 t_stoppedAt, ic E (r_t 10) 12 t_newOff, ic E (r_t 9) 12 t_newSize, bc E (r_t 2) 400 t_tape]) cb_X8 hx hb hown X w 0 4 fl_X8_133 dX8_readBit_27 rfl (by decide) (Nat.le_of_ble_eq_true rfl) rfl rfl rfl rfl (fun H locs w => ?_)
    refine lv_aload_n hx hb dX8_readBit_30 rfl (lv_at hl 1 rfl) ?_
    refine lv_iconst (v := 1) hx hb dX8_readBit_31 (by decide) ?_
    refine lv_sipush (v := 9999) hx hb dX8_readBit_32 (by decide) ?_
    obtain ⟨r2, x3, x4, x5, hc35, hf⟩ := pf_bi_3 hf
    refine hm_aft_i (ws' := fun _ => [oc8 h0 r_t t_base t_taped x3 x4 x5 t_newBits t_newTold t_newDoings t_newThings t_opened t_sum t_heldAll t_onPaper t_turned t_wasConverted t_lastBits t_lastSum t_lastHeld t_lastLeft t_lastCode t_writtenLong t_codeMany t_acts t_done0 t_stoppedAt, ic E (r_t 10) 12 t_newOff, ic E (r_t 9) 12 t_newSize, bc E (r_t 2) 400 t_tape]) (hm_runV (rest := []) hx hb hml hown X hA Y w 0 (ci := 7) (T := TX8) (N := 55) rfl rfl mw_X8_readNumber ml_X8_157 dX8_readBit_35 hm_ac0 [.int 1, .int 9999] rfl [0, 3] rfl rfl (ct_X8_readNumber l E H.size h0 r_t t_base t_taped x1 t_faultPlace t_number t_newBits t_newTold t_newDoings t_newThings t_opened t_sum t_heldAll t_onPaper t_turned t_wasConverted t_lastBits t_lastSum t_lastHeld t_lastLeft t_lastCode t_writtenLong t_codeMany t_acts t_done0 t_stoppedAt t_tape 1 9999 (r2, x3, x4, x5) hc35) rfl hl.1 ⟨⟨rfl, rfl⟩, ⟨Nat.le_of_ble_eq_true rfl, Nat.le_of_ble_eq_true rfl⟩, ⟨Nat.le_of_ble_eq_true rfl, Nat.le_of_ble_eq_true rfl⟩, Nat.le_of_ble_eq_true rfl⟩) hA w [0, 3] [1, 2] [2, 0, 1, 3] rfl rfl (by decide) (fun _ => rfl) (fun _ H locs w => ?_)
    refine lv_if_ne (tgt := 43) hx hb dX8_readBit_38 (by decide) (fun c38 => ?_) (fun c38 => ?_)
    · have hf := pf_e c38 hf
      refine lv_aload_n hx hb dX8_readBit_43 rfl (lv_at hl 1 rfl) ?_
      refine hm_get cb_X8 hx hb hown X w 0 9 fl_X8_34 dX8_readBit_44 rfl (by decide) rfl ?_
      refine lv_aload_n hx hb dX8_readBit_47 rfl (lv_at hl 1 rfl) ?_
      refine hm_get cb_X8 hx hb hown X w 0 12 fl_X8_154 dX8_readBit_48 rfl (by decide) rfl ?_
      refine lv_aload_n hx hb dX8_readBit_51 rfl (lv_at hl 1 rfl) ?_
      refine hm_get cb_X8 hx hb hown X w 0 6 fl_X8_147 dX8_readBit_52 rfl (by decide) rfl ?_
      obtain ⟨g55, hf⟩ := pf_ckI hf
      refine hm_iast (ws' := [oc8 h0 r_t t_base t_taped x3 x4 x5 t_newBits t_newTold t_newDoings t_newThings t_opened t_sum t_heldAll t_onPaper t_turned t_wasConverted t_lastBits t_lastSum t_lastHeld t_lastLeft t_lastCode t_writtenLong t_codeMany t_acts t_done0 t_stoppedAt, ic E (r_t 10) 12 t_newOff, ic E (r_t 9) 12 (upd t_newSize t_newBits.toNatClampNeg x5), bc E (r_t 2) 400 t_tape]) hx hb X w 2 dX8_readBit_55 rfl g55 rfl (fun H locs w => ?_)
      refine lv_aload_n hx hb dX8_readBit_56 rfl (lv_at hl 1 rfl) ?_
      refine hm_get cb_X8 hx hb hown X w 0 10 fl_X8_37 dX8_readBit_57 rfl (by decide) rfl ?_
      refine lv_aload_n hx hb dX8_readBit_60 rfl (lv_at hl 1 rfl) ?_
      refine hm_get cb_X8 hx hb hown X w 0 12 fl_X8_154 dX8_readBit_61 rfl (by decide) rfl ?_
      refine lv_iconst (v := 0) hx hb dX8_readBit_64 (by decide) ?_
      obtain ⟨g65, hf⟩ := pf_ckI hf
      refine hm_iast (ws' := [oc8 h0 r_t t_base t_taped x3 x4 x5 t_newBits t_newTold t_newDoings t_newThings t_opened t_sum t_heldAll t_onPaper t_turned t_wasConverted t_lastBits t_lastSum t_lastHeld t_lastLeft t_lastCode t_writtenLong t_codeMany t_acts t_done0 t_stoppedAt, ic E (r_t 10) 12 (upd t_newOff t_newBits.toNatClampNeg 0), ic E (r_t 9) 12 (upd t_newSize t_newBits.toNatClampNeg x5), bc E (r_t 2) 400 t_tape]) hx hb X w 1 dX8_readBit_65 rfl g65 rfl (fun H locs w => ?_)
      refine lv_aload_n hx hb dX8_readBit_66 rfl (lv_at hl 1 rfl) ?_
      obtain ⟨r6, hc67, hf⟩ := pf_bi_0 hf
      refine hm_aft_i (ws' := fun _ => [oc8 h0 r_t t_base t_taped x3 x4 x5 t_newBits t_newTold t_newDoings t_newThings t_opened t_sum t_heldAll t_onPaper t_turned t_wasConverted t_lastBits t_lastSum t_lastHeld t_lastLeft t_lastCode t_writtenLong t_codeMany t_acts t_done0 t_stoppedAt, ic E (r_t 10) 12 (upd t_newOff t_newBits.toNatClampNeg 0), ic E (r_t 9) 12 (upd t_newSize t_newBits.toNatClampNeg x5), bc E (r_t 2) 400 t_tape]) (hm_runV (rest := []) hx hb hml hown X hA Y w 0 (ci := 7) (T := TX8) (N := 55) rfl rfl mw_X8_here ml_X8_136 dX8_readBit_67 hm_ac0 [] rfl [0, 3] rfl rfl (ct_X8_here l E H.size h0 r_t t_base t_taped x3 x4 x5 t_newBits t_newTold t_newDoings t_newThings t_opened t_sum t_heldAll t_onPaper t_turned t_wasConverted t_lastBits t_lastSum t_lastHeld t_lastLeft t_lastCode t_writtenLong t_codeMany t_acts t_done0 t_stoppedAt t_tape (r6, ()) hc67) rfl hl.1 ⟨⟨rfl, rfl⟩, ⟨Nat.le_of_ble_eq_true rfl, Nat.le_of_ble_eq_true rfl⟩, ⟨Nat.le_of_ble_eq_true rfl, Nat.le_of_ble_eq_true rfl⟩, Nat.le_of_ble_eq_true rfl⟩) hA w [0, 3] [1, 2] [2, 0, 1, 3] rfl rfl (by decide) (fun _ => rfl) (fun _ H locs w => ?_)
      refine lv_bipush (v := 58) hx hb dX8_readBit_70 (by decide) ?_
      obtain ⟨J111, hJ111, hf⟩ := pf_jn hf
      have kJ111 : ∀ (x7 : Int32) (x8 : Int32) (x9 : Int32) (f10 : Nat → Int32) (H : Heap) (locs : List Loc) (ls : Array Slot), J111 x7 x8 x9 f10 = some R → hm_W E A s.heap [oc8 h0 r_t t_base t_taped x7 x8 x9 t_newBits t_newTold t_newDoings t_newThings t_opened t_sum t_heldAll t_onPaper t_turned t_wasConverted t_lastBits t_lastSum t_lastHeld t_lastLeft t_lastCode t_writtenLong t_codeMany t_acts t_done0 t_stoppedAt, ic E (r_t 10) 12 f10, ic E (r_t 9) 12 (upd t_newSize t_newBits.toNatClampNeg x5), bc E (r_t 2) 400 t_tape] H locs → lv_has ls 2 [(0, .ref h0), (1, .int t_at)] → W p l e (hm_rr 3 66 0 0) s m args below meth c H locs 0 0 Q (F0 m 111 ls []) := by
        intro x7 x8 x9 f10 H locs ls hf w hl
        have hf := pf_j4 hJ111 hf
        refine lv_aload_n hx hb dX8_readBit_111 rfl (lv_at hl 0 rfl) ?_
        obtain ⟨r11, hc112, hf⟩ := pf_bi_0 hf
        refine hm_aft_i (ws' := fun _ => [oc8 h0 r_t t_base t_taped x7 x8 x9 t_newBits t_newTold t_newDoings t_newThings t_opened t_sum t_heldAll t_onPaper t_turned t_wasConverted t_lastBits t_lastSum t_lastHeld t_lastLeft t_lastCode t_writtenLong t_codeMany t_acts t_done0 t_stoppedAt, ic E (r_t 10) 12 f10, ic E (r_t 9) 12 (upd t_newSize t_newBits.toNatClampNeg x5), bc E (r_t 2) 400 t_tape]) (hm_runV (rest := []) hx hb hml hown X hA Y w 0 (ci := 7) (T := TX8) (N := 55) rfl rfl mw_X8_here ml_X8_136 dX8_readBit_112 hm_ac0 [] rfl [0, 3] rfl rfl (ct_X8_here l E H.size h0 r_t t_base t_taped x7 x8 x9 t_newBits t_newTold t_newDoings t_newThings t_opened t_sum t_heldAll t_onPaper t_turned t_wasConverted t_lastBits t_lastSum t_lastHeld t_lastLeft t_lastCode t_writtenLong t_codeMany t_acts t_done0 t_stoppedAt t_tape (r11, ()) hc112) rfl hl.1 ⟨⟨rfl, rfl⟩, ⟨Nat.le_of_ble_eq_true rfl, Nat.le_of_ble_eq_true rfl⟩, ⟨Nat.le_of_ble_eq_true rfl, Nat.le_of_ble_eq_true rfl⟩, Nat.le_of_ble_eq_true rfl⟩) hA w [0, 3] [1, 2] [2, 0, 1, 3] rfl rfl (by decide) (fun _ => rfl) (fun _ H locs w => ?_)
        refine lv_bipush (v := 59) hx hb dX8_readBit_115 (by decide) ?_
        obtain ⟨J149, hJ149, hf⟩ := pf_jn hf
        have kJ149 : ∀ (H : Heap) (locs : List Loc) (ls : Array Slot), J149 = some R → hm_W E A s.heap [oc8 h0 r_t t_base t_taped x7 x8 x9 t_newBits t_newTold t_newDoings t_newThings t_opened t_sum t_heldAll t_onPaper t_turned t_wasConverted t_lastBits t_lastSum t_lastHeld t_lastLeft t_lastCode t_writtenLong t_codeMany t_acts t_done0 t_stoppedAt, ic E (r_t 10) 12 f10, ic E (r_t 9) 12 (upd t_newSize t_newBits.toNatClampNeg x5), bc E (r_t 2) 400 t_tape] H locs → lv_has ls 2 [(0, .ref h0)] → W p l e (hm_rr 3 66 0 0) s m args below meth c H locs 0 0 Q (F0 m 149 ls []) := by
          intro H locs ls hf w hl
          have hf := pf_j0 hJ149 hf
          refine lv_aload_n hx hb dX8_readBit_149 rfl (lv_at hl 0 rfl) ?_
          refine lv_dup hx hb dX8_readBit_150 rfl ?_
          refine hm_get cb_X8 hx hb hown X w 0 12 fl_X8_154 dX8_readBit_151 rfl (by decide) rfl ?_
          refine lv_iconst (v := 1) hx hb dX8_readBit_154 (by decide) ?_
          refine lv_iadd hx hb dX8_readBit_155 ?_
          refine lv_topi (fun x12 ex12 => ?_)
          have hf := pf_nm ex12 hf
          refine hm_put (ws' := [oc8 h0 r_t t_base t_taped x7 x8 x9 x12 t_newTold t_newDoings t_newThings t_opened t_sum t_heldAll t_onPaper t_turned t_wasConverted t_lastBits t_lastSum t_lastHeld t_lastLeft t_lastCode t_writtenLong t_codeMany t_acts t_done0 t_stoppedAt, ic E (r_t 10) 12 f10, ic E (r_t 9) 12 (upd t_newSize t_newBits.toNatClampNeg x5), bc E (r_t 2) 400 t_tape]) cb_X8 hx hb hown X w 0 12 fl_X8_154 dX8_readBit_156 rfl (by decide) (Nat.le_of_ble_eq_true rfl) rfl rfl rfl rfl (fun H locs w => ?_)
          refine lv_iconst (v := 1) hx hb dX8_readBit_159 (by decide) ?_
          exact hQ _ _ _ _ _ (x7, x8, x9, (upd t_newSize t_newBits.toNatClampNeg x5), f10, x12) (fun _ => 0) hf rfl w dX8_readBit_160
        refine lv_icmp_ne (tgt := 149) hx hb dX8_readBit_117 (by decide) (fun c117 => ?_) (fun c117 => ?_)
        · have hf := pf_e c117 hf
          exact kJ149 _ _ _ hf w (lv_sub hl [0] rfl)
        · have hf := pf_t c117 hf
          refine lv_aload_n hx hb dX8_readBit_120 rfl (lv_at hl 0 rfl) ?_
          refine hm_get cb_X8 hx hb hown X w 0 9 fl_X8_34 dX8_readBit_121 rfl (by decide) rfl ?_
          refine lv_aload_n hx hb dX8_readBit_124 rfl (lv_at hl 0 rfl) ?_
          refine hm_get cb_X8 hx hb hown X w 0 12 fl_X8_154 dX8_readBit_125 rfl (by decide) rfl ?_
          obtain ⟨g128, hf⟩ := pf_ckI hf
          refine hm_iald hx hb X w 2 dX8_readBit_128 rfl g128 ?_
          refine lv_aload_n hx hb dX8_readBit_129 rfl (lv_at hl 0 rfl) ?_
          refine hm_get cb_X8 hx hb hown X w 0 10 fl_X8_37 dX8_readBit_130 rfl (by decide) rfl ?_
          refine lv_aload_n hx hb dX8_readBit_133 rfl (lv_at hl 0 rfl) ?_
          refine hm_get cb_X8 hx hb hown X w 0 12 fl_X8_154 dX8_readBit_134 rfl (by decide) rfl ?_
          obtain ⟨g137, hf⟩ := pf_ckI hf
          refine hm_iald hx hb X w 1 dX8_readBit_137 rfl g137 ?_
          refine lv_iadd hx hb dX8_readBit_138 ?_
          refine lv_iconst (v := 1) hx hb dX8_readBit_139 (by decide) ?_
          refine lv_icmp_ge (tgt := 149) hx hb dX8_readBit_140 (by decide) (fun c140 => ?_) (fun c140 => ?_)
          · have hf := pf_t c140 hf
            exact kJ149 _ _ _ hf w (lv_sub hl [0] rfl)
          · have hf := pf_e c140 hf
            refine lv_aload_n hx hb dX8_readBit_143 rfl (lv_at hl 0 rfl) ?_
            refine lv_iload_n hx hb dX8_readBit_144 rfl (lv_at hl 1 rfl) ?_
            obtain ⟨r13, x14, hc145, hf⟩ := pf_bi_1 hf
            refine hm_aft_i (ws' := fun _ => [oc8 h0 r_t t_base t_taped x7 x14 x9 t_newBits t_newTold t_newDoings t_newThings t_opened t_sum t_heldAll t_onPaper t_turned t_wasConverted t_lastBits t_lastSum t_lastHeld t_lastLeft t_lastCode t_writtenLong t_codeMany t_acts t_done0 t_stoppedAt, ic E (r_t 10) 12 f10, ic E (r_t 9) 12 (upd t_newSize t_newBits.toNatClampNeg x5), bc E (r_t 2) 400 t_tape]) (hm_runV (rest := []) hx hb hml hown X hA Y w 0 (ci := 7) (T := TX8) (N := 55) rfl rfl mw_X8_fails ml_X8_144 dX8_readBit_145 hm_ac0 [.int t_at] rfl [0] rfl rfl (ct_X8_fails l E H.size h0 r_t t_base t_taped x7 x8 x9 t_newBits t_newTold t_newDoings t_newThings t_opened t_sum t_heldAll t_onPaper t_turned t_wasConverted t_lastBits t_lastSum t_lastHeld t_lastLeft t_lastCode t_writtenLong t_codeMany t_acts t_done0 t_stoppedAt t_at (r13, x14) hc145) rfl hl.1 ⟨⟨rfl, rfl⟩, ⟨Nat.le_of_ble_eq_true rfl, Nat.le_of_ble_eq_true rfl⟩, ⟨Nat.le_of_ble_eq_true rfl, Nat.le_of_ble_eq_true rfl⟩, Nat.le_of_ble_eq_true rfl⟩) hA w [0] [1, 2, 3] [3, 0, 1, 2] rfl rfl (by decide) (fun _ => rfl) (fun _ H locs w => ?_)
            obtain ⟨g148, hf⟩ := pf_ckZ hf
            exact hQ _ _ _ _ _ (x7, x14, x9, (upd t_newSize t_newBits.toNatClampNeg x5), f10, t_newBits) (fun _ => 0) hf (hm_z g148) w dX8_readBit_148
      refine lv_icmp_ne (tgt := 111) hx hb dX8_readBit_72 (by decide) (fun c72 => ?_) (fun c72 => ?_)
      · have hf := pf_e c72 hf
        exact kJ111 _ _ _ _ _ _ _ hf w (lv_sub hl [1, 0] rfl)
      · have hf := pf_t c72 hf
        refine lv_aload_n hx hb dX8_readBit_75 rfl (lv_at hl 1 rfl) ?_
        refine lv_dup hx hb dX8_readBit_76 rfl ?_
        refine hm_get cb_X8 hx hb hown X w 0 4 fl_X8_133 dX8_readBit_77 rfl (by decide) rfl ?_
        refine lv_iconst (v := 1) hx hb dX8_readBit_80 (by decide) ?_
        refine lv_iadd hx hb dX8_readBit_81 ?_
        refine lv_topi (fun x15 ex15 => ?_)
        have hf := pf_nm ex15 hf
        refine hm_put (ws' := [oc8 h0 r_t t_base t_taped x15 x4 x5 t_newBits t_newTold t_newDoings t_newThings t_opened t_sum t_heldAll t_onPaper t_turned t_wasConverted t_lastBits t_lastSum t_lastHeld t_lastLeft t_lastCode t_writtenLong t_codeMany t_acts t_done0 t_stoppedAt, ic E (r_t 10) 12 (upd t_newOff t_newBits.toNatClampNeg 0), ic E (r_t 9) 12 (upd t_newSize t_newBits.toNatClampNeg x5), bc E (r_t 2) 400 t_tape]) cb_X8 hx hb hown X w 0 4 fl_X8_133 dX8_readBit_82 rfl (by decide) (Nat.le_of_ble_eq_true rfl) rfl rfl rfl rfl (fun H locs w => ?_)
        refine lv_aload_n hx hb dX8_readBit_85 rfl (lv_at hl 1 rfl) ?_
        refine lv_bipush (v := (-99)) hx hb dX8_readBit_86 (by decide) ?_
        refine lv_bipush (v := 99) hx hb dX8_readBit_88 (by decide) ?_
        obtain ⟨r16, x17, x18, x19, hc90, hf⟩ := pf_bi_3 hf
        refine hm_aft_i (ws' := fun _ => [oc8 h0 r_t t_base t_taped x17 x18 x19 t_newBits t_newTold t_newDoings t_newThings t_opened t_sum t_heldAll t_onPaper t_turned t_wasConverted t_lastBits t_lastSum t_lastHeld t_lastLeft t_lastCode t_writtenLong t_codeMany t_acts t_done0 t_stoppedAt, ic E (r_t 10) 12 (upd t_newOff t_newBits.toNatClampNeg 0), ic E (r_t 9) 12 (upd t_newSize t_newBits.toNatClampNeg x5), bc E (r_t 2) 400 t_tape]) (hm_runV (rest := []) hx hb hml hown X hA Y w 0 (ci := 7) (T := TX8) (N := 55) rfl rfl mw_X8_readNumber ml_X8_157 dX8_readBit_90 hm_ac0 [.int (-99), .int 99] rfl [0, 3] rfl rfl (ct_X8_readNumber l E H.size h0 r_t t_base t_taped x15 x4 x5 t_newBits t_newTold t_newDoings t_newThings t_opened t_sum t_heldAll t_onPaper t_turned t_wasConverted t_lastBits t_lastSum t_lastHeld t_lastLeft t_lastCode t_writtenLong t_codeMany t_acts t_done0 t_stoppedAt t_tape (-99) 99 (r16, x17, x18, x19) hc90) rfl hl.1 ⟨⟨rfl, rfl⟩, ⟨Nat.le_of_ble_eq_true rfl, Nat.le_of_ble_eq_true rfl⟩, ⟨Nat.le_of_ble_eq_true rfl, Nat.le_of_ble_eq_true rfl⟩, Nat.le_of_ble_eq_true rfl⟩) hA w [0, 3] [1, 2] [2, 0, 1, 3] rfl rfl (by decide) (fun _ => rfl) (fun _ H locs w => ?_)
        refine lv_if_ne (tgt := 98) hx hb dX8_readBit_93 (by decide) (fun c93 => ?_) (fun c93 => ?_)
        · have hf := pf_e c93 hf
          refine lv_aload_n hx hb dX8_readBit_98 rfl (lv_at hl 1 rfl) ?_
          refine hm_get cb_X8 hx hb hown X w 0 10 fl_X8_37 dX8_readBit_99 rfl (by decide) rfl ?_
          refine lv_aload_n hx hb dX8_readBit_102 rfl (lv_at hl 1 rfl) ?_
          refine hm_get cb_X8 hx hb hown X w 0 12 fl_X8_154 dX8_readBit_103 rfl (by decide) rfl ?_
          refine lv_aload_n hx hb dX8_readBit_106 rfl (lv_at hl 1 rfl) ?_
          refine hm_get cb_X8 hx hb hown X w 0 6 fl_X8_147 dX8_readBit_107 rfl (by decide) rfl ?_
          obtain ⟨g110, hf⟩ := pf_ckI hf
          refine hm_iast (ws' := [oc8 h0 r_t t_base t_taped x17 x18 x19 t_newBits t_newTold t_newDoings t_newThings t_opened t_sum t_heldAll t_onPaper t_turned t_wasConverted t_lastBits t_lastSum t_lastHeld t_lastLeft t_lastCode t_writtenLong t_codeMany t_acts t_done0 t_stoppedAt, ic E (r_t 10) 12 (upd (upd t_newOff t_newBits.toNatClampNeg 0) t_newBits.toNatClampNeg x19), ic E (r_t 9) 12 (upd t_newSize t_newBits.toNatClampNeg x5), bc E (r_t 2) 400 t_tape]) hx hb X w 1 dX8_readBit_110 rfl g110 rfl (fun H locs w => ?_)
          exact kJ111 _ _ _ _ _ _ _ hf w (lv_sub hl [1, 0] rfl)
        · have hf := pf_t c93 hf
          refine lv_iconst (v := 0) hx hb dX8_readBit_96 (by decide) ?_
          exact hQ _ _ _ _ _ (x17, x18, x19, (upd t_newSize t_newBits.toNatClampNeg x5), (upd t_newOff t_newBits.toNatClampNeg 0), t_newBits) (fun _ => 0) hf rfl w dX8_readBit_97
    · have hf := pf_t c38 hf
      refine lv_iconst (v := 0) hx hb dX8_readBit_41 (by decide) ?_
      exact hQ _ _ _ _ _ (x3, x4, x5, t_newSize, t_newOff, t_newBits) (fun _ => 0) hf rfl w dX8_readBit_42
  · have hf := pf_t c11 hf
    refine lv_aload_n hx hb dX8_readBit_14 rfl (lv_at hl 1 rfl) ?_
    refine lv_iload_n hx hb dX8_readBit_15 rfl (lv_at hl 0 rfl) ?_
    obtain ⟨r20, x21, hc16, hf⟩ := pf_bi_1 hf
    refine hm_aft_i (ws' := fun _ => [oc8 h0 r_t t_base t_taped t_at x21 t_number t_newBits t_newTold t_newDoings t_newThings t_opened t_sum t_heldAll t_onPaper t_turned t_wasConverted t_lastBits t_lastSum t_lastHeld t_lastLeft t_lastCode t_writtenLong t_codeMany t_acts t_done0 t_stoppedAt, ic E (r_t 10) 12 t_newOff, ic E (r_t 9) 12 t_newSize, bc E (r_t 2) 400 t_tape]) (hm_runV (rest := []) hx hb hml hown X hA Y w 0 (ci := 7) (T := TX8) (N := 55) rfl rfl mw_X8_fails ml_X8_144 dX8_readBit_16 hm_ac0 [.int t_at] rfl [0] rfl rfl (ct_X8_fails l E H.size h0 r_t t_base t_taped t_at t_faultPlace t_number t_newBits t_newTold t_newDoings t_newThings t_opened t_sum t_heldAll t_onPaper t_turned t_wasConverted t_lastBits t_lastSum t_lastHeld t_lastLeft t_lastCode t_writtenLong t_codeMany t_acts t_done0 t_stoppedAt t_at (r20, x21) hc16) rfl hl.1 ⟨⟨rfl, rfl⟩, ⟨Nat.le_of_ble_eq_true rfl, Nat.le_of_ble_eq_true rfl⟩, ⟨Nat.le_of_ble_eq_true rfl, Nat.le_of_ble_eq_true rfl⟩, Nat.le_of_ble_eq_true rfl⟩) hA w [0] [1, 2, 3] [3, 0, 1, 2] rfl rfl (by decide) (fun _ => rfl) (fun _ H locs w => ?_)
    obtain ⟨g19, hf⟩ := pf_ckZ hf
    exact hQ _ _ _ _ _ (t_at, x21, t_number, t_newSize, t_newOff, t_newBits) (fun _ => 0) hf (hm_z g19) w dX8_readBit_19
set_option maxHeartbeats 8000000 in
set_option maxRecDepth 100000 in
theorem ct_X8_readItem (l : Launch) (E : hm_E) (sz : Nat) (h0 : Nat) (r_t : Nat → Nat) (t_base t_taped t_at t_faultPlace t_number t_newBits t_newTold t_newDoings t_newThings t_opened t_sum t_heldAll t_onPaper t_turned t_wasConverted t_lastBits t_lastSum t_lastHeld t_lastLeft t_lastCode t_writtenLong t_codeMany t_acts t_done0 t_stoppedAt : Int32) (t_lows : Nat → Int32) (t_newOff : Nat → Int32) (t_newRule : Nat → Int32) (t_newSize : Nat → Int32) (t_tape : Nat → Int32) (t_tops : Nat → Int32) (R : Int32 × Int32 × Int32 × Int32 × (Nat → Int32) × (Nat → Int32) × (Nat → Int32) × Int32 × Int32) (hf : pf_X8_readItem t_tape t_taped t_at t_faultPlace t_number t_lows t_tops t_newSize t_newOff t_newRule t_newBits t_newTold = some R) : hm_Mi l E yX8_readItem cX8_readItem 2 .boolean [] (hm_rr 4 87 0 0) [.ref h0] sz [oc8 h0 r_t t_base t_taped t_at t_faultPlace t_number t_newBits t_newTold t_newDoings t_newThings t_opened t_sum t_heldAll t_onPaper t_turned t_wasConverted t_lastBits t_lastSum t_lastHeld t_lastLeft t_lastCode t_writtenLong t_codeMany t_acts t_done0 t_stoppedAt, ic E (r_t 7) 5 t_lows, ic E (r_t 10) 12 t_newOff, ic E (r_t 11) 5 t_newRule, ic E (r_t 9) 12 t_newSize, bc E (r_t 2) 400 t_tape, ic E (r_t 8) 5 t_tops] R.1 (fun _ => [oc8 h0 r_t t_base t_taped (R.2.1) (R.2.2.1) (R.2.2.2.1) (R.2.2.2.2.2.2.2.1) (R.2.2.2.2.2.2.2.2) t_newDoings t_newThings t_opened t_sum t_heldAll t_onPaper t_turned t_wasConverted t_lastBits t_lastSum t_lastHeld t_lastLeft t_lastCode t_writtenLong t_codeMany t_acts t_done0 t_stoppedAt, ic E (r_t 7) 5 t_lows, ic E (r_t 10) 12 (R.2.2.2.2.2.1), ic E (r_t 11) 5 (R.2.2.2.2.2.2.1), ic E (r_t 9) 12 (R.2.2.2.2.1), bc E (r_t 2) 400 t_tape, ic E (r_t 8) 5 t_tops]) := by
  refine hm_ct_i R (fun u qs => [oc8 h0 r_t t_base t_taped (u.1) (u.2.1) (u.2.2.1) (u.2.2.2.2.2.2.1) (u.2.2.2.2.2.2.2) t_newDoings t_newThings t_opened t_sum t_heldAll t_onPaper t_turned t_wasConverted t_lastBits t_lastSum t_lastHeld t_lastLeft t_lastCode t_writtenLong t_codeMany t_acts t_done0 t_stoppedAt, ic E (r_t 7) 5 t_lows, ic E (r_t 10) 12 (u.2.2.2.2.1), ic E (r_t 11) 5 (u.2.2.2.2.2.1), ic E (r_t 9) 12 (u.2.2.2.1), bc E (r_t 2) 400 t_tape, ic E (r_t 8) 5 t_tops]) (by decide) (Nat.le_of_ble_eq_true rfl) (Or.inr rfl) ?_
  intro p e s m args below meth c A Q ls H locs hx hb hml hown X hA Y hex w hl hQ
  have hl : lv_has ls 2 [(0, .ref h0)] := hl
  unfold pf_X8_readItem at hf
  refine lv_aload_n hx hb dX8_readItem_0 rfl (lv_at hl 0 rfl) ?_
  obtain ⟨r1, hc1, hf⟩ := pf_bi_0 hf
  refine hm_aft_i (ws' := fun _ => [oc8 h0 r_t t_base t_taped t_at t_faultPlace t_number t_newBits t_newTold t_newDoings t_newThings t_opened t_sum t_heldAll t_onPaper t_turned t_wasConverted t_lastBits t_lastSum t_lastHeld t_lastLeft t_lastCode t_writtenLong t_codeMany t_acts t_done0 t_stoppedAt, ic E (r_t 7) 5 t_lows, ic E (r_t 10) 12 t_newOff, ic E (r_t 11) 5 t_newRule, ic E (r_t 9) 12 t_newSize, bc E (r_t 2) 400 t_tape, ic E (r_t 8) 5 t_tops]) (hm_runV (rest := []) hx hb hml hown X hA Y w 0 (ci := 7) (T := TX8) (N := 55) rfl rfl mw_X8_here ml_X8_136 dX8_readItem_1 hm_ac0 [] rfl [0, 5] rfl rfl (ct_X8_here l E H.size h0 r_t t_base t_taped t_at t_faultPlace t_number t_newBits t_newTold t_newDoings t_newThings t_opened t_sum t_heldAll t_onPaper t_turned t_wasConverted t_lastBits t_lastSum t_lastHeld t_lastLeft t_lastCode t_writtenLong t_codeMany t_acts t_done0 t_stoppedAt t_tape (r1, ()) hc1) rfl hl.1 ⟨⟨rfl, rfl⟩, ⟨Nat.le_of_ble_eq_true rfl, Nat.le_of_ble_eq_true rfl⟩, ⟨Nat.le_of_ble_eq_true rfl, Nat.le_of_ble_eq_true rfl⟩, Nat.le_of_ble_eq_true rfl⟩) hA w [0, 5] [1, 2, 3, 4, 6] [5, 0, 1, 2, 3, 6, 4] rfl rfl (by decide) (fun _ => rfl) (fun _ H locs w => ?_)
  obtain ⟨r2, hc4, hf⟩ := pf_bi_0 hf
  refine hm_aft_i (ws' := fun _ => [oc8 h0 r_t t_base t_taped t_at t_faultPlace t_number t_newBits t_newTold t_newDoings t_newThings t_opened t_sum t_heldAll t_onPaper t_turned t_wasConverted t_lastBits t_lastSum t_lastHeld t_lastLeft t_lastCode t_writtenLong t_codeMany t_acts t_done0 t_stoppedAt, ic E (r_t 7) 5 t_lows, ic E (r_t 10) 12 t_newOff, ic E (r_t 11) 5 t_newRule, ic E (r_t 9) 12 t_newSize, bc E (r_t 2) 400 t_tape, ic E (r_t 8) 5 t_tops]) (hm_runS (rest := []) hx hb hml hown X hA Y w mw_X8_ruleOf ml_X8_161 dX8_readItem_4 hm_ac0 [.int r1] rfl [] rfl rfl (ct_X8_ruleOf l E H.size r1 (r2, ()) hc4) rfl hl.1 ⟨⟨rfl, rfl⟩, ⟨Nat.le_of_ble_eq_true rfl, Nat.le_of_ble_eq_true rfl⟩, ⟨Nat.le_of_ble_eq_true rfl, Nat.le_of_ble_eq_true rfl⟩, Nat.le_of_ble_eq_true rfl⟩) hA w [] [0, 1, 2, 3, 4, 5, 6] [0, 1, 2, 3, 4, 5, 6] rfl rfl (by decide) (fun _ => rfl) (fun _ H locs w => ?_)
  refine lv_istore_n (lv' := [(1, .int r2), (0, .ref h0)]) hx hb dX8_readItem_7 rfl hl (by decide) rfl (fun ls hl => ?_)
  refine lv_aload_n hx hb dX8_readItem_8 rfl (lv_at hl 1 rfl) ?_
  obtain ⟨r3, hc9, hf⟩ := pf_bi_0 hf
  refine hm_aft_i (ws' := fun _ => [oc8 h0 r_t t_base t_taped t_at t_faultPlace t_number t_newBits t_newTold t_newDoings t_newThings t_opened t_sum t_heldAll t_onPaper t_turned t_wasConverted t_lastBits t_lastSum t_lastHeld t_lastLeft t_lastCode t_writtenLong t_codeMany t_acts t_done0 t_stoppedAt, ic E (r_t 7) 5 t_lows, ic E (r_t 10) 12 t_newOff, ic E (r_t 11) 5 t_newRule, ic E (r_t 9) 12 t_newSize, bc E (r_t 2) 400 t_tape, ic E (r_t 8) 5 t_tops]) (hm_runV (rest := []) hx hb hml hown X hA Y w 0 (ci := 7) (T := TX8) (N := 55) rfl rfl mw_X8_here ml_X8_136 dX8_readItem_9 hm_ac0 [] rfl [0, 5] rfl rfl (ct_X8_here l E H.size h0 r_t t_base t_taped t_at t_faultPlace t_number t_newBits t_newTold t_newDoings t_newThings t_opened t_sum t_heldAll t_onPaper t_turned t_wasConverted t_lastBits t_lastSum t_lastHeld t_lastLeft t_lastCode t_writtenLong t_codeMany t_acts t_done0 t_stoppedAt t_tape (r3, ()) hc9) rfl hl.1 ⟨⟨rfl, rfl⟩, ⟨Nat.le_of_ble_eq_true rfl, Nat.le_of_ble_eq_true rfl⟩, ⟨Nat.le_of_ble_eq_true rfl, Nat.le_of_ble_eq_true rfl⟩, Nat.le_of_ble_eq_true rfl⟩) hA w [0, 5] [1, 2, 3, 4, 6] [5, 0, 1, 2, 3, 6, 4] rfl rfl (by decide) (fun _ => rfl) (fun _ H locs w => ?_)
  refine lv_bipush (v := 98) hx hb dX8_readItem_12 (by decide) ?_
  obtain ⟨J105, hJ105, hf⟩ := pf_jn hf
  have kJ105 : ∀ (x4 : Int32) (x5 : Int32) (x6 : Int32) (f7 : Nat → Int32) (f8 : Nat → Int32) (f9 : Nat → Int32) (x10 : Int32) (x11 : Int32) (H : Heap) (locs : List Loc) (ls : Array Slot), J105 x4 x5 x6 f7 f8 f9 x10 x11 = some R → hm_W E A s.heap [oc8 h0 r_t t_base t_taped x4 x5 x6 x10 x11 t_newDoings t_newThings t_opened t_sum t_heldAll t_onPaper t_turned t_wasConverted t_lastBits t_lastSum t_lastHeld t_lastLeft t_lastCode t_writtenLong t_codeMany t_acts t_done0 t_stoppedAt, ic E (r_t 7) 5 t_lows, ic E (r_t 10) 12 f8, ic E (r_t 11) 5 f9, ic E (r_t 9) 12 f7, bc E (r_t 2) 400 t_tape, ic E (r_t 8) 5 t_tops] H locs → lv_has ls 2 [(0, .ref h0)] → W p l e (hm_rr 4 87 0 0) s m args below meth c H locs 0 0 Q (F0 m 105 ls []) := by
    intro x4 x5 x6 f7 f8 f9 x10 x11 H locs ls hf w hl
    have hf := pf_j8 hJ105 hf
    refine lv_aload_n hx hb dX8_readItem_105 rfl (lv_at hl 0 rfl) ?_
    obtain ⟨r12, hc106, hf⟩ := pf_bi_0 hf
    refine hm_aft_i (ws' := fun _ => [oc8 h0 r_t t_base t_taped x4 x5 x6 x10 x11 t_newDoings t_newThings t_opened t_sum t_heldAll t_onPaper t_turned t_wasConverted t_lastBits t_lastSum t_lastHeld t_lastLeft t_lastCode t_writtenLong t_codeMany t_acts t_done0 t_stoppedAt, ic E (r_t 7) 5 t_lows, ic E (r_t 10) 12 f8, ic E (r_t 11) 5 f9, ic E (r_t 9) 12 f7, bc E (r_t 2) 400 t_tape, ic E (r_t 8) 5 t_tops]) (hm_runV (rest := []) hx hb hml hown X hA Y w 0 (ci := 7) (T := TX8) (N := 55) rfl rfl mw_X8_here ml_X8_136 dX8_readItem_106 hm_ac0 [] rfl [0, 5] rfl rfl (ct_X8_here l E H.size h0 r_t t_base t_taped x4 x5 x6 x10 x11 t_newDoings t_newThings t_opened t_sum t_heldAll t_onPaper t_turned t_wasConverted t_lastBits t_lastSum t_lastHeld t_lastLeft t_lastCode t_writtenLong t_codeMany t_acts t_done0 t_stoppedAt t_tape (r12, ()) hc106) rfl hl.1 ⟨⟨rfl, rfl⟩, ⟨Nat.le_of_ble_eq_true rfl, Nat.le_of_ble_eq_true rfl⟩, ⟨Nat.le_of_ble_eq_true rfl, Nat.le_of_ble_eq_true rfl⟩, Nat.le_of_ble_eq_true rfl⟩) hA w [0, 5] [1, 2, 3, 4, 6] [5, 0, 1, 2, 3, 6, 4] rfl rfl (by decide) (fun _ => rfl) (fun _ H locs w => ?_)
    refine lv_bipush (v := 59) hx hb dX8_readItem_109 (by decide) ?_
    refine lv_icmp_eq (tgt := 123) hx hb dX8_readItem_111 (by decide) (fun c111 => ?_) (fun c111 => ?_)
    · have hf := pf_t c111 hf
      refine lv_aload_n hx hb dX8_readItem_123 rfl (lv_at hl 0 rfl) ?_
      refine lv_dup hx hb dX8_readItem_124 rfl ?_
      refine hm_get cb_X8 hx hb hown X w 0 4 fl_X8_133 dX8_readItem_125 rfl (by decide) rfl ?_
      refine lv_iconst (v := 1) hx hb dX8_readItem_128 (by decide) ?_
      refine lv_iadd hx hb dX8_readItem_129 ?_
      refine lv_topi (fun x13 ex13 => ?_)
      have hf := pf_nm ex13 hf
      refine hm_put (ws' := [oc8 h0 r_t t_base t_taped x13 x5 x6 x10 x11 t_newDoings t_newThings t_opened t_sum t_heldAll t_onPaper t_turned t_wasConverted t_lastBits t_lastSum t_lastHeld t_lastLeft t_lastCode t_writtenLong t_codeMany t_acts t_done0 t_stoppedAt, ic E (r_t 7) 5 t_lows, ic E (r_t 10) 12 f8, ic E (r_t 11) 5 f9, ic E (r_t 9) 12 f7, bc E (r_t 2) 400 t_tape, ic E (r_t 8) 5 t_tops]) cb_X8 hx hb hown X w 0 4 fl_X8_133 dX8_readItem_130 rfl (by decide) (Nat.le_of_ble_eq_true rfl) rfl rfl rfl rfl (fun H locs w => ?_)
      refine lv_iconst (v := 1) hx hb dX8_readItem_133 (by decide) ?_
      exact hQ _ _ _ _ _ (x13, x5, x6, f7, f8, f9, x10, x11) (fun _ => 0) hf rfl w dX8_readItem_134
    · have hf := pf_e c111 hf
      refine lv_aload_n hx hb dX8_readItem_114 rfl (lv_at hl 0 rfl) ?_
      refine lv_aload_n hx hb dX8_readItem_115 rfl (lv_at hl 0 rfl) ?_
      refine hm_get cb_X8 hx hb hown X w 0 4 fl_X8_133 dX8_readItem_116 rfl (by decide) rfl ?_
      obtain ⟨r14, x15, hc119, hf⟩ := pf_bi_1 hf
      refine hm_aft_i (ws' := fun _ => [oc8 h0 r_t t_base t_taped x4 x15 x6 x10 x11 t_newDoings t_newThings t_opened t_sum t_heldAll t_onPaper t_turned t_wasConverted t_lastBits t_lastSum t_lastHeld t_lastLeft t_lastCode t_writtenLong t_codeMany t_acts t_done0 t_stoppedAt, ic E (r_t 7) 5 t_lows, ic E (r_t 10) 12 f8, ic E (r_t 11) 5 f9, ic E (r_t 9) 12 f7, bc E (r_t 2) 400 t_tape, ic E (r_t 8) 5 t_tops]) (hm_runV (rest := []) hx hb hml hown X hA Y w 0 (ci := 7) (T := TX8) (N := 55) rfl rfl mw_X8_fails ml_X8_144 dX8_readItem_119 hm_ac0 [.int x4] rfl [0] rfl rfl (ct_X8_fails l E H.size h0 r_t t_base t_taped x4 x5 x6 x10 x11 t_newDoings t_newThings t_opened t_sum t_heldAll t_onPaper t_turned t_wasConverted t_lastBits t_lastSum t_lastHeld t_lastLeft t_lastCode t_writtenLong t_codeMany t_acts t_done0 t_stoppedAt x4 (r14, x15) hc119) rfl hl.1 ⟨⟨rfl, rfl⟩, ⟨Nat.le_of_ble_eq_true rfl, Nat.le_of_ble_eq_true rfl⟩, ⟨Nat.le_of_ble_eq_true rfl, Nat.le_of_ble_eq_true rfl⟩, Nat.le_of_ble_eq_true rfl⟩) hA w [0] [1, 2, 3, 4, 5, 6] [6, 0, 1, 2, 3, 4, 5] rfl rfl (by decide) (fun _ => rfl) (fun _ H locs w => ?_)
      obtain ⟨g122, hf⟩ := pf_ckZ hf
      exact hQ _ _ _ _ _ (x4, x15, x6, f7, f8, f9, x10, x11) (fun _ => 0) hf (hm_z g122) w dX8_readItem_122
  refine lv_icmp_ne (tgt := 26) hx hb dX8_readItem_14 (by decide) (fun c14 => ?_) (fun c14 => ?_)
  · have hf := pf_e c14 hf
    refine lv_iload_n hx hb dX8_readItem_26 rfl (lv_at hl 0 rfl) ?_
    refine lv_iconst (v := (-1)) hx hb dX8_readItem_27 (by decide) ?_
    refine lv_icmp_eq (tgt := 43) hx hb dX8_readItem_28 (by decide) (fun c28 => ?_) (fun c28 => ?_)
    · have hf := pf_t c28 hf
      refine lv_aload_n hx hb dX8_readItem_43 rfl (lv_at hl 1 rfl) ?_
      refine lv_aload_n hx hb dX8_readItem_44 rfl (lv_at hl 1 rfl) ?_
      refine hm_get cb_X8 hx hb hown X w 0 4 fl_X8_133 dX8_readItem_45 rfl (by decide) rfl ?_
      obtain ⟨r16, x17, hc48, hf⟩ := pf_bi_1 hf
      refine hm_aft_i (ws' := fun _ => [oc8 h0 r_t t_base t_taped t_at x17 t_number t_newBits t_newTold t_newDoings t_newThings t_opened t_sum t_heldAll t_onPaper t_turned t_wasConverted t_lastBits t_lastSum t_lastHeld t_lastLeft t_lastCode t_writtenLong t_codeMany t_acts t_done0 t_stoppedAt, ic E (r_t 7) 5 t_lows, ic E (r_t 10) 12 t_newOff, ic E (r_t 11) 5 t_newRule, ic E (r_t 9) 12 t_newSize, bc E (r_t 2) 400 t_tape, ic E (r_t 8) 5 t_tops]) (hm_runV (rest := []) hx hb hml hown X hA Y w 0 (ci := 7) (T := TX8) (N := 55) rfl rfl mw_X8_fails ml_X8_144 dX8_readItem_48 hm_ac0 [.int t_at] rfl [0] rfl rfl (ct_X8_fails l E H.size h0 r_t t_base t_taped t_at t_faultPlace t_number t_newBits t_newTold t_newDoings t_newThings t_opened t_sum t_heldAll t_onPaper t_turned t_wasConverted t_lastBits t_lastSum t_lastHeld t_lastLeft t_lastCode t_writtenLong t_codeMany t_acts t_done0 t_stoppedAt t_at (r16, x17) hc48) rfl hl.1 ⟨⟨rfl, rfl⟩, ⟨Nat.le_of_ble_eq_true rfl, Nat.le_of_ble_eq_true rfl⟩, ⟨Nat.le_of_ble_eq_true rfl, Nat.le_of_ble_eq_true rfl⟩, Nat.le_of_ble_eq_true rfl⟩) hA w [0] [1, 2, 3, 4, 5, 6] [6, 0, 1, 2, 3, 4, 5] rfl rfl (by decide) (fun _ => rfl) (fun _ H locs w => ?_)
      obtain ⟨g51, hf⟩ := pf_ckZ hf
      exact hQ _ _ _ _ _ (t_at, x17, t_number, t_newSize, t_newOff, t_newRule, t_newBits, t_newTold) (fun _ => 0) hf (hm_z g51) w dX8_readItem_51
    · have hf := pf_e c28 hf
      refine lv_aload_n hx hb dX8_readItem_31 rfl (lv_at hl 1 rfl) ?_
      refine hm_get cb_X8 hx hb hown X w 0 13 fl_X8_168 dX8_readItem_32 rfl (by decide) rfl ?_
      refine lv_iload_n hx hb dX8_readItem_35 rfl (lv_at hl 0 rfl) ?_
      refine lv_ishr hx hb dX8_readItem_36 ?_
      refine lv_iconst (v := 1) hx hb dX8_readItem_37 (by decide) ?_
      refine lv_iand hx hb dX8_readItem_38 ?_
      refine lv_iconst (v := 1) hx hb dX8_readItem_39 (by decide) ?_
      refine lv_icmp_ne (tgt := 52) hx hb dX8_readItem_40 (by decide) (fun c40 => ?_) (fun c40 => ?_)
      · have hf := pf_e c40 hf
        refine lv_aload_n hx hb dX8_readItem_52 rfl (lv_at hl 1 rfl) ?_
        refine lv_dup hx hb dX8_readItem_53 rfl ?_
        refine hm_get cb_X8 hx hb hown X w 0 13 fl_X8_168 dX8_readItem_54 rfl (by decide) rfl ?_
        refine lv_iconst (v := 1) hx hb dX8_readItem_57 (by decide) ?_
        refine lv_iload_n hx hb dX8_readItem_58 rfl (lv_at hl 0 rfl) ?_
        refine lv_ishl hx hb dX8_readItem_59 ?_
        refine lv_ior hx hb dX8_readItem_60 ?_
        refine lv_topi (fun x18 ex18 => ?_)
        have hf := pf_nm ex18 hf
        refine hm_put (ws' := [oc8 h0 r_t t_base t_taped t_at t_faultPlace t_number t_newBits x18 t_newDoings t_newThings t_opened t_sum t_heldAll t_onPaper t_turned t_wasConverted t_lastBits t_lastSum t_lastHeld t_lastLeft t_lastCode t_writtenLong t_codeMany t_acts t_done0 t_stoppedAt, ic E (r_t 7) 5 t_lows, ic E (r_t 10) 12 t_newOff, ic E (r_t 11) 5 t_newRule, ic E (r_t 9) 12 t_newSize, bc E (r_t 2) 400 t_tape, ic E (r_t 8) 5 t_tops]) cb_X8 hx hb hown X w 0 13 fl_X8_168 dX8_readItem_61 rfl (by decide) (Nat.le_of_ble_eq_true rfl) rfl rfl rfl rfl (fun H locs w => ?_)
        refine lv_aload_n hx hb dX8_readItem_64 rfl (lv_at hl 1 rfl) ?_
        refine lv_dup hx hb dX8_readItem_65 rfl ?_
        refine hm_get cb_X8 hx hb hown X w 0 4 fl_X8_133 dX8_readItem_66 rfl (by decide) rfl ?_
        refine lv_iconst (v := 1) hx hb dX8_readItem_69 (by decide) ?_
        refine lv_iadd hx hb dX8_readItem_70 ?_
        refine lv_topi (fun x19 ex19 => ?_)
        have hf := pf_nm ex19 hf
        refine hm_put (ws' := [oc8 h0 r_t t_base t_taped x19 t_faultPlace t_number t_newBits x18 t_newDoings t_newThings t_opened t_sum t_heldAll t_onPaper t_turned t_wasConverted t_lastBits t_lastSum t_lastHeld t_lastLeft t_lastCode t_writtenLong t_codeMany t_acts t_done0 t_stoppedAt, ic E (r_t 7) 5 t_lows, ic E (r_t 10) 12 t_newOff, ic E (r_t 11) 5 t_newRule, ic E (r_t 9) 12 t_newSize, bc E (r_t 2) 400 t_tape, ic E (r_t 8) 5 t_tops]) cb_X8 hx hb hown X w 0 4 fl_X8_133 dX8_readItem_71 rfl (by decide) (Nat.le_of_ble_eq_true rfl) rfl rfl rfl rfl (fun H locs w => ?_)
        refine lv_aload_n hx hb dX8_readItem_74 rfl (lv_at hl 1 rfl) ?_
        refine lv_aload_n hx hb dX8_readItem_75 rfl (lv_at hl 1 rfl) ?_
        refine hm_get cb_X8 hx hb hown X w 0 7 fl_X8_28 dX8_readItem_76 rfl (by decide) rfl ?_
        refine lv_iload_n hx hb dX8_readItem_79 rfl (lv_at hl 0 rfl) ?_
        obtain ⟨g80, hf⟩ := pf_ckI hf
        refine hm_iald hx hb X w 1 dX8_readItem_80 rfl g80 ?_
        refine lv_aload_n hx hb dX8_readItem_81 rfl (lv_at hl 1 rfl) ?_
        refine hm_get cb_X8 hx hb hown X w 0 8 fl_X8_31 dX8_readItem_82 rfl (by decide) rfl ?_
        refine lv_iload_n hx hb dX8_readItem_85 rfl (lv_at hl 0 rfl) ?_
        obtain ⟨g86, hf⟩ := pf_ckI hf
        refine hm_iald hx hb X w 6 dX8_readItem_86 rfl g86 ?_
        obtain ⟨r20, x21, x22, x23, hc87, hf⟩ := pf_bi_3 hf
        refine hm_aft_i (ws' := fun _ => [oc8 h0 r_t t_base t_taped x21 x22 x23 t_newBits x18 t_newDoings t_newThings t_opened t_sum t_heldAll t_onPaper t_turned t_wasConverted t_lastBits t_lastSum t_lastHeld t_lastLeft t_lastCode t_writtenLong t_codeMany t_acts t_done0 t_stoppedAt, ic E (r_t 7) 5 t_lows, ic E (r_t 10) 12 t_newOff, ic E (r_t 11) 5 t_newRule, ic E (r_t 9) 12 t_newSize, bc E (r_t 2) 400 t_tape, ic E (r_t 8) 5 t_tops]) (hm_runV (rest := []) hx hb hml hown X hA Y w 0 (ci := 7) (T := TX8) (N := 55) rfl rfl mw_X8_readNumber ml_X8_157 dX8_readItem_87 hm_ac0 [.int (t_lows r2.toNatClampNeg), .int (t_tops r2.toNatClampNeg)] rfl [0, 5] rfl rfl (ct_X8_readNumber l E H.size h0 r_t t_base t_taped x19 t_faultPlace t_number t_newBits x18 t_newDoings t_newThings t_opened t_sum t_heldAll t_onPaper t_turned t_wasConverted t_lastBits t_lastSum t_lastHeld t_lastLeft t_lastCode t_writtenLong t_codeMany t_acts t_done0 t_stoppedAt t_tape (t_lows r2.toNatClampNeg) (t_tops r2.toNatClampNeg) (r20, x21, x22, x23) hc87) rfl hl.1 ⟨⟨rfl, rfl⟩, ⟨Nat.le_of_ble_eq_true rfl, Nat.le_of_ble_eq_true rfl⟩, ⟨Nat.le_of_ble_eq_true rfl, Nat.le_of_ble_eq_true rfl⟩, Nat.le_of_ble_eq_true rfl⟩) hA w [0, 5] [1, 2, 3, 4, 6] [5, 0, 1, 2, 3, 6, 4] rfl rfl (by decide) (fun _ => rfl) (fun _ H locs w => ?_)
        refine lv_if_ne (tgt := 95) hx hb dX8_readItem_90 (by decide) (fun c90 => ?_) (fun c90 => ?_)
        · have hf := pf_e c90 hf
          refine lv_aload_n hx hb dX8_readItem_95 rfl (lv_at hl 1 rfl) ?_
          refine hm_get cb_X8 hx hb hown X w 0 11 fl_X8_40 dX8_readItem_96 rfl (by decide) rfl ?_
          refine lv_iload_n hx hb dX8_readItem_99 rfl (lv_at hl 0 rfl) ?_
          refine lv_aload_n hx hb dX8_readItem_100 rfl (lv_at hl 1 rfl) ?_
          refine hm_get cb_X8 hx hb hown X w 0 6 fl_X8_147 dX8_readItem_101 rfl (by decide) rfl ?_
          obtain ⟨g104, hf⟩ := pf_ckI hf
          refine hm_iast (ws' := [oc8 h0 r_t t_base t_taped x21 x22 x23 t_newBits x18 t_newDoings t_newThings t_opened t_sum t_heldAll t_onPaper t_turned t_wasConverted t_lastBits t_lastSum t_lastHeld t_lastLeft t_lastCode t_writtenLong t_codeMany t_acts t_done0 t_stoppedAt, ic E (r_t 7) 5 t_lows, ic E (r_t 10) 12 t_newOff, ic E (r_t 11) 5 (upd t_newRule r2.toNatClampNeg x23), ic E (r_t 9) 12 t_newSize, bc E (r_t 2) 400 t_tape, ic E (r_t 8) 5 t_tops]) hx hb X w 3 dX8_readItem_104 rfl g104 rfl (fun H locs w => ?_)
          exact kJ105 _ _ _ _ _ _ _ _ _ _ _ hf w (lv_sub hl [1] rfl)
        · have hf := pf_t c90 hf
          refine lv_iconst (v := 0) hx hb dX8_readItem_93 (by decide) ?_
          exact hQ _ _ _ _ _ (x21, x22, x23, t_newSize, t_newOff, t_newRule, t_newBits, x18) (fun _ => 0) hf rfl w dX8_readItem_94
      · have hf := pf_t c40 hf
        refine lv_aload_n hx hb dX8_readItem_43 rfl (lv_at hl 1 rfl) ?_
        refine lv_aload_n hx hb dX8_readItem_44 rfl (lv_at hl 1 rfl) ?_
        refine hm_get cb_X8 hx hb hown X w 0 4 fl_X8_133 dX8_readItem_45 rfl (by decide) rfl ?_
        obtain ⟨r24, x25, hc48, hf⟩ := pf_bi_1 hf
        refine hm_aft_i (ws' := fun _ => [oc8 h0 r_t t_base t_taped t_at x25 t_number t_newBits t_newTold t_newDoings t_newThings t_opened t_sum t_heldAll t_onPaper t_turned t_wasConverted t_lastBits t_lastSum t_lastHeld t_lastLeft t_lastCode t_writtenLong t_codeMany t_acts t_done0 t_stoppedAt, ic E (r_t 7) 5 t_lows, ic E (r_t 10) 12 t_newOff, ic E (r_t 11) 5 t_newRule, ic E (r_t 9) 12 t_newSize, bc E (r_t 2) 400 t_tape, ic E (r_t 8) 5 t_tops]) (hm_runV (rest := []) hx hb hml hown X hA Y w 0 (ci := 7) (T := TX8) (N := 55) rfl rfl mw_X8_fails ml_X8_144 dX8_readItem_48 hm_ac0 [.int t_at] rfl [0] rfl rfl (ct_X8_fails l E H.size h0 r_t t_base t_taped t_at t_faultPlace t_number t_newBits t_newTold t_newDoings t_newThings t_opened t_sum t_heldAll t_onPaper t_turned t_wasConverted t_lastBits t_lastSum t_lastHeld t_lastLeft t_lastCode t_writtenLong t_codeMany t_acts t_done0 t_stoppedAt t_at (r24, x25) hc48) rfl hl.1 ⟨⟨rfl, rfl⟩, ⟨Nat.le_of_ble_eq_true rfl, Nat.le_of_ble_eq_true rfl⟩, ⟨Nat.le_of_ble_eq_true rfl, Nat.le_of_ble_eq_true rfl⟩, Nat.le_of_ble_eq_true rfl⟩) hA w [0] [1, 2, 3, 4, 5, 6] [6, 0, 1, 2, 3, 4, 5] rfl rfl (by decide) (fun _ => rfl) (fun _ H locs w => ?_)
        obtain ⟨g51, hf⟩ := pf_ckZ hf
        exact hQ _ _ _ _ _ (t_at, x25, t_number, t_newSize, t_newOff, t_newRule, t_newBits, t_newTold) (fun _ => 0) hf (hm_z g51) w dX8_readItem_51
  · have hf := pf_t c14 hf
    refine lv_aload_n hx hb dX8_readItem_17 rfl (lv_at hl 1 rfl) ?_
    obtain ⟨r26, x27, x28, x29, f30, f31, x32, hc18, hf⟩ := pf_bi_6 hf
    refine hm_aft_i (ws' := fun _ => [oc8 h0 r_t t_base t_taped x27 x28 x29 x32 t_newTold t_newDoings t_newThings t_opened t_sum t_heldAll t_onPaper t_turned t_wasConverted t_lastBits t_lastSum t_lastHeld t_lastLeft t_lastCode t_writtenLong t_codeMany t_acts t_done0 t_stoppedAt, ic E (r_t 7) 5 t_lows, ic E (r_t 10) 12 f31, ic E (r_t 11) 5 t_newRule, ic E (r_t 9) 12 f30, bc E (r_t 2) 400 t_tape, ic E (r_t 8) 5 t_tops]) (hm_runV (rest := []) hx hb hml hown X hA Y w 0 (ci := 7) (T := TX8) (N := 55) rfl rfl mw_X8_readBit ml_X8_165 dX8_readItem_18 hm_ac0 [] rfl [0, 2, 4, 5] rfl rfl (ct_X8_readBit l E H.size h0 r_t t_base t_taped t_at t_faultPlace t_number t_newBits t_newTold t_newDoings t_newThings t_opened t_sum t_heldAll t_onPaper t_turned t_wasConverted t_lastBits t_lastSum t_lastHeld t_lastLeft t_lastCode t_writtenLong t_codeMany t_acts t_done0 t_stoppedAt t_newOff t_newSize t_tape (r26, x27, x28, x29, f30, f31, x32) hc18) rfl hl.1 ⟨⟨rfl, rfl⟩, ⟨Nat.le_of_ble_eq_true rfl, Nat.le_of_ble_eq_true rfl⟩, ⟨Nat.le_of_ble_eq_true rfl, Nat.le_of_ble_eq_true rfl⟩, Nat.le_of_ble_eq_true rfl⟩) hA w [0, 2, 4, 5] [1, 3, 6] [3, 0, 4, 1, 5, 6, 2] rfl rfl (by decide) (fun _ => rfl) (fun _ H locs w => ?_)
    refine lv_if_ne (tgt := 105) hx hb dX8_readItem_21 (by decide) (fun c21 => ?_) (fun c21 => ?_)
    · have hf := pf_e c21 hf
      exact kJ105 _ _ _ _ _ _ _ _ _ _ _ hf w (lv_sub hl [1] rfl)
    · have hf := pf_t c21 hf
      refine lv_iconst (v := 0) hx hb dX8_readItem_24 (by decide) ?_
      exact hQ _ _ _ _ _ (x27, x28, x29, f30, f31, t_newRule, x32, t_newTold) (fun _ => 0) hf rfl w dX8_readItem_25
set_option maxHeartbeats 8000000 in
set_option maxRecDepth 100000 in
theorem ct_X8_readText (l : Launch) (E : hm_E) (sz : Nat) (h0 : Nat) (r_t : Nat → Nat) (t_base t_taped t_at t_faultPlace t_number t_newBits t_newTold t_newDoings t_newThings t_opened t_sum t_heldAll t_onPaper t_turned t_wasConverted t_lastBits t_lastSum t_lastHeld t_lastLeft t_lastCode t_writtenLong t_codeMany t_acts t_done0 t_stoppedAt : Int32) (t_lows : Nat → Int32) (t_newOff : Nat → Int32) (t_newRule : Nat → Int32) (t_newSize : Nat → Int32) (t_tape : Nat → Int32) (t_tops : Nat → Int32) (R : Int32 × Int32 × Int32 × Int32 × (Nat → Int32) × (Nat → Int32) × (Nat → Int32) × Int32 × Int32) (hf : pf_X8_readText t_tape t_taped t_number t_lows t_tops t_newSize t_newOff t_newRule = some R) : hm_Mi l E yX8_readText cX8_readText 2 .boolean [] (hm_rr 5 108 0 0) [.ref h0] sz [oc8 h0 r_t t_base t_taped t_at t_faultPlace t_number t_newBits t_newTold t_newDoings t_newThings t_opened t_sum t_heldAll t_onPaper t_turned t_wasConverted t_lastBits t_lastSum t_lastHeld t_lastLeft t_lastCode t_writtenLong t_codeMany t_acts t_done0 t_stoppedAt, ic E (r_t 7) 5 t_lows, ic E (r_t 10) 12 t_newOff, ic E (r_t 11) 5 t_newRule, ic E (r_t 9) 12 t_newSize, bc E (r_t 2) 400 t_tape, ic E (r_t 8) 5 t_tops] R.1 (fun _ => [oc8 h0 r_t t_base t_taped (R.2.1) (R.2.2.1) (R.2.2.2.1) (R.2.2.2.2.2.2.2.1) (R.2.2.2.2.2.2.2.2) t_newDoings t_newThings t_opened t_sum t_heldAll t_onPaper t_turned t_wasConverted t_lastBits t_lastSum t_lastHeld t_lastLeft t_lastCode t_writtenLong t_codeMany t_acts t_done0 t_stoppedAt, ic E (r_t 7) 5 t_lows, ic E (r_t 10) 12 (R.2.2.2.2.2.1), ic E (r_t 11) 5 (R.2.2.2.2.2.2.1), ic E (r_t 9) 12 (R.2.2.2.2.1), bc E (r_t 2) 400 t_tape, ic E (r_t 8) 5 t_tops]) := by
  refine hm_ct_i R (fun u qs => [oc8 h0 r_t t_base t_taped (u.1) (u.2.1) (u.2.2.1) (u.2.2.2.2.2.2.1) (u.2.2.2.2.2.2.2) t_newDoings t_newThings t_opened t_sum t_heldAll t_onPaper t_turned t_wasConverted t_lastBits t_lastSum t_lastHeld t_lastLeft t_lastCode t_writtenLong t_codeMany t_acts t_done0 t_stoppedAt, ic E (r_t 7) 5 t_lows, ic E (r_t 10) 12 (u.2.2.2.2.1), ic E (r_t 11) 5 (u.2.2.2.2.2.1), ic E (r_t 9) 12 (u.2.2.2.1), bc E (r_t 2) 400 t_tape, ic E (r_t 8) 5 t_tops]) (by decide) (Nat.le_of_ble_eq_true rfl) (Or.inr rfl) ?_
  intro p e s m args below meth c A Q ls H locs hx hb hml hown X hA Y hex w hl hQ
  have hl : lv_has ls 2 [(0, .ref h0)] := hl
  unfold pf_X8_readText at hf
  refine lv_aload_n hx hb dX8_readText_0 rfl (lv_at hl 0 rfl) ?_
  refine lv_iconst (v := 0) hx hb dX8_readText_1 (by decide) ?_
  refine hm_put (ws' := [oc8 h0 r_t t_base t_taped 0 t_faultPlace t_number t_newBits t_newTold t_newDoings t_newThings t_opened t_sum t_heldAll t_onPaper t_turned t_wasConverted t_lastBits t_lastSum t_lastHeld t_lastLeft t_lastCode t_writtenLong t_codeMany t_acts t_done0 t_stoppedAt, ic E (r_t 7) 5 t_lows, ic E (r_t 10) 12 t_newOff, ic E (r_t 11) 5 t_newRule, ic E (r_t 9) 12 t_newSize, bc E (r_t 2) 400 t_tape, ic E (r_t 8) 5 t_tops]) cb_X8 hx hb hown X w 0 4 fl_X8_133 dX8_readText_2 rfl (by decide) (Nat.le_of_ble_eq_true rfl) rfl rfl rfl rfl (fun H locs w => ?_)
  refine lv_aload_n hx hb dX8_readText_5 rfl (lv_at hl 0 rfl) ?_
  refine lv_iconst (v := (-1)) hx hb dX8_readText_6 (by decide) ?_
  refine hm_put (ws' := [oc8 h0 r_t t_base t_taped 0 (-1) t_number t_newBits t_newTold t_newDoings t_newThings t_opened t_sum t_heldAll t_onPaper t_turned t_wasConverted t_lastBits t_lastSum t_lastHeld t_lastLeft t_lastCode t_writtenLong t_codeMany t_acts t_done0 t_stoppedAt, ic E (r_t 7) 5 t_lows, ic E (r_t 10) 12 t_newOff, ic E (r_t 11) 5 t_newRule, ic E (r_t 9) 12 t_newSize, bc E (r_t 2) 400 t_tape, ic E (r_t 8) 5 t_tops]) cb_X8 hx hb hown X w 0 5 fl_X8_25 dX8_readText_7 rfl (by decide) (Nat.le_of_ble_eq_true rfl) rfl rfl rfl rfl (fun H locs w => ?_)
  refine lv_aload_n hx hb dX8_readText_10 rfl (lv_at hl 0 rfl) ?_
  refine lv_iconst (v := 0) hx hb dX8_readText_11 (by decide) ?_
  refine hm_put (ws' := [oc8 h0 r_t t_base t_taped 0 (-1) t_number 0 t_newTold t_newDoings t_newThings t_opened t_sum t_heldAll t_onPaper t_turned t_wasConverted t_lastBits t_lastSum t_lastHeld t_lastLeft t_lastCode t_writtenLong t_codeMany t_acts t_done0 t_stoppedAt, ic E (r_t 7) 5 t_lows, ic E (r_t 10) 12 t_newOff, ic E (r_t 11) 5 t_newRule, ic E (r_t 9) 12 t_newSize, bc E (r_t 2) 400 t_tape, ic E (r_t 8) 5 t_tops]) cb_X8 hx hb hown X w 0 12 fl_X8_154 dX8_readText_12 rfl (by decide) (Nat.le_of_ble_eq_true rfl) rfl rfl rfl rfl (fun H locs w => ?_)
  refine lv_aload_n hx hb dX8_readText_15 rfl (lv_at hl 0 rfl) ?_
  refine lv_iconst (v := 0) hx hb dX8_readText_16 (by decide) ?_
  refine hm_put (ws' := [oc8 h0 r_t t_base t_taped 0 (-1) t_number 0 0 t_newDoings t_newThings t_opened t_sum t_heldAll t_onPaper t_turned t_wasConverted t_lastBits t_lastSum t_lastHeld t_lastLeft t_lastCode t_writtenLong t_codeMany t_acts t_done0 t_stoppedAt, ic E (r_t 7) 5 t_lows, ic E (r_t 10) 12 t_newOff, ic E (r_t 11) 5 t_newRule, ic E (r_t 9) 12 t_newSize, bc E (r_t 2) 400 t_tape, ic E (r_t 8) 5 t_tops]) cb_X8 hx hb hown X w 0 13 fl_X8_168 dX8_readText_17 rfl (by decide) (Nat.le_of_ble_eq_true rfl) rfl rfl rfl rfl (fun H locs w => ?_)
  refine lv_iconst (v := 0) hx hb dX8_readText_20 (by decide) ?_
  refine lv_istore_n (lv' := [(1, .int 0), (0, .ref h0)]) hx hb dX8_readText_21 rfl hl (by decide) rfl (fun ls hl => ?_)
  obtain ⟨J58, hJ58, hf⟩ := pf_jn hf
  have kJ58 : ∀ (f1 : Nat → Int32) (H : Heap) (locs : List Loc) (ls : Array Slot), J58 f1 = some R → hm_W E A s.heap [oc8 h0 r_t t_base t_taped 0 (-1) t_number 0 0 t_newDoings t_newThings t_opened t_sum t_heldAll t_onPaper t_turned t_wasConverted t_lastBits t_lastSum t_lastHeld t_lastLeft t_lastCode t_writtenLong t_codeMany t_acts t_done0 t_stoppedAt, ic E (r_t 7) 5 t_lows, ic E (r_t 10) 12 t_newOff, ic E (r_t 11) 5 f1, ic E (r_t 9) 12 t_newSize, bc E (r_t 2) 400 t_tape, ic E (r_t 8) 5 t_tops] H locs → lv_has ls 2 [(0, .ref h0)] → W p l e (hm_rr 5 108 0 0) s m args below meth c H locs 0 0 Q (F0 m 58 ls []) := by
    intro f1 H locs ls hf w hl
    have hf := pf_j1 hJ58 hf
    obtain ⟨J78, hJ78, hf⟩ := pf_jn hf
    have kJ78 : ∀ (x2 : Int32) (x3 : Int32) (x4 : Int32) (f5 : Nat → Int32) (f6 : Nat → Int32) (f7 : Nat → Int32) (x8 : Int32) (x9 : Int32) (H : Heap) (locs : List Loc) (ls : Array Slot), J78 x2 x3 x4 f5 f6 f7 x8 x9 = some R → hm_W E A s.heap [oc8 h0 r_t t_base t_taped x2 x3 x4 x8 x9 t_newDoings t_newThings t_opened t_sum t_heldAll t_onPaper t_turned t_wasConverted t_lastBits t_lastSum t_lastHeld t_lastLeft t_lastCode t_writtenLong t_codeMany t_acts t_done0 t_stoppedAt, ic E (r_t 7) 5 t_lows, ic E (r_t 10) 12 f6, ic E (r_t 11) 5 f7, ic E (r_t 9) 12 f5, bc E (r_t 2) 400 t_tape, ic E (r_t 8) 5 t_tops] H locs → lv_has ls 2 [(0, .ref h0)] → W p l e (hm_rr 5 108 0 0) s m args below meth c H locs 0 0 Q (F0 m 78 ls []) := by
      intro x2 x3 x4 f5 f6 f7 x8 x9 H locs ls hf w hl
      have hf := pf_j8 hJ78 hf
      refine lv_aload_n hx hb dX8_readText_78 rfl (lv_at hl 0 rfl) ?_
      refine hm_get cb_X8 hx hb hown X w 0 12 fl_X8_154 dX8_readText_79 rfl (by decide) rfl ?_
      refine lv_iconst (v := 1) hx hb dX8_readText_82 (by decide) ?_
      refine lv_icmp_gt (tgt := 97) hx hb dX8_readText_83 (by decide) (fun c83 => ?_) (fun c83 => ?_)
      · have hf := pf_t c83 hf
        refine lv_iconst (v := 1) hx hb dX8_readText_97 (by decide) ?_
        refine lv_goto (tgt := 102) hx hb dX8_readText_98 (by decide) ?_
        exact hQ _ _ _ _ _ (x2, x3, x4, f5, f6, f7, x8, x9) (fun _ => 0) hf rfl w dX8_readText_102
      · have hf := pf_e c83 hf
        refine lv_aload_n hx hb dX8_readText_86 rfl (lv_at hl 0 rfl) ?_
        refine lv_aload_n hx hb dX8_readText_87 rfl (lv_at hl 0 rfl) ?_
        refine hm_get cb_X8 hx hb hown X w 0 3 fl_X8_122 dX8_readText_88 rfl (by decide) rfl ?_
        obtain ⟨r10, x11, hc91, hf⟩ := pf_bi_1 hf
        refine hm_aft_i (ws' := fun _ => [oc8 h0 r_t t_base t_taped x2 x11 x4 x8 x9 t_newDoings t_newThings t_opened t_sum t_heldAll t_onPaper t_turned t_wasConverted t_lastBits t_lastSum t_lastHeld t_lastLeft t_lastCode t_writtenLong t_codeMany t_acts t_done0 t_stoppedAt, ic E (r_t 7) 5 t_lows, ic E (r_t 10) 12 f6, ic E (r_t 11) 5 f7, ic E (r_t 9) 12 f5, bc E (r_t 2) 400 t_tape, ic E (r_t 8) 5 t_tops]) (hm_runV (rest := []) hx hb hml hown X hA Y w 0 (ci := 7) (T := TX8) (N := 55) rfl rfl mw_X8_fails ml_X8_144 dX8_readText_91 hm_ac0 [.int t_taped] rfl [0] rfl rfl (ct_X8_fails l E H.size h0 r_t t_base t_taped x2 x3 x4 x8 x9 t_newDoings t_newThings t_opened t_sum t_heldAll t_onPaper t_turned t_wasConverted t_lastBits t_lastSum t_lastHeld t_lastLeft t_lastCode t_writtenLong t_codeMany t_acts t_done0 t_stoppedAt t_taped (r10, x11) hc91) rfl hl.1 ⟨⟨rfl, rfl⟩, ⟨Nat.le_of_ble_eq_true rfl, Nat.le_of_ble_eq_true rfl⟩, ⟨Nat.le_of_ble_eq_true rfl, Nat.le_of_ble_eq_true rfl⟩, Nat.le_of_ble_eq_true rfl⟩) hA w [0] [1, 2, 3, 4, 5, 6] [6, 0, 1, 2, 3, 4, 5] rfl rfl (by decide) (fun _ => rfl) (fun _ H locs w => ?_)
        refine lv_if_eq (tgt := 101) hx hb dX8_readText_94 (by decide) (fun c94 => ?_) (fun c94 => ?_)
        · have hf := pf_t c94 hf
          refine lv_iconst (v := 0) hx hb dX8_readText_101 (by decide) ?_
          exact hQ _ _ _ _ _ (x2, x11, x4, f5, f6, f7, x8, x9) (fun _ => 0) hf rfl w dX8_readText_102
        · have hf := pf_e c94 hf
          refine lv_iconst (v := 1) hx hb dX8_readText_97 (by decide) ?_
          refine lv_goto (tgt := 102) hx hb dX8_readText_98 (by decide) ?_
          exact hQ _ _ _ _ _ (x2, x11, x4, f5, f6, f7, x8, x9) (fun _ => 0) hf rfl w dX8_readText_102
    have klp_X8_readText_58 : ∀ (n : Nat) (x12 : Int32) (x13 : Int32) (x14 : Int32) (f15 : Nat → Int32) (f16 : Nat → Int32) (f17 : Nat → Int32) (x18 : Int32) (x19 : Int32) (H : Heap) (locs : List Loc) (ls : Array Slot), lp_X8_readText_58 t_taped t_lows t_tape t_tops J78 n x12 x13 x14 f15 f16 f17 x18 x19 = some R → hm_W E A s.heap [oc8 h0 r_t t_base t_taped x12 x13 x14 x18 x19 t_newDoings t_newThings t_opened t_sum t_heldAll t_onPaper t_turned t_wasConverted t_lastBits t_lastSum t_lastHeld t_lastLeft t_lastCode t_writtenLong t_codeMany t_acts t_done0 t_stoppedAt, ic E (r_t 7) 5 t_lows, ic E (r_t 10) 12 f16, ic E (r_t 11) 5 f17, ic E (r_t 9) 12 f15, bc E (r_t 2) 400 t_tape, ic E (r_t 8) 5 t_tops] H locs → lv_has ls 2 [(0, .ref h0)] → W p l e (hm_rr 5 108 0 0) s m args below meth c H locs 0 0 Q (F0 m 58 ls []) := by
      intro n
      induction n with
      | zero =>
        intro x12 x13 x14 f15 f16 f17 x18 x19 H locs ls hf w hl
        exact pf_no hf
      | succ n ih58 =>
        intro x12 x13 x14 f15 f16 f17 x18 x19 H locs ls hf w hl
        rw [lp_X8_readText_58] at hf
        refine lv_aload_n hx hb dX8_readText_58 rfl (lv_at hl 0 rfl) ?_
        refine hm_get cb_X8 hx hb hown X w 0 4 fl_X8_133 dX8_readText_59 rfl (by decide) rfl ?_
        refine lv_aload_n hx hb dX8_readText_62 rfl (lv_at hl 0 rfl) ?_
        refine hm_get cb_X8 hx hb hown X w 0 3 fl_X8_122 dX8_readText_63 rfl (by decide) rfl ?_
        refine lv_icmp_ge (tgt := 78) hx hb dX8_readText_66 (by decide) (fun c66 => ?_) (fun c66 => ?_)
        · have hf := pf_t c66 hf
          exact kJ78 _ _ _ _ _ _ _ _ _ _ _ hf w (lv_sub hl [0] rfl)
        · have hf := pf_e c66 hf
          refine lv_aload_n hx hb dX8_readText_69 rfl (lv_at hl 0 rfl) ?_
          obtain ⟨r20, x21, x22, x23, f24, f25, f26, x27, x28, hc70, hf⟩ := pf_bi_8 hf
          refine hm_aft_i (ws' := fun _ => [oc8 h0 r_t t_base t_taped x21 x22 x23 x27 x28 t_newDoings t_newThings t_opened t_sum t_heldAll t_onPaper t_turned t_wasConverted t_lastBits t_lastSum t_lastHeld t_lastLeft t_lastCode t_writtenLong t_codeMany t_acts t_done0 t_stoppedAt, ic E (r_t 7) 5 t_lows, ic E (r_t 10) 12 f25, ic E (r_t 11) 5 f26, ic E (r_t 9) 12 f24, bc E (r_t 2) 400 t_tape, ic E (r_t 8) 5 t_tops]) (hm_runV (rest := []) hx hb hml hown X hA Y w 0 (ci := 7) (T := TX8) (N := 55) rfl rfl mw_X8_readItem ml_X8_171 dX8_readText_70 hm_ac0 [] rfl [0, 1, 2, 3, 4, 5, 6] rfl rfl (ct_X8_readItem l E H.size h0 r_t t_base t_taped x12 x13 x14 x18 x19 t_newDoings t_newThings t_opened t_sum t_heldAll t_onPaper t_turned t_wasConverted t_lastBits t_lastSum t_lastHeld t_lastLeft t_lastCode t_writtenLong t_codeMany t_acts t_done0 t_stoppedAt t_lows f16 f17 f15 t_tape t_tops (r20, x21, x22, x23, f24, f25, f26, x27, x28) hc70) rfl hl.1 ⟨⟨rfl, rfl⟩, ⟨Nat.le_of_ble_eq_true rfl, Nat.le_of_ble_eq_true rfl⟩, ⟨Nat.le_of_ble_eq_true rfl, Nat.le_of_ble_eq_true rfl⟩, Nat.le_of_ble_eq_true rfl⟩) hA w [0, 1, 2, 3, 4, 5, 6] [] [0, 1, 2, 3, 4, 5, 6] rfl rfl (by decide) (fun _ => rfl) (fun _ H locs w => ?_)
          refine lv_if_ne (tgt := 58) hx hb dX8_readText_73 (by decide) (fun c73 => ?_) (fun c73 => ?_)
          · have hf := pf_e c73 hf
            exact ih58 _ _ _ _ _ _ _ _ _ _ _ hf w (lv_sub hl [0] rfl)
          · have hf := pf_t c73 hf
            refine lv_iconst (v := 0) hx hb dX8_readText_76 (by decide) ?_
            exact hQ _ _ _ _ _ (x21, x22, x23, f24, f25, f26, x27, x28) (fun _ => 0) hf rfl w dX8_readText_77
    exact klp_X8_readText_58 FU _ _ _ _ _ _ _ _ _ _ _ hf w (lv_sub hl [0] rfl)
  have klp_X8_readText_22 : ∀ (n : Nat) (x29 : Int32) (f30 : Nat → Int32) (H : Heap) (locs : List Loc) (ls : Array Slot), lp_X8_readText_22 J58 n x29 f30 = some R → hm_W E A s.heap [oc8 h0 r_t t_base t_taped 0 (-1) t_number 0 0 t_newDoings t_newThings t_opened t_sum t_heldAll t_onPaper t_turned t_wasConverted t_lastBits t_lastSum t_lastHeld t_lastLeft t_lastCode t_writtenLong t_codeMany t_acts t_done0 t_stoppedAt, ic E (r_t 7) 5 t_lows, ic E (r_t 10) 12 t_newOff, ic E (r_t 11) 5 f30, ic E (r_t 9) 12 t_newSize, bc E (r_t 2) 400 t_tape, ic E (r_t 8) 5 t_tops] H locs → lv_has ls 2 [(0, .ref h0), (1, .int x29)] → W p l e (hm_rr 5 108 0 0) s m args below meth c H locs 0 0 Q (F0 m 22 ls []) := by
    intro n
    induction n with
    | zero =>
      intro x29 f30 H locs ls hf w hl
      exact pf_no hf
    | succ n ih22 =>
      intro x29 f30 H locs ls hf w hl
      rw [lp_X8_readText_22] at hf
      refine lv_iload_n hx hb dX8_readText_22 rfl (lv_at hl 1 rfl) ?_
      refine lv_iconst (v := 5) hx hb dX8_readText_23 (by decide) ?_
      refine lv_icmp_ge (tgt := 58) hx hb dX8_readText_24 (by decide) (fun c24 => ?_) (fun c24 => ?_)
      · have hf := pf_t c24 hf
        exact kJ58 _ _ _ _ hf w (lv_sub hl [0] rfl)
      · have hf := pf_e c24 hf
        refine lv_aload_n hx hb dX8_readText_27 rfl (lv_at hl 0 rfl) ?_
        refine hm_get cb_X8 hx hb hown X w 0 11 fl_X8_40 dX8_readText_28 rfl (by decide) rfl ?_
        refine lv_iload_n hx hb dX8_readText_31 rfl (lv_at hl 1 rfl) ?_
        refine lv_iload_n hx hb dX8_readText_32 rfl (lv_at hl 1 rfl) ?_
        refine lv_iconst (v := 2) hx hb dX8_readText_33 (by decide) ?_
        obtain ⟨J51, hJ51, hf⟩ := pf_jn hf
        have kJ51 : ∀ (x31 : Int32) (H : Heap) (locs : List Loc) (ls : Array Slot), J51 x31 = some R → hm_W E A s.heap [oc8 h0 r_t t_base t_taped 0 (-1) t_number 0 0 t_newDoings t_newThings t_opened t_sum t_heldAll t_onPaper t_turned t_wasConverted t_lastBits t_lastSum t_lastHeld t_lastLeft t_lastCode t_writtenLong t_codeMany t_acts t_done0 t_stoppedAt, ic E (r_t 7) 5 t_lows, ic E (r_t 10) 12 t_newOff, ic E (r_t 11) 5 f30, ic E (r_t 9) 12 t_newSize, bc E (r_t 2) 400 t_tape, ic E (r_t 8) 5 t_tops] H locs → lv_has ls 2 [(0, .ref h0), (1, .int x29)] → W p l e (hm_rr 5 108 0 0) s m args below meth c H locs 0 0 Q (F0 m 51 ls [.int x31, .int x29, .ref (r_t 11)]) := by
          intro x31 H locs ls hf w hl
          have hf := pf_j1 hJ51 hf
          obtain ⟨g51, hf⟩ := pf_ckI hf
          refine hm_iast (ws' := [oc8 h0 r_t t_base t_taped 0 (-1) t_number 0 0 t_newDoings t_newThings t_opened t_sum t_heldAll t_onPaper t_turned t_wasConverted t_lastBits t_lastSum t_lastHeld t_lastLeft t_lastCode t_writtenLong t_codeMany t_acts t_done0 t_stoppedAt, ic E (r_t 7) 5 t_lows, ic E (r_t 10) 12 t_newOff, ic E (r_t 11) 5 (upd f30 x29.toNatClampNeg x31), ic E (r_t 9) 12 t_newSize, bc E (r_t 2) 400 t_tape, ic E (r_t 8) 5 t_tops]) hx hb X w 3 dX8_readText_51 rfl g51 rfl (fun H locs w => ?_)
          obtain ⟨x32, ex32⟩ : ∃ y : Int32, y = (x29 + 1) := ⟨_, rfl⟩
          have hf := pf_nm ex32 hf
          refine lv_iinc (v := x32) (lv' := [(1, .int x32), (0, .ref h0)]) hx hb dX8_readText_52 hl (k := 1) rfl (by rw [ex32]; rfl) (by decide) rfl (fun ls hl => ?_)
          refine lv_goto (tgt := 22) hx hb dX8_readText_55 (by decide) ?_
          exact ih22 _ _ _ _ _ hf w (lv_sub hl [1, 0] rfl)
        refine lv_icmp_ne (tgt := 41) hx hb dX8_readText_34 (by decide) (fun c34 => ?_) (fun c34 => ?_)
        · have hf := pf_e c34 hf
          refine lv_iload_n hx hb dX8_readText_41 rfl (lv_at hl 1 rfl) ?_
          refine lv_iconst (v := 4) hx hb dX8_readText_42 (by decide) ?_
          refine lv_icmp_ne (tgt := 50) hx hb dX8_readText_43 (by decide) (fun c43 => ?_) (fun c43 => ?_)
          · have hf := pf_e c43 hf
            refine lv_iconst (v := 0) hx hb dX8_readText_50 (by decide) ?_
            exact kJ51 _ _ _ _ hf w (lv_sub hl [0, 1] rfl)
          · have hf := pf_t c43 hf
            refine lv_iconst (v := 1) hx hb dX8_readText_46 (by decide) ?_
            refine lv_goto (tgt := 51) hx hb dX8_readText_47 (by decide) ?_
            exact kJ51 _ _ _ _ hf w (lv_sub hl [0, 1] rfl)
        · have hf := pf_t c34 hf
          refine lv_iconst (v := 3) hx hb dX8_readText_37 (by decide) ?_
          refine lv_goto (tgt := 51) hx hb dX8_readText_38 (by decide) ?_
          exact kJ51 _ _ _ _ hf w (lv_sub hl [0, 1] rfl)
  exact klp_X8_readText_22 FU _ _ _ _ _ hf w (lv_sub hl [1, 0] rfl)
set_option maxHeartbeats 8000000 in
set_option maxRecDepth 100000 in
theorem ct_X8_layBit (l : Launch) (E : hm_E) (sz : Nat) (h0 : Nat) (r_t : Nat → Nat) (t_base t_taped t_at t_faultPlace t_number t_newBits t_newTold t_newDoings t_newThings t_opened t_sum t_heldAll t_onPaper t_turned t_wasConverted t_lastBits t_lastSum t_lastHeld t_lastLeft t_lastCode t_writtenLong t_codeMany t_acts t_done0 t_stoppedAt : Int32) (t_all : Nat → Int32) (a1 : Int32) (a2 : Int32) (a3 : Int32) (R : (Nat → Int32)) (hf : pf_X8_layBit a1 a2 a3 t_all t_base = some R) : hm_Mv l E yX8_layBit cX8_layBit 4 [] (hm_rr 1 22 0 0) [.ref h0, .int a1, .int a2, .int a3] sz [oc8 h0 r_t t_base t_taped t_at t_faultPlace t_number t_newBits t_newTold t_newDoings t_newThings t_opened t_sum t_heldAll t_onPaper t_turned t_wasConverted t_lastBits t_lastSum t_lastHeld t_lastLeft t_lastCode t_writtenLong t_codeMany t_acts t_done0 t_stoppedAt, ic E (r_t 0) 800 t_all] (fun _ => [oc8 h0 r_t t_base t_taped t_at t_faultPlace t_number t_newBits t_newTold t_newDoings t_newThings t_opened t_sum t_heldAll t_onPaper t_turned t_wasConverted t_lastBits t_lastSum t_lastHeld t_lastLeft t_lastCode t_writtenLong t_codeMany t_acts t_done0 t_stoppedAt, ic E (r_t 0) 800 R]) := by
  refine hm_ct_v R (fun u _ => [oc8 h0 r_t t_base t_taped t_at t_faultPlace t_number t_newBits t_newTold t_newDoings t_newThings t_opened t_sum t_heldAll t_onPaper t_turned t_wasConverted t_lastBits t_lastSum t_lastHeld t_lastLeft t_lastCode t_writtenLong t_codeMany t_acts t_done0 t_stoppedAt, ic E (r_t 0) 800 u]) (by decide) (Nat.le_of_ble_eq_true rfl) ?_
  intro p e s m args below meth c A Q ls H locs hx hb hml hown X hA Y hex hin w hl hQ
  have hl : lv_has ls 4 [(0, .ref h0), (1, .int a1), (2, .int a2), (3, .int a3)] := hl
  unfold pf_X8_layBit at hf
  refine lv_aload_n hx hb dX8_layBit_0 rfl (lv_at hl 0 rfl) ?_
  refine lv_bipush (v := 9) hx hb dX8_layBit_1 (by decide) ?_
  refine lv_iload_n hx hb dX8_layBit_3 rfl (lv_at hl 1 rfl) ?_
  refine lv_iadd hx hb dX8_layBit_4 ?_
  refine lv_iload_n hx hb dX8_layBit_5 rfl (lv_at hl 2 rfl) ?_
  obtain ⟨f1, hc6, hf⟩ := pf_bv_1 hf
  refine hm_aft_v (ws' := fun _ => [oc8 h0 r_t t_base t_taped t_at t_faultPlace t_number t_newBits t_newTold t_newDoings t_newThings t_opened t_sum t_heldAll t_onPaper t_turned t_wasConverted t_lastBits t_lastSum t_lastHeld t_lastLeft t_lastCode t_writtenLong t_codeMany t_acts t_done0 t_stoppedAt, ic E (r_t 0) 800 f1]) (hm_runV (rest := []) hx hb hml hown X hA Y w 0 (ci := 7) (T := TX8) (N := 55) rfl rfl mw_X8_put ml_X8_119 dX8_layBit_6 hm_ac0 [.int (9 + a1), .int a2] rfl [0, 1] rfl rfl (ct_X8_put l E H.size h0 r_t t_base t_taped t_at t_faultPlace t_number t_newBits t_newTold t_newDoings t_newThings t_opened t_sum t_heldAll t_onPaper t_turned t_wasConverted t_lastBits t_lastSum t_lastHeld t_lastLeft t_lastCode t_writtenLong t_codeMany t_acts t_done0 t_stoppedAt t_all (9 + a1) a2 f1 hc6) rfl hl.1 ⟨⟨rfl, rfl⟩, ⟨Nat.le_of_ble_eq_true rfl, Nat.le_of_ble_eq_true rfl⟩, ⟨Nat.le_of_ble_eq_true rfl, Nat.le_of_ble_eq_true rfl⟩, Nat.le_of_ble_eq_true rfl⟩) hA w [0, 1] [] [0, 1] rfl rfl (by decide) (fun _ => rfl) (fun _ H locs w => ?_)
  refine lv_aload_n hx hb dX8_layBit_9 rfl (lv_at hl 0 rfl) ?_
  refine lv_bipush (v := 21) hx hb dX8_layBit_10 (by decide) ?_
  refine lv_iload_n hx hb dX8_layBit_12 rfl (lv_at hl 1 rfl) ?_
  refine lv_iadd hx hb dX8_layBit_13 ?_
  refine lv_iload_n hx hb dX8_layBit_14 rfl (lv_at hl 3 rfl) ?_
  obtain ⟨f2, hc15, hf⟩ := pf_bv_1 hf
  refine hm_aft_v (ws' := fun _ => [oc8 h0 r_t t_base t_taped t_at t_faultPlace t_number t_newBits t_newTold t_newDoings t_newThings t_opened t_sum t_heldAll t_onPaper t_turned t_wasConverted t_lastBits t_lastSum t_lastHeld t_lastLeft t_lastCode t_writtenLong t_codeMany t_acts t_done0 t_stoppedAt, ic E (r_t 0) 800 f2]) (hm_runV (rest := []) hx hb hml hown X hA Y w 0 (ci := 7) (T := TX8) (N := 55) rfl rfl mw_X8_put ml_X8_119 dX8_layBit_15 hm_ac0 [.int (21 + a1), .int a3] rfl [0, 1] rfl rfl (ct_X8_put l E H.size h0 r_t t_base t_taped t_at t_faultPlace t_number t_newBits t_newTold t_newDoings t_newThings t_opened t_sum t_heldAll t_onPaper t_turned t_wasConverted t_lastBits t_lastSum t_lastHeld t_lastLeft t_lastCode t_writtenLong t_codeMany t_acts t_done0 t_stoppedAt f1 (21 + a1) a3 f2 hc15) rfl hl.1 ⟨⟨rfl, rfl⟩, ⟨Nat.le_of_ble_eq_true rfl, Nat.le_of_ble_eq_true rfl⟩, ⟨Nat.le_of_ble_eq_true rfl, Nat.le_of_ble_eq_true rfl⟩, Nat.le_of_ble_eq_true rfl⟩) hA w [0, 1] [] [0, 1] rfl rfl (by decide) (fun _ => rfl) (fun _ H locs w => ?_)
  refine lv_aload_n hx hb dX8_layBit_18 rfl (lv_at hl 0 rfl) ?_
  refine lv_bipush (v := 33) hx hb dX8_layBit_19 (by decide) ?_
  refine lv_iload_n hx hb dX8_layBit_21 rfl (lv_at hl 1 rfl) ?_
  refine lv_iadd hx hb dX8_layBit_22 ?_
  refine lv_iload_n hx hb dX8_layBit_23 rfl (lv_at hl 2 rfl) ?_
  obtain ⟨f3, hc24, hf⟩ := pf_bv_1 hf
  refine hm_aft_v (ws' := fun _ => [oc8 h0 r_t t_base t_taped t_at t_faultPlace t_number t_newBits t_newTold t_newDoings t_newThings t_opened t_sum t_heldAll t_onPaper t_turned t_wasConverted t_lastBits t_lastSum t_lastHeld t_lastLeft t_lastCode t_writtenLong t_codeMany t_acts t_done0 t_stoppedAt, ic E (r_t 0) 800 f3]) (hm_runV (rest := []) hx hb hml hown X hA Y w 0 (ci := 7) (T := TX8) (N := 55) rfl rfl mw_X8_put ml_X8_119 dX8_layBit_24 hm_ac0 [.int (33 + a1), .int a2] rfl [0, 1] rfl rfl (ct_X8_put l E H.size h0 r_t t_base t_taped t_at t_faultPlace t_number t_newBits t_newTold t_newDoings t_newThings t_opened t_sum t_heldAll t_onPaper t_turned t_wasConverted t_lastBits t_lastSum t_lastHeld t_lastLeft t_lastCode t_writtenLong t_codeMany t_acts t_done0 t_stoppedAt f2 (33 + a1) a2 f3 hc24) rfl hl.1 ⟨⟨rfl, rfl⟩, ⟨Nat.le_of_ble_eq_true rfl, Nat.le_of_ble_eq_true rfl⟩, ⟨Nat.le_of_ble_eq_true rfl, Nat.le_of_ble_eq_true rfl⟩, Nat.le_of_ble_eq_true rfl⟩) hA w [0, 1] [] [0, 1] rfl rfl (by decide) (fun _ => rfl) (fun _ H locs w => ?_)
  refine lv_aload_n hx hb dX8_layBit_27 rfl (lv_at hl 0 rfl) ?_
  refine lv_bipush (v := 45) hx hb dX8_layBit_28 (by decide) ?_
  refine lv_iload_n hx hb dX8_layBit_30 rfl (lv_at hl 1 rfl) ?_
  refine lv_iadd hx hb dX8_layBit_31 ?_
  refine lv_iconst (v := (-1)) hx hb dX8_layBit_32 (by decide) ?_
  obtain ⟨f4, hc33, hf⟩ := pf_bv_1 hf
  refine hm_aft_v (ws' := fun _ => [oc8 h0 r_t t_base t_taped t_at t_faultPlace t_number t_newBits t_newTold t_newDoings t_newThings t_opened t_sum t_heldAll t_onPaper t_turned t_wasConverted t_lastBits t_lastSum t_lastHeld t_lastLeft t_lastCode t_writtenLong t_codeMany t_acts t_done0 t_stoppedAt, ic E (r_t 0) 800 f4]) (hm_runV (rest := []) hx hb hml hown X hA Y w 0 (ci := 7) (T := TX8) (N := 55) rfl rfl mw_X8_put ml_X8_119 dX8_layBit_33 hm_ac0 [.int (45 + a1), .int (-1)] rfl [0, 1] rfl rfl (ct_X8_put l E H.size h0 r_t t_base t_taped t_at t_faultPlace t_number t_newBits t_newTold t_newDoings t_newThings t_opened t_sum t_heldAll t_onPaper t_turned t_wasConverted t_lastBits t_lastSum t_lastHeld t_lastLeft t_lastCode t_writtenLong t_codeMany t_acts t_done0 t_stoppedAt f3 (45 + a1) (-1) f4 hc33) rfl hl.1 ⟨⟨rfl, rfl⟩, ⟨Nat.le_of_ble_eq_true rfl, Nat.le_of_ble_eq_true rfl⟩, ⟨Nat.le_of_ble_eq_true rfl, Nat.le_of_ble_eq_true rfl⟩, Nat.le_of_ble_eq_true rfl⟩) hA w [0, 1] [] [0, 1] rfl rfl (by decide) (fun _ => rfl) (fun _ H locs w => ?_)
  exact hQ _ _ _ _ f4 (fun _ => 0) hf w dX8_layBit_36
set_option maxHeartbeats 8000000 in
set_option maxRecDepth 100000 in
theorem ct_X8_text (l : Launch) (E : hm_E) (sz : Nat) (h0 : Nat) (r_t : Nat → Nat) (t_base t_taped t_at t_faultPlace t_number t_newBits t_newTold t_newDoings t_newThings t_opened t_sum t_heldAll t_onPaper t_turned t_wasConverted t_lastBits t_lastSum t_lastHeld t_lastLeft t_lastCode t_writtenLong t_codeMany t_acts t_done0 t_stoppedAt : Int32) (t_all : Nat → Int32) (t_lows : Nat → Int32) (t_newOff : Nat → Int32) (t_newRule : Nat → Int32) (t_newSize : Nat → Int32) (t_tape : Nat → Int32) (t_tops : Nat → Int32) (R : Int32 × (Nat → Int32) × Int32 × Int32 × Int32 × Int32 × (Nat → Int32) × (Nat → Int32) × (Nat → Int32) × Int32 × Int32 × Int32) (hf : pf_X8_text t_all t_base t_tape t_taped t_number t_lows t_tops t_newSize t_newOff t_newRule t_wasConverted = some R) : hm_Mi l E yX8_text cX8_text 3 .int [] (hm_rr 6 129 0 0) [.ref h0] sz [oc8 h0 r_t t_base t_taped t_at t_faultPlace t_number t_newBits t_newTold t_newDoings t_newThings t_opened t_sum t_heldAll t_onPaper t_turned t_wasConverted t_lastBits t_lastSum t_lastHeld t_lastLeft t_lastCode t_writtenLong t_codeMany t_acts t_done0 t_stoppedAt, ic E (r_t 0) 800 t_all, ic E (r_t 7) 5 t_lows, ic E (r_t 10) 12 t_newOff, ic E (r_t 11) 5 t_newRule, ic E (r_t 9) 12 t_newSize, bc E (r_t 2) 400 t_tape, ic E (r_t 8) 5 t_tops] R.1 (fun _ => [oc8 h0 r_t t_base (R.2.2.1) (R.2.2.2.1) (R.2.2.2.2.1) (R.2.2.2.2.2.1) (R.2.2.2.2.2.2.2.2.2.1) (R.2.2.2.2.2.2.2.2.2.2.1) t_newDoings t_newThings t_opened t_sum t_heldAll t_onPaper t_turned (R.2.2.2.2.2.2.2.2.2.2.2) t_lastBits t_lastSum t_lastHeld t_lastLeft t_lastCode t_writtenLong t_codeMany t_acts t_done0 t_stoppedAt, ic E (r_t 0) 800 (R.2.1), ic E (r_t 7) 5 t_lows, ic E (r_t 10) 12 (R.2.2.2.2.2.2.2.1), ic E (r_t 11) 5 (R.2.2.2.2.2.2.2.2.1), ic E (r_t 9) 12 (R.2.2.2.2.2.2.1), bc E (r_t 2) 400 t_tape, ic E (r_t 8) 5 t_tops]) := by
  refine hm_ct_i R (fun u qs => [oc8 h0 r_t t_base (u.2.1) (u.2.2.1) (u.2.2.2.1) (u.2.2.2.2.1) (u.2.2.2.2.2.2.2.2.1) (u.2.2.2.2.2.2.2.2.2.1) t_newDoings t_newThings t_opened t_sum t_heldAll t_onPaper t_turned (u.2.2.2.2.2.2.2.2.2.2) t_lastBits t_lastSum t_lastHeld t_lastLeft t_lastCode t_writtenLong t_codeMany t_acts t_done0 t_stoppedAt, ic E (r_t 0) 800 (u.1), ic E (r_t 7) 5 t_lows, ic E (r_t 10) 12 (u.2.2.2.2.2.2.1), ic E (r_t 11) 5 (u.2.2.2.2.2.2.2.1), ic E (r_t 9) 12 (u.2.2.2.2.2.1), bc E (r_t 2) 400 t_tape, ic E (r_t 8) 5 t_tops]) (by decide) (Nat.le_of_ble_eq_true rfl) (Or.inl rfl) ?_
  intro p e s m args below meth c A Q ls H locs hx hb hml hown X hA Y hex w hl hQ
  have hl : lv_has ls 3 [(0, .ref h0)] := hl
  unfold pf_X8_text at hf
  refine lv_aload_n hx hb dX8_text_0 rfl (lv_at hl 0 rfl) ?_
  obtain ⟨r1, x2, x3, x4, f5, f6, f7, x8, x9, hc1, hf⟩ := pf_bi_8 hf
  refine hm_aft_i (ws' := fun _ => [oc8 h0 r_t t_base t_taped x2 x3 x4 x8 x9 t_newDoings t_newThings t_opened t_sum t_heldAll t_onPaper t_turned t_wasConverted t_lastBits t_lastSum t_lastHeld t_lastLeft t_lastCode t_writtenLong t_codeMany t_acts t_done0 t_stoppedAt, ic E (r_t 0) 800 t_all, ic E (r_t 7) 5 t_lows, ic E (r_t 10) 12 f6, ic E (r_t 11) 5 f7, ic E (r_t 9) 12 f5, bc E (r_t 2) 400 t_tape, ic E (r_t 8) 5 t_tops]) (hm_runV (rest := []) hx hb hml hown X hA Y w 0 (ci := 7) (T := TX8) (N := 55) rfl rfl mw_X8_readText ml_X8_174 dX8_text_1 hm_ac0 [] rfl [0, 2, 3, 4, 5, 6, 7] rfl rfl (ct_X8_readText l E H.size h0 r_t t_base t_taped t_at t_faultPlace t_number t_newBits t_newTold t_newDoings t_newThings t_opened t_sum t_heldAll t_onPaper t_turned t_wasConverted t_lastBits t_lastSum t_lastHeld t_lastLeft t_lastCode t_writtenLong t_codeMany t_acts t_done0 t_stoppedAt t_lows t_newOff t_newRule t_newSize t_tape t_tops (r1, x2, x3, x4, f5, f6, f7, x8, x9) hc1) rfl hl.1 ⟨⟨rfl, rfl⟩, ⟨Nat.le_of_ble_eq_true rfl, Nat.le_of_ble_eq_true rfl⟩, ⟨Nat.le_of_ble_eq_true rfl, Nat.le_of_ble_eq_true rfl⟩, Nat.le_of_ble_eq_true rfl⟩) hA w [0, 2, 3, 4, 5, 6, 7] [1] [1, 0, 2, 3, 4, 5, 6, 7] rfl rfl (by decide) (fun _ => rfl) (fun _ H locs w => ?_)
  refine lv_istore_n (lv' := [(1, .int r1), (0, .ref h0)]) hx hb dX8_text_4 rfl hl (by decide) rfl (fun ls hl => ?_)
  refine lv_aload_n hx hb dX8_text_5 rfl (lv_at hl 1 rfl) ?_
  refine lv_iconst (v := 0) hx hb dX8_text_6 (by decide) ?_
  refine hm_put (ws' := [oc8 h0 r_t t_base 0 x2 x3 x4 x8 x9 t_newDoings t_newThings t_opened t_sum t_heldAll t_onPaper t_turned t_wasConverted t_lastBits t_lastSum t_lastHeld t_lastLeft t_lastCode t_writtenLong t_codeMany t_acts t_done0 t_stoppedAt, ic E (r_t 0) 800 t_all, ic E (r_t 7) 5 t_lows, ic E (r_t 10) 12 f6, ic E (r_t 11) 5 f7, ic E (r_t 9) 12 f5, bc E (r_t 2) 400 t_tape, ic E (r_t 8) 5 t_tops]) cb_X8 hx hb hown X w 0 3 fl_X8_122 dX8_text_7 rfl (by decide) (Nat.le_of_ble_eq_true rfl) rfl rfl rfl rfl (fun H locs w => ?_)
  refine lv_iload_n hx hb dX8_text_10 rfl (lv_at hl 0 rfl) ?_
  refine lv_if_ne (tgt := 16) hx hb dX8_text_11 (by decide) (fun c11 => ?_) (fun c11 => ?_)
  · have hf := pf_e c11 hf
    refine lv_aload_n hx hb dX8_text_16 rfl (lv_at hl 1 rfl) ?_
    refine lv_iconst (v := 0) hx hb dX8_text_17 (by decide) ?_
    refine lv_aload_n hx hb dX8_text_18 rfl (lv_at hl 1 rfl) ?_
    refine hm_get cb_X8 hx hb hown X w 0 12 fl_X8_154 dX8_text_19 rfl (by decide) rfl ?_
    obtain ⟨f10, hc22, hf⟩ := pf_bv_1 hf
    refine hm_aft_v (ws' := fun _ => [oc8 h0 r_t t_base 0 x2 x3 x4 x8 x9 t_newDoings t_newThings t_opened t_sum t_heldAll t_onPaper t_turned t_wasConverted t_lastBits t_lastSum t_lastHeld t_lastLeft t_lastCode t_writtenLong t_codeMany t_acts t_done0 t_stoppedAt, ic E (r_t 0) 800 f10, ic E (r_t 7) 5 t_lows, ic E (r_t 10) 12 f6, ic E (r_t 11) 5 f7, ic E (r_t 9) 12 f5, bc E (r_t 2) 400 t_tape, ic E (r_t 8) 5 t_tops]) (hm_runV (rest := []) hx hb hml hown X hA Y w 0 (ci := 7) (T := TX8) (N := 55) rfl rfl mw_X8_put ml_X8_119 dX8_text_22 hm_ac0 [.int 0, .int x8] rfl [0, 1] rfl rfl (ct_X8_put l E H.size h0 r_t t_base 0 x2 x3 x4 x8 x9 t_newDoings t_newThings t_opened t_sum t_heldAll t_onPaper t_turned t_wasConverted t_lastBits t_lastSum t_lastHeld t_lastLeft t_lastCode t_writtenLong t_codeMany t_acts t_done0 t_stoppedAt t_all 0 x8 f10 hc22) rfl hl.1 ⟨⟨rfl, rfl⟩, ⟨Nat.le_of_ble_eq_true rfl, Nat.le_of_ble_eq_true rfl⟩, ⟨Nat.le_of_ble_eq_true rfl, Nat.le_of_ble_eq_true rfl⟩, Nat.le_of_ble_eq_true rfl⟩) hA w [0, 1] [2, 3, 4, 5, 6, 7] [6, 7, 0, 1, 2, 3, 4, 5] rfl rfl (by decide) (fun _ => rfl) (fun _ H locs w => ?_)
    refine lv_iconst (v := 0) hx hb dX8_text_25 (by decide) ?_
    refine lv_istore_n (lv' := [(2, .int 0), (1, .int r1), (0, .ref h0)]) hx hb dX8_text_26 rfl hl (by decide) rfl (fun ls hl => ?_)
    obtain ⟨J51, hJ51, hf⟩ := pf_jn hf
    have kJ51 : ∀ (f11 : Nat → Int32) (H : Heap) (locs : List Loc) (ls : Array Slot), J51 f11 = some R → hm_W E A s.heap [oc8 h0 r_t t_base 0 x2 x3 x4 x8 x9 t_newDoings t_newThings t_opened t_sum t_heldAll t_onPaper t_turned t_wasConverted t_lastBits t_lastSum t_lastHeld t_lastLeft t_lastCode t_writtenLong t_codeMany t_acts t_done0 t_stoppedAt, ic E (r_t 0) 800 f11, ic E (r_t 7) 5 t_lows, ic E (r_t 10) 12 f6, ic E (r_t 11) 5 f7, ic E (r_t 9) 12 f5, bc E (r_t 2) 400 t_tape, ic E (r_t 8) 5 t_tops] H locs → lv_has ls 3 [(0, .ref h0)] → W p l e (hm_rr 6 129 0 0) s m args below meth c H locs 0 0 Q (F0 m 51 ls []) := by
      intro f11 H locs ls hf w hl
      have hf := pf_j1 hJ51 hf
      refine lv_iconst (v := 0) hx hb dX8_text_51 (by decide) ?_
      refine lv_istore_n (lv' := [(2, .int 0), (0, .ref h0)]) hx hb dX8_text_52 rfl hl (by decide) rfl (fun ls hl => ?_)
      obtain ⟨J84, hJ84, hf⟩ := pf_jn hf
      have kJ84 : ∀ (f12 : Nat → Int32) (H : Heap) (locs : List Loc) (ls : Array Slot), J84 f12 = some R → hm_W E A s.heap [oc8 h0 r_t t_base 0 x2 x3 x4 x8 x9 t_newDoings t_newThings t_opened t_sum t_heldAll t_onPaper t_turned t_wasConverted t_lastBits t_lastSum t_lastHeld t_lastLeft t_lastCode t_writtenLong t_codeMany t_acts t_done0 t_stoppedAt, ic E (r_t 0) 800 f12, ic E (r_t 7) 5 t_lows, ic E (r_t 10) 12 f6, ic E (r_t 11) 5 f7, ic E (r_t 9) 12 f5, bc E (r_t 2) 400 t_tape, ic E (r_t 8) 5 t_tops] H locs → lv_has ls 3 [(0, .ref h0)] → W p l e (hm_rr 6 129 0 0) s m args below meth c H locs 0 0 Q (F0 m 84 ls []) := by
        intro f12 H locs ls hf w hl
        have hf := pf_j1 hJ84 hf
        refine lv_aload_n hx hb dX8_text_84 rfl (lv_at hl 0 rfl) ?_
        refine lv_bipush (v := 57) hx hb dX8_text_85 (by decide) ?_
        refine lv_iconst (v := 0) hx hb dX8_text_87 (by decide) ?_
        obtain ⟨f13, hc88, hf⟩ := pf_bv_1 hf
        refine hm_aft_v (ws' := fun _ => [oc8 h0 r_t t_base 0 x2 x3 x4 x8 x9 t_newDoings t_newThings t_opened t_sum t_heldAll t_onPaper t_turned t_wasConverted t_lastBits t_lastSum t_lastHeld t_lastLeft t_lastCode t_writtenLong t_codeMany t_acts t_done0 t_stoppedAt, ic E (r_t 0) 800 f13, ic E (r_t 7) 5 t_lows, ic E (r_t 10) 12 f6, ic E (r_t 11) 5 f7, ic E (r_t 9) 12 f5, bc E (r_t 2) 400 t_tape, ic E (r_t 8) 5 t_tops]) (hm_runV (rest := []) hx hb hml hown X hA Y w 0 (ci := 7) (T := TX8) (N := 55) rfl rfl mw_X8_put ml_X8_119 dX8_text_88 hm_ac0 [.int 57, .int 0] rfl [0, 1] rfl rfl (ct_X8_put l E H.size h0 r_t t_base 0 x2 x3 x4 x8 x9 t_newDoings t_newThings t_opened t_sum t_heldAll t_onPaper t_turned t_wasConverted t_lastBits t_lastSum t_lastHeld t_lastLeft t_lastCode t_writtenLong t_codeMany t_acts t_done0 t_stoppedAt f12 57 0 f13 hc88) rfl hl.1 ⟨⟨rfl, rfl⟩, ⟨Nat.le_of_ble_eq_true rfl, Nat.le_of_ble_eq_true rfl⟩, ⟨Nat.le_of_ble_eq_true rfl, Nat.le_of_ble_eq_true rfl⟩, Nat.le_of_ble_eq_true rfl⟩) hA w [0, 1] [2, 3, 4, 5, 6, 7] [6, 7, 0, 1, 2, 3, 4, 5] rfl rfl (by decide) (fun _ => rfl) (fun _ H locs w => ?_)
        refine lv_aload_n hx hb dX8_text_91 rfl (lv_at hl 0 rfl) ?_
        refine lv_iconst (v := 0) hx hb dX8_text_92 (by decide) ?_
        refine hm_put (ws' := [oc8 h0 r_t t_base 0 x2 x3 x4 x8 x9 t_newDoings t_newThings t_opened t_sum t_heldAll t_onPaper t_turned 0 t_lastBits t_lastSum t_lastHeld t_lastLeft t_lastCode t_writtenLong t_codeMany t_acts t_done0 t_stoppedAt, ic E (r_t 0) 800 f13, ic E (r_t 7) 5 t_lows, ic E (r_t 10) 12 f6, ic E (r_t 11) 5 f7, ic E (r_t 9) 12 f5, bc E (r_t 2) 400 t_tape, ic E (r_t 8) 5 t_tops]) cb_X8 hx hb hown X w 0 33 fl_X8_181 dX8_text_93 rfl (by decide) (Nat.le_of_ble_eq_true rfl) rfl rfl rfl rfl (fun H locs w => ?_)
        refine lv_aload_n hx hb dX8_text_96 rfl (lv_at hl 0 rfl) ?_
        refine hm_get cb_X8 hx hb hown X w 0 12 fl_X8_154 dX8_text_97 rfl (by decide) rfl ?_
        exact hQ _ _ _ _ _ (f13, 0, x2, x3, x4, f5, f6, f7, x8, x9, 0) (fun _ => 0) hf rfl w dX8_text_100
      have klp_X8_text_53 : ∀ (n : Nat) (x14 : Int32) (f15 : Nat → Int32) (H : Heap) (locs : List Loc) (ls : Array Slot), lp_X8_text_53 t_base f5 f6 x8 J84 n x14 f15 = some R → hm_W E A s.heap [oc8 h0 r_t t_base 0 x2 x3 x4 x8 x9 t_newDoings t_newThings t_opened t_sum t_heldAll t_onPaper t_turned t_wasConverted t_lastBits t_lastSum t_lastHeld t_lastLeft t_lastCode t_writtenLong t_codeMany t_acts t_done0 t_stoppedAt, ic E (r_t 0) 800 f15, ic E (r_t 7) 5 t_lows, ic E (r_t 10) 12 f6, ic E (r_t 11) 5 f7, ic E (r_t 9) 12 f5, bc E (r_t 2) 400 t_tape, ic E (r_t 8) 5 t_tops] H locs → lv_has ls 3 [(0, .ref h0), (2, .int x14)] → W p l e (hm_rr 6 129 0 0) s m args below meth c H locs 0 0 Q (F0 m 53 ls []) := by
        intro n
        induction n with
        | zero =>
          intro x14 f15 H locs ls hf w hl
          exact pf_no hf
        | succ n ih53 =>
          intro x14 f15 H locs ls hf w hl
          rw [lp_X8_text_53] at hf
          refine lv_iload_n hx hb dX8_text_53 rfl (lv_at hl 1 rfl) ?_
          refine lv_aload_n hx hb dX8_text_54 rfl (lv_at hl 0 rfl) ?_
          refine hm_get cb_X8 hx hb hown X w 0 12 fl_X8_154 dX8_text_55 rfl (by decide) rfl ?_
          refine lv_icmp_ge (tgt := 84) hx hb dX8_text_58 (by decide) (fun c58 => ?_) (fun c58 => ?_)
          · have hf := pf_t c58 hf
            exact kJ84 _ _ _ _ hf w (lv_sub hl [0] rfl)
          · have hf := pf_e c58 hf
            refine lv_aload_n hx hb dX8_text_61 rfl (lv_at hl 0 rfl) ?_
            refine lv_iload_n hx hb dX8_text_62 rfl (lv_at hl 1 rfl) ?_
            refine lv_aload_n hx hb dX8_text_63 rfl (lv_at hl 0 rfl) ?_
            refine hm_get cb_X8 hx hb hown X w 0 9 fl_X8_34 dX8_text_64 rfl (by decide) rfl ?_
            refine lv_iload_n hx hb dX8_text_67 rfl (lv_at hl 1 rfl) ?_
            obtain ⟨g68, hf⟩ := pf_ckI hf
            refine hm_iald hx hb X w 5 dX8_text_68 rfl g68 ?_
            refine lv_aload_n hx hb dX8_text_69 rfl (lv_at hl 0 rfl) ?_
            refine hm_get cb_X8 hx hb hown X w 0 10 fl_X8_37 dX8_text_70 rfl (by decide) rfl ?_
            refine lv_iload_n hx hb dX8_text_73 rfl (lv_at hl 1 rfl) ?_
            obtain ⟨g74, hf⟩ := pf_ckI hf
            refine hm_iald hx hb X w 3 dX8_text_74 rfl g74 ?_
            obtain ⟨f16, hc75, hf⟩ := pf_bv_1 hf
            refine hm_aft_v (ws' := fun _ => [oc8 h0 r_t t_base 0 x2 x3 x4 x8 x9 t_newDoings t_newThings t_opened t_sum t_heldAll t_onPaper t_turned t_wasConverted t_lastBits t_lastSum t_lastHeld t_lastLeft t_lastCode t_writtenLong t_codeMany t_acts t_done0 t_stoppedAt, ic E (r_t 0) 800 f16, ic E (r_t 7) 5 t_lows, ic E (r_t 10) 12 f6, ic E (r_t 11) 5 f7, ic E (r_t 9) 12 f5, bc E (r_t 2) 400 t_tape, ic E (r_t 8) 5 t_tops]) (hm_runV (rest := []) hx hb hml hown X hA Y w 0 (ci := 7) (T := TX8) (N := 55) rfl rfl mw_X8_layBit ml_X8_177 dX8_text_75 hm_ac0 [.int x14, .int (f5 x14.toNatClampNeg), .int (f6 x14.toNatClampNeg)] rfl [0, 1] rfl rfl (ct_X8_layBit l E H.size h0 r_t t_base 0 x2 x3 x4 x8 x9 t_newDoings t_newThings t_opened t_sum t_heldAll t_onPaper t_turned t_wasConverted t_lastBits t_lastSum t_lastHeld t_lastLeft t_lastCode t_writtenLong t_codeMany t_acts t_done0 t_stoppedAt f15 x14 (f5 x14.toNatClampNeg) (f6 x14.toNatClampNeg) f16 hc75) rfl hl.1 ⟨⟨rfl, rfl⟩, ⟨Nat.le_of_ble_eq_true rfl, Nat.le_of_ble_eq_true rfl⟩, ⟨Nat.le_of_ble_eq_true rfl, Nat.le_of_ble_eq_true rfl⟩, Nat.le_of_ble_eq_true rfl⟩) hA w [0, 1] [2, 3, 4, 5, 6, 7] [6, 7, 0, 1, 2, 3, 4, 5] rfl rfl (by decide) (fun _ => rfl) (fun _ H locs w => ?_)
            obtain ⟨x17, ex17⟩ : ∃ y : Int32, y = (x14 + 1) := ⟨_, rfl⟩
            have hf := pf_nm ex17 hf
            refine lv_iinc (v := x17) (lv' := [(2, .int x17), (0, .ref h0)]) hx hb dX8_text_78 hl (k := 1) rfl (by rw [ex17]; rfl) (by decide) rfl (fun ls hl => ?_)
            refine lv_goto (tgt := 53) hx hb dX8_text_81 (by decide) ?_
            exact ih53 _ _ _ _ _ hf w (lv_sub hl [1, 0] rfl)
      exact klp_X8_text_53 FU _ _ _ _ _ hf w (lv_sub hl [1, 0] rfl)
    have klp_X8_text_27 : ∀ (n : Nat) (x18 : Int32) (f19 : Nat → Int32) (H : Heap) (locs : List Loc) (ls : Array Slot), lp_X8_text_27 t_base f7 J51 n x18 f19 = some R → hm_W E A s.heap [oc8 h0 r_t t_base 0 x2 x3 x4 x8 x9 t_newDoings t_newThings t_opened t_sum t_heldAll t_onPaper t_turned t_wasConverted t_lastBits t_lastSum t_lastHeld t_lastLeft t_lastCode t_writtenLong t_codeMany t_acts t_done0 t_stoppedAt, ic E (r_t 0) 800 f19, ic E (r_t 7) 5 t_lows, ic E (r_t 10) 12 f6, ic E (r_t 11) 5 f7, ic E (r_t 9) 12 f5, bc E (r_t 2) 400 t_tape, ic E (r_t 8) 5 t_tops] H locs → lv_has ls 3 [(0, .ref h0), (2, .int x18)] → W p l e (hm_rr 6 129 0 0) s m args below meth c H locs 0 0 Q (F0 m 27 ls []) := by
      intro n
      induction n with
      | zero =>
        intro x18 f19 H locs ls hf w hl
        exact pf_no hf
      | succ n ih27 =>
        intro x18 f19 H locs ls hf w hl
        rw [lp_X8_text_27] at hf
        refine lv_iload_n hx hb dX8_text_27 rfl (lv_at hl 1 rfl) ?_
        refine lv_iconst (v := 5) hx hb dX8_text_28 (by decide) ?_
        refine lv_icmp_ge (tgt := 51) hx hb dX8_text_29 (by decide) (fun c29 => ?_) (fun c29 => ?_)
        · have hf := pf_t c29 hf
          exact kJ51 _ _ _ _ hf w (lv_sub hl [0] rfl)
        · have hf := pf_e c29 hf
          refine lv_aload_n hx hb dX8_text_32 rfl (lv_at hl 0 rfl) ?_
          refine lv_iconst (v := 1) hx hb dX8_text_33 (by decide) ?_
          refine lv_iload_n hx hb dX8_text_34 rfl (lv_at hl 1 rfl) ?_
          refine lv_iadd hx hb dX8_text_35 ?_
          refine lv_aload_n hx hb dX8_text_36 rfl (lv_at hl 0 rfl) ?_
          refine hm_get cb_X8 hx hb hown X w 0 11 fl_X8_40 dX8_text_37 rfl (by decide) rfl ?_
          refine lv_iload_n hx hb dX8_text_40 rfl (lv_at hl 1 rfl) ?_
          obtain ⟨g41, hf⟩ := pf_ckI hf
          refine hm_iald hx hb X w 4 dX8_text_41 rfl g41 ?_
          obtain ⟨f20, hc42, hf⟩ := pf_bv_1 hf
          refine hm_aft_v (ws' := fun _ => [oc8 h0 r_t t_base 0 x2 x3 x4 x8 x9 t_newDoings t_newThings t_opened t_sum t_heldAll t_onPaper t_turned t_wasConverted t_lastBits t_lastSum t_lastHeld t_lastLeft t_lastCode t_writtenLong t_codeMany t_acts t_done0 t_stoppedAt, ic E (r_t 0) 800 f20, ic E (r_t 7) 5 t_lows, ic E (r_t 10) 12 f6, ic E (r_t 11) 5 f7, ic E (r_t 9) 12 f5, bc E (r_t 2) 400 t_tape, ic E (r_t 8) 5 t_tops]) (hm_runV (rest := []) hx hb hml hown X hA Y w 0 (ci := 7) (T := TX8) (N := 55) rfl rfl mw_X8_put ml_X8_119 dX8_text_42 hm_ac0 [.int (1 + x18), .int (f7 x18.toNatClampNeg)] rfl [0, 1] rfl rfl (ct_X8_put l E H.size h0 r_t t_base 0 x2 x3 x4 x8 x9 t_newDoings t_newThings t_opened t_sum t_heldAll t_onPaper t_turned t_wasConverted t_lastBits t_lastSum t_lastHeld t_lastLeft t_lastCode t_writtenLong t_codeMany t_acts t_done0 t_stoppedAt f19 (1 + x18) (f7 x18.toNatClampNeg) f20 hc42) rfl hl.1 ⟨⟨rfl, rfl⟩, ⟨Nat.le_of_ble_eq_true rfl, Nat.le_of_ble_eq_true rfl⟩, ⟨Nat.le_of_ble_eq_true rfl, Nat.le_of_ble_eq_true rfl⟩, Nat.le_of_ble_eq_true rfl⟩) hA w [0, 1] [2, 3, 4, 5, 6, 7] [6, 7, 0, 1, 2, 3, 4, 5] rfl rfl (by decide) (fun _ => rfl) (fun _ H locs w => ?_)
          obtain ⟨x21, ex21⟩ : ∃ y : Int32, y = (x18 + 1) := ⟨_, rfl⟩
          have hf := pf_nm ex21 hf
          refine lv_iinc (v := x21) (lv' := [(2, .int x21), (0, .ref h0)]) hx hb dX8_text_45 hl (k := 1) rfl (by rw [ex21]; rfl) (by decide) rfl (fun ls hl => ?_)
          refine lv_goto (tgt := 27) hx hb dX8_text_48 (by decide) ?_
          exact ih27 _ _ _ _ _ hf w (lv_sub hl [1, 0] rfl)
    exact klp_X8_text_27 FU _ _ _ _ _ hf w (lv_sub hl [2, 0] rfl)
  · have hf := pf_t c11 hf
    refine lv_iconst (v := (-1)) hx hb dX8_text_14 (by decide) ?_
    exact hQ _ _ _ _ _ (t_all, 0, x2, x3, x4, f5, f6, f7, x8, x9, t_wasConverted) (fun _ => 0) hf rfl w dX8_text_15
set_option maxHeartbeats 8000000 in
set_option maxRecDepth 100000 in
theorem ct_X8_fault (l : Launch) (E : hm_E) (sz : Nat) (h0 : Nat) (r_t : Nat → Nat) (t_base t_taped t_at t_faultPlace t_number t_newBits t_newTold t_newDoings t_newThings t_opened t_sum t_heldAll t_onPaper t_turned t_wasConverted t_lastBits t_lastSum t_lastHeld t_lastLeft t_lastCode t_writtenLong t_codeMany t_acts t_done0 t_stoppedAt : Int32) (R : Int32 × Unit) (hf : pf_X8_fault t_faultPlace = some R) : hm_Mi l E yX8_fault cX8_fault 1 .int [] (hm_rr 0 0 0 0) [.ref h0] sz [oc8 h0 r_t t_base t_taped t_at t_faultPlace t_number t_newBits t_newTold t_newDoings t_newThings t_opened t_sum t_heldAll t_onPaper t_turned t_wasConverted t_lastBits t_lastSum t_lastHeld t_lastLeft t_lastCode t_writtenLong t_codeMany t_acts t_done0 t_stoppedAt] R.1 (fun _ => [oc8 h0 r_t t_base t_taped t_at t_faultPlace t_number t_newBits t_newTold t_newDoings t_newThings t_opened t_sum t_heldAll t_onPaper t_turned t_wasConverted t_lastBits t_lastSum t_lastHeld t_lastLeft t_lastCode t_writtenLong t_codeMany t_acts t_done0 t_stoppedAt]) := by
  refine hm_ct_i R (fun u qs => [oc8 h0 r_t t_base t_taped t_at t_faultPlace t_number t_newBits t_newTold t_newDoings t_newThings t_opened t_sum t_heldAll t_onPaper t_turned t_wasConverted t_lastBits t_lastSum t_lastHeld t_lastLeft t_lastCode t_writtenLong t_codeMany t_acts t_done0 t_stoppedAt]) (by decide) (Nat.le_of_ble_eq_true rfl) (Or.inl rfl) ?_
  intro p e s m args below meth c A Q ls H locs hx hb hml hown X hA Y hex w hl hQ
  have hl : lv_has ls 1 [(0, .ref h0)] := hl
  unfold pf_X8_fault at hf
  refine lv_aload_n hx hb dX8_fault_0 rfl (lv_at hl 0 rfl) ?_
  refine hm_get cb_X8 hx hb hown X w 0 5 fl_X8_25 dX8_fault_1 rfl (by decide) rfl ?_
  exact hQ _ _ _ _ _ () (fun _ => 0) hf rfl w dX8_fault_4
set_option maxHeartbeats 8000000 in
set_option maxRecDepth 100000 in
theorem ct_X8_does (l : Launch) (E : hm_E) (sz : Nat) (h0 : Nat) (r_t : Nat → Nat) (t_base t_taped t_at t_faultPlace t_number t_newBits t_newTold t_newDoings t_newThings t_opened t_sum t_heldAll t_onPaper t_turned t_wasConverted t_lastBits t_lastSum t_lastHeld t_lastLeft t_lastCode t_writtenLong t_codeMany t_acts t_done0 t_stoppedAt : Int32) (t_newDoing : Nat → Int32) (a1 : Int32) (R : (Nat → Int32) × Int32) (hf : pf_X8_does a1 t_newDoing t_newDoings = some R) : hm_Mv l E yX8_does cX8_does 2 [] (hm_rr 0 0 0 0) [.ref h0, .int a1] sz [oc8 h0 r_t t_base t_taped t_at t_faultPlace t_number t_newBits t_newTold t_newDoings t_newThings t_opened t_sum t_heldAll t_onPaper t_turned t_wasConverted t_lastBits t_lastSum t_lastHeld t_lastLeft t_lastCode t_writtenLong t_codeMany t_acts t_done0 t_stoppedAt, ic E (r_t 14) 84 t_newDoing] (fun _ => [oc8 h0 r_t t_base t_taped t_at t_faultPlace t_number t_newBits t_newTold (R.2) t_newThings t_opened t_sum t_heldAll t_onPaper t_turned t_wasConverted t_lastBits t_lastSum t_lastHeld t_lastLeft t_lastCode t_writtenLong t_codeMany t_acts t_done0 t_stoppedAt, ic E (r_t 14) 84 (R.1)]) := by
  refine hm_ct_v R (fun u _ => [oc8 h0 r_t t_base t_taped t_at t_faultPlace t_number t_newBits t_newTold (u.2) t_newThings t_opened t_sum t_heldAll t_onPaper t_turned t_wasConverted t_lastBits t_lastSum t_lastHeld t_lastLeft t_lastCode t_writtenLong t_codeMany t_acts t_done0 t_stoppedAt, ic E (r_t 14) 84 (u.1)]) (by decide) (Nat.le_of_ble_eq_true rfl) ?_
  intro p e s m args below meth c A Q ls H locs hx hb hml hown X hA Y hex hin w hl hQ
  have hl : lv_has ls 2 [(0, .ref h0), (1, .int a1)] := hl
  unfold pf_X8_does at hf
  refine lv_aload_n hx hb dX8_does_0 rfl (lv_at hl 0 rfl) ?_
  refine hm_get cb_X8 hx hb hown X w 0 14 fl_X8_43 dX8_does_1 rfl (by decide) rfl ?_
  refine lv_aload_n hx hb dX8_does_4 rfl (lv_at hl 0 rfl) ?_
  refine hm_get cb_X8 hx hb hown X w 0 15 fl_X8_185 dX8_does_5 rfl (by decide) rfl ?_
  refine lv_iload_n hx hb dX8_does_8 rfl (lv_at hl 1 rfl) ?_
  obtain ⟨g9, hf⟩ := pf_ckI hf
  refine hm_iast (ws' := [oc8 h0 r_t t_base t_taped t_at t_faultPlace t_number t_newBits t_newTold t_newDoings t_newThings t_opened t_sum t_heldAll t_onPaper t_turned t_wasConverted t_lastBits t_lastSum t_lastHeld t_lastLeft t_lastCode t_writtenLong t_codeMany t_acts t_done0 t_stoppedAt, ic E (r_t 14) 84 (upd t_newDoing t_newDoings.toNatClampNeg a1)]) hx hb X w 1 dX8_does_9 rfl g9 rfl (fun H locs w => ?_)
  refine lv_aload_n hx hb dX8_does_10 rfl (lv_at hl 0 rfl) ?_
  refine lv_dup hx hb dX8_does_11 rfl ?_
  refine hm_get cb_X8 hx hb hown X w 0 15 fl_X8_185 dX8_does_12 rfl (by decide) rfl ?_
  refine lv_iconst (v := 1) hx hb dX8_does_15 (by decide) ?_
  refine lv_iadd hx hb dX8_does_16 ?_
  refine lv_topi (fun x1 ex1 => ?_)
  have hf := pf_nm ex1 hf
  refine hm_put (ws' := [oc8 h0 r_t t_base t_taped t_at t_faultPlace t_number t_newBits t_newTold x1 t_newThings t_opened t_sum t_heldAll t_onPaper t_turned t_wasConverted t_lastBits t_lastSum t_lastHeld t_lastLeft t_lastCode t_writtenLong t_codeMany t_acts t_done0 t_stoppedAt, ic E (r_t 14) 84 (upd t_newDoing t_newDoings.toNatClampNeg a1)]) cb_X8 hx hb hown X w 0 15 fl_X8_185 dX8_does_17 rfl (by decide) (Nat.le_of_ble_eq_true rfl) rfl rfl rfl rfl (fun H locs w => ?_)
  exact hQ _ _ _ _ ((upd t_newDoing t_newDoings.toNatClampNeg a1), x1) (fun _ => 0) hf w dX8_does_20
set_option maxHeartbeats 8000000 in
set_option maxRecDepth 100000 in
theorem ct_X8_openOne (l : Launch) (E : hm_E) (sz : Nat) (h0 : Nat) (r_t : Nat → Nat) (t_base t_taped t_at t_faultPlace t_number t_newBits t_newTold t_newDoings t_newThings t_opened t_sum t_heldAll t_onPaper t_turned t_wasConverted t_lastBits t_lastSum t_lastHeld t_lastLeft t_lastCode t_writtenLong t_codeMany t_acts t_done0 t_stoppedAt : Int32) (t_open : Nat → Int32) (t_productSign : Nat → Int32) (t_stage : Nat → Int32) (t_sumSign : Nat → Int32) (a1 : Int32) (R : (Nat → Int32) × (Nat → Int32) × (Nat → Int32) × (Nat → Int32) × Int32) (hf : pf_X8_openOne a1 t_open t_stage t_sumSign t_productSign t_opened = some R) : hm_Mv l E yX8_openOne cX8_openOne 2 [] (hm_rr 0 0 0 0) [.ref h0, .int a1] sz [oc8 h0 r_t t_base t_taped t_at t_faultPlace t_number t_newBits t_newTold t_newDoings t_newThings t_opened t_sum t_heldAll t_onPaper t_turned t_wasConverted t_lastBits t_lastSum t_lastHeld t_lastLeft t_lastCode t_writtenLong t_codeMany t_acts t_done0 t_stoppedAt, ic E (r_t 17) 10 t_open, ic E (r_t 21) 10 t_productSign, ic E (r_t 18) 10 t_stage, ic E (r_t 20) 10 t_sumSign] (fun _ => [oc8 h0 r_t t_base t_taped t_at t_faultPlace t_number t_newBits t_newTold t_newDoings t_newThings (R.2.2.2.2) t_sum t_heldAll t_onPaper t_turned t_wasConverted t_lastBits t_lastSum t_lastHeld t_lastLeft t_lastCode t_writtenLong t_codeMany t_acts t_done0 t_stoppedAt, ic E (r_t 17) 10 (R.1), ic E (r_t 21) 10 (R.2.2.2.1), ic E (r_t 18) 10 (R.2.1), ic E (r_t 20) 10 (R.2.2.1)]) := by
  refine hm_ct_v R (fun u _ => [oc8 h0 r_t t_base t_taped t_at t_faultPlace t_number t_newBits t_newTold t_newDoings t_newThings (u.2.2.2.2) t_sum t_heldAll t_onPaper t_turned t_wasConverted t_lastBits t_lastSum t_lastHeld t_lastLeft t_lastCode t_writtenLong t_codeMany t_acts t_done0 t_stoppedAt, ic E (r_t 17) 10 (u.1), ic E (r_t 21) 10 (u.2.2.2.1), ic E (r_t 18) 10 (u.2.1), ic E (r_t 20) 10 (u.2.2.1)]) (by decide) (Nat.le_of_ble_eq_true rfl) ?_
  intro p e s m args below meth c A Q ls H locs hx hb hml hown X hA Y hex hin w hl hQ
  have hl : lv_has ls 2 [(0, .ref h0), (1, .int a1)] := hl
  unfold pf_X8_openOne at hf
  refine lv_aload_n hx hb dX8_openOne_0 rfl (lv_at hl 0 rfl) ?_
  refine lv_dup hx hb dX8_openOne_1 rfl ?_
  refine hm_get cb_X8 hx hb hown X w 0 22 fl_X8_188 dX8_openOne_2 rfl (by decide) rfl ?_
  refine lv_iconst (v := 1) hx hb dX8_openOne_5 (by decide) ?_
  refine lv_iadd hx hb dX8_openOne_6 ?_
  refine lv_topi (fun x1 ex1 => ?_)
  have hf := pf_nm ex1 hf
  refine hm_put (ws' := [oc8 h0 r_t t_base t_taped t_at t_faultPlace t_number t_newBits t_newTold t_newDoings t_newThings x1 t_sum t_heldAll t_onPaper t_turned t_wasConverted t_lastBits t_lastSum t_lastHeld t_lastLeft t_lastCode t_writtenLong t_codeMany t_acts t_done0 t_stoppedAt, ic E (r_t 17) 10 t_open, ic E (r_t 21) 10 t_productSign, ic E (r_t 18) 10 t_stage, ic E (r_t 20) 10 t_sumSign]) cb_X8 hx hb hown X w 0 22 fl_X8_188 dX8_openOne_7 rfl (by decide) (Nat.le_of_ble_eq_true rfl) rfl rfl rfl rfl (fun H locs w => ?_)
  refine lv_aload_n hx hb dX8_openOne_10 rfl (lv_at hl 0 rfl) ?_
  refine hm_get cb_X8 hx hb hown X w 0 17 fl_X8_46 dX8_openOne_11 rfl (by decide) rfl ?_
  refine lv_aload_n hx hb dX8_openOne_14 rfl (lv_at hl 0 rfl) ?_
  refine hm_get cb_X8 hx hb hown X w 0 22 fl_X8_188 dX8_openOne_15 rfl (by decide) rfl ?_
  refine lv_iload_n hx hb dX8_openOne_18 rfl (lv_at hl 1 rfl) ?_
  obtain ⟨g19, hf⟩ := pf_ckI hf
  refine hm_iast (ws' := [oc8 h0 r_t t_base t_taped t_at t_faultPlace t_number t_newBits t_newTold t_newDoings t_newThings x1 t_sum t_heldAll t_onPaper t_turned t_wasConverted t_lastBits t_lastSum t_lastHeld t_lastLeft t_lastCode t_writtenLong t_codeMany t_acts t_done0 t_stoppedAt, ic E (r_t 17) 10 (upd t_open x1.toNatClampNeg a1), ic E (r_t 21) 10 t_productSign, ic E (r_t 18) 10 t_stage, ic E (r_t 20) 10 t_sumSign]) hx hb X w 1 dX8_openOne_19 rfl g19 rfl (fun H locs w => ?_)
  refine lv_aload_n hx hb dX8_openOne_20 rfl (lv_at hl 0 rfl) ?_
  refine hm_get cb_X8 hx hb hown X w 0 18 fl_X8_49 dX8_openOne_21 rfl (by decide) rfl ?_
  refine lv_aload_n hx hb dX8_openOne_24 rfl (lv_at hl 0 rfl) ?_
  refine hm_get cb_X8 hx hb hown X w 0 22 fl_X8_188 dX8_openOne_25 rfl (by decide) rfl ?_
  refine lv_iconst (v := 0) hx hb dX8_openOne_28 (by decide) ?_
  obtain ⟨g29, hf⟩ := pf_ckI hf
  refine hm_iast (ws' := [oc8 h0 r_t t_base t_taped t_at t_faultPlace t_number t_newBits t_newTold t_newDoings t_newThings x1 t_sum t_heldAll t_onPaper t_turned t_wasConverted t_lastBits t_lastSum t_lastHeld t_lastLeft t_lastCode t_writtenLong t_codeMany t_acts t_done0 t_stoppedAt, ic E (r_t 17) 10 (upd t_open x1.toNatClampNeg a1), ic E (r_t 21) 10 t_productSign, ic E (r_t 18) 10 (upd t_stage x1.toNatClampNeg 0), ic E (r_t 20) 10 t_sumSign]) hx hb X w 3 dX8_openOne_29 rfl g29 rfl (fun H locs w => ?_)
  refine lv_aload_n hx hb dX8_openOne_30 rfl (lv_at hl 0 rfl) ?_
  refine hm_get cb_X8 hx hb hown X w 0 20 fl_X8_55 dX8_openOne_31 rfl (by decide) rfl ?_
  refine lv_aload_n hx hb dX8_openOne_34 rfl (lv_at hl 0 rfl) ?_
  refine hm_get cb_X8 hx hb hown X w 0 22 fl_X8_188 dX8_openOne_35 rfl (by decide) rfl ?_
  refine lv_iconst (v := 0) hx hb dX8_openOne_38 (by decide) ?_
  obtain ⟨g39, hf⟩ := pf_ckI hf
  refine hm_iast (ws' := [oc8 h0 r_t t_base t_taped t_at t_faultPlace t_number t_newBits t_newTold t_newDoings t_newThings x1 t_sum t_heldAll t_onPaper t_turned t_wasConverted t_lastBits t_lastSum t_lastHeld t_lastLeft t_lastCode t_writtenLong t_codeMany t_acts t_done0 t_stoppedAt, ic E (r_t 17) 10 (upd t_open x1.toNatClampNeg a1), ic E (r_t 21) 10 t_productSign, ic E (r_t 18) 10 (upd t_stage x1.toNatClampNeg 0), ic E (r_t 20) 10 (upd t_sumSign x1.toNatClampNeg 0)]) hx hb X w 4 dX8_openOne_39 rfl g39 rfl (fun H locs w => ?_)
  refine lv_aload_n hx hb dX8_openOne_40 rfl (lv_at hl 0 rfl) ?_
  refine hm_get cb_X8 hx hb hown X w 0 21 fl_X8_58 dX8_openOne_41 rfl (by decide) rfl ?_
  refine lv_aload_n hx hb dX8_openOne_44 rfl (lv_at hl 0 rfl) ?_
  refine hm_get cb_X8 hx hb hown X w 0 22 fl_X8_188 dX8_openOne_45 rfl (by decide) rfl ?_
  refine lv_iconst (v := 0) hx hb dX8_openOne_48 (by decide) ?_
  obtain ⟨g49, hf⟩ := pf_ckI hf
  refine hm_iast (ws' := [oc8 h0 r_t t_base t_taped t_at t_faultPlace t_number t_newBits t_newTold t_newDoings t_newThings x1 t_sum t_heldAll t_onPaper t_turned t_wasConverted t_lastBits t_lastSum t_lastHeld t_lastLeft t_lastCode t_writtenLong t_codeMany t_acts t_done0 t_stoppedAt, ic E (r_t 17) 10 (upd t_open x1.toNatClampNeg a1), ic E (r_t 21) 10 (upd t_productSign x1.toNatClampNeg 0), ic E (r_t 18) 10 (upd t_stage x1.toNatClampNeg 0), ic E (r_t 20) 10 (upd t_sumSign x1.toNatClampNeg 0)]) hx hb X w 2 dX8_openOne_49 rfl g49 rfl (fun H locs w => ?_)
  exact hQ _ _ _ _ ((upd t_open x1.toNatClampNeg a1), (upd t_stage x1.toNatClampNeg 0), (upd t_sumSign x1.toNatClampNeg 0), (upd t_productSign x1.toNatClampNeg 0), x1) (fun _ => 0) hf w dX8_openOne_50
set_option maxHeartbeats 8000000 in
set_option maxRecDepth 100000 in
theorem ct_X8_letterOf (l : Launch) (E : hm_E) (sz : Nat) (a0 : Int32) (R : Int32 × Unit) (hf : pf_X8_letterOf a0 = some R) : hm_Mi l E yX8_letterOf cX8_letterOf 1 .int [] (hm_rr 0 0 0 0) [.int a0] sz [] R.1 (fun _ => []) := by
  refine hm_ct_i R (fun u qs => []) (by decide) (Nat.le_of_ble_eq_true rfl) (Or.inl rfl) ?_
  intro p e s m args below meth c A Q ls H locs hx hb hml hown X hA Y hex w hl hQ
  have hl : lv_has ls 1 [(0, .int a0)] := hl
  unfold pf_X8_letterOf at hf
  refine lv_iload_n hx hb dX8_letterOf_0 rfl (lv_at hl 0 rfl) ?_
  refine lv_bipush (v := 105) hx hb dX8_letterOf_1 (by decide) ?_
  refine lv_icmp_ne (tgt := 10) hx hb dX8_letterOf_3 (by decide) (fun c3 => ?_) (fun c3 => ?_)
  · have hf := pf_e c3 hf
    refine lv_iload_n hx hb dX8_letterOf_10 rfl (lv_at hl 0 rfl) ?_
    refine lv_bipush (v := 115) hx hb dX8_letterOf_11 (by decide) ?_
    refine lv_icmp_ne (tgt := 20) hx hb dX8_letterOf_13 (by decide) (fun c13 => ?_) (fun c13 => ?_)
    · have hf := pf_e c13 hf
      refine lv_iload_n hx hb dX8_letterOf_20 rfl (lv_at hl 0 rfl) ?_
      refine lv_bipush (v := 119) hx hb dX8_letterOf_21 (by decide) ?_
      refine lv_icmp_ne (tgt := 30) hx hb dX8_letterOf_23 (by decide) (fun c23 => ?_) (fun c23 => ?_)
      · have hf := pf_e c23 hf
        refine lv_iload_n hx hb dX8_letterOf_30 rfl (lv_at hl 0 rfl) ?_
        refine lv_bipush (v := 104) hx hb dX8_letterOf_31 (by decide) ?_
        refine lv_icmp_ne (tgt := 40) hx hb dX8_letterOf_33 (by decide) (fun c33 => ?_) (fun c33 => ?_)
        · have hf := pf_e c33 hf
          refine lv_iload_n hx hb dX8_letterOf_40 rfl (lv_at hl 0 rfl) ?_
          refine lv_bipush (v := 116) hx hb dX8_letterOf_41 (by decide) ?_
          refine lv_icmp_ne (tgt := 50) hx hb dX8_letterOf_43 (by decide) (fun c43 => ?_) (fun c43 => ?_)
          · have hf := pf_e c43 hf
            refine lv_iconst (v := (-1)) hx hb dX8_letterOf_50 (by decide) ?_
            exact hQ _ _ _ _ _ () (fun _ => 0) hf rfl w dX8_letterOf_51
          · have hf := pf_t c43 hf
            refine lv_iconst (v := 4) hx hb dX8_letterOf_46 (by decide) ?_
            refine lv_goto (tgt := 51) hx hb dX8_letterOf_47 (by decide) ?_
            exact hQ _ _ _ _ _ () (fun _ => 0) hf rfl w dX8_letterOf_51
        · have hf := pf_t c33 hf
          refine lv_iconst (v := 3) hx hb dX8_letterOf_36 (by decide) ?_
          refine lv_goto (tgt := 51) hx hb dX8_letterOf_37 (by decide) ?_
          exact hQ _ _ _ _ _ () (fun _ => 0) hf rfl w dX8_letterOf_51
      · have hf := pf_t c23 hf
        refine lv_iconst (v := 2) hx hb dX8_letterOf_26 (by decide) ?_
        refine lv_goto (tgt := 51) hx hb dX8_letterOf_27 (by decide) ?_
        exact hQ _ _ _ _ _ () (fun _ => 0) hf rfl w dX8_letterOf_51
    · have hf := pf_t c13 hf
      refine lv_iconst (v := 1) hx hb dX8_letterOf_16 (by decide) ?_
      refine lv_goto (tgt := 51) hx hb dX8_letterOf_17 (by decide) ?_
      exact hQ _ _ _ _ _ () (fun _ => 0) hf rfl w dX8_letterOf_51
  · have hf := pf_t c3 hf
    refine lv_iconst (v := 0) hx hb dX8_letterOf_6 (by decide) ?_
    refine lv_goto (tgt := 51) hx hb dX8_letterOf_7 (by decide) ?_
    exact hQ _ _ _ _ _ () (fun _ => 0) hf rfl w dX8_letterOf_51
set_option maxHeartbeats 8000000 in
set_option maxRecDepth 100000 in
theorem ct_X8_readThing (l : Launch) (E : hm_E) (sz : Nat) (h0 : Nat) (r_t : Nat → Nat) (t_base t_taped t_at t_faultPlace t_number t_newBits t_newTold t_newDoings t_newThings t_opened t_sum t_heldAll t_onPaper t_turned t_wasConverted t_lastBits t_lastSum t_lastHeld t_lastLeft t_lastCode t_writtenLong t_codeMany t_acts t_done0 t_stoppedAt : Int32) (t_newDoing : Nat → Int32) (t_open : Nat → Int32) (t_productSign : Nat → Int32) (t_stage : Nat → Int32) (t_sumSign : Nat → Int32) (t_tape : Nat → Int32) (R : Int32 × Int32 × Int32 × Int32 × (Nat → Int32) × Int32 × Int32 × (Nat → Int32) × (Nat → Int32) × (Nat → Int32) × (Nat → Int32) × Int32) (hf : pf_X8_readThing t_tape t_taped t_at t_faultPlace t_number t_newDoing t_newDoings t_newThings t_open t_stage t_sumSign t_productSign t_opened = some R) : hm_Mi l E yX8_readThing cX8_readThing 3 .int [] (hm_rr 2 42 0 0) [.ref h0] sz [oc8 h0 r_t t_base t_taped t_at t_faultPlace t_number t_newBits t_newTold t_newDoings t_newThings t_opened t_sum t_heldAll t_onPaper t_turned t_wasConverted t_lastBits t_lastSum t_lastHeld t_lastLeft t_lastCode t_writtenLong t_codeMany t_acts t_done0 t_stoppedAt, ic E (r_t 14) 84 t_newDoing, ic E (r_t 17) 10 t_open, ic E (r_t 21) 10 t_productSign, ic E (r_t 18) 10 t_stage, ic E (r_t 20) 10 t_sumSign, bc E (r_t 2) 400 t_tape] R.1 (fun _ => [oc8 h0 r_t t_base t_taped (R.2.1) (R.2.2.1) (R.2.2.2.1) t_newBits t_newTold (R.2.2.2.2.2.1) (R.2.2.2.2.2.2.1) (R.2.2.2.2.2.2.2.2.2.2.2) t_sum t_heldAll t_onPaper t_turned t_wasConverted t_lastBits t_lastSum t_lastHeld t_lastLeft t_lastCode t_writtenLong t_codeMany t_acts t_done0 t_stoppedAt, ic E (r_t 14) 84 (R.2.2.2.2.1), ic E (r_t 17) 10 (R.2.2.2.2.2.2.2.1), ic E (r_t 21) 10 (R.2.2.2.2.2.2.2.2.2.2.1), ic E (r_t 18) 10 (R.2.2.2.2.2.2.2.2.1), ic E (r_t 20) 10 (R.2.2.2.2.2.2.2.2.2.1), bc E (r_t 2) 400 t_tape]) := by
  refine hm_ct_i R (fun u qs => [oc8 h0 r_t t_base t_taped (u.1) (u.2.1) (u.2.2.1) t_newBits t_newTold (u.2.2.2.2.1) (u.2.2.2.2.2.1) (u.2.2.2.2.2.2.2.2.2.2) t_sum t_heldAll t_onPaper t_turned t_wasConverted t_lastBits t_lastSum t_lastHeld t_lastLeft t_lastCode t_writtenLong t_codeMany t_acts t_done0 t_stoppedAt, ic E (r_t 14) 84 (u.2.2.2.1), ic E (r_t 17) 10 (u.2.2.2.2.2.2.1), ic E (r_t 21) 10 (u.2.2.2.2.2.2.2.2.2.1), ic E (r_t 18) 10 (u.2.2.2.2.2.2.2.1), ic E (r_t 20) 10 (u.2.2.2.2.2.2.2.2.1), bc E (r_t 2) 400 t_tape]) (by decide) (Nat.le_of_ble_eq_true rfl) (Or.inl rfl) ?_
  intro p e s m args below meth c A Q ls H locs hx hb hml hown X hA Y hex w hl hQ
  have hl : lv_has ls 3 [(0, .ref h0)] := hl
  unfold pf_X8_readThing at hf
  refine lv_aload_n hx hb dX8_readThing_0 rfl (lv_at hl 0 rfl) ?_
  obtain ⟨r1, hc1, hf⟩ := pf_bi_0 hf
  refine hm_aft_i (ws' := fun _ => [oc8 h0 r_t t_base t_taped t_at t_faultPlace t_number t_newBits t_newTold t_newDoings t_newThings t_opened t_sum t_heldAll t_onPaper t_turned t_wasConverted t_lastBits t_lastSum t_lastHeld t_lastLeft t_lastCode t_writtenLong t_codeMany t_acts t_done0 t_stoppedAt, ic E (r_t 14) 84 t_newDoing, ic E (r_t 17) 10 t_open, ic E (r_t 21) 10 t_productSign, ic E (r_t 18) 10 t_stage, ic E (r_t 20) 10 t_sumSign, bc E (r_t 2) 400 t_tape]) (hm_runV (rest := []) hx hb hml hown X hA Y w 0 (ci := 7) (T := TX8) (N := 55) rfl rfl mw_X8_here ml_X8_136 dX8_readThing_1 hm_ac0 [] rfl [0, 6] rfl rfl (ct_X8_here l E H.size h0 r_t t_base t_taped t_at t_faultPlace t_number t_newBits t_newTold t_newDoings t_newThings t_opened t_sum t_heldAll t_onPaper t_turned t_wasConverted t_lastBits t_lastSum t_lastHeld t_lastLeft t_lastCode t_writtenLong t_codeMany t_acts t_done0 t_stoppedAt t_tape (r1, ()) hc1) rfl hl.1 ⟨⟨rfl, rfl⟩, ⟨Nat.le_of_ble_eq_true rfl, Nat.le_of_ble_eq_true rfl⟩, ⟨Nat.le_of_ble_eq_true rfl, Nat.le_of_ble_eq_true rfl⟩, Nat.le_of_ble_eq_true rfl⟩) hA w [0, 6] [1, 2, 3, 4, 5] [5, 0, 1, 2, 3, 4, 6] rfl rfl (by decide) (fun _ => rfl) (fun _ H locs w => ?_)
  refine lv_istore_n (lv' := [(1, .int r1), (0, .ref h0)]) hx hb dX8_readThing_4 rfl hl (by decide) rfl (fun ls hl => ?_)
  refine lv_iload_n hx hb dX8_readThing_5 rfl (lv_at hl 0 rfl) ?_
  obtain ⟨r2, hc6, hf⟩ := pf_bi_0 hf
  refine hm_aft_i (ws' := fun _ => [oc8 h0 r_t t_base t_taped t_at t_faultPlace t_number t_newBits t_newTold t_newDoings t_newThings t_opened t_sum t_heldAll t_onPaper t_turned t_wasConverted t_lastBits t_lastSum t_lastHeld t_lastLeft t_lastCode t_writtenLong t_codeMany t_acts t_done0 t_stoppedAt, ic E (r_t 14) 84 t_newDoing, ic E (r_t 17) 10 t_open, ic E (r_t 21) 10 t_productSign, ic E (r_t 18) 10 t_stage, ic E (r_t 20) 10 t_sumSign, bc E (r_t 2) 400 t_tape]) (hm_runS (rest := []) hx hb hml hown X hA Y w mw_X8_isFigure ml_X8_140 dX8_readThing_6 hm_ac0 [.int r1] rfl [] rfl rfl (ct_X8_isFigure l E H.size r1 (r2, ()) hc6) rfl hl.1 ⟨⟨rfl, rfl⟩, ⟨Nat.le_of_ble_eq_true rfl, Nat.le_of_ble_eq_true rfl⟩, ⟨Nat.le_of_ble_eq_true rfl, Nat.le_of_ble_eq_true rfl⟩, Nat.le_of_ble_eq_true rfl⟩) hA w [] [0, 1, 2, 3, 4, 5, 6] [0, 1, 2, 3, 4, 5, 6] rfl rfl (by decide) (fun _ => rfl) (fun _ H locs w => ?_)
  obtain ⟨J43, hJ43, hf⟩ := pf_jn hf
  have kJ43 : ∀ (x3 : Int32) (H : Heap) (locs : List Loc) (ls : Array Slot), J43 x3 = some R → hm_W E A s.heap [oc8 h0 r_t t_base t_taped t_at t_faultPlace t_number t_newBits t_newTold t_newDoings t_newThings t_opened t_sum t_heldAll t_onPaper t_turned t_wasConverted t_lastBits t_lastSum t_lastHeld t_lastLeft t_lastCode t_writtenLong t_codeMany t_acts t_done0 t_stoppedAt, ic E (r_t 14) 84 t_newDoing, ic E (r_t 17) 10 t_open, ic E (r_t 21) 10 t_productSign, ic E (r_t 18) 10 t_stage, ic E (r_t 20) 10 t_sumSign, bc E (r_t 2) 400 t_tape] H locs → lv_has ls 3 [(0, .ref h0), (1, .int r1)] → W p l e (hm_rr 2 42 0 0) s m args below meth c H locs 0 0 Q (F0 m 43 ls [.int x3]) := by
    intro x3 H locs ls hf w hl
    have hf := pf_j1 hJ43 hf
    refine lv_istore_n (lv' := [(2, .int x3), (0, .ref h0), (1, .int r1)]) hx hb dX8_readThing_43 rfl hl (by decide) rfl (fun ls hl => ?_)
    refine lv_iload_n hx hb dX8_readThing_44 rfl (lv_at hl 0 rfl) ?_
    obtain ⟨J66, hJ66, hf⟩ := pf_jn hf
    have kJ66 : ∀ (H : Heap) (locs : List Loc) (ls : Array Slot), J66 = some R → hm_W E A s.heap [oc8 h0 r_t t_base t_taped t_at t_faultPlace t_number t_newBits t_newTold t_newDoings t_newThings t_opened t_sum t_heldAll t_onPaper t_turned t_wasConverted t_lastBits t_lastSum t_lastHeld t_lastLeft t_lastCode t_writtenLong t_codeMany t_acts t_done0 t_stoppedAt, ic E (r_t 14) 84 t_newDoing, ic E (r_t 17) 10 t_open, ic E (r_t 21) 10 t_productSign, ic E (r_t 18) 10 t_stage, ic E (r_t 20) 10 t_sumSign, bc E (r_t 2) 400 t_tape] H locs → lv_has ls 3 [(0, .ref h0)] → W p l e (hm_rr 2 42 0 0) s m args below meth c H locs 0 0 Q (F0 m 66 ls []) := by
      intro H locs ls hf w hl
      have hf := pf_j0 hJ66 hf
      refine lv_aload_n hx hb dX8_readThing_66 rfl (lv_at hl 0 rfl) ?_
      refine lv_aload_n hx hb dX8_readThing_67 rfl (lv_at hl 0 rfl) ?_
      refine hm_get cb_X8 hx hb hown X w 0 4 fl_X8_133 dX8_readThing_68 rfl (by decide) rfl ?_
      refine hm_put (ws' := [oc8 h0 r_t t_base t_taped t_at t_at t_number t_newBits t_newTold t_newDoings t_newThings t_opened t_sum t_heldAll t_onPaper t_turned t_wasConverted t_lastBits t_lastSum t_lastHeld t_lastLeft t_lastCode t_writtenLong t_codeMany t_acts t_done0 t_stoppedAt, ic E (r_t 14) 84 t_newDoing, ic E (r_t 17) 10 t_open, ic E (r_t 21) 10 t_productSign, ic E (r_t 18) 10 t_stage, ic E (r_t 20) 10 t_sumSign, bc E (r_t 2) 400 t_tape]) cb_X8 hx hb hown X w 0 5 fl_X8_25 dX8_readThing_71 rfl (by decide) (Nat.le_of_ble_eq_true rfl) rfl rfl rfl rfl (fun H locs w => ?_)
      refine lv_iconst (v := (-1)) hx hb dX8_readThing_74 (by decide) ?_
      exact hQ _ _ _ _ _ (t_at, t_at, t_number, t_newDoing, t_newDoings, t_newThings, t_open, t_stage, t_sumSign, t_productSign, t_opened) (fun _ => 0) hf rfl w dX8_readThing_75
    refine lv_if_eq (tgt := 66) hx hb dX8_readThing_45 (by decide) (fun c45 => ?_) (fun c45 => ?_)
    · have hf := pf_t c45 hf
      exact kJ66 _ _ _ hf w (lv_sub hl [1] rfl)
    · have hf := pf_e c45 hf
      refine lv_aload_n hx hb dX8_readThing_48 rfl (lv_at hl 1 rfl) ?_
      refine hm_get cb_X8 hx hb hown X w 0 16 fl_X8_194 dX8_readThing_49 rfl (by decide) rfl ?_
      refine lv_bipush (v := 40) hx hb dX8_readThing_52 (by decide) ?_
      refine lv_icmp_eq (tgt := 66) hx hb dX8_readThing_54 (by decide) (fun c54 => ?_) (fun c54 => ?_)
      · have hf := pf_t c54 hf
        exact kJ66 _ _ _ hf w (lv_sub hl [1] rfl)
      · have hf := pf_e c54 hf
        refine lv_aload_n hx hb dX8_readThing_57 rfl (lv_at hl 1 rfl) ?_
        refine hm_get cb_X8 hx hb hown X w 0 22 fl_X8_188 dX8_readThing_58 rfl (by decide) rfl ?_
        refine lv_bipush (v := 8) hx hb dX8_readThing_61 (by decide) ?_
        refine lv_icmp_ne (tgt := 76) hx hb dX8_readThing_63 (by decide) (fun c63 => ?_) (fun c63 => ?_)
        · have hf := pf_e c63 hf
          refine lv_aload_n hx hb dX8_readThing_76 rfl (lv_at hl 1 rfl) ?_
          refine lv_dup hx hb dX8_readThing_77 rfl ?_
          refine hm_get cb_X8 hx hb hown X w 0 16 fl_X8_194 dX8_readThing_78 rfl (by decide) rfl ?_
          refine lv_iconst (v := 1) hx hb dX8_readThing_81 (by decide) ?_
          refine lv_iadd hx hb dX8_readThing_82 ?_
          refine lv_topi (fun x4 ex4 => ?_)
          have hf := pf_nm ex4 hf
          refine hm_put (ws' := [oc8 h0 r_t t_base t_taped t_at t_faultPlace t_number t_newBits t_newTold t_newDoings x4 t_opened t_sum t_heldAll t_onPaper t_turned t_wasConverted t_lastBits t_lastSum t_lastHeld t_lastLeft t_lastCode t_writtenLong t_codeMany t_acts t_done0 t_stoppedAt, ic E (r_t 14) 84 t_newDoing, ic E (r_t 17) 10 t_open, ic E (r_t 21) 10 t_productSign, ic E (r_t 18) 10 t_stage, ic E (r_t 20) 10 t_sumSign, bc E (r_t 2) 400 t_tape]) cb_X8 hx hb hown X w 0 16 fl_X8_194 dX8_readThing_83 rfl (by decide) (Nat.le_of_ble_eq_true rfl) rfl rfl rfl rfl (fun H locs w => ?_)
          refine lv_iload_n hx hb dX8_readThing_86 rfl (lv_at hl 2 rfl) ?_
          obtain ⟨r5, hc87, hf⟩ := pf_bi_0 hf
          refine hm_aft_i (ws' := fun _ => [oc8 h0 r_t t_base t_taped t_at t_faultPlace t_number t_newBits t_newTold t_newDoings x4 t_opened t_sum t_heldAll t_onPaper t_turned t_wasConverted t_lastBits t_lastSum t_lastHeld t_lastLeft t_lastCode t_writtenLong t_codeMany t_acts t_done0 t_stoppedAt, ic E (r_t 14) 84 t_newDoing, ic E (r_t 17) 10 t_open, ic E (r_t 21) 10 t_productSign, ic E (r_t 18) 10 t_stage, ic E (r_t 20) 10 t_sumSign, bc E (r_t 2) 400 t_tape]) (hm_runS (rest := []) hx hb hml hown X hA Y w mw_X8_isFigure ml_X8_140 dX8_readThing_87 hm_ac0 [.int r1] rfl [] rfl rfl (ct_X8_isFigure l E H.size r1 (r5, ()) hc87) rfl hl.1 ⟨⟨rfl, rfl⟩, ⟨Nat.le_of_ble_eq_true rfl, Nat.le_of_ble_eq_true rfl⟩, ⟨Nat.le_of_ble_eq_true rfl, Nat.le_of_ble_eq_true rfl⟩, Nat.le_of_ble_eq_true rfl⟩) hA w [] [0, 1, 2, 3, 4, 5, 6] [0, 1, 2, 3, 4, 5, 6] rfl rfl (by decide) (fun _ => rfl) (fun _ H locs w => ?_)
          refine lv_if_eq (tgt := 112) hx hb dX8_readThing_90 (by decide) (fun c90 => ?_) (fun c90 => ?_)
          · have hf := pf_t c90 hf
            refine lv_aload_n hx hb dX8_readThing_112 rfl (lv_at hl 1 rfl) ?_
            refine lv_dup hx hb dX8_readThing_113 rfl ?_
            refine hm_get cb_X8 hx hb hown X w 0 4 fl_X8_133 dX8_readThing_114 rfl (by decide) rfl ?_
            refine lv_iconst (v := 1) hx hb dX8_readThing_117 (by decide) ?_
            refine lv_iadd hx hb dX8_readThing_118 ?_
            refine lv_topi (fun x6 ex6 => ?_)
            have hf := pf_nm ex6 hf
            refine hm_put (ws' := [oc8 h0 r_t t_base t_taped x6 t_faultPlace t_number t_newBits t_newTold t_newDoings x4 t_opened t_sum t_heldAll t_onPaper t_turned t_wasConverted t_lastBits t_lastSum t_lastHeld t_lastLeft t_lastCode t_writtenLong t_codeMany t_acts t_done0 t_stoppedAt, ic E (r_t 14) 84 t_newDoing, ic E (r_t 17) 10 t_open, ic E (r_t 21) 10 t_productSign, ic E (r_t 18) 10 t_stage, ic E (r_t 20) 10 t_sumSign, bc E (r_t 2) 400 t_tape]) cb_X8 hx hb hown X w 0 4 fl_X8_133 dX8_readThing_119 rfl (by decide) (Nat.le_of_ble_eq_true rfl) rfl rfl rfl rfl (fun H locs w => ?_)
            refine lv_iload_n hx hb dX8_readThing_122 rfl (lv_at hl 2 rfl) ?_
            obtain ⟨r7, hc123, hf⟩ := pf_bi_0 hf
            refine hm_aft_i (ws' := fun _ => [oc8 h0 r_t t_base t_taped x6 t_faultPlace t_number t_newBits t_newTold t_newDoings x4 t_opened t_sum t_heldAll t_onPaper t_turned t_wasConverted t_lastBits t_lastSum t_lastHeld t_lastLeft t_lastCode t_writtenLong t_codeMany t_acts t_done0 t_stoppedAt, ic E (r_t 14) 84 t_newDoing, ic E (r_t 17) 10 t_open, ic E (r_t 21) 10 t_productSign, ic E (r_t 18) 10 t_stage, ic E (r_t 20) 10 t_sumSign, bc E (r_t 2) 400 t_tape]) (hm_runS (rest := []) hx hb hml hown X hA Y w mw_X8_letterOf ml_X8_191 dX8_readThing_123 hm_ac0 [.int r1] rfl [] rfl rfl (ct_X8_letterOf l E H.size r1 (r7, ()) hc123) rfl hl.1 ⟨⟨rfl, rfl⟩, ⟨Nat.le_of_ble_eq_true rfl, Nat.le_of_ble_eq_true rfl⟩, ⟨Nat.le_of_ble_eq_true rfl, Nat.le_of_ble_eq_true rfl⟩, Nat.le_of_ble_eq_true rfl⟩) hA w [] [0, 1, 2, 3, 4, 5, 6] [0, 1, 2, 3, 4, 5, 6] rfl rfl (by decide) (fun _ => rfl) (fun _ H locs w => ?_)
            refine lv_iconst (v := (-1)) hx hb dX8_readThing_126 (by decide) ?_
            refine lv_icmp_eq (tgt := 144) hx hb dX8_readThing_127 (by decide) (fun c127 => ?_) (fun c127 => ?_)
            · have hf := pf_t c127 hf
              refine lv_aload_n hx hb dX8_readThing_144 rfl (lv_at hl 1 rfl) ?_
              refine lv_iload_n hx hb dX8_readThing_145 rfl (lv_at hl 2 rfl) ?_
              refine lv_bipush (v := 40) hx hb dX8_readThing_146 (by decide) ?_
              refine lv_icmp_ne (tgt := 155) hx hb dX8_readThing_148 (by decide) (fun c148 => ?_) (fun c148 => ?_)
              · have hf := pf_e c148 hf
                refine lv_iload_n hx hb dX8_readThing_155 rfl (lv_at hl 2 rfl) ?_
                refine lv_bipush (v := 91) hx hb dX8_readThing_156 (by decide) ?_
                refine lv_icmp_ne (tgt := 165) hx hb dX8_readThing_158 (by decide) (fun c158 => ?_) (fun c158 => ?_)
                · have hf := pf_e c158 hf
                  refine lv_iconst (v := 3) hx hb dX8_readThing_165 (by decide) ?_
                  obtain ⟨f8, f9, f10, f11, x12, hc166, hf⟩ := pf_bv_5 hf
                  refine hm_aft_v (ws' := fun _ => [oc8 h0 r_t t_base t_taped x6 t_faultPlace t_number t_newBits t_newTold t_newDoings x4 x12 t_sum t_heldAll t_onPaper t_turned t_wasConverted t_lastBits t_lastSum t_lastHeld t_lastLeft t_lastCode t_writtenLong t_codeMany t_acts t_done0 t_stoppedAt, ic E (r_t 14) 84 t_newDoing, ic E (r_t 17) 10 f8, ic E (r_t 21) 10 f11, ic E (r_t 18) 10 f9, ic E (r_t 20) 10 f10, bc E (r_t 2) 400 t_tape]) (hm_runV (rest := []) hx hb hml hown X hA Y w 0 (ci := 7) (T := TX8) (N := 55) rfl rfl mw_X8_openOne ml_X8_200 dX8_readThing_166 hm_ac0 [.int 3] rfl [0, 2, 3, 4, 5] rfl rfl (ct_X8_openOne l E H.size h0 r_t t_base t_taped x6 t_faultPlace t_number t_newBits t_newTold t_newDoings x4 t_opened t_sum t_heldAll t_onPaper t_turned t_wasConverted t_lastBits t_lastSum t_lastHeld t_lastLeft t_lastCode t_writtenLong t_codeMany t_acts t_done0 t_stoppedAt t_open t_productSign t_stage t_sumSign 3 (f8, f9, f10, f11, x12) hc166) rfl hl.1 ⟨⟨rfl, rfl⟩, ⟨Nat.le_of_ble_eq_true rfl, Nat.le_of_ble_eq_true rfl⟩, ⟨Nat.le_of_ble_eq_true rfl, Nat.le_of_ble_eq_true rfl⟩, Nat.le_of_ble_eq_true rfl⟩) hA w [0, 2, 3, 4, 5] [1, 6] [2, 0, 3, 4, 5, 6, 1] rfl rfl (by decide) (fun _ => rfl) (fun _ H locs w => ?_)
                  refine lv_iconst (v := 0) hx hb dX8_readThing_169 (by decide) ?_
                  exact hQ _ _ _ _ _ (x6, t_faultPlace, t_number, t_newDoing, t_newDoings, x4, f8, f9, f10, f11, x12) (fun _ => 0) hf rfl w dX8_readThing_170
                · have hf := pf_t c158 hf
                  refine lv_iconst (v := 2) hx hb dX8_readThing_161 (by decide) ?_
                  refine lv_goto (tgt := 166) hx hb dX8_readThing_162 (by decide) ?_
                  obtain ⟨f13, f14, f15, f16, x17, hc166, hf⟩ := pf_bv_5 hf
                  refine hm_aft_v (ws' := fun _ => [oc8 h0 r_t t_base t_taped x6 t_faultPlace t_number t_newBits t_newTold t_newDoings x4 x17 t_sum t_heldAll t_onPaper t_turned t_wasConverted t_lastBits t_lastSum t_lastHeld t_lastLeft t_lastCode t_writtenLong t_codeMany t_acts t_done0 t_stoppedAt, ic E (r_t 14) 84 t_newDoing, ic E (r_t 17) 10 f13, ic E (r_t 21) 10 f16, ic E (r_t 18) 10 f14, ic E (r_t 20) 10 f15, bc E (r_t 2) 400 t_tape]) (hm_runV (rest := []) hx hb hml hown X hA Y w 0 (ci := 7) (T := TX8) (N := 55) rfl rfl mw_X8_openOne ml_X8_200 dX8_readThing_166 hm_ac0 [.int 2] rfl [0, 2, 3, 4, 5] rfl rfl (ct_X8_openOne l E H.size h0 r_t t_base t_taped x6 t_faultPlace t_number t_newBits t_newTold t_newDoings x4 t_opened t_sum t_heldAll t_onPaper t_turned t_wasConverted t_lastBits t_lastSum t_lastHeld t_lastLeft t_lastCode t_writtenLong t_codeMany t_acts t_done0 t_stoppedAt t_open t_productSign t_stage t_sumSign 2 (f13, f14, f15, f16, x17) hc166) rfl hl.1 ⟨⟨rfl, rfl⟩, ⟨Nat.le_of_ble_eq_true rfl, Nat.le_of_ble_eq_true rfl⟩, ⟨Nat.le_of_ble_eq_true rfl, Nat.le_of_ble_eq_true rfl⟩, Nat.le_of_ble_eq_true rfl⟩) hA w [0, 2, 3, 4, 5] [1, 6] [2, 0, 3, 4, 5, 6, 1] rfl rfl (by decide) (fun _ => rfl) (fun _ H locs w => ?_)
                  refine lv_iconst (v := 0) hx hb dX8_readThing_169 (by decide) ?_
                  exact hQ _ _ _ _ _ (x6, t_faultPlace, t_number, t_newDoing, t_newDoings, x4, f13, f14, f15, f16, x17) (fun _ => 0) hf rfl w dX8_readThing_170
              · have hf := pf_t c148 hf
                refine lv_iconst (v := 1) hx hb dX8_readThing_151 (by decide) ?_
                refine lv_goto (tgt := 166) hx hb dX8_readThing_152 (by decide) ?_
                obtain ⟨f18, f19, f20, f21, x22, hc166, hf⟩ := pf_bv_5 hf
                refine hm_aft_v (ws' := fun _ => [oc8 h0 r_t t_base t_taped x6 t_faultPlace t_number t_newBits t_newTold t_newDoings x4 x22 t_sum t_heldAll t_onPaper t_turned t_wasConverted t_lastBits t_lastSum t_lastHeld t_lastLeft t_lastCode t_writtenLong t_codeMany t_acts t_done0 t_stoppedAt, ic E (r_t 14) 84 t_newDoing, ic E (r_t 17) 10 f18, ic E (r_t 21) 10 f21, ic E (r_t 18) 10 f19, ic E (r_t 20) 10 f20, bc E (r_t 2) 400 t_tape]) (hm_runV (rest := []) hx hb hml hown X hA Y w 0 (ci := 7) (T := TX8) (N := 55) rfl rfl mw_X8_openOne ml_X8_200 dX8_readThing_166 hm_ac0 [.int 1] rfl [0, 2, 3, 4, 5] rfl rfl (ct_X8_openOne l E H.size h0 r_t t_base t_taped x6 t_faultPlace t_number t_newBits t_newTold t_newDoings x4 t_opened t_sum t_heldAll t_onPaper t_turned t_wasConverted t_lastBits t_lastSum t_lastHeld t_lastLeft t_lastCode t_writtenLong t_codeMany t_acts t_done0 t_stoppedAt t_open t_productSign t_stage t_sumSign 1 (f18, f19, f20, f21, x22) hc166) rfl hl.1 ⟨⟨rfl, rfl⟩, ⟨Nat.le_of_ble_eq_true rfl, Nat.le_of_ble_eq_true rfl⟩, ⟨Nat.le_of_ble_eq_true rfl, Nat.le_of_ble_eq_true rfl⟩, Nat.le_of_ble_eq_true rfl⟩) hA w [0, 2, 3, 4, 5] [1, 6] [2, 0, 3, 4, 5, 6, 1] rfl rfl (by decide) (fun _ => rfl) (fun _ H locs w => ?_)
                refine lv_iconst (v := 0) hx hb dX8_readThing_169 (by decide) ?_
                exact hQ _ _ _ _ _ (x6, t_faultPlace, t_number, t_newDoing, t_newDoings, x4, f18, f19, f20, f21, x22) (fun _ => 0) hf rfl w dX8_readThing_170
            · have hf := pf_e c127 hf
              refine lv_aload_n hx hb dX8_readThing_130 rfl (lv_at hl 1 rfl) ?_
              refine lv_sipush (v := 10000) hx hb dX8_readThing_131 (by decide) ?_
              refine lv_iload_n hx hb dX8_readThing_134 rfl (lv_at hl 2 rfl) ?_
              obtain ⟨r23, hc135, hf⟩ := pf_bi_0 hf
              refine hm_aft_i (ws' := fun _ => [oc8 h0 r_t t_base t_taped x6 t_faultPlace t_number t_newBits t_newTold t_newDoings x4 t_opened t_sum t_heldAll t_onPaper t_turned t_wasConverted t_lastBits t_lastSum t_lastHeld t_lastLeft t_lastCode t_writtenLong t_codeMany t_acts t_done0 t_stoppedAt, ic E (r_t 14) 84 t_newDoing, ic E (r_t 17) 10 t_open, ic E (r_t 21) 10 t_productSign, ic E (r_t 18) 10 t_stage, ic E (r_t 20) 10 t_sumSign, bc E (r_t 2) 400 t_tape]) (hm_runS (rest := [.int 10000, .ref h0]) hx hb hml hown X hA Y w mw_X8_letterOf ml_X8_191 dX8_readThing_135 hm_ac0 [.int r1] rfl [] rfl rfl (ct_X8_letterOf l E H.size r1 (r23, ()) hc135) rfl hl.1 ⟨⟨rfl, rfl⟩, ⟨Nat.le_of_ble_eq_true rfl, Nat.le_of_ble_eq_true rfl⟩, ⟨Nat.le_of_ble_eq_true rfl, Nat.le_of_ble_eq_true rfl⟩, Nat.le_of_ble_eq_true rfl⟩) hA w [] [0, 1, 2, 3, 4, 5, 6] [0, 1, 2, 3, 4, 5, 6] rfl rfl (by decide) (fun _ => rfl) (fun _ H locs w => ?_)
              refine lv_iadd hx hb dX8_readThing_138 ?_
              obtain ⟨f24, x25, hc139, hf⟩ := pf_bv_2 hf
              refine hm_aft_v (ws' := fun _ => [oc8 h0 r_t t_base t_taped x6 t_faultPlace t_number t_newBits t_newTold x25 x4 t_opened t_sum t_heldAll t_onPaper t_turned t_wasConverted t_lastBits t_lastSum t_lastHeld t_lastLeft t_lastCode t_writtenLong t_codeMany t_acts t_done0 t_stoppedAt, ic E (r_t 14) 84 f24, ic E (r_t 17) 10 t_open, ic E (r_t 21) 10 t_productSign, ic E (r_t 18) 10 t_stage, ic E (r_t 20) 10 t_sumSign, bc E (r_t 2) 400 t_tape]) (hm_runV (rest := []) hx hb hml hown X hA Y w 0 (ci := 7) (T := TX8) (N := 55) rfl rfl mw_X8_does ml_X8_197 dX8_readThing_139 hm_ac0 [.int (10000 + r23)] rfl [0, 1] rfl rfl (ct_X8_does l E H.size h0 r_t t_base t_taped x6 t_faultPlace t_number t_newBits t_newTold t_newDoings x4 t_opened t_sum t_heldAll t_onPaper t_turned t_wasConverted t_lastBits t_lastSum t_lastHeld t_lastLeft t_lastCode t_writtenLong t_codeMany t_acts t_done0 t_stoppedAt t_newDoing (10000 + r23) (f24, x25) hc139) rfl hl.1 ⟨⟨rfl, rfl⟩, ⟨Nat.le_of_ble_eq_true rfl, Nat.le_of_ble_eq_true rfl⟩, ⟨Nat.le_of_ble_eq_true rfl, Nat.le_of_ble_eq_true rfl⟩, Nat.le_of_ble_eq_true rfl⟩) hA w [0, 1] [2, 3, 4, 5, 6] [5, 6, 0, 1, 2, 3, 4] rfl rfl (by decide) (fun _ => rfl) (fun _ H locs w => ?_)
              refine lv_iconst (v := 1) hx hb dX8_readThing_142 (by decide) ?_
              exact hQ _ _ _ _ _ (x6, t_faultPlace, t_number, f24, x25, x4, t_open, t_stage, t_sumSign, t_productSign, t_opened) (fun _ => 0) hf rfl w dX8_readThing_143
          · have hf := pf_e c90 hf
            refine lv_aload_n hx hb dX8_readThing_93 rfl (lv_at hl 1 rfl) ?_
            obtain ⟨r26, x27, x28, x29, hc94, hf⟩ := pf_bi_3 hf
            refine hm_aft_i (ws' := fun _ => [oc8 h0 r_t t_base t_taped x27 x28 x29 t_newBits t_newTold t_newDoings x4 t_opened t_sum t_heldAll t_onPaper t_turned t_wasConverted t_lastBits t_lastSum t_lastHeld t_lastLeft t_lastCode t_writtenLong t_codeMany t_acts t_done0 t_stoppedAt, ic E (r_t 14) 84 t_newDoing, ic E (r_t 17) 10 t_open, ic E (r_t 21) 10 t_productSign, ic E (r_t 18) 10 t_stage, ic E (r_t 20) 10 t_sumSign, bc E (r_t 2) 400 t_tape]) (hm_runV (rest := []) hx hb hml hown X hA Y w 0 (ci := 7) (T := TX8) (N := 55) rfl rfl mw_X8_readDigits ml_X8_150 dX8_readThing_94 hm_ac0 [] rfl [0, 6] rfl rfl (ct_X8_readDigits l E H.size h0 r_t t_base t_taped t_at t_faultPlace t_number t_newBits t_newTold t_newDoings x4 t_opened t_sum t_heldAll t_onPaper t_turned t_wasConverted t_lastBits t_lastSum t_lastHeld t_lastLeft t_lastCode t_writtenLong t_codeMany t_acts t_done0 t_stoppedAt t_tape (r26, x27, x28, x29) hc94) rfl hl.1 ⟨⟨rfl, rfl⟩, ⟨Nat.le_of_ble_eq_true rfl, Nat.le_of_ble_eq_true rfl⟩, ⟨Nat.le_of_ble_eq_true rfl, Nat.le_of_ble_eq_true rfl⟩, Nat.le_of_ble_eq_true rfl⟩) hA w [0, 6] [1, 2, 3, 4, 5] [5, 0, 1, 2, 3, 4, 6] rfl rfl (by decide) (fun _ => rfl) (fun _ H locs w => ?_)
            refine lv_if_ne (tgt := 102) hx hb dX8_readThing_97 (by decide) (fun c97 => ?_) (fun c97 => ?_)
            · have hf := pf_e c97 hf
              refine lv_aload_n hx hb dX8_readThing_102 rfl (lv_at hl 1 rfl) ?_
              refine lv_aload_n hx hb dX8_readThing_103 rfl (lv_at hl 1 rfl) ?_
              refine hm_get cb_X8 hx hb hown X w 0 6 fl_X8_147 dX8_readThing_104 rfl (by decide) rfl ?_
              obtain ⟨f30, x31, hc107, hf⟩ := pf_bv_2 hf
              refine hm_aft_v (ws' := fun _ => [oc8 h0 r_t t_base t_taped x27 x28 x29 t_newBits t_newTold x31 x4 t_opened t_sum t_heldAll t_onPaper t_turned t_wasConverted t_lastBits t_lastSum t_lastHeld t_lastLeft t_lastCode t_writtenLong t_codeMany t_acts t_done0 t_stoppedAt, ic E (r_t 14) 84 f30, ic E (r_t 17) 10 t_open, ic E (r_t 21) 10 t_productSign, ic E (r_t 18) 10 t_stage, ic E (r_t 20) 10 t_sumSign, bc E (r_t 2) 400 t_tape]) (hm_runV (rest := []) hx hb hml hown X hA Y w 0 (ci := 7) (T := TX8) (N := 55) rfl rfl mw_X8_does ml_X8_197 dX8_readThing_107 hm_ac0 [.int x29] rfl [0, 1] rfl rfl (ct_X8_does l E H.size h0 r_t t_base t_taped x27 x28 x29 t_newBits t_newTold t_newDoings x4 t_opened t_sum t_heldAll t_onPaper t_turned t_wasConverted t_lastBits t_lastSum t_lastHeld t_lastLeft t_lastCode t_writtenLong t_codeMany t_acts t_done0 t_stoppedAt t_newDoing x29 (f30, x31) hc107) rfl hl.1 ⟨⟨rfl, rfl⟩, ⟨Nat.le_of_ble_eq_true rfl, Nat.le_of_ble_eq_true rfl⟩, ⟨Nat.le_of_ble_eq_true rfl, Nat.le_of_ble_eq_true rfl⟩, Nat.le_of_ble_eq_true rfl⟩) hA w [0, 1] [2, 3, 4, 5, 6] [5, 6, 0, 1, 2, 3, 4] rfl rfl (by decide) (fun _ => rfl) (fun _ H locs w => ?_)
              refine lv_iconst (v := 1) hx hb dX8_readThing_110 (by decide) ?_
              exact hQ _ _ _ _ _ (x27, x28, x29, f30, x31, x4, t_open, t_stage, t_sumSign, t_productSign, t_opened) (fun _ => 0) hf rfl w dX8_readThing_111
            · have hf := pf_t c97 hf
              refine lv_iconst (v := (-1)) hx hb dX8_readThing_100 (by decide) ?_
              exact hQ _ _ _ _ _ (x27, x28, x29, t_newDoing, t_newDoings, x4, t_open, t_stage, t_sumSign, t_productSign, t_opened) (fun _ => 0) hf rfl w dX8_readThing_101
        · have hf := pf_t c63 hf
          exact kJ66 _ _ _ hf w (lv_sub hl [1] rfl)
  obtain ⟨J38, hJ38, hf⟩ := pf_jn hf
  have kJ38 : ∀ (H : Heap) (locs : List Loc) (ls : Array Slot), J38 = some R → hm_W E A s.heap [oc8 h0 r_t t_base t_taped t_at t_faultPlace t_number t_newBits t_newTold t_newDoings t_newThings t_opened t_sum t_heldAll t_onPaper t_turned t_wasConverted t_lastBits t_lastSum t_lastHeld t_lastLeft t_lastCode t_writtenLong t_codeMany t_acts t_done0 t_stoppedAt, ic E (r_t 14) 84 t_newDoing, ic E (r_t 17) 10 t_open, ic E (r_t 21) 10 t_productSign, ic E (r_t 18) 10 t_stage, ic E (r_t 20) 10 t_sumSign, bc E (r_t 2) 400 t_tape] H locs → lv_has ls 3 [(0, .ref h0), (1, .int r1)] → W p l e (hm_rr 2 42 0 0) s m args below meth c H locs 0 0 Q (F0 m 38 ls []) := by
    intro H locs ls hf w hl
    have hf := pf_j0 hJ38 hf
    refine lv_iconst (v := 1) hx hb dX8_readThing_38 (by decide) ?_
    refine lv_goto (tgt := 43) hx hb dX8_readThing_39 (by decide) ?_
    exact kJ43 _ _ _ _ hf w (lv_sub hl [0, 1] rfl)
  refine lv_if_ne (tgt := 38) hx hb dX8_readThing_9 (by decide) (fun c9 => ?_) (fun c9 => ?_)
  · have hf := pf_e c9 hf
    exact kJ38 _ _ _ hf w (lv_sub hl [1, 0] rfl)
  · have hf := pf_t c9 hf
    refine lv_iload_n hx hb dX8_readThing_12 rfl (lv_at hl 0 rfl) ?_
    obtain ⟨r32, hc13, hf⟩ := pf_bi_0 hf
    refine hm_aft_i (ws' := fun _ => [oc8 h0 r_t t_base t_taped t_at t_faultPlace t_number t_newBits t_newTold t_newDoings t_newThings t_opened t_sum t_heldAll t_onPaper t_turned t_wasConverted t_lastBits t_lastSum t_lastHeld t_lastLeft t_lastCode t_writtenLong t_codeMany t_acts t_done0 t_stoppedAt, ic E (r_t 14) 84 t_newDoing, ic E (r_t 17) 10 t_open, ic E (r_t 21) 10 t_productSign, ic E (r_t 18) 10 t_stage, ic E (r_t 20) 10 t_sumSign, bc E (r_t 2) 400 t_tape]) (hm_runS (rest := []) hx hb hml hown X hA Y w mw_X8_letterOf ml_X8_191 dX8_readThing_13 hm_ac0 [.int r1] rfl [] rfl rfl (ct_X8_letterOf l E H.size r1 (r32, ()) hc13) rfl hl.1 ⟨⟨rfl, rfl⟩, ⟨Nat.le_of_ble_eq_true rfl, Nat.le_of_ble_eq_true rfl⟩, ⟨Nat.le_of_ble_eq_true rfl, Nat.le_of_ble_eq_true rfl⟩, Nat.le_of_ble_eq_true rfl⟩) hA w [] [0, 1, 2, 3, 4, 5, 6] [0, 1, 2, 3, 4, 5, 6] rfl rfl (by decide) (fun _ => rfl) (fun _ H locs w => ?_)
    refine lv_iconst (v := (-1)) hx hb dX8_readThing_16 (by decide) ?_
    refine lv_icmp_ne (tgt := 38) hx hb dX8_readThing_17 (by decide) (fun c17 => ?_) (fun c17 => ?_)
    · have hf := pf_e c17 hf
      exact kJ38 _ _ _ hf w (lv_sub hl [1, 0] rfl)
    · have hf := pf_t c17 hf
      refine lv_iload_n hx hb dX8_readThing_20 rfl (lv_at hl 0 rfl) ?_
      refine lv_bipush (v := 40) hx hb dX8_readThing_21 (by decide) ?_
      refine lv_icmp_eq (tgt := 38) hx hb dX8_readThing_23 (by decide) (fun c23 => ?_) (fun c23 => ?_)
      · have hf := pf_t c23 hf
        exact kJ38 _ _ _ hf w (lv_sub hl [1, 0] rfl)
      · have hf := pf_e c23 hf
        refine lv_iload_n hx hb dX8_readThing_26 rfl (lv_at hl 0 rfl) ?_
        refine lv_bipush (v := 91) hx hb dX8_readThing_27 (by decide) ?_
        refine lv_icmp_eq (tgt := 38) hx hb dX8_readThing_29 (by decide) (fun c29 => ?_) (fun c29 => ?_)
        · have hf := pf_t c29 hf
          exact kJ38 _ _ _ hf w (lv_sub hl [1, 0] rfl)
        · have hf := pf_e c29 hf
          refine lv_iload_n hx hb dX8_readThing_32 rfl (lv_at hl 0 rfl) ?_
          refine lv_bipush (v := 45) hx hb dX8_readThing_33 (by decide) ?_
          refine lv_icmp_ne (tgt := 42) hx hb dX8_readThing_35 (by decide) (fun c35 => ?_) (fun c35 => ?_)
          · have hf := pf_e c35 hf
            refine lv_iconst (v := 0) hx hb dX8_readThing_42 (by decide) ?_
            exact kJ43 _ _ _ _ hf w (lv_sub hl [1, 0] rfl)
          · have hf := pf_t c35 hf
            exact kJ38 _ _ _ hf w (lv_sub hl [1, 0] rfl)