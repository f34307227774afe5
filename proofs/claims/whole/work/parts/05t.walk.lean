set_option maxHeartbeats 8000000 in
set_option maxRecDepth 100000 in
theorem ct_X5_rewind (l : Launch) (E : hm_E) (sz : Nat) (h0 : Nat) (r_t : Nat → Nat) (t_count t_at t_fault : Int32) (R : Int32 × Int32) (hf : pf_X5_rewind = some R) : hm_Mv l E yX5_rewind cX5_rewind 1 [] (hm_rr 0 0 0 0) [.ref h0] sz [oc5 h0 r_t t_count t_at t_fault] (fun _ => [oc5 h0 r_t t_count (R.1) (R.2)]) := by
  refine hm_ct_v R (fun u _ => [oc5 h0 r_t t_count (u.1) (u.2)]) (by decide) (Nat.le_of_ble_eq_true rfl) ?_
  intro p e s m args below meth c A Q ls H locs hx hb hml hown X hA Y hex hin w hl hQ
  have hl : lv_has ls 1 [(0, .ref h0)] := hl
  unfold pf_X5_rewind at hf
  refine lv_aload_n hx hb dX5_rewind_0 rfl (lv_at hl 0 rfl) ?_
  refine lv_iconst (v := 0) hx hb dX5_rewind_1 (by decide) ?_
  refine hm_put (ws' := [oc5 h0 r_t t_count 0 t_fault]) cb_X5 hx hb hown X w 0 2 fl_X5_19 dX5_rewind_2 rfl (by decide) (Nat.le_of_ble_eq_true rfl) rfl rfl rfl rfl (fun H locs w => ?_)
  refine lv_aload_n hx hb dX5_rewind_5 rfl (lv_at hl 0 rfl) ?_
  refine lv_iconst (v := (-1)) hx hb dX5_rewind_6 (by decide) ?_
  refine hm_put (ws' := [oc5 h0 r_t t_count 0 (-1)]) cb_X5 hx hb hown X w 0 3 fl_X5_22 dX5_rewind_7 rfl (by decide) (Nat.le_of_ble_eq_true rfl) rfl rfl rfl rfl (fun H locs w => ?_)
  exact hQ _ _ _ _ (0, (-1)) (fun _ => 0) hf w dX5_rewind_10
set_option maxHeartbeats 8000000 in
set_option maxRecDepth 100000 in
theorem ct_X5_goesOn (l : Launch) (E : hm_E) (sz : Nat) (h0 : Nat) (r_t : Nat → Nat) (t_count t_at t_fault : Int32) (R : Int32 × Unit) (hf : pf_X5_goesOn t_count t_at t_fault = some R) : hm_Mi l E yX5_goesOn cX5_goesOn 1 .boolean [] (hm_rr 0 0 0 0) [.ref h0] sz [oc5 h0 r_t t_count t_at t_fault] R.1 (fun _ => [oc5 h0 r_t t_count t_at t_fault]) := by
  refine hm_ct_i R (fun u _ => [oc5 h0 r_t t_count t_at t_fault]) (by decide) (Nat.le_of_ble_eq_true rfl) (Or.inr rfl) ?_
  intro p e s m args below meth c A Q ls H locs hx hb hml hown X hA Y hex w hl hQ
  have hl : lv_has ls 1 [(0, .ref h0)] := hl
  unfold pf_X5_goesOn at hf
  refine lv_aload_n hx hb dX5_goesOn_0 rfl (lv_at hl 0 rfl) ?_
  refine hm_get cb_X5 hx hb hown X w 0 3 fl_X5_22 dX5_goesOn_1 rfl (by decide) rfl ?_
  refine lv_iconst (v := (-1)) hx hb dX5_goesOn_4 (by decide) ?_
  refine lv_icmp_ne (tgt := 23) hx hb dX5_goesOn_5 (by decide) (fun c5 => ?_) (fun c5 => ?_)
  · have hf := pf_e c5 hf
    refine lv_iconst (v := 0) hx hb dX5_goesOn_23 (by decide) ?_
    exact hQ _ _ _ _ _ () (fun _ => 0) hf rfl w dX5_goesOn_24
  · have hf := pf_t c5 hf
    refine lv_aload_n hx hb dX5_goesOn_8 rfl (lv_at hl 0 rfl) ?_
    refine hm_get cb_X5 hx hb hown X w 0 2 fl_X5_19 dX5_goesOn_9 rfl (by decide) rfl ?_
    refine lv_aload_n hx hb dX5_goesOn_12 rfl (lv_at hl 0 rfl) ?_
    refine hm_get cb_X5 hx hb hown X w 0 1 fl_X5_15 dX5_goesOn_13 rfl (by decide) rfl ?_
    refine lv_icmp_ge (tgt := 23) hx hb dX5_goesOn_16 (by decide) (fun c16 => ?_) (fun c16 => ?_)
    · have hf := pf_t c16 hf
      refine lv_iconst (v := 0) hx hb dX5_goesOn_23 (by decide) ?_
      exact hQ _ _ _ _ _ () (fun _ => 0) hf rfl w dX5_goesOn_24
    · have hf := pf_e c16 hf
      refine lv_iconst (v := 1) hx hb dX5_goesOn_19 (by decide) ?_
      refine lv_goto (tgt := 24) hx hb dX5_goesOn_20 (by decide) ?_
      exact hQ _ _ _ _ _ () (fun _ => 0) hf rfl w dX5_goesOn_24
set_option maxHeartbeats 8000000 in
set_option maxRecDepth 100000 in
theorem ct_X5_peek (l : Launch) (E : hm_E) (sz : Nat) (h0 : Nat) (r_t : Nat → Nat) (t_count t_at t_fault : Int32) (t_bytes : Nat → Int32) (R : Int32 × Unit) (hf : pf_X5_peek t_bytes t_count t_at = some R) : hm_Mi l E yX5_peek cX5_peek 1 .int [] (hm_rr 0 0 0 0) [.ref h0] sz [oc5 h0 r_t t_count t_at t_fault, ic E (r_t 0) 400 t_bytes] R.1 (fun _ => [oc5 h0 r_t t_count t_at t_fault, ic E (r_t 0) 400 t_bytes]) := by
  refine hm_ct_i R (fun u _ => [oc5 h0 r_t t_count t_at t_fault, ic E (r_t 0) 400 t_bytes]) (by decide) (Nat.le_of_ble_eq_true rfl) (Or.inl rfl) ?_
  intro p e s m args below meth c A Q ls H locs hx hb hml hown X hA Y hex w hl hQ
  have hl : lv_has ls 1 [(0, .ref h0)] := hl
  unfold pf_X5_peek at hf
  refine lv_aload_n hx hb dX5_peek_0 rfl (lv_at hl 0 rfl) ?_
  refine hm_get cb_X5 hx hb hown X w 0 2 fl_X5_19 dX5_peek_1 rfl (by decide) rfl ?_
  refine lv_if_lt (tgt := 30) hx hb dX5_peek_4 (by decide) (fun c4 => ?_) (fun c4 => ?_)
  · have hf := pf_t c4 hf
    refine lv_iconst (v := (-1)) hx hb dX5_peek_30 (by decide) ?_
    exact hQ _ _ _ _ _ () (fun _ => 0) hf rfl w dX5_peek_31
  · have hf := pf_e c4 hf
    refine lv_aload_n hx hb dX5_peek_7 rfl (lv_at hl 0 rfl) ?_
    refine hm_get cb_X5 hx hb hown X w 0 2 fl_X5_19 dX5_peek_8 rfl (by decide) rfl ?_
    refine lv_aload_n hx hb dX5_peek_11 rfl (lv_at hl 0 rfl) ?_
    refine hm_get cb_X5 hx hb hown X w 0 1 fl_X5_15 dX5_peek_12 rfl (by decide) rfl ?_
    refine lv_icmp_ge (tgt := 30) hx hb dX5_peek_15 (by decide) (fun c15 => ?_) (fun c15 => ?_)
    · have hf := pf_t c15 hf
      refine lv_iconst (v := (-1)) hx hb dX5_peek_30 (by decide) ?_
      exact hQ _ _ _ _ _ () (fun _ => 0) hf rfl w dX5_peek_31
    · have hf := pf_e c15 hf
      refine lv_aload_n hx hb dX5_peek_18 rfl (lv_at hl 0 rfl) ?_
      refine hm_get cb_X5 hx hb hown X w 0 0 fl_X5_9 dX5_peek_19 rfl (by decide) rfl ?_
      refine lv_aload_n hx hb dX5_peek_22 rfl (lv_at hl 0 rfl) ?_
      refine hm_get cb_X5 hx hb hown X w 0 2 fl_X5_19 dX5_peek_23 rfl (by decide) rfl ?_
      obtain ⟨g26, hf⟩ := pf_ckI hf
      refine hm_iald hx hb X w 1 dX5_peek_26 rfl g26 ?_
      refine lv_goto (tgt := 31) hx hb dX5_peek_27 (by decide) ?_
      exact hQ _ _ _ _ _ () (fun _ => 0) hf rfl w dX5_peek_31
set_option maxHeartbeats 8000000 in
set_option maxRecDepth 100000 in
theorem ct_X5_blame (l : Launch) (E : hm_E) (sz : Nat) (h0 : Nat) (r_t : Nat → Nat) (t_count t_at t_fault : Int32) (a1 : Int32) (R : Int32) (hf : pf_X5_blame a1 t_fault = some R) : hm_Mv l E yX5_blame cX5_blame 2 [] (hm_rr 0 0 0 0) [.ref h0, .int a1] sz [oc5 h0 r_t t_count t_at t_fault] (fun _ => [oc5 h0 r_t t_count t_at R]) := by
  refine hm_ct_v R (fun u _ => [oc5 h0 r_t t_count t_at u]) (by decide) (Nat.le_of_ble_eq_true rfl) ?_
  intro p e s m args below meth c A Q ls H locs hx hb hml hown X hA Y hex hin w hl hQ
  have hl : lv_has ls 2 [(0, .ref h0), (1, .int a1)] := hl
  unfold pf_X5_blame at hf
  refine lv_aload_n hx hb dX5_blame_0 rfl (lv_at hl 0 rfl) ?_
  refine hm_get cb_X5 hx hb hown X w 0 3 fl_X5_22 dX5_blame_1 rfl (by decide) rfl ?_
  refine lv_iconst (v := (-1)) hx hb dX5_blame_4 (by decide) ?_
  refine lv_icmp_ne (tgt := 13) hx hb dX5_blame_5 (by decide) (fun c5 => ?_) (fun c5 => ?_)
  · have hf := pf_e c5 hf
    exact hQ _ _ _ _ t_fault (fun _ => 0) hf w dX5_blame_13
  · have hf := pf_t c5 hf
    refine lv_aload_n hx hb dX5_blame_8 rfl (lv_at hl 0 rfl) ?_
    refine lv_iload_n hx hb dX5_blame_9 rfl (lv_at hl 1 rfl) ?_
    refine hm_put (ws' := [oc5 h0 r_t t_count t_at a1]) cb_X5 hx hb hown X w 0 3 fl_X5_22 dX5_blame_10 rfl (by decide) (Nat.le_of_ble_eq_true rfl) rfl rfl rfl rfl (fun H locs w => ?_)
    exact hQ _ _ _ _ a1 (fun _ => 0) hf w dX5_blame_13
set_option maxHeartbeats 8000000 in
set_option maxRecDepth 100000 in
theorem ct_X5_takes (l : Launch) (E : hm_E) (sz : Nat) (h0 : Nat) (r_t : Nat → Nat) (t_count t_at t_fault : Int32) (t_bytes : Nat → Int32) (a1 : Int32) (R : Int32 × Int32) (hf : pf_X5_takes a1 t_bytes t_count t_at t_fault = some R) : hm_Mi l E yX5_takes cX5_takes 2 .boolean [] (hm_rr 1 20 0 0) [.ref h0, .int a1] sz [oc5 h0 r_t t_count t_at t_fault, ic E (r_t 0) 400 t_bytes] R.1 (fun _ => [oc5 h0 r_t t_count R.2 t_fault, ic E (r_t 0) 400 t_bytes]) := by
  refine hm_ct_i R (fun u _ => [oc5 h0 r_t t_count u t_fault, ic E (r_t 0) 400 t_bytes]) (by decide) (Nat.le_of_ble_eq_true rfl) (Or.inr rfl) ?_
  intro p e s m args below meth c A Q ls H locs hx hb hml hown X hA Y hex w hl hQ
  have hl : lv_has ls 2 [(0, .ref h0), (1, .int a1)] := hl
  unfold pf_X5_takes at hf
  refine lv_aload_n hx hb dX5_takes_0 rfl (lv_at hl 0 rfl) ?_
  refine hm_get cb_X5 hx hb hown X w 0 3 fl_X5_22 dX5_takes_1 rfl (by decide) rfl ?_
  refine lv_iconst (v := (-1)) hx hb dX5_takes_4 (by decide) ?_
  refine lv_icmp_ne (tgt := 16) hx hb dX5_takes_5 (by decide) (fun c5 => ?_) (fun c5 => ?_)
  · have hf := pf_e c5 hf
    refine lv_iconst (v := 0) hx hb dX5_takes_16 (by decide) ?_
    exact hQ _ _ _ _ _ t_at (fun _ => 0) hf rfl w dX5_takes_17
  · have hf := pf_t c5 hf
    refine lv_aload_n hx hb dX5_takes_8 rfl (lv_at hl 0 rfl) ?_
    obtain ⟨r1, hc9, hf⟩ := pf_bi_0 hf
    refine hm_aft_i (ws' := fun _ => [oc5 h0 r_t t_count t_at t_fault, ic E (r_t 0) 400 t_bytes]) (hm_runV (rest := []) hx hb hml hown X hA Y w 0 (ci := 5) (T := TX5) (N := 4) rfl rfl mw_X5_peek ml_X5_25 dX5_takes_9 hm_ac0 [] rfl [0, 1] rfl rfl (ct_X5_peek l E H.size h0 r_t t_count t_at t_fault t_bytes (r1, ()) hc9) rfl hl.1 ⟨⟨rfl, rfl⟩, ⟨Nat.le_of_ble_eq_true rfl, Nat.le_of_ble_eq_true rfl⟩, ⟨Nat.le_of_ble_eq_true rfl, Nat.le_of_ble_eq_true rfl⟩, Nat.le_of_ble_eq_true rfl⟩) hA w [0, 1] [] [0, 1] rfl rfl (by decide) (fun _ => rfl) (fun _ H locs w => ?_)
    refine lv_iload_n hx hb dX5_takes_12 rfl (lv_at hl 1 rfl) ?_
    refine lv_icmp_eq (tgt := 18) hx hb dX5_takes_13 (by decide) (fun c13 => ?_) (fun c13 => ?_)
    · have hf := pf_t c13 hf
      refine lv_aload_n hx hb dX5_takes_18 rfl (lv_at hl 0 rfl) ?_
      refine lv_dup hx hb dX5_takes_19 rfl ?_
      refine hm_get cb_X5 hx hb hown X w 0 2 fl_X5_19 dX5_takes_20 rfl (by decide) rfl ?_
      refine lv_iconst (v := 1) hx hb dX5_takes_23 (by decide) ?_
      refine lv_iadd hx hb dX5_takes_24 ?_
      refine lv_topi (fun x2 ex2 => ?_)
      have hf := pf_nm ex2 hf
      refine hm_put (ws' := [oc5 h0 r_t t_count x2 t_fault, ic E (r_t 0) 400 t_bytes]) cb_X5 hx hb hown X w 0 2 fl_X5_19 dX5_takes_25 rfl (by decide) (Nat.le_of_ble_eq_true rfl) rfl rfl rfl rfl (fun H locs w => ?_)
      refine lv_iconst (v := 1) hx hb dX5_takes_28 (by decide) ?_
      exact hQ _ _ _ _ _ x2 (fun _ => 0) hf rfl w dX5_takes_29
    · have hf := pf_e c13 hf
      refine lv_iconst (v := 0) hx hb dX5_takes_16 (by decide) ?_
      exact hQ _ _ _ _ _ t_at (fun _ => 0) hf rfl w dX5_takes_17
set_option maxHeartbeats 8000000 in
set_option maxRecDepth 100000 in
theorem ct_X5_isAtDigit (l : Launch) (E : hm_E) (sz : Nat) (h0 : Nat) (r_t : Nat → Nat) (t_count t_at t_fault : Int32) (t_bytes : Nat → Int32) (R : Int32 × Unit) (hf : pf_X5_isAtDigit t_bytes t_count t_at = some R) : hm_Mi l E yX5_isAtDigit cX5_isAtDigit 1 .boolean [] (hm_rr 1 20 0 0) [.ref h0] sz [oc5 h0 r_t t_count t_at t_fault, ic E (r_t 0) 400 t_bytes] R.1 (fun _ => [oc5 h0 r_t t_count t_at t_fault, ic E (r_t 0) 400 t_bytes]) := by
  refine hm_ct_i R (fun u _ => [oc5 h0 r_t t_count t_at t_fault, ic E (r_t 0) 400 t_bytes]) (by decide) (Nat.le_of_ble_eq_true rfl) (Or.inr rfl) ?_
  intro p e s m args below meth c A Q ls H locs hx hb hml hown X hA Y hex w hl hQ
  have hl : lv_has ls 1 [(0, .ref h0)] := hl
  unfold pf_X5_isAtDigit at hf
  refine lv_aload_n hx hb dX5_isAtDigit_0 rfl (lv_at hl 0 rfl) ?_
  obtain ⟨r1, hc1, hf⟩ := pf_bi_0 hf
  refine hm_aft_i (ws' := fun _ => [oc5 h0 r_t t_count t_at t_fault, ic E (r_t 0) 400 t_bytes]) (hm_runV (rest := []) hx hb hml hown X hA Y w 0 (ci := 5) (T := TX5) (N := 4) rfl rfl mw_X5_peek ml_X5_25 dX5_isAtDigit_1 hm_ac0 [] rfl [0, 1] rfl rfl (ct_X5_peek l E H.size h0 r_t t_count t_at t_fault t_bytes (r1, ()) hc1) rfl hl.1 ⟨⟨rfl, rfl⟩, ⟨Nat.le_of_ble_eq_true rfl, Nat.le_of_ble_eq_true rfl⟩, ⟨Nat.le_of_ble_eq_true rfl, Nat.le_of_ble_eq_true rfl⟩, Nat.le_of_ble_eq_true rfl⟩) hA w [0, 1] [] [0, 1] rfl rfl (by decide) (fun _ => rfl) (fun _ H locs w => ?_)
  refine lv_bipush (v := 48) hx hb dX5_isAtDigit_4 (by decide) ?_
  refine lv_icmp_lt (tgt := 22) hx hb dX5_isAtDigit_6 (by decide) (fun c6 => ?_) (fun c6 => ?_)
  · have hf := pf_t c6 hf
    refine lv_iconst (v := 0) hx hb dX5_isAtDigit_22 (by decide) ?_
    exact hQ _ _ _ _ _ () (fun _ => 0) hf rfl w dX5_isAtDigit_23
  · have hf := pf_e c6 hf
    refine lv_aload_n hx hb dX5_isAtDigit_9 rfl (lv_at hl 0 rfl) ?_
    obtain ⟨r2, hc10, hf⟩ := pf_bi_0 hf
    refine hm_aft_i (ws' := fun _ => [oc5 h0 r_t t_count t_at t_fault, ic E (r_t 0) 400 t_bytes]) (hm_runV (rest := []) hx hb hml hown X hA Y w 0 (ci := 5) (T := TX5) (N := 4) rfl rfl mw_X5_peek ml_X5_25 dX5_isAtDigit_10 hm_ac0 [] rfl [0, 1] rfl rfl (ct_X5_peek l E H.size h0 r_t t_count t_at t_fault t_bytes (r2, ()) hc10) rfl hl.1 ⟨⟨rfl, rfl⟩, ⟨Nat.le_of_ble_eq_true rfl, Nat.le_of_ble_eq_true rfl⟩, ⟨Nat.le_of_ble_eq_true rfl, Nat.le_of_ble_eq_true rfl⟩, Nat.le_of_ble_eq_true rfl⟩) hA w [0, 1] [] [0, 1] rfl rfl (by decide) (fun _ => rfl) (fun _ H locs w => ?_)
    refine lv_bipush (v := 57) hx hb dX5_isAtDigit_13 (by decide) ?_
    refine lv_icmp_gt (tgt := 22) hx hb dX5_isAtDigit_15 (by decide) (fun c15 => ?_) (fun c15 => ?_)
    · have hf := pf_t c15 hf
      refine lv_iconst (v := 0) hx hb dX5_isAtDigit_22 (by decide) ?_
      exact hQ _ _ _ _ _ () (fun _ => 0) hf rfl w dX5_isAtDigit_23
    · have hf := pf_e c15 hf
      refine lv_iconst (v := 1) hx hb dX5_isAtDigit_18 (by decide) ?_
      refine lv_goto (tgt := 23) hx hb dX5_isAtDigit_19 (by decide) ?_
      exact hQ _ _ _ _ _ () (fun _ => 0) hf rfl w dX5_isAtDigit_23
set_option maxHeartbeats 8000000 in
set_option maxRecDepth 100000 in
theorem ct_X5_number (l : Launch) (E : hm_E) (sz : Nat) (h0 : Nat) (r_t : Nat → Nat) (t_count t_at t_fault : Int32) (t_bytes : Nat → Int32) (R : Int32 × Int32 × Int32) (hf : pf_X5_number t_bytes t_count t_at t_fault = some R) : hm_Mi l E yX5_number cX5_number 3 .int [] (hm_rr 2 40 0 0) [.ref h0] sz [oc5 h0 r_t t_count t_at t_fault, ic E (r_t 0) 400 t_bytes] R.1 (fun _ => [oc5 h0 r_t t_count (R.2.1) (R.2.2), ic E (r_t 0) 400 t_bytes]) := by
  refine hm_ct_i R (fun u _ => [oc5 h0 r_t t_count (u.1) (u.2), ic E (r_t 0) 400 t_bytes]) (by decide) (Nat.le_of_ble_eq_true rfl) (Or.inl rfl) ?_
  intro p e s m args below meth c A Q ls H locs hx hb hml hown X hA Y hex w hl hQ
  have hl : lv_has ls 3 [(0, .ref h0)] := hl
  unfold pf_X5_number at hf
  refine lv_aload_n hx hb dX5_number_0 rfl (lv_at hl 0 rfl) ?_
  obtain ⟨r1, hc1, hf⟩ := pf_bi_0 hf
  refine hm_aft_i (ws' := fun _ => [oc5 h0 r_t t_count t_at t_fault, ic E (r_t 0) 400 t_bytes]) (hm_runV (rest := []) hx hb hml hown X hA Y w 0 (ci := 5) (T := TX5) (N := 4) rfl rfl mw_X5_isAtDigit ml_X5_37 dX5_number_1 hm_ac0 [] rfl [0, 1] rfl rfl (ct_X5_isAtDigit l E H.size h0 r_t t_count t_at t_fault t_bytes (r1, ()) hc1) rfl hl.1 ⟨⟨rfl, rfl⟩, ⟨Nat.le_of_ble_eq_true rfl, Nat.le_of_ble_eq_true rfl⟩, ⟨Nat.le_of_ble_eq_true rfl, Nat.le_of_ble_eq_true rfl⟩, Nat.le_of_ble_eq_true rfl⟩) hA w [0, 1] [] [0, 1] rfl rfl (by decide) (fun _ => rfl) (fun _ H locs w => ?_)
  refine lv_if_ne (tgt := 17) hx hb dX5_number_4 (by decide) (fun c4 => ?_) (fun c4 => ?_)
  · have hf := pf_e c4 hf
    refine lv_iconst (v := 0) hx hb dX5_number_17 (by decide) ?_
    refine lv_istore_n (lv' := [(1, .int 0), (0, .ref h0)]) hx hb dX5_number_18 rfl hl (by decide) rfl (fun ls hl => ?_)
    refine lv_iconst (v := 0) hx hb dX5_number_19 (by decide) ?_
    refine lv_istore_n (lv' := [(2, .int 0), (1, .int 0), (0, .ref h0)]) hx hb dX5_number_20 rfl hl (by decide) rfl (fun ls hl => ?_)
    obtain ⟨J62, hJ62, hf⟩ := pf_jn hf
    have kJ62 : ∀ (x2 : Int32) (x3 : Int32) (H : Heap) (locs : List Loc) (ls : Array Slot), J62 x2 x3 = some R → hm_W E A s.heap [oc5 h0 r_t t_count x3 t_fault, ic E (r_t 0) 400 t_bytes] H locs → lv_has ls 3 [(0, .ref h0), (1, .int x2)] → W p l e (hm_rr 2 40 0 0) s m args below meth c H locs 0 0 Q (F0 m 62 ls []) := by
      intro x2 x3 H locs ls hf w hl
      have hf := pf_j2 hJ62 hf
      refine lv_aload_n hx hb dX5_number_62 rfl (lv_at hl 0 rfl) ?_
      obtain ⟨r4, hc63, hf⟩ := pf_bi_0 hf
      refine hm_aft_i (ws' := fun _ => [oc5 h0 r_t t_count x3 t_fault, ic E (r_t 0) 400 t_bytes]) (hm_runV (rest := []) hx hb hml hown X hA Y w 0 (ci := 5) (T := TX5) (N := 4) rfl rfl mw_X5_isAtDigit ml_X5_37 dX5_number_63 hm_ac0 [] rfl [0, 1] rfl rfl (ct_X5_isAtDigit l E H.size h0 r_t t_count x3 t_fault t_bytes (r4, ()) hc63) rfl hl.1 ⟨⟨rfl, rfl⟩, ⟨Nat.le_of_ble_eq_true rfl, Nat.le_of_ble_eq_true rfl⟩, ⟨Nat.le_of_ble_eq_true rfl, Nat.le_of_ble_eq_true rfl⟩, Nat.le_of_ble_eq_true rfl⟩) hA w [0, 1] [] [0, 1] rfl rfl (by decide) (fun _ => rfl) (fun _ H locs w => ?_)
      refine lv_if_eq (tgt := 77) hx hb dX5_number_66 (by decide) (fun c66 => ?_) (fun c66 => ?_)
      · have hf := pf_t c66 hf
        refine lv_iload_n hx hb dX5_number_77 rfl (lv_at hl 1 rfl) ?_
        exact hQ _ _ _ _ _ (x3, t_fault) (fun _ => 0) hf rfl w dX5_number_78
      · have hf := pf_e c66 hf
        refine lv_aload_n hx hb dX5_number_69 rfl (lv_at hl 0 rfl) ?_
        refine lv_aload_n hx hb dX5_number_70 rfl (lv_at hl 0 rfl) ?_
        refine hm_get cb_X5 hx hb hown X w 0 2 fl_X5_19 dX5_number_71 rfl (by decide) rfl ?_
        obtain ⟨x5, hc74, hf⟩ := pf_bv_1 hf
        refine hm_aft_v (ws' := fun _ => [oc5 h0 r_t t_count x3 x5, ic E (r_t 0) 400 t_bytes]) (hm_runV (rest := []) hx hb hml hown X hA Y w 0 (ci := 5) (T := TX5) (N := 4) rfl rfl mw_X5_blame ml_X5_33 dX5_number_74 hm_ac0 [.int x3] rfl [0] rfl rfl (ct_X5_blame l E H.size h0 r_t t_count x3 t_fault x3 x5 hc74) rfl hl.1 ⟨⟨rfl, rfl⟩, ⟨Nat.le_of_ble_eq_true rfl, Nat.le_of_ble_eq_true rfl⟩, ⟨Nat.le_of_ble_eq_true rfl, Nat.le_of_ble_eq_true rfl⟩, Nat.le_of_ble_eq_true rfl⟩) hA w [0] [1] [1, 0] rfl rfl (by decide) (fun _ => rfl) (fun _ H locs w => ?_)
        refine lv_iload_n hx hb dX5_number_77 rfl (lv_at hl 1 rfl) ?_
        exact hQ _ _ _ _ _ (x3, x5) (fun _ => 0) hf rfl w dX5_number_78
    have klp_X5_number_21 : ∀ (n : Nat) (x6 : Int32) (x7 : Int32) (x8 : Int32) (H : Heap) (locs : List Loc) (ls : Array Slot), lp_X5_number_21 t_count t_bytes J62 n x6 x7 x8 = some R → hm_W E A s.heap [oc5 h0 r_t t_count x8 t_fault, ic E (r_t 0) 400 t_bytes] H locs → lv_has ls 3 [(0, .ref h0), (1, .int x6), (2, .int x7)] → W p l e (hm_rr 2 40 0 0) s m args below meth c H locs 0 0 Q (F0 m 21 ls []) := by
      intro n
      induction n with
      | zero =>
        intro x6 x7 x8 H locs ls hf w hl
        exact pf_no hf
      | succ n ih21 =>
        intro x6 x7 x8 H locs ls hf w hl
        rw [lp_X5_number_21] at hf
        refine lv_iload_n hx hb dX5_number_21 rfl (lv_at hl 2 rfl) ?_
        refine lv_iconst (v := 4) hx hb dX5_number_22 (by decide) ?_
        refine lv_icmp_ge (tgt := 62) hx hb dX5_number_23 (by decide) (fun c23 => ?_) (fun c23 => ?_)
        · have hf := pf_t c23 hf
          exact kJ62 _ _ _ _ _ hf w (lv_sub hl [0, 1] rfl)
        · have hf := pf_e c23 hf
          refine lv_aload_n hx hb dX5_number_26 rfl (lv_at hl 0 rfl) ?_
          obtain ⟨r9, hc27, hf⟩ := pf_bi_0 hf
          refine hm_aft_i (ws' := fun _ => [oc5 h0 r_t t_count x8 t_fault, ic E (r_t 0) 400 t_bytes]) (hm_runV (rest := []) hx hb hml hown X hA Y w 0 (ci := 5) (T := TX5) (N := 4) rfl rfl mw_X5_isAtDigit ml_X5_37 dX5_number_27 hm_ac0 [] rfl [0, 1] rfl rfl (ct_X5_isAtDigit l E H.size h0 r_t t_count x8 t_fault t_bytes (r9, ()) hc27) rfl hl.1 ⟨⟨rfl, rfl⟩, ⟨Nat.le_of_ble_eq_true rfl, Nat.le_of_ble_eq_true rfl⟩, ⟨Nat.le_of_ble_eq_true rfl, Nat.le_of_ble_eq_true rfl⟩, Nat.le_of_ble_eq_true rfl⟩) hA w [0, 1] [] [0, 1] rfl rfl (by decide) (fun _ => rfl) (fun _ H locs w => ?_)
          refine lv_if_eq (tgt := 62) hx hb dX5_number_30 (by decide) (fun c30 => ?_) (fun c30 => ?_)
          · have hf := pf_t c30 hf
            exact kJ62 _ _ _ _ _ hf w (lv_sub hl [0, 1] rfl)
          · have hf := pf_e c30 hf
            refine lv_iload_n hx hb dX5_number_33 rfl (lv_at hl 1 rfl) ?_
            refine lv_bipush (v := 10) hx hb dX5_number_34 (by decide) ?_
            refine lv_imul hx hb dX5_number_36 ?_
            refine lv_aload_n hx hb dX5_number_37 rfl (lv_at hl 0 rfl) ?_
            obtain ⟨r10, hc38, hf⟩ := pf_bi_0 hf
            refine hm_aft_i (ws' := fun _ => [oc5 h0 r_t t_count x8 t_fault, ic E (r_t 0) 400 t_bytes]) (hm_runV (rest := [.int (x6 * 10)]) hx hb hml hown X hA Y w 0 (ci := 5) (T := TX5) (N := 4) rfl rfl mw_X5_peek ml_X5_25 dX5_number_38 hm_ac0 [] rfl [0, 1] rfl rfl (ct_X5_peek l E H.size h0 r_t t_count x8 t_fault t_bytes (r10, ()) hc38) rfl hl.1 ⟨⟨rfl, rfl⟩, ⟨Nat.le_of_ble_eq_true rfl, Nat.le_of_ble_eq_true rfl⟩, ⟨Nat.le_of_ble_eq_true rfl, Nat.le_of_ble_eq_true rfl⟩, Nat.le_of_ble_eq_true rfl⟩) hA w [0, 1] [] [0, 1] rfl rfl (by decide) (fun _ => rfl) (fun _ H locs w => ?_)
            refine lv_iadd hx hb dX5_number_41 ?_
            refine lv_bipush (v := 48) hx hb dX5_number_42 (by decide) ?_
            refine lv_isub hx hb dX5_number_44 ?_
            refine lv_topi (fun x11 ex11 => ?_)
            have hf := pf_nm ex11 hf
            refine lv_istore_n (lv' := [(1, .int x11), (0, .ref h0), (2, .int x7)]) hx hb dX5_number_45 rfl hl (by decide) rfl (fun ls hl => ?_)
            refine lv_aload_n hx hb dX5_number_46 rfl (lv_at hl 1 rfl) ?_
            refine lv_dup hx hb dX5_number_47 rfl ?_
            refine hm_get cb_X5 hx hb hown X w 0 2 fl_X5_19 dX5_number_48 rfl (by decide) rfl ?_
            refine lv_iconst (v := 1) hx hb dX5_number_51 (by decide) ?_
            refine lv_iadd hx hb dX5_number_52 ?_
            refine lv_topi (fun x12 ex12 => ?_)
            have hf := pf_nm ex12 hf
            refine hm_put (ws' := [oc5 h0 r_t t_count x12 t_fault, ic E (r_t 0) 400 t_bytes]) cb_X5 hx hb hown X w 0 2 fl_X5_19 dX5_number_53 rfl (by decide) (Nat.le_of_ble_eq_true rfl) rfl rfl rfl rfl (fun H locs w => ?_)
            obtain ⟨x13, ex13⟩ : ∃ y : Int32, y = (x7 + 1) := ⟨_, rfl⟩
            have hf := pf_nm ex13 hf
            refine lv_iinc (v := x13) (lv' := [(2, .int x13), (1, .int x11), (0, .ref h0)]) hx hb dX5_number_56 hl (k := 2) rfl (by rw [ex13]; rfl) (by decide) rfl (fun ls hl => ?_)
            refine lv_goto (tgt := 21) hx hb dX5_number_59 (by decide) ?_
            exact ih21 _ _ _ _ _ _ hf w (lv_sub hl [2, 1, 0] rfl)
    exact klp_X5_number_21 FU _ _ _ _ _ _ hf w (lv_sub hl [2, 1, 0] rfl)
  · have hf := pf_t c4 hf
    refine lv_aload_n hx hb dX5_number_7 rfl (lv_at hl 0 rfl) ?_
    refine lv_aload_n hx hb dX5_number_8 rfl (lv_at hl 0 rfl) ?_
    refine hm_get cb_X5 hx hb hown X w 0 2 fl_X5_19 dX5_number_9 rfl (by decide) rfl ?_
    obtain ⟨x14, hc12, hf⟩ := pf_bv_1 hf
    refine hm_aft_v (ws' := fun _ => [oc5 h0 r_t t_count t_at x14, ic E (r_t 0) 400 t_bytes]) (hm_runV (rest := []) hx hb hml hown X hA Y w 0 (ci := 5) (T := TX5) (N := 4) rfl rfl mw_X5_blame ml_X5_33 dX5_number_12 hm_ac0 [.int t_at] rfl [0] rfl rfl (ct_X5_blame l E H.size h0 r_t t_count t_at t_fault t_at x14 hc12) rfl hl.1 ⟨⟨rfl, rfl⟩, ⟨Nat.le_of_ble_eq_true rfl, Nat.le_of_ble_eq_true rfl⟩, ⟨Nat.le_of_ble_eq_true rfl, Nat.le_of_ble_eq_true rfl⟩, Nat.le_of_ble_eq_true rfl⟩) hA w [0] [1] [1, 0] rfl rfl (by decide) (fun _ => rfl) (fun _ H locs w => ?_)
    refine lv_iconst (v := 0) hx hb dX5_number_15 (by decide) ?_
    exact hQ _ _ _ _ _ (t_at, x14) (fun _ => 0) hf rfl w dX5_number_16
set_option maxHeartbeats 8000000 in
set_option maxRecDepth 100000 in
theorem ct_X5_signedNumber (l : Launch) (E : hm_E) (sz : Nat) (h0 : Nat) (r_t : Nat → Nat) (t_count t_at t_fault : Int32) (t_bytes : Nat → Int32) (R : Int32 × Int32 × Int32) (hf : pf_X5_signedNumber t_bytes t_count t_at t_fault = some R) : hm_Mi l E yX5_signedNumber cX5_signedNumber 3 .int [] (hm_rr 3 62 0 0) [.ref h0] sz [oc5 h0 r_t t_count t_at t_fault, ic E (r_t 0) 400 t_bytes] R.1 (fun _ => [oc5 h0 r_t t_count (R.2.1) (R.2.2), ic E (r_t 0) 400 t_bytes]) := by
  refine hm_ct_i R (fun u _ => [oc5 h0 r_t t_count (u.1) (u.2), ic E (r_t 0) 400 t_bytes]) (by decide) (Nat.le_of_ble_eq_true rfl) (Or.inl rfl) ?_
  intro p e s m args below meth c A Q ls H locs hx hb hml hown X hA Y hex w hl hQ
  have hl : lv_has ls 3 [(0, .ref h0)] := hl
  unfold pf_X5_signedNumber at hf
  refine lv_aload_n hx hb dX5_signedNumber_0 rfl (lv_at hl 0 rfl) ?_
  refine lv_bipush (v := 45) hx hb dX5_signedNumber_1 (by decide) ?_
  obtain ⟨r1, x2, hc3, hf⟩ := pf_bi_1 hf
  refine hm_aft_i (ws' := fun _ => [oc5 h0 r_t t_count x2 t_fault, ic E (r_t 0) 400 t_bytes]) (hm_runV (rest := []) hx hb hml hown X hA Y w 0 (ci := 5) (T := TX5) (N := 4) rfl rfl mw_X5_takes ml_X5_29 dX5_signedNumber_3 hm_ac0 [.int 45] rfl [0, 1] rfl rfl (ct_X5_takes l E H.size h0 r_t t_count t_at t_fault t_bytes 45 (r1, x2) hc3) rfl hl.1 ⟨⟨rfl, rfl⟩, ⟨Nat.le_of_ble_eq_true rfl, Nat.le_of_ble_eq_true rfl⟩, ⟨Nat.le_of_ble_eq_true rfl, Nat.le_of_ble_eq_true rfl⟩, Nat.le_of_ble_eq_true rfl⟩) hA w [0, 1] [] [0, 1] rfl rfl (by decide) (fun _ => rfl) (fun _ H locs w => ?_)
  refine lv_istore_n (lv' := [(1, .int r1), (0, .ref h0)]) hx hb dX5_signedNumber_6 rfl hl (by decide) rfl (fun ls hl => ?_)
  refine lv_aload_n hx hb dX5_signedNumber_7 rfl (lv_at hl 1 rfl) ?_
  obtain ⟨r3, x4, x5, hc8, hf⟩ := pf_bi_2 hf
  refine hm_aft_i (ws' := fun _ => [oc5 h0 r_t t_count x4 x5, ic E (r_t 0) 400 t_bytes]) (hm_runV (rest := []) hx hb hml hown X hA Y w 0 (ci := 5) (T := TX5) (N := 4) rfl rfl mw_X5_number ml_X5_41 dX5_signedNumber_8 hm_ac0 [] rfl [0, 1] rfl rfl (ct_X5_number l E H.size h0 r_t t_count x2 t_fault t_bytes (r3, x4, x5) hc8) rfl hl.1 ⟨⟨rfl, rfl⟩, ⟨Nat.le_of_ble_eq_true rfl, Nat.le_of_ble_eq_true rfl⟩, ⟨Nat.le_of_ble_eq_true rfl, Nat.le_of_ble_eq_true rfl⟩, Nat.le_of_ble_eq_true rfl⟩) hA w [0, 1] [] [0, 1] rfl rfl (by decide) (fun _ => rfl) (fun _ H locs w => ?_)
  refine lv_istore_n (lv' := [(2, .int r3), (1, .int r1), (0, .ref h0)]) hx hb dX5_signedNumber_11 rfl hl (by decide) rfl (fun ls hl => ?_)
  refine lv_iload_n hx hb dX5_signedNumber_12 rfl (lv_at hl 1 rfl) ?_
  refine lv_if_eq (tgt := 21) hx hb dX5_signedNumber_13 (by decide) (fun c13 => ?_) (fun c13 => ?_)
  · have hf := pf_t c13 hf
    refine lv_iload_n hx hb dX5_signedNumber_21 rfl (lv_at hl 0 rfl) ?_
    exact hQ _ _ _ _ _ (x4, x5) (fun _ => 0) hf rfl w dX5_signedNumber_22
  · have hf := pf_e c13 hf
    refine lv_iload_n hx hb dX5_signedNumber_16 rfl (lv_at hl 0 rfl) ?_
    refine lv_ineg hx hb dX5_signedNumber_17 ?_
    refine lv_goto (tgt := 22) hx hb dX5_signedNumber_18 (by decide) ?_
    exact hQ _ _ _ _ _ (x4, x5) (fun _ => 0) hf rfl w dX5_signedNumber_22
set_option maxHeartbeats 8000000 in
set_option maxRecDepth 100000 in
theorem ct_X5_needs (l : Launch) (E : hm_E) (sz : Nat) (h0 : Nat) (r_t : Nat → Nat) (t_count t_at t_fault : Int32) (t_bytes : Nat → Int32) (a1 : Int32) (R : Int32 × Int32) (hf : pf_X5_needs a1 t_bytes t_count t_at t_fault = some R) : hm_Mv l E yX5_needs cX5_needs 2 [] (hm_rr 2 41 0 0) [.ref h0, .int a1] sz [oc5 h0 r_t t_count t_at t_fault, ic E (r_t 0) 400 t_bytes] (fun _ => [oc5 h0 r_t t_count (R.1) (R.2), ic E (r_t 0) 400 t_bytes]) := by
  refine hm_ct_v R (fun u _ => [oc5 h0 r_t t_count (u.1) (u.2), ic E (r_t 0) 400 t_bytes]) (by decide) (Nat.le_of_ble_eq_true rfl) ?_
  intro p e s m args below meth c A Q ls H locs hx hb hml hown X hA Y hex hin w hl hQ
  have hl : lv_has ls 2 [(0, .ref h0), (1, .int a1)] := hl
  unfold pf_X5_needs at hf
  refine lv_aload_n hx hb dX5_needs_0 rfl (lv_at hl 0 rfl) ?_
  refine lv_iload_n hx hb dX5_needs_1 rfl (lv_at hl 1 rfl) ?_
  obtain ⟨r1, x2, hc2, hf⟩ := pf_bi_1 hf
  refine hm_aft_i (ws' := fun _ => [oc5 h0 r_t t_count x2 t_fault, ic E (r_t 0) 400 t_bytes]) (hm_runV (rest := []) hx hb hml hown X hA Y w 0 (ci := 5) (T := TX5) (N := 4) rfl rfl mw_X5_takes ml_X5_29 dX5_needs_2 hm_ac0 [.int a1] rfl [0, 1] rfl rfl (ct_X5_takes l E H.size h0 r_t t_count t_at t_fault t_bytes a1 (r1, x2) hc2) rfl hl.1 ⟨⟨rfl, rfl⟩, ⟨Nat.le_of_ble_eq_true rfl, Nat.le_of_ble_eq_true rfl⟩, ⟨Nat.le_of_ble_eq_true rfl, Nat.le_of_ble_eq_true rfl⟩, Nat.le_of_ble_eq_true rfl⟩) hA w [0, 1] [] [0, 1] rfl rfl (by decide) (fun _ => rfl) (fun _ H locs w => ?_)
  refine lv_if_ne (tgt := 16) hx hb dX5_needs_5 (by decide) (fun c5 => ?_) (fun c5 => ?_)
  · have hf := pf_e c5 hf
    exact hQ _ _ _ _ (x2, t_fault) (fun _ => 0) hf w dX5_needs_16
  · have hf := pf_t c5 hf
    refine lv_aload_n hx hb dX5_needs_8 rfl (lv_at hl 0 rfl) ?_
    refine lv_aload_n hx hb dX5_needs_9 rfl (lv_at hl 0 rfl) ?_
    refine hm_get cb_X5 hx hb hown X w 0 2 fl_X5_19 dX5_needs_10 rfl (by decide) rfl ?_
    obtain ⟨x3, hc13, hf⟩ := pf_bv_1 hf
    refine hm_aft_v (ws' := fun _ => [oc5 h0 r_t t_count x2 x3, ic E (r_t 0) 400 t_bytes]) (hm_runV (rest := []) hx hb hml hown X hA Y w 0 (ci := 5) (T := TX5) (N := 4) rfl rfl mw_X5_blame ml_X5_33 dX5_needs_13 hm_ac0 [.int x2] rfl [0] rfl rfl (ct_X5_blame l E H.size h0 r_t t_count x2 t_fault x2 x3 hc13) rfl hl.1 ⟨⟨rfl, rfl⟩, ⟨Nat.le_of_ble_eq_true rfl, Nat.le_of_ble_eq_true rfl⟩, ⟨Nat.le_of_ble_eq_true rfl, Nat.le_of_ble_eq_true rfl⟩, Nat.le_of_ble_eq_true rfl⟩) hA w [0] [1] [1, 0] rfl rfl (by decide) (fun _ => rfl) (fun _ H locs w => ?_)
    exact hQ _ _ _ _ (x2, x3) (fun _ => 0) hf w dX5_needs_16
set_option maxHeartbeats 8000000 in
set_option maxRecDepth 100000 in
theorem ct_X5_append (l : Launch) (E : hm_E) (sz : Nat) (h0 : Nat) (r_t : Nat → Nat) (t_count t_at t_fault : Int32) (t_bytes : Nat → Int32) (a1 : Int32) (R : (Nat → Int32) × Int32) (hf : pf_X5_append a1 t_bytes t_count = some R) : hm_Mv l E yX5_append cX5_append 3 [] (hm_rr 0 0 0 0) [.ref h0, .int a1] sz [oc5 h0 r_t t_count t_at t_fault, ic E (r_t 0) 400 t_bytes] (fun _ => [oc5 h0 r_t (R.2) t_at t_fault, ic E (r_t 0) 400 (R.1)]) := by
  refine hm_ct_v R (fun u _ => [oc5 h0 r_t (u.2) t_at t_fault, ic E (r_t 0) 400 (u.1)]) (by decide) (Nat.le_of_ble_eq_true rfl) ?_
  intro p e s m args below meth c A Q ls H locs hx hb hml hown X hA Y hex hin w hl hQ
  have hl : lv_has ls 3 [(0, .ref h0), (1, .int a1)] := hl
  unfold pf_X5_append at hf
  refine lv_bipush (v := 24) hx hb dX5_append_0 (by decide) ?_
  refine lv_istore_n (lv' := [(2, .int 24), (0, .ref h0), (1, .int a1)]) hx hb dX5_append_2 rfl hl (by decide) rfl (fun ls hl => ?_)
  have klp_X5_append_3 : ∀ (n : Nat) (x1 : Int32) (f2 : Nat → Int32) (x3 : Int32) (H : Heap) (locs : List Loc) (ls : Array Slot), lp_X5_append_3 a1 n x1 f2 x3 = some R → hm_W E A s.heap [oc5 h0 r_t x3 t_at t_fault, ic E (r_t 0) 400 f2] H locs → lv_has ls 3 [(0, .ref h0), (1, .int a1), (2, .int x1)] → W p l e (hm_rr 0 0 0 0) s m args below meth c H locs 0 0 Q (F0 m 3 ls []) := by
    intro n
    induction n with
    | zero =>
      intro x1 f2 x3 H locs ls hf w hl
      exact pf_no hf
    | succ n ih3 =>
      intro x1 f2 x3 H locs ls hf w hl
      rw [lp_X5_append_3] at hf
      refine lv_iload_n hx hb dX5_append_3 rfl (lv_at hl 2 rfl) ?_
      refine lv_if_lt (tgt := 51) hx hb dX5_append_4 (by decide) (fun c4 => ?_) (fun c4 => ?_)
      · have hf := pf_t c4 hf
        exact hQ _ _ _ _ (f2, x3) (fun _ => 0) hf w dX5_append_51
      · have hf := pf_e c4 hf
        refine lv_aload_n hx hb dX5_append_7 rfl (lv_at hl 0 rfl) ?_
        refine hm_get cb_X5 hx hb hown X w 0 1 fl_X5_15 dX5_append_8 rfl (by decide) rfl ?_
        refine lv_aload_n hx hb dX5_append_11 rfl (lv_at hl 0 rfl) ?_
        refine hm_get cb_X5 hx hb hown X w 0 0 fl_X5_9 dX5_append_12 rfl (by decide) rfl ?_
        refine va_alen (v := 400) hx hb X.1 w.1 1 0 rfl rfl rfl dX5_append_15 ?_
        refine lv_icmp_ge (tgt := 45) hx hb dX5_append_16 (by decide) (fun c16 => ?_) (fun c16 => ?_)
        · have hf := pf_t c16 hf
          obtain ⟨x4, ex4⟩ : ∃ y : Int32, y = (x1 + (-8)) := ⟨_, rfl⟩
          have hf := pf_nm ex4 hf
          refine lv_iinc (v := x4) (lv' := [(2, .int x4), (0, .ref h0), (1, .int a1)]) hx hb dX5_append_45 hl (k := 2) rfl (by rw [ex4]; rfl) (by decide) rfl (fun ls hl => ?_)
          refine lv_goto (tgt := 3) hx hb dX5_append_48 (by decide) ?_
          exact ih3 _ _ _ _ _ _ hf w (lv_sub hl [1, 2, 0] rfl)
        · have hf := pf_e c16 hf
          refine lv_aload_n hx hb dX5_append_19 rfl (lv_at hl 0 rfl) ?_
          refine hm_get cb_X5 hx hb hown X w 0 0 fl_X5_9 dX5_append_20 rfl (by decide) rfl ?_
          refine lv_aload_n hx hb dX5_append_23 rfl (lv_at hl 0 rfl) ?_
          refine hm_get cb_X5 hx hb hown X w 0 1 fl_X5_15 dX5_append_24 rfl (by decide) rfl ?_
          refine lv_iload_n hx hb dX5_append_27 rfl (lv_at hl 1 rfl) ?_
          refine lv_iload_n hx hb dX5_append_28 rfl (lv_at hl 2 rfl) ?_
          refine lv_iushr (v := ((a1).toUInt32 >>> ((x1 : Int32).toUInt32 &&& Int32.toUInt32 31)).toInt32) hx hb dX5_append_29 rfl ?_
          refine lv_sipush (v := 255) hx hb dX5_append_30 (by decide) ?_
          refine lv_iand hx hb dX5_append_33 ?_
          refine lv_topi (fun x5 ex5 => ?_)
          have hf := pf_nm ex5 hf
          obtain ⟨g34, hf⟩ := pf_ckI hf
          refine hm_iast (ws' := [oc5 h0 r_t x3 t_at t_fault, ic E (r_t 0) 400 (upd f2 x3.toNatClampNeg x5)]) hx hb X w 1 dX5_append_34 rfl g34 rfl (fun H locs w => ?_)
          refine lv_aload_n hx hb dX5_append_35 rfl (lv_at hl 0 rfl) ?_
          refine lv_dup hx hb dX5_append_36 rfl ?_
          refine hm_get cb_X5 hx hb hown X w 0 1 fl_X5_15 dX5_append_37 rfl (by decide) rfl ?_
          refine lv_iconst (v := 1) hx hb dX5_append_40 (by decide) ?_
          refine lv_iadd hx hb dX5_append_41 ?_
          refine lv_topi (fun x6 ex6 => ?_)
          have hf := pf_nm ex6 hf
          refine hm_put (ws' := [oc5 h0 r_t x6 t_at t_fault, ic E (r_t 0) 400 (upd f2 x3.toNatClampNeg x5)]) cb_X5 hx hb hown X w 0 1 fl_X5_15 dX5_append_42 rfl (by decide) (Nat.le_of_ble_eq_true rfl) rfl rfl rfl rfl (fun H locs w => ?_)
          obtain ⟨x7, ex7⟩ : ∃ y : Int32, y = (x1 + (-8)) := ⟨_, rfl⟩
          have hf := pf_nm ex7 hf
          refine lv_iinc (v := x7) (lv' := [(2, .int x7), (0, .ref h0), (1, .int a1)]) hx hb dX5_append_45 hl (k := 2) rfl (by rw [ex7]; rfl) (by decide) rfl (fun ls hl => ?_)
          refine lv_goto (tgt := 3) hx hb dX5_append_48 (by decide) ?_
          exact ih3 _ _ _ _ _ _ hf w (lv_sub hl [1, 2, 0] rfl)
  exact klp_X5_append_3 FU _ _ _ _ _ _ hf w (lv_sub hl [1, 2, 0] rfl)
set_option maxHeartbeats 8000000 in
set_option maxRecDepth 100000 in
theorem ct_X5_holds (l : Launch) (E : hm_E) (sz : Nat) (h0 : Nat) (r_t : Nat → Nat) (t_count t_at t_fault : Int32) (a1 : Int32) (a2 : Int32) (R : Int32 × Int32) (hf : pf_X5_holds a1 a2 t_fault = some R) : hm_Mi l E yX5_holds cX5_holds 3 .boolean [] (hm_rr 1 21 0 0) [.ref h0, .int a1, .int a2] sz [oc5 h0 r_t t_count t_at t_fault] R.1 (fun _ => [oc5 h0 r_t t_count t_at R.2]) := by
  refine hm_ct_i R (fun u _ => [oc5 h0 r_t t_count t_at u]) (by decide) (Nat.le_of_ble_eq_true rfl) (Or.inr rfl) ?_
  intro p e s m args below meth c A Q ls H locs hx hb hml hown X hA Y hex w hl hQ
  have hl : lv_has ls 3 [(0, .ref h0), (1, .int a1), (2, .int a2)] := hl
  unfold pf_X5_holds at hf
  refine lv_iload_n hx hb dX5_holds_0 rfl (lv_at hl 1 rfl) ?_
  obtain ⟨J9, hJ9, hf⟩ := pf_jn hf
  have kJ9 : ∀ (x1 : Int32) (H : Heap) (locs : List Loc) (ls : Array Slot), J9 x1 = some R → hm_W E A s.heap [oc5 h0 r_t t_count t_at x1] H locs → lv_has ls 3 [(0, .ref h0)] → W p l e (hm_rr 1 21 0 0) s m args below meth c H locs 0 0 Q (F0 m 9 ls []) := by
    intro x1 H locs ls hf w hl
    have hf := pf_j1 hJ9 hf
    refine lv_aload_n hx hb dX5_holds_9 rfl (lv_at hl 0 rfl) ?_
    refine hm_get cb_X5 hx hb hown X w 0 3 fl_X5_22 dX5_holds_10 rfl (by decide) rfl ?_
    refine lv_iconst (v := (-1)) hx hb dX5_holds_13 (by decide) ?_
    refine lv_icmp_ne (tgt := 21) hx hb dX5_holds_14 (by decide) (fun c14 => ?_) (fun c14 => ?_)
    · have hf := pf_e c14 hf
      refine lv_iconst (v := 0) hx hb dX5_holds_21 (by decide) ?_
      exact hQ _ _ _ _ _ x1 (fun _ => 0) hf rfl w dX5_holds_22
    · have hf := pf_t c14 hf
      refine lv_iconst (v := 1) hx hb dX5_holds_17 (by decide) ?_
      refine lv_goto (tgt := 22) hx hb dX5_holds_18 (by decide) ?_
      exact hQ _ _ _ _ _ x1 (fun _ => 0) hf rfl w dX5_holds_22
  refine lv_if_ne (tgt := 9) hx hb dX5_holds_1 (by decide) (fun c1 => ?_) (fun c1 => ?_)
  · have hf := pf_e c1 hf
    exact kJ9 _ _ _ _ hf w (lv_sub hl [0] rfl)
  · have hf := pf_t c1 hf
    refine lv_aload_n hx hb dX5_holds_4 rfl (lv_at hl 0 rfl) ?_
    refine lv_iload_n hx hb dX5_holds_5 rfl (lv_at hl 2 rfl) ?_
    obtain ⟨x2, hc6, hf⟩ := pf_bv_1 hf
    refine hm_aft_v (ws' := fun _ => [oc5 h0 r_t t_count t_at x2]) (hm_runV (rest := []) hx hb hml hown X hA Y w 0 (ci := 5) (T := TX5) (N := 4) rfl rfl mw_X5_blame ml_X5_33 dX5_holds_6 hm_ac0 [.int a2] rfl [0] rfl rfl (ct_X5_blame l E H.size h0 r_t t_count t_at t_fault a2 x2 hc6) rfl hl.1 ⟨⟨rfl, rfl⟩, ⟨Nat.le_of_ble_eq_true rfl, Nat.le_of_ble_eq_true rfl⟩, ⟨Nat.le_of_ble_eq_true rfl, Nat.le_of_ble_eq_true rfl⟩, Nat.le_of_ble_eq_true rfl⟩) hA w [0] [] [0] rfl rfl (by decide) (fun _ => rfl) (fun _ H locs w => ?_)
    exact kJ9 _ _ _ _ hf w (lv_sub hl [0] rfl)