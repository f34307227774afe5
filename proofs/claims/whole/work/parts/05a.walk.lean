set_option maxHeartbeats 8000000 in
set_option maxRecDepth 100000 in
theorem ct_X5_append (l : Launch) (E : hm_E) (sz : Nat) (h0 : Nat) (r_t : Nat → Nat) (t_count t_at t_fault : Int32) (t_bytes : Nat → Int32) (a1 : Int32) (R : (Nat → Int32) × Int32) (hf : pf_X5_append a1 t_bytes t_count = some R) : hm_Mv l E yX5_append cX5_append 3 [] (hm_rr 0 0 0 0) [.ref h0, .int a1] sz [oc5 h0 r_t t_count t_at t_fault, ic E (r_t 0) 400 t_bytes] (fun _ => [oc5 h0 r_t (R.2) t_at t_fault, ic E (r_t 0) 400 (R.1)]) := by
  refine hm_ct_v R (fun u _ => [oc5 h0 r_t (u.2) t_at t_fault, ic E (r_t 0) 400 (u.1)]) (by decide) (Nat.le_of_ble_eq_true rfl) ?_
  intro p e s m args below meth c A Q ls H locs hx hb hml hown X hA Y hex hin w hl hQ
  have hl : lv_has ls 3 [(0, .ref h0), (1, .int a1)] := hl
  unfold pf_X5_append at hf
  refine lv_bipush (v := 24) hx hb dX5_append_0 (by decide) ?_
  refine lv_istore_n (lv' := [(2, .int 24), (0, .ref h0), (1, .int a1)]) hx hb dX5_append_2 rfl hl (by decide) rfl (fun ls hl => ?_)
  have klp_X5_append_3 : ∀ (n : Nat) (x1 : Int32) (f2 : Nat → Int32) (x3 : Int32) (H : Heap) (locs : List Loc) (ls : Array Slot), lp_X5_append_3 a1 n x1 f2 x3 = some R → hm_W E A s.heap [oc5 h0 r_t x3 t_at t_fault, ic E (r_t 0) 400 f2] H locs → lv_has ls 3 [(0, .ref h0), (1, .int a1), (2, .int x1)] → W p l e (hm_rr 0 0 0 0) s m args below meth c H locs 0 0 Q (F0 m 3 ls []) := by
    intro n
    induction n with
    | zero =>
      intro x1 f2 x3 H locs ls hf w hl
      exact pf_no hf
    | succ n ih3 =>
      intro x1 f2 x3 H locs ls hf w hl
      rw [lp_X5_append_3] at hf
      refine lv_iload_n hx hb dX5_append_3 rfl (lv_at hl 2 rfl) ?_
      refine lv_if_lt (tgt := 51) hx hb dX5_append_4 (by decide) (fun c4 => ?_) (fun c4 => ?_)
      · have hf := pf_t c4 hf
        exact hQ _ _ _ _ (f2, x3) (fun _ => 0) hf w dX5_append_51
      · have hf := pf_e c4 hf
        refine lv_aload_n hx hb dX5_append_7 rfl (lv_at hl 0 rfl) ?_
        refine hm_get cb_X5 hx hb hown X w 0 1 fl_X5_15 dX5_append_8 rfl (by decide) rfl ?_
        refine lv_aload_n hx hb dX5_append_11 rfl (lv_at hl 0 rfl) ?_
        refine hm_get cb_X5 hx hb hown X w 0 0 fl_X5_9 dX5_append_12 rfl (by decide) rfl ?_
        refine va_alen (v := 400) hx hb X.1 w.1 1 0 rfl rfl rfl dX5_append_15 ?_
        refine lv_icmp_ge (tgt := 45) hx hb dX5_append_16 (by decide) (fun c16 => ?_) (fun c16 => ?_)
        · have hf := pf_t c16 hf
          obtain ⟨x4, ex4⟩ : ∃ y : Int32, y = (x1 + (-8)) := ⟨_, rfl⟩
          have hf := pf_nm ex4 hf
          refine lv_iinc (v := x4) (lv' := [(2, .int x4), (0, .ref h0), (1, .int a1)]) hx hb dX5_append_45 hl (k := 2) rfl (by rw [ex4]; rfl) (by decide) rfl (fun ls hl => ?_)
          refine lv_goto (tgt := 3) hx hb dX5_append_48 (by decide) ?_
          exact ih3 _ _ _ _ _ _ hf w (lv_sub hl [1, 2, 0] rfl)
        · have hf := pf_e c16 hf
          refine lv_aload_n hx hb dX5_append_19 rfl (lv_at hl 0 rfl) ?_
          refine hm_get cb_X5 hx hb hown X w 0 0 fl_X5_9 dX5_append_20 rfl (by decide) rfl ?_
          refine lv_aload_n hx hb dX5_append_23 rfl (lv_at hl 0 rfl) ?_
          refine hm_get cb_X5 hx hb hown X w 0 1 fl_X5_15 dX5_append_24 rfl (by decide) rfl ?_
          refine lv_iload_n hx hb dX5_append_27 rfl (lv_at hl 1 rfl) ?_
          refine lv_iload_n hx hb dX5_append_28 rfl (lv_at hl 2 rfl) ?_
          refine lv_iushr (v := ((a1).toUInt32 >>> ((x1 : Int32).toUInt32 &&& Int32.toUInt32 31)).toInt32) hx hb dX5_append_29 rfl ?_
          refine lv_sipush (v := 255) hx hb dX5_append_30 (by decide) ?_
          refine lv_iand hx hb dX5_append_33 ?_
          refine lv_topi (fun x5 ex5 => ?_)
          have hf := pf_nm ex5 hf
          obtain ⟨g34, hf⟩ := pf_ckI hf
          refine hm_iast (ws' := [oc5 h0 r_t x3 t_at t_fault, ic E (r_t 0) 400 (upd f2 x3.toNatClampNeg x5)]) hx hb X w 1 dX5_append_34 rfl g34 rfl (fun H locs w => ?_)
          refine lv_aload_n hx hb dX5_append_35 rfl (lv_at hl 0 rfl) ?_
          refine lv_dup hx hb dX5_append_36 rfl ?_
          refine hm_get cb_X5 hx hb hown X w 0 1 fl_X5_15 dX5_append_37 rfl (by decide) rfl ?_
          refine lv_iconst (v := 1) hx hb dX5_append_40 (by decide) ?_
          refine lv_iadd hx hb dX5_append_41 ?_
          refine lv_topi (fun x6 ex6 => ?_)
          have hf := pf_nm ex6 hf
          refine hm_put (ws' := [oc5 h0 r_t x6 t_at t_fault, ic E (r_t 0) 400 (upd f2 x3.toNatClampNeg x5)]) cb_X5 hx hb hown X w 0 1 fl_X5_15 dX5_append_42 rfl (by decide) (Nat.le_of_ble_eq_true rfl) rfl rfl rfl rfl (fun H locs w => ?_)
          obtain ⟨x7, ex7⟩ : ∃ y : Int32, y = (x1 + (-8)) := ⟨_, rfl⟩
          have hf := pf_nm ex7 hf
          refine lv_iinc (v := x7) (lv' := [(2, .int x7), (0, .ref h0), (1, .int a1)]) hx hb dX5_append_45 hl (k := 2) rfl (by rw [ex7]; rfl) (by decide) rfl (fun ls hl => ?_)
          refine lv_goto (tgt := 3) hx hb dX5_append_48 (by decide) ?_
          exact ih3 _ _ _ _ _ _ hf w (lv_sub hl [1, 2, 0] rfl)
  exact klp_X5_append_3 FU _ _ _ _ _ _ hf w (lv_sub hl [1, 2, 0] rfl)
set_option maxHeartbeats 8000000 in
set_option maxRecDepth 100000 in
theorem ct_X5_rewind (l : Launch) (E : hm_E) (sz : Nat) (h0 : Nat) (r_t : Nat → Nat) (t_count t_at t_fault : Int32) (R : Int32 × Int32) (hf : pf_X5_rewind = some R) : hm_Mv l E yX5_rewind cX5_rewind 1 [] (hm_rr 0 0 0 0) [.ref h0] sz [oc5 h0 r_t t_count t_at t_fault] (fun _ => [oc5 h0 r_t t_count (R.1) (R.2)]) := by
  refine hm_ct_v R (fun u _ => [oc5 h0 r_t t_count (u.1) (u.2)]) (by decide) (Nat.le_of_ble_eq_true rfl) ?_
  intro p e s m args below meth c A Q ls H locs hx hb hml hown X hA Y hex hin w hl hQ
  have hl : lv_has ls 1 [(0, .ref h0)] := hl
  unfold pf_X5_rewind at hf
  refine lv_aload_n hx hb dX5_rewind_0 rfl (lv_at hl 0 rfl) ?_
  refine lv_iconst (v := 0) hx hb dX5_rewind_1 (by decide) ?_
  refine hm_put (ws' := [oc5 h0 r_t t_count 0 t_fault]) cb_X5 hx hb hown X w 0 2 fl_X5_19 dX5_rewind_2 rfl (by decide) (Nat.le_of_ble_eq_true rfl) rfl rfl rfl rfl (fun H locs w => ?_)
  refine lv_aload_n hx hb dX5_rewind_5 rfl (lv_at hl 0 rfl) ?_
  refine lv_iconst (v := (-1)) hx hb dX5_rewind_6 (by decide) ?_
  refine hm_put (ws' := [oc5 h0 r_t t_count 0 (-1)]) cb_X5 hx hb hown X w 0 3 fl_X5_22 dX5_rewind_7 rfl (by decide) (Nat.le_of_ble_eq_true rfl) rfl rfl rfl rfl (fun H locs w => ?_)
  exact hQ _ _ _ _ (0, (-1)) (fun _ => 0) hf w dX5_rewind_10
set_option maxHeartbeats 8000000 in
set_option maxRecDepth 100000 in
theorem ct_X5_goesOn (l : Launch) (E : hm_E) (sz : Nat) (h0 : Nat) (r_t : Nat → Nat) (t_count t_at t_fault : Int32) (R : Int32 × Unit) (hf : pf_X5_goesOn t_count t_at t_fault = some R) : hm_Mi l E yX5_goesOn cX5_goesOn 1 .boolean [] (hm_rr 0 0 0 0) [.ref h0] sz [oc5 h0 r_t t_count t_at t_fault] R.1 (fun _ => [oc5 h0 r_t t_count t_at t_fault]) := by
  refine hm_ct_i R (fun u qs => [oc5 h0 r_t t_count t_at t_fault]) (by decide) (Nat.le_of_ble_eq_true rfl) (Or.inr rfl) ?_
  intro p e s m args below meth c A Q ls H locs hx hb hml hown X hA Y hex w hl hQ
  have hl : lv_has ls 1 [(0, .ref h0)] := hl
  unfold pf_X5_goesOn at hf
  refine lv_aload_n hx hb dX5_goesOn_0 rfl (lv_at hl 0 rfl) ?_
  refine hm_get cb_X5 hx hb hown X w 0 3 fl_X5_22 dX5_goesOn_1 rfl (by decide) rfl ?_
  refine lv_iconst (v := (-1)) hx hb dX5_goesOn_4 (by decide) ?_
  refine lv_icmp_ne (tgt := 23) hx hb dX5_goesOn_5 (by decide) (fun c5 => ?_) (fun c5 => ?_)
  · have hf := pf_e c5 hf
    refine lv_iconst (v := 0) hx hb dX5_goesOn_23 (by decide) ?_
    exact hQ _ _ _ _ _ () (fun _ => 0) hf rfl w dX5_goesOn_24
  · have hf := pf_t c5 hf
    refine lv_aload_n hx hb dX5_goesOn_8 rfl (lv_at hl 0 rfl) ?_
    refine hm_get cb_X5 hx hb hown X w 0 2 fl_X5_19 dX5_goesOn_9 rfl (by decide) rfl ?_
    refine lv_aload_n hx hb dX5_goesOn_12 rfl (lv_at hl 0 rfl) ?_
    refine hm_get cb_X5 hx hb hown X w 0 1 fl_X5_15 dX5_goesOn_13 rfl (by decide) rfl ?_
    refine lv_icmp_ge (tgt := 23) hx hb dX5_goesOn_16 (by decide) (fun c16 => ?_) (fun c16 => ?_)
    · have hf := pf_t c16 hf
      refine lv_iconst (v := 0) hx hb dX5_goesOn_23 (by decide) ?_
      exact hQ _ _ _ _ _ () (fun _ => 0) hf rfl w dX5_goesOn_24
    · have hf := pf_e c16 hf
      refine lv_iconst (v := 1) hx hb dX5_goesOn_19 (by decide) ?_
      refine lv_goto (tgt := 24) hx hb dX5_goesOn_20 (by decide) ?_
      exact hQ _ _ _ _ _ () (fun _ => 0) hf rfl w dX5_goesOn_24
set_option maxHeartbeats 8000000 in
set_option maxRecDepth 100000 in
theorem ct_X5_peek (l : Launch) (E : hm_E) (sz : Nat) (h0 : Nat) (r_t : Nat → Nat) (t_count t_at t_fault : Int32) (t_bytes : Nat → Int32) (R : Int32 × Unit) (hf : pf_X5_peek t_bytes t_count t_at = some R) : hm_Mi l E yX5_peek cX5_peek 1 .int [] (hm_rr 0 0 0 0) [.ref h0] sz [oc5 h0 r_t t_count t_at t_fault, ic E (r_t 0) 400 t_bytes] R.1 (fun _ => [oc5 h0 r_t t_count t_at t_fault, ic E (r_t 0) 400 t_bytes]) := by
  refine hm_ct_i R (fun u qs => [oc5 h0 r_t t_count t_at t_fault, ic E (r_t 0) 400 t_bytes]) (by decide) (Nat.le_of_ble_eq_true rfl) (Or.inl rfl) ?_
  intro p e s m args below meth c A Q ls H locs hx hb hml hown X hA Y hex w hl hQ
  have hl : lv_has ls 1 [(0, .ref h0)] := hl
  unfold pf_X5_peek at hf
  refine lv_aload_n hx hb dX5_peek_0 rfl (lv_at hl 0 rfl) ?_
  refine hm_get cb_X5 hx hb hown X w 0 2 fl_X5_19 dX5_peek_1 rfl (by decide) rfl ?_
  refine lv_if_lt (tgt := 30) hx hb dX5_peek_4 (by decide) (fun c4 => ?_) (fun c4 => ?_)
  · have hf := pf_t c4 hf
    refine lv_iconst (v := (-1)) hx hb dX5_peek_30 (by decide) ?_
    exact hQ _ _ _ _ _ () (fun _ => 0) hf rfl w dX5_peek_31
  · have hf := pf_e c4 hf
    refine lv_aload_n hx hb dX5_peek_7 rfl (lv_at hl 0 rfl) ?_
    refine hm_get cb_X5 hx hb hown X w 0 2 fl_X5_19 dX5_peek_8 rfl (by decide) rfl ?_
    refine lv_aload_n hx hb dX5_peek_11 rfl (lv_at hl 0 rfl) ?_
    refine hm_get cb_X5 hx hb hown X w 0 1 fl_X5_15 dX5_peek_12 rfl (by decide) rfl ?_
    refine lv_icmp_ge (tgt := 30) hx hb dX5_peek_15 (by decide) (fun c15 => ?_) (fun c15 => ?_)
    · have hf := pf_t c15 hf
      refine lv_iconst (v := (-1)) hx hb dX5_peek_30 (by decide) ?_
      exact hQ _ _ _ _ _ () (fun _ => 0) hf rfl w dX5_peek_31
    · have hf := pf_e c15 hf
      refine lv_aload_n hx hb dX5_peek_18 rfl (lv_at hl 0 rfl) ?_
      refine hm_get cb_X5 hx hb hown X w 0 0 fl_X5_9 dX5_peek_19 rfl (by decide) rfl ?_
      refine lv_aload_n hx hb dX5_peek_22 rfl (lv_at hl 0 rfl) ?_
      refine hm_get cb_X5 hx hb hown X w 0 2 fl_X5_19 dX5_peek_23 rfl (by decide) rfl ?_
      obtain ⟨g26, hf⟩ := pf_ckI hf
      refine hm_iald hx hb X w 1 dX5_peek_26 rfl g26 ?_
      refine lv_goto (tgt := 31) hx hb dX5_peek_27 (by decide) ?_
      exact hQ _ _ _ _ _ () (fun _ => 0) hf rfl w dX5_peek_31
set_option maxHeartbeats 8000000 in
set_option maxRecDepth 100000 in
theorem ct_X5_blame (l : Launch) (E : hm_E) (sz : Nat) (h0 : Nat) (r_t : Nat → Nat) (t_count t_at t_fault : Int32) (a1 : Int32) (R : Int32) (hf : pf_X5_blame a1 t_fault = some R) : hm_Mv l E yX5_blame cX5_blame 2 [] (hm_rr 0 0 0 0) [.ref h0, .int a1] sz [oc5 h0 r_t t_count t_at t_fault] (fun _ => [oc5 h0 r_t t_count t_at R]) := by
  refine hm_ct_v R (fun u _ => [oc5 h0 r_t t_count t_at u]) (by decide) (Nat.le_of_ble_eq_true rfl) ?_
  intro p e s m args below meth c A Q ls H locs hx hb hml hown X hA Y hex hin w hl hQ
  have hl : lv_has ls 2 [(0, .ref h0), (1, .int a1)] := hl
  unfold pf_X5_blame at hf
  refine lv_aload_n hx hb dX5_blame_0 rfl (lv_at hl 0 rfl) ?_
  refine hm_get cb_X5 hx hb hown X w 0 3 fl_X5_22 dX5_blame_1 rfl (by decide) rfl ?_
  refine lv_iconst (v := (-1)) hx hb dX5_blame_4 (by decide) ?_
  refine lv_icmp_ne (tgt := 13) hx hb dX5_blame_5 (by decide) (fun c5 => ?_) (fun c5 => ?_)
  · have hf := pf_e c5 hf
    exact hQ _ _ _ _ t_fault (fun _ => 0) hf w dX5_blame_13
  · have hf := pf_t c5 hf
    refine lv_aload_n hx hb dX5_blame_8 rfl (lv_at hl 0 rfl) ?_
    refine lv_iload_n hx hb dX5_blame_9 rfl (lv_at hl 1 rfl) ?_
    refine hm_put (ws' := [oc5 h0 r_t t_count t_at a1]) cb_X5 hx hb hown X w 0 3 fl_X5_22 dX5_blame_10 rfl (by decide) (Nat.le_of_ble_eq_true rfl) rfl rfl rfl rfl (fun H locs w => ?_)
    exact hQ _ _ _ _ a1 (fun _ => 0) hf w dX5_blame_13
set_option maxHeartbeats 8000000 in
set_option maxRecDepth 100000 in
theorem ct_X5_takes (l : Launch) (E : hm_E) (sz : Nat) (h0 : Nat) (r_t : Nat → Nat) (t_count t_at t_fault : Int32) (t_bytes : Nat → Int32) (a1 : Int32) (R : Int32 × Int32) (hf : pf_X5_takes a1 t_bytes t_count t_at t_fault = some R) : hm_Mi l E yX5_takes cX5_takes 2 .boolean [] (hm_rr 1 20 0 0) [.ref h0, .int a1] sz [oc5 h0 r_t t_count t_at t_fault, ic E (r_t 0) 400 t_bytes] R.1 (fun _ => [oc5 h0 r_t t_count R.2 t_fault, ic E (r_t 0) 400 t_bytes]) := by
  refine hm_ct_i R (fun u qs => [oc5 h0 r_t t_count u t_fault, ic E (r_t 0) 400 t_bytes]) (by decide) (Nat.le_of_ble_eq_true rfl) (Or.inr rfl) ?_
  intro p e s m args below meth c A Q ls H locs hx hb hml hown X hA Y hex w hl hQ
  have hl : lv_has ls 2 [(0, .ref h0), (1, .int a1)] := hl
  unfold pf_X5_takes at hf
  refine lv_aload_n hx hb dX5_takes_0 rfl (lv_at hl 0 rfl) ?_
  refine hm_get cb_X5 hx hb hown X w 0 3 fl_X5_22 dX5_takes_1 rfl (by decide) rfl ?_
  refine lv_iconst (v := (-1)) hx hb dX5_takes_4 (by decide) ?_
  refine lv_icmp_ne (tgt := 16) hx hb dX5_takes_5 (by decide) (fun c5 => ?_) (fun c5 => ?_)
  · have hf := pf_e c5 hf
    refine lv_iconst (v := 0) hx hb dX5_takes_16 (by decide) ?_
    exact hQ _ _ _ _ _ t_at (fun _ => 0) hf rfl w dX5_takes_17
  · have hf := pf_t c5 hf
    refine lv_aload_n hx hb dX5_takes_8 rfl (lv_at hl 0 rfl) ?_
    obtain ⟨r1, hc9, hf⟩ := pf_bi_0 hf
    refine hm_aft_i (ws' := fun _ => [oc5 h0 r_t t_count t_at t_fault, ic E (r_t 0) 400 t_bytes]) (hm_runV (rest := []) hx hb hml hown X hA Y w 0 (ci := 5) (T := TX5) (N := 4) rfl rfl mw_X5_peek ml_X5_25 dX5_takes_9 hm_ac0 [] rfl [0, 1] rfl rfl (ct_X5_peek l E H.size h0 r_t t_count t_at t_fault t_bytes (r1, ()) hc9) rfl hl.1 ⟨⟨rfl, rfl⟩, ⟨Nat.le_of_ble_eq_true rfl, Nat.le_of_ble_eq_true rfl⟩, ⟨Nat.le_of_ble_eq_true rfl, Nat.le_of_ble_eq_true rfl⟩, Nat.le_of_ble_eq_true rfl⟩) hA w [0, 1] [] [0, 1] rfl rfl (by decide) (fun _ => rfl) (fun _ H locs w => ?_)
    refine lv_iload_n hx hb dX5_takes_12 rfl (lv_at hl 1 rfl) ?_
    refine lv_icmp_eq (tgt := 18) hx hb dX5_takes_13 (by decide) (fun c13 => ?_) (fun c13 => ?_)
    · have hf := pf_t c13 hf
      refine lv_aload_n hx hb dX5_takes_18 rfl (lv_at hl 0 rfl) ?_
      refine lv_dup hx hb dX5_takes_19 rfl ?_
      refine hm_get cb_X5 hx hb hown X w 0 2 fl_X5_19 dX5_takes_20 rfl (by decide) rfl ?_
      refine lv_iconst (v := 1) hx hb dX5_takes_23 (by decide) ?_
      refine lv_iadd hx hb dX5_takes_24 ?_
      refine lv_topi (fun x2 ex2 => ?_)
      have hf := pf_nm ex2 hf
      refine hm_put (ws' := [oc5 h0 r_t t_count x2 t_fault, ic E (r_t 0) 400 t_bytes]) cb_X5 hx hb hown X w 0 2 fl_X5_19 dX5_takes_25 rfl (by decide) (Nat.le_of_ble_eq_true rfl) rfl rfl rfl rfl (fun H locs w => ?_)
      refine lv_iconst (v := 1) hx hb dX5_takes_28 (by decide) ?_
      exact hQ _ _ _ _ _ x2 (fun _ => 0) hf rfl w dX5_takes_29
    · have hf := pf_e c13 hf
      refine lv_iconst (v := 0) hx hb dX5_takes_16 (by decide) ?_
      exact hQ _ _ _ _ _ t_at (fun _ => 0) hf rfl w dX5_takes_17
set_option maxHeartbeats 8000000 in
set_option maxRecDepth 100000 in
theorem ct_X5_needs (l : Launch) (E : hm_E) (sz : Nat) (h0 : Nat) (r_t : Nat → Nat) (t_count t_at t_fault : Int32) (t_bytes : Nat → Int32) (a1 : Int32) (R : Int32 × Int32) (hf : pf_X5_needs a1 t_bytes t_count t_at t_fault = some R) : hm_Mv l E yX5_needs cX5_needs 2 [] (hm_rr 2 41 0 0) [.ref h0, .int a1] sz [oc5 h0 r_t t_count t_at t_fault, ic E (r_t 0) 400 t_bytes] (fun _ => [oc5 h0 r_t t_count (R.1) (R.2), ic E (r_t 0) 400 t_bytes]) := by
  refine hm_ct_v R (fun u _ => [oc5 h0 r_t t_count (u.1) (u.2), ic E (r_t 0) 400 t_bytes]) (by decide) (Nat.le_of_ble_eq_true rfl) ?_
  intro p e s m args below meth c A Q ls H locs hx hb hml hown X hA Y hex hin w hl hQ
  have hl : lv_has ls 2 [(0, .ref h0), (1, .int a1)] := hl
  unfold pf_X5_needs at hf
  refine lv_aload_n hx hb dX5_needs_0 rfl (lv_at hl 0 rfl) ?_
  refine lv_iload_n hx hb dX5_needs_1 rfl (lv_at hl 1 rfl) ?_
  obtain ⟨r1, x2, hc2, hf⟩ := pf_bi_1 hf
  refine hm_aft_i (ws' := fun _ => [oc5 h0 r_t t_count x2 t_fault, ic E (r_t 0) 400 t_bytes]) (hm_runV (rest := []) hx hb hml hown X hA Y w 0 (ci := 5) (T := TX5) (N := 4) rfl rfl mw_X5_takes ml_X5_29 dX5_needs_2 hm_ac0 [.int a1] rfl [0, 1] rfl rfl (ct_X5_takes l E H.size h0 r_t t_count t_at t_fault t_bytes a1 (r1, x2) hc2) rfl hl.1 ⟨⟨rfl, rfl⟩, ⟨Nat.le_of_ble_eq_true rfl, Nat.le_of_ble_eq_true rfl⟩, ⟨Nat.le_of_ble_eq_true rfl, Nat.le_of_ble_eq_true rfl⟩, Nat.le_of_ble_eq_true rfl⟩) hA w [0, 1] [] [0, 1] rfl rfl (by decide) (fun _ => rfl) (fun _ H locs w => ?_)
  refine lv_if_ne (tgt := 16) hx hb dX5_needs_5 (by decide) (fun c5 => ?_) (fun c5 => ?_)
  · have hf := pf_e c5 hf
    exact hQ _ _ _ _ (x2, t_fault) (fun _ => 0) hf w dX5_needs_16
  · have hf := pf_t c5 hf
    refine lv_aload_n hx hb dX5_needs_8 rfl (lv_at hl 0 rfl) ?_
    refine lv_aload_n hx hb dX5_needs_9 rfl (lv_at hl 0 rfl) ?_
    refine hm_get cb_X5 hx hb hown X w 0 2 fl_X5_19 dX5_needs_10 rfl (by decide) rfl ?_
    obtain ⟨x3, hc13, hf⟩ := pf_bv_1 hf
    refine hm_aft_v (ws' := fun _ => [oc5 h0 r_t t_count x2 x3, ic E (r_t 0) 400 t_bytes]) (hm_runV (rest := []) hx hb hml hown X hA Y w 0 (ci := 5) (T := TX5) (N := 4) rfl rfl mw_X5_blame ml_X5_33 dX5_needs_13 hm_ac0 [.int x2] rfl [0] rfl rfl (ct_X5_blame l E H.size h0 r_t t_count x2 t_fault x2 x3 hc13) rfl hl.1 ⟨⟨rfl, rfl⟩, ⟨Nat.le_of_ble_eq_true rfl, Nat.le_of_ble_eq_true rfl⟩, ⟨Nat.le_of_ble_eq_true rfl, Nat.le_of_ble_eq_true rfl⟩, Nat.le_of_ble_eq_true rfl⟩) hA w [0] [1] [1, 0] rfl rfl (by decide) (fun _ => rfl) (fun _ H locs w => ?_)
    exact hQ _ _ _ _ (x2, x3) (fun _ => 0) hf w dX5_needs_16
set_option maxHeartbeats 8000000 in
set_option maxRecDepth 100000 in
theorem ct_X5_isAtDigit (l : Launch) (E : hm_E) (sz : Nat) (h0 : Nat) (r_t : Nat → Nat) (t_count t_at t_fault : Int32) (t_bytes : Nat → Int32) (R : Int32 × Unit) (hf : pf_X5_isAtDigit t_bytes t_count t_at = some R) : hm_Mi l E yX5_isAtDigit cX5_isAtDigit 1 .boolean [] (hm_rr 1 20 0 0) [.ref h0] sz [oc5 h0 r_t t_count t_at t_fault, ic E (r_t 0) 400 t_bytes] R.1 (fun _ => [oc5 h0 r_t t_count t_at t_fault, ic E (r_t 0) 400 t_bytes]) := by
  refine hm_ct_i R (fun u qs => [oc5 h0 r_t t_count t_at t_fault, ic E (r_t 0) 400 t_bytes]) (by decide) (Nat.le_of_ble_eq_true rfl) (Or.inr rfl) ?_
  intro p e s m args below meth c A Q ls H locs hx hb hml hown X hA Y hex w hl hQ
  have hl : lv_has ls 1 [(0, .ref h0)] := hl
  unfold pf_X5_isAtDigit at hf
  refine lv_aload_n hx hb dX5_isAtDigit_0 rfl (lv_at hl 0 rfl) ?_
  obtain ⟨r1, hc1, hf⟩ := pf_bi_0 hf
  refine hm_aft_i (ws' := fun _ => [oc5 h0 r_t t_count t_at t_fault, ic E (r_t 0) 400 t_bytes]) (hm_runV (rest := []) hx hb hml hown X hA Y w 0 (ci := 5) (T := TX5) (N := 4) rfl rfl mw_X5_peek ml_X5_25 dX5_isAtDigit_1 hm_ac0 [] rfl [0, 1] rfl rfl (ct_X5_peek l E H.size h0 r_t t_count t_at t_fault t_bytes (r1, ()) hc1) rfl hl.1 ⟨⟨rfl, rfl⟩, ⟨Nat.le_of_ble_eq_true rfl, Nat.le_of_ble_eq_true rfl⟩, ⟨Nat.le_of_ble_eq_true rfl, Nat.le_of_ble_eq_true rfl⟩, Nat.le_of_ble_eq_true rfl⟩) hA w [0, 1] [] [0, 1] rfl rfl (by decide) (fun _ => rfl) (fun _ H locs w => ?_)
  refine lv_bipush (v := 48) hx hb dX5_isAtDigit_4 (by decide) ?_
  refine lv_icmp_lt (tgt := 22) hx hb dX5_isAtDigit_6 (by decide) (fun c6 => ?_) (fun c6 => ?_)
  · have hf := pf_t c6 hf
    refine lv_iconst (v := 0) hx hb dX5_isAtDigit_22 (by decide) ?_
    exact hQ _ _ _ _ _ () (fun _ => 0) hf rfl w dX5_isAtDigit_23
  · have hf := pf_e c6 hf
    refine lv_aload_n hx hb dX5_isAtDigit_9 rfl (lv_at hl 0 rfl) ?_
    obtain ⟨r2, hc10, hf⟩ := pf_bi_0 hf
    refine hm_aft_i (ws' := fun _ => [oc5 h0 r_t t_count t_at t_fault, ic E (r_t 0) 400 t_bytes]) (hm_runV (rest := []) hx hb hml hown X hA Y w 0 (ci := 5) (T := TX5) (N := 4) rfl rfl mw_X5_peek ml_X5_25 dX5_isAtDigit_10 hm_ac0 [] rfl [0, 1] rfl rfl (ct_X5_peek l E H.size h0 r_t t_count t_at t_fault t_bytes (r2, ()) hc10) rfl hl.1 ⟨⟨rfl, rfl⟩, ⟨Nat.le_of_ble_eq_true rfl, Nat.le_of_ble_eq_true rfl⟩, ⟨Nat.le_of_ble_eq_true rfl, Nat.le_of_ble_eq_true rfl⟩, Nat.le_of_ble_eq_true rfl⟩) hA w [0, 1] [] [0, 1] rfl rfl (by decide) (fun _ => rfl) (fun _ H locs w => ?_)
    refine lv_bipush (v := 57) hx hb dX5_isAtDigit_13 (by decide) ?_
    refine lv_icmp_gt (tgt := 22) hx hb dX5_isAtDigit_15 (by decide) (fun c15 => ?_) (fun c15 => ?_)
    · have hf := pf_t c15 hf
      refine lv_iconst (v := 0) hx hb dX5_isAtDigit_22 (by decide) ?_
      exact hQ _ _ _ _ _ () (fun _ => 0) hf rfl w dX5_isAtDigit_23
    · have hf := pf_e c15 hf
      refine lv_iconst (v := 1) hx hb dX5_isAtDigit_18 (by decide) ?_
      refine lv_goto (tgt := 23) hx hb dX5_isAtDigit_19 (by decide) ?_
      exact hQ _ _ _ _ _ () (fun _ => 0) hf rfl w dX5_isAtDigit_23
set_option maxHeartbeats 8000000 in
set_option maxRecDepth 100000 in
theorem ct_X5_number (l : Launch) (E : hm_E) (sz : Nat) (h0 : Nat) (r_t : Nat → Nat) (t_count t_at t_fault : Int32) (t_bytes : Nat → Int32) (R : Int32 × Int32 × Int32) (hf : pf_X5_number t_bytes t_count t_at t_fault = some R) : hm_Mi l E yX5_number cX5_number 3 .int [] (hm_rr 2 40 0 0) [.ref h0] sz [oc5 h0 r_t t_count t_at t_fault, ic E (r_t 0) 400 t_bytes] R.1 (fun _ => [oc5 h0 r_t t_count (R.2.1) (R.2.2), ic E (r_t 0) 400 t_bytes]) := by
  refine hm_ct_i R (fun u qs => [oc5 h0 r_t t_count (u.1) (u.2), ic E (r_t 0) 400 t_bytes]) (by decide) (Nat.le_of_ble_eq_true rfl) (Or.inl rfl) ?_
  intro p e s m args below meth c A Q ls H locs hx hb hml hown X hA Y hex w hl hQ
  have hl : lv_has ls 3 [(0, .ref h0)] := hl
  unfold pf_X5_number at hf
  refine lv_aload_n hx hb dX5_number_0 rfl (lv_at hl 0 rfl) ?_
  obtain ⟨r1, hc1, hf⟩ := pf_bi_0 hf
  refine hm_aft_i (ws' := fun _ => [oc5 h0 r_t t_count t_at t_fault, ic E (r_t 0) 400 t_bytes]) (hm_runV (rest := []) hx hb hml hown X hA Y w 0 (ci := 5) (T := TX5) (N := 4) rfl rfl mw_X5_isAtDigit ml_X5_37 dX5_number_1 hm_ac0 [] rfl [0, 1] rfl rfl (ct_X5_isAtDigit l E H.size h0 r_t t_count t_at t_fault t_bytes (r1, ()) hc1) rfl hl.1 ⟨⟨rfl, rfl⟩, ⟨Nat.le_of_ble_eq_true rfl, Nat.le_of_ble_eq_true rfl⟩, ⟨Nat.le_of_ble_eq_true rfl, Nat.le_of_ble_eq_true rfl⟩, Nat.le_of_ble_eq_true rfl⟩) hA w [0, 1] [] [0, 1] rfl rfl (by decide) (fun _ => rfl) (fun _ H locs w => ?_)
  refine lv_if_ne (tgt := 17) hx hb dX5_number_4 (by decide) (fun c4 => ?_) (fun c4 => ?_)
  · have hf := pf_e c4 hf
    refine lv_iconst (v := 0) hx hb dX5_number_17 (by decide) ?_
    refine lv_istore_n (lv' := [(1, .int 0), (0, .ref h0)]) hx hb dX5_number_18 rfl hl (by decide) rfl (fun ls hl => ?_)
    refine lv_iconst (v := 0) hx hb dX5_number_19 (by decide) ?_
    refine lv_istore_n (lv' := [(2, .int 0), (1, .int 0), (0, .ref h0)]) hx hb dX5_number_20 rfl hl (by decide) rfl (fun ls hl => ?_)
    obtain ⟨J62, hJ62, hf⟩ := pf_jn hf
    have kJ62 : ∀ (x2 : Int32) (x3 : Int32) (H : Heap) (locs : List Loc) (ls : Array Slot), J62 x2 x3 = some R → hm_W E A s.heap [oc5 h0 r_t t_count x3 t_fault, ic E (r_t 0) 400 t_bytes] H locs → lv_has ls 3 [(0, .ref h0), (1, .int x2)] → W p l e (hm_rr 2 40 0 0) s m args below meth c H locs 0 0 Q (F0 m 62 ls []) := by
      intro x2 x3 H locs ls hf w hl
      have hf := pf_j2 hJ62 hf
      refine lv_aload_n hx hb dX5_number_62 rfl (lv_at hl 0 rfl) ?_
      obtain ⟨r4, hc63, hf⟩ := pf_bi_0 hf
      refine hm_aft_i (ws' := fun _ => [oc5 h0 r_t t_count x3 t_fault, ic E (r_t 0) 400 t_bytes]) (hm_runV (rest := []) hx hb hml hown X hA Y w 0 (ci := 5) (T := TX5) (N := 4) rfl rfl mw_X5_isAtDigit ml_X5_37 dX5_number_63 hm_ac0 [] rfl [0, 1] rfl rfl (ct_X5_isAtDigit l E H.size h0 r_t t_count x3 t_fault t_bytes (r4, ()) hc63) rfl hl.1 ⟨⟨rfl, rfl⟩, ⟨Nat.le_of_ble_eq_true rfl, Nat.le_of_ble_eq_true rfl⟩, ⟨Nat.le_of_ble_eq_true rfl, Nat.le_of_ble_eq_true rfl⟩, Nat.le_of_ble_eq_true rfl⟩) hA w [0, 1] [] [0, 1] rfl rfl (by decide) (fun _ => rfl) (fun _ H locs w => ?_)
      refine lv_if_eq (tgt := 77) hx hb dX5_number_66 (by decide) (fun c66 => ?_) (fun c66 => ?_)
      · have hf := pf_t c66 hf
        refine lv_iload_n hx hb dX5_number_77 rfl (lv_at hl 1 rfl) ?_
        exact hQ _ _ _ _ _ (x3, t_fault) (fun _ => 0) hf rfl w dX5_number_78
      · have hf := pf_e c66 hf
        refine lv_aload_n hx hb dX5_number_69 rfl (lv_at hl 0 rfl) ?_
        refine lv_aload_n hx hb dX5_number_70 rfl (lv_at hl 0 rfl) ?_
        refine hm_get cb_X5 hx hb hown X w 0 2 fl_X5_19 dX5_number_71 rfl (by decide) rfl ?_
        obtain ⟨x5, hc74, hf⟩ := pf_bv_1 hf
        refine hm_aft_v (ws' := fun _ => [oc5 h0 r_t t_count x3 x5, ic E (r_t 0) 400 t_bytes]) (hm_runV (rest := []) hx hb hml hown X hA Y w 0 (ci := 5) (T := TX5) (N := 4) rfl rfl mw_X5_blame ml_X5_33 dX5_number_74 hm_ac0 [.int x3] rfl [0] rfl rfl (ct_X5_blame l E H.size h0 r_t t_count x3 t_fault x3 x5 hc74) rfl hl.1 ⟨⟨rfl, rfl⟩, ⟨Nat.le_of_ble_eq_true rfl, Nat.le_of_ble_eq_true rfl⟩, ⟨Nat.le_of_ble_eq_true rfl, Nat.le_of_ble_eq_true rfl⟩, Nat.le_of_ble_eq_true rfl⟩) hA w [0] [1] [1, 0] rfl rfl (by decide) (fun _ => rfl) (fun _ H locs w => ?_)
        refine lv_iload_n hx hb dX5_number_77 rfl (lv_at hl 1 rfl) ?_
        exact hQ _ _ _ _ _ (x3, x5) (fun _ => 0) hf rfl w dX5_number_78
    have klp_X5_number_21 : ∀ (n : Nat) (x6 : Int32) (x7 : Int32) (x8 : Int32) (H : Heap) (locs : List Loc) (ls : Array Slot), lp_X5_number_21 t_count t_bytes J62 n x6 x7 x8 = some R → hm_W E A s.heap [oc5 h0 r_t t_count x8 t_fault, ic E (r_t 0) 400 t_bytes] H locs → lv_has ls 3 [(0, .ref h0), (1, .int x6), (2, .int x7)] → W p l e (hm_rr 2 40 0 0) s m args below meth c H locs 0 0 Q (F0 m 21 ls []) := by
      intro n
      induction n with
      | zero =>
        intro x6 x7 x8 H locs ls hf w hl
        exact pf_no hf
      | succ n ih21 =>
        intro x6 x7 x8 H locs ls hf w hl
        rw [lp_X5_number_21] at hf
        refine lv_iload_n hx hb dX5_number_21 rfl (lv_at hl 2 rfl) ?_
        refine lv_iconst (v := 4) hx hb dX5_number_22 (by decide) ?_
        refine lv_icmp_ge (tgt := 62) hx hb dX5_number_23 (by decide) (fun c23 => ?_) (fun c23 => ?_)
        · have hf := pf_t c23 hf
          exact kJ62 _ _ _ _ _ hf w (lv_sub hl [0, 1] rfl)
        · have hf := pf_e c23 hf
          refine lv_aload_n hx hb dX5_number_26 rfl (lv_at hl 0 rfl) ?_
          obtain ⟨r9, hc27, hf⟩ := pf_bi_0 hf
          refine hm_aft_i (ws' := fun _ => [oc5 h0 r_t t_count x8 t_fault, ic E (r_t 0) 400 t_bytes]) (hm_runV (rest := []) hx hb hml hown X hA Y w 0 (ci := 5) (T := TX5) (N := 4) rfl rfl mw_X5_isAtDigit ml_X5_37 dX5_number_27 hm_ac0 [] rfl [0, 1] rfl rfl (ct_X5_isAtDigit l E H.size h0 r_t t_count x8 t_fault t_bytes (r9, ()) hc27) rfl hl.1 ⟨⟨rfl, rfl⟩, ⟨Nat.le_of_ble_eq_true rfl, Nat.le_of_ble_eq_true rfl⟩, ⟨Nat.le_of_ble_eq_true rfl, Nat.le_of_ble_eq_true rfl⟩, Nat.le_of_ble_eq_true rfl⟩) hA w [0, 1] [] [0, 1] rfl rfl (by decide) (fun _ => rfl) (fun _ H locs w => ?_)
          refine lv_if_eq (tgt := 62) hx hb dX5_number_30 (by decide) (fun c30 => ?_) (fun c30 => ?_)
          · have hf := pf_t c30 hf
            exact kJ62 _ _ _ _ _ hf w (lv_sub hl [0, 1] rfl)
          · have hf := pf_e c30 hf
            refine lv_iload_n hx hb dX5_number_33 rfl (lv_at hl 1 rfl) ?_
            refine lv_bipush (v := 10) hx hb dX5_number_34 (by decide) ?_
            refine lv_imul hx hb dX5_number_36 ?_
            refine lv_aload_n hx hb dX5_number_37 rfl (lv_at hl 0 rfl) ?_
            obtain ⟨r10, hc38, hf⟩ := pf_bi_0 hf
            refine hm_aft_i (ws' := fun _ => [oc5 h0 r_t t_count x8 t_fault, ic E (r_t 0) 400 t_bytes]) (hm_runV (rest := [.int (x6 * 10)]) hx hb hml hown X hA Y w 0 (ci := 5) (T := TX5) (N := 4) rfl rfl mw_X5_peek ml_X5_25 dX5_number_38 hm_ac0 [] rfl [0, 1] rfl rfl (ct_X5_peek l E H.size h0 r_t t_count x8 t_fault t_bytes (r10, ()) hc38) rfl hl.1 ⟨⟨rfl, rfl⟩, ⟨Nat.le_of_ble_eq_true rfl, Nat.le_of_ble_eq_true rfl⟩, ⟨Nat.le_of_ble_eq_true rfl, Nat.le_of_ble_eq_true rfl⟩, Nat.le_of_ble_eq_true rfl⟩) hA w [0, 1] [] [0, 1] rfl rfl (by decide) (fun _ => rfl) (fun _ H locs w => ?_)
            refine lv_iadd hx hb dX5_number_41 ?_
            refine lv_bipush (v := 48) hx hb dX5_number_42 (by decide) ?_
            refine lv_isub hx hb dX5_number_44 ?_
            refine lv_topi (fun x11 ex11 => ?_)
            have hf := pf_nm ex11 hf
            refine lv_istore_n (lv' := [(1, .int x11), (0, .ref h0), (2, .int x7)]) hx hb dX5_number_45 rfl hl (by decide) rfl (fun ls hl => ?_)
            refine lv_aload_n hx hb dX5_number_46 rfl (lv_at hl 1 rfl) ?_
            refine lv_dup hx hb dX5_number_47 rfl ?_
            refine hm_get cb_X5 hx hb hown X w 0 2 fl_X5_19 dX5_number_48 rfl (by decide) rfl ?_
            refine lv_iconst (v := 1) hx hb dX5_number_51 (by decide) ?_
            refine lv_iadd hx hb dX5_number_52 ?_
            refine lv_topi (fun x12 ex12 => ?_)
            have hf := pf_nm ex12 hf
            refine hm_put (ws' := [oc5 h0 r_t t_count x12 t_fault, ic E (r_t 0) 400 t_bytes]) cb_X5 hx hb hown X w 0 2 fl_X5_19 dX5_number_53 rfl (by decide) (Nat.le_of_ble_eq_true rfl) rfl rfl rfl rfl (fun H locs w => ?_)
            obtain ⟨x13, ex13⟩ : ∃ y : Int32, y = (x7 + 1) := ⟨_, rfl⟩
            have hf := pf_nm ex13 hf
            refine lv_iinc (v := x13) (lv' := [(2, .int x13), (1, .int x11), (0, .ref h0)]) hx hb dX5_number_56 hl (k := 2) rfl (by rw [ex13]; rfl) (by decide) rfl (fun ls hl => ?_)
            refine lv_goto (tgt := 21) hx hb dX5_number_59 (by decide) ?_
            exact ih21 _ _ _ _ _ _ hf w (lv_sub hl [2, 1, 0] rfl)
    exact klp_X5_number_21 FU _ _ _ _ _ _ hf w (lv_sub hl [2, 1, 0] rfl)
  · have hf := pf_t c4 hf
    refine lv_aload_n hx hb dX5_number_7 rfl (lv_at hl 0 rfl) ?_
    refine lv_aload_n hx hb dX5_number_8 rfl (lv_at hl 0 rfl) ?_
    refine hm_get cb_X5 hx hb hown X w 0 2 fl_X5_19 dX5_number_9 rfl (by decide) rfl ?_
    obtain ⟨x14, hc12, hf⟩ := pf_bv_1 hf
    refine hm_aft_v (ws' := fun _ => [oc5 h0 r_t t_count t_at x14, ic E (r_t 0) 400 t_bytes]) (hm_runV (rest := []) hx hb hml hown X hA Y w 0 (ci := 5) (T := TX5) (N := 4) rfl rfl mw_X5_blame ml_X5_33 dX5_number_12 hm_ac0 [.int t_at] rfl [0] rfl rfl (ct_X5_blame l E H.size h0 r_t t_count t_at t_fault t_at x14 hc12) rfl hl.1 ⟨⟨rfl, rfl⟩, ⟨Nat.le_of_ble_eq_true rfl, Nat.le_of_ble_eq_true rfl⟩, ⟨Nat.le_of_ble_eq_true rfl, Nat.le_of_ble_eq_true rfl⟩, Nat.le_of_ble_eq_true rfl⟩) hA w [0] [1] [1, 0] rfl rfl (by decide) (fun _ => rfl) (fun _ H locs w => ?_)
    refine lv_iconst (v := 0) hx hb dX5_number_15 (by decide) ?_
    exact hQ _ _ _ _ _ (t_at, x14) (fun _ => 0) hf rfl w dX5_number_16
set_option maxHeartbeats 8000000 in
set_option maxRecDepth 100000 in
theorem ct_X5_signedNumber (l : Launch) (E : hm_E) (sz : Nat) (h0 : Nat) (r_t : Nat → Nat) (t_count t_at t_fault : Int32) (t_bytes : Nat → Int32) (R : Int32 × Int32 × Int32) (hf : pf_X5_signedNumber t_bytes t_count t_at t_fault = some R) : hm_Mi l E yX5_signedNumber cX5_signedNumber 3 .int [] (hm_rr 3 62 0 0) [.ref h0] sz [oc5 h0 r_t t_count t_at t_fault, ic E (r_t 0) 400 t_bytes] R.1 (fun _ => [oc5 h0 r_t t_count (R.2.1) (R.2.2), ic E (r_t 0) 400 t_bytes]) := by
  refine hm_ct_i R (fun u qs => [oc5 h0 r_t t_count (u.1) (u.2), ic E (r_t 0) 400 t_bytes]) (by decide) (Nat.le_of_ble_eq_true rfl) (Or.inl rfl) ?_
  intro p e s m args below meth c A Q ls H locs hx hb hml hown X hA Y hex w hl hQ
  have hl : lv_has ls 3 [(0, .ref h0)] := hl
  unfold pf_X5_signedNumber at hf
  refine lv_aload_n hx hb dX5_signedNumber_0 rfl (lv_at hl 0 rfl) ?_
  refine lv_bipush (v := 45) hx hb dX5_signedNumber_1 (by decide) ?_
  obtain ⟨r1, x2, hc3, hf⟩ := pf_bi_1 hf
  refine hm_aft_i (ws' := fun _ => [oc5 h0 r_t t_count x2 t_fault, ic E (r_t 0) 400 t_bytes]) (hm_runV (rest := []) hx hb hml hown X hA Y w 0 (ci := 5) (T := TX5) (N := 4) rfl rfl mw_X5_takes ml_X5_29 dX5_signedNumber_3 hm_ac0 [.int 45] rfl [0, 1] rfl rfl (ct_X5_takes l E H.size h0 r_t t_count t_at t_fault t_bytes 45 (r1, x2) hc3) rfl hl.1 ⟨⟨rfl, rfl⟩, ⟨Nat.le_of_ble_eq_true rfl, Nat.le_of_ble_eq_true rfl⟩, ⟨Nat.le_of_ble_eq_true rfl, Nat.le_of_ble_eq_true rfl⟩, Nat.le_of_ble_eq_true rfl⟩) hA w [0, 1] [] [0, 1] rfl rfl (by decide) (fun _ => rfl) (fun _ H locs w => ?_)
  refine lv_istore_n (lv' := [(1, .int r1), (0, .ref h0)]) hx hb dX5_signedNumber_6 rfl hl (by decide) rfl (fun ls hl => ?_)
  refine lv_aload_n hx hb dX5_signedNumber_7 rfl (lv_at hl 1 rfl) ?_
  obtain ⟨r3, x4, x5, hc8, hf⟩ := pf_bi_2 hf
  refine hm_aft_i (ws' := fun _ => [oc5 h0 r_t t_count x4 x5, ic E (r_t 0) 400 t_bytes]) (hm_runV (rest := []) hx hb hml hown X hA Y w 0 (ci := 5) (T := TX5) (N := 4) rfl rfl mw_X5_number ml_X5_41 dX5_signedNumber_8 hm_ac0 [] rfl [0, 1] rfl rfl (ct_X5_number l E H.size h0 r_t t_count x2 t_fault t_bytes (r3, x4, x5) hc8) rfl hl.1 ⟨⟨rfl, rfl⟩, ⟨Nat.le_of_ble_eq_true rfl, Nat.le_of_ble_eq_true rfl⟩, ⟨Nat.le_of_ble_eq_true rfl, Nat.le_of_ble_eq_true rfl⟩, Nat.le_of_ble_eq_true rfl⟩) hA w [0, 1] [] [0, 1] rfl rfl (by decide) (fun _ => rfl) (fun _ H locs w => ?_)
  refine lv_istore_n (lv' := [(2, .int r3), (1, .int r1), (0, .ref h0)]) hx hb dX5_signedNumber_11 rfl hl (by decide) rfl (fun ls hl => ?_)
  refine lv_iload_n hx hb dX5_signedNumber_12 rfl (lv_at hl 1 rfl) ?_
  refine lv_if_eq (tgt := 21) hx hb dX5_signedNumber_13 (by decide) (fun c13 => ?_) (fun c13 => ?_)
  · have hf := pf_t c13 hf
    refine lv_iload_n hx hb dX5_signedNumber_21 rfl (lv_at hl 0 rfl) ?_
    exact hQ _ _ _ _ _ (x4, x5) (fun _ => 0) hf rfl w dX5_signedNumber_22
  · have hf := pf_e c13 hf
    refine lv_iload_n hx hb dX5_signedNumber_16 rfl (lv_at hl 0 rfl) ?_
    refine lv_ineg hx hb dX5_signedNumber_17 ?_
    refine lv_goto (tgt := 22) hx hb dX5_signedNumber_18 (by decide) ?_
    exact hQ _ _ _ _ _ (x4, x5) (fun _ => 0) hf rfl w dX5_signedNumber_22
set_option maxHeartbeats 8000000 in
set_option maxRecDepth 100000 in
theorem ct_X5_holds (l : Launch) (E : hm_E) (sz : Nat) (h0 : Nat) (r_t : Nat → Nat) (t_count t_at t_fault : Int32) (a1 : Int32) (a2 : Int32) (R : Int32 × Int32) (hf : pf_X5_holds a1 a2 t_fault = some R) : hm_Mi l E yX5_holds cX5_holds 3 .boolean [] (hm_rr 1 21 0 0) [.ref h0, .int a1, .int a2] sz [oc5 h0 r_t t_count t_at t_fault] R.1 (fun _ => [oc5 h0 r_t t_count t_at R.2]) := by
  refine hm_ct_i R (fun u qs => [oc5 h0 r_t t_count t_at u]) (by decide) (Nat.le_of_ble_eq_true rfl) (Or.inr rfl) ?_
  intro p e s m args below meth c A Q ls H locs hx hb hml hown X hA Y hex w hl hQ
  have hl : lv_has ls 3 [(0, .ref h0), (1, .int a1), (2, .int a2)] := hl
  unfold pf_X5_holds at hf
  refine lv_iload_n hx hb dX5_holds_0 rfl (lv_at hl 1 rfl) ?_
  obtain ⟨J9, hJ9, hf⟩ := pf_jn hf
  have kJ9 : ∀ (x1 : Int32) (H : Heap) (locs : List Loc) (ls : Array Slot), J9 x1 = some R → hm_W E A s.heap [oc5 h0 r_t t_count t_at x1] H locs → lv_has ls 3 [(0, .ref h0)] → W p l e (hm_rr 1 21 0 0) s m args below meth c H locs 0 0 Q (F0 m 9 ls []) := by
    intro x1 H locs ls hf w hl
    have hf := pf_j1 hJ9 hf
    refine lv_aload_n hx hb dX5_holds_9 rfl (lv_at hl 0 rfl) ?_
    refine hm_get cb_X5 hx hb hown X w 0 3 fl_X5_22 dX5_holds_10 rfl (by decide) rfl ?_
    refine lv_iconst (v := (-1)) hx hb dX5_holds_13 (by decide) ?_
    refine lv_icmp_ne (tgt := 21) hx hb dX5_holds_14 (by decide) (fun c14 => ?_) (fun c14 => ?_)
    · have hf := pf_e c14 hf
      refine lv_iconst (v := 0) hx hb dX5_holds_21 (by decide) ?_
      exact hQ _ _ _ _ _ x1 (fun _ => 0) hf rfl w dX5_holds_22
    · have hf := pf_t c14 hf
      refine lv_iconst (v := 1) hx hb dX5_holds_17 (by decide) ?_
      refine lv_goto (tgt := 22) hx hb dX5_holds_18 (by decide) ?_
      exact hQ _ _ _ _ _ x1 (fun _ => 0) hf rfl w dX5_holds_22
  refine lv_if_ne (tgt := 9) hx hb dX5_holds_1 (by decide) (fun c1 => ?_) (fun c1 => ?_)
  · have hf := pf_e c1 hf
    exact kJ9 _ _ _ _ hf w (lv_sub hl [0] rfl)
  · have hf := pf_t c1 hf
    refine lv_aload_n hx hb dX5_holds_4 rfl (lv_at hl 0 rfl) ?_
    refine lv_iload_n hx hb dX5_holds_5 rfl (lv_at hl 2 rfl) ?_
    obtain ⟨x2, hc6, hf⟩ := pf_bv_1 hf
    refine hm_aft_v (ws' := fun _ => [oc5 h0 r_t t_count t_at x2]) (hm_runV (rest := []) hx hb hml hown X hA Y w 0 (ci := 5) (T := TX5) (N := 4) rfl rfl mw_X5_blame ml_X5_33 dX5_holds_6 hm_ac0 [.int a2] rfl [0] rfl rfl (ct_X5_blame l E H.size h0 r_t t_count t_at t_fault a2 x2 hc6) rfl hl.1 ⟨⟨rfl, rfl⟩, ⟨Nat.le_of_ble_eq_true rfl, Nat.le_of_ble_eq_true rfl⟩, ⟨Nat.le_of_ble_eq_true rfl, Nat.le_of_ble_eq_true rfl⟩, Nat.le_of_ble_eq_true rfl⟩) hA w [0] [] [0] rfl rfl (by decide) (fun _ => rfl) (fun _ H locs w => ?_)
    exact kJ9 _ _ _ _ hf w (lv_sub hl [0] rfl)
set_option maxHeartbeats 8000000 in
set_option maxRecDepth 100000 in
theorem ct_X3_add (l : Launch) (E : hm_E) (sz : Nat) (h0 : Nat) (r_t : Nat → Nat) (t_steps t_height t_things : Int32) (t_kind : Nat → Int32) (t_value : Nat → Int32) (a1 : Int32) (a2 : Int32) (R : (Nat → Int32) × (Nat → Int32) × Int32) (hf : pf_X3_add a1 a2 t_kind t_value t_steps = some R) : hm_Mv l E yX3_add cX3_add 3 [] (hm_rr 0 0 0 0) [.ref h0, .int a1, .int a2] sz [oc3 h0 r_t t_steps t_height t_things, ic E (r_t 0) 80 t_kind, ic E (r_t 1) 80 t_value] (fun _ => [oc3 h0 r_t (R.2.2) t_height t_things, ic E (r_t 0) 80 (R.1), ic E (r_t 1) 80 (R.2.1)]) := by
  refine hm_ct_v R (fun u _ => [oc3 h0 r_t (u.2.2) t_height t_things, ic E (r_t 0) 80 (u.1), ic E (r_t 1) 80 (u.2.1)]) (by decide) (Nat.le_of_ble_eq_true rfl) ?_
  intro p e s m args below meth c A Q ls H locs hx hb hml hown X hA Y hex hin w hl hQ
  have hl : lv_has ls 3 [(0, .ref h0), (1, .int a1), (2, .int a2)] := hl
  unfold pf_X3_add at hf
  refine lv_aload_n hx hb dX3_add_0 rfl (lv_at hl 0 rfl) ?_
  refine hm_get cb_X3 hx hb hown X w 0 3 fl_X3_21 dX3_add_1 rfl (by decide) rfl ?_
  refine lv_bipush (v := 80) hx hb dX3_add_4 (by decide) ?_
  refine lv_icmp_ge (tgt := 39) hx hb dX3_add_6 (by decide) (fun c6 => ?_) (fun c6 => ?_)
  · have hf := pf_t c6 hf
    exact hQ _ _ _ _ (t_kind, t_value, t_steps) (fun _ => 0) hf w dX3_add_39
  · have hf := pf_e c6 hf
    refine lv_aload_n hx hb dX3_add_9 rfl (lv_at hl 0 rfl) ?_
    refine hm_get cb_X3 hx hb hown X w 0 0 fl_X3_11 dX3_add_10 rfl (by decide) rfl ?_
    refine lv_aload_n hx hb dX3_add_13 rfl (lv_at hl 0 rfl) ?_
    refine hm_get cb_X3 hx hb hown X w 0 3 fl_X3_21 dX3_add_14 rfl (by decide) rfl ?_
    refine lv_iload_n hx hb dX3_add_17 rfl (lv_at hl 1 rfl) ?_
    obtain ⟨g18, hf⟩ := pf_ckI hf
    refine hm_iast (ws' := [oc3 h0 r_t t_steps t_height t_things, ic E (r_t 0) 80 (upd t_kind t_steps.toNatClampNeg a1), ic E (r_t 1) 80 t_value]) hx hb X w 1 dX3_add_18 rfl g18 rfl (fun H locs w => ?_)
    refine lv_aload_n hx hb dX3_add_19 rfl (lv_at hl 0 rfl) ?_
    refine hm_get cb_X3 hx hb hown X w 0 1 fl_X3_15 dX3_add_20 rfl (by decide) rfl ?_
    refine lv_aload_n hx hb dX3_add_23 rfl (lv_at hl 0 rfl) ?_
    refine hm_get cb_X3 hx hb hown X w 0 3 fl_X3_21 dX3_add_24 rfl (by decide) rfl ?_
    refine lv_iload_n hx hb dX3_add_27 rfl (lv_at hl 2 rfl) ?_
    obtain ⟨g28, hf⟩ := pf_ckI hf
    refine hm_iast (ws' := [oc3 h0 r_t t_steps t_height t_things, ic E (r_t 0) 80 (upd t_kind t_steps.toNatClampNeg a1), ic E (r_t 1) 80 (upd t_value t_steps.toNatClampNeg a2)]) hx hb X w 2 dX3_add_28 rfl g28 rfl (fun H locs w => ?_)
    refine lv_aload_n hx hb dX3_add_29 rfl (lv_at hl 0 rfl) ?_
    refine lv_dup hx hb dX3_add_30 rfl ?_
    refine hm_get cb_X3 hx hb hown X w 0 3 fl_X3_21 dX3_add_31 rfl (by decide) rfl ?_
    refine lv_iconst (v := 1) hx hb dX3_add_34 (by decide) ?_
    refine lv_iadd hx hb dX3_add_35 ?_
    refine lv_topi (fun x1 ex1 => ?_)
    have hf := pf_nm ex1 hf
    refine hm_put (ws' := [oc3 h0 r_t x1 t_height t_things, ic E (r_t 0) 80 (upd t_kind t_steps.toNatClampNeg a1), ic E (r_t 1) 80 (upd t_value t_steps.toNatClampNeg a2)]) cb_X3 hx hb hown X w 0 3 fl_X3_21 dX3_add_36 rfl (by decide) (Nat.le_of_ble_eq_true rfl) rfl rfl rfl rfl (fun H locs w => ?_)
    exact hQ _ _ _ _ ((upd t_kind t_steps.toNatClampNeg a1), (upd t_value t_steps.toNatClampNeg a2), x1) (fun _ => 0) hf w dX3_add_39
def hm_TT (l : Launch) (TT : Int32 → (Nat → Int32) → (Nat → Int32) → Int32 → Int32 → (Nat → Int32) → Int32 → Int32 → Int32 → Option ((Nat → Int32) × (Nat → Int32) × Int32 × Int32 × Int32 × Int32)) (f lo : Nat) : Prop := ∀ (E : hm_E) (sz : Nat) (h0 : Nat) (h1 : Nat) (r_t : Nat → Nat) (r_p1 : Nat → Nat) (t_steps t_height t_things p1_count p1_at p1_fault : Int32) (t_kind : Nat → Int32) (t_value : Nat → Int32) (p1_bytes : Nat → Int32) (a2 : Int32) (R : (Nat → Int32) × (Nat → Int32) × Int32 × Int32 × Int32 × Int32), TT a2 t_kind t_value t_steps t_things p1_bytes p1_count p1_at p1_fault = some R → hm_Mv l E yX3_readThing cX3_readThing 4 [] (hm_rr f lo 0 0) [.ref h0, .ref h1, .int a2] sz [oc3 h0 r_t t_steps t_height t_things, oc5 h1 r_p1 p1_count p1_at p1_fault, ic E (r_t 0) 80 t_kind, ic E (r_t 1) 80 t_value, ic E (r_p1 0) 400 p1_bytes] (fun _ => [oc3 h0 r_t (R.2.2.1) t_height (R.2.2.2.1), oc5 h1 r_p1 p1_count (R.2.2.2.2.1) (R.2.2.2.2.2), ic E (r_t 0) 80 (R.1), ic E (r_t 1) 80 (R.2.1), ic E (r_p1 0) 400 p1_bytes])
set_option maxHeartbeats 8000000 in
set_option maxRecDepth 100000 in
theorem ct_X3_readProduct (l : Launch) (TT : Int32 → (Nat → Int32) → (Nat → Int32) → Int32 → Int32 → (Nat → Int32) → Int32 → Int32 → Int32 → Option ((Nat → Int32) × (Nat → Int32) × Int32 × Int32 × Int32 × Int32)) (f lo : Nat) (hT : hm_TT l TT f lo) (rf : 8 ≤ f) (rl : 400 ≤ lo) (E : hm_E) (sz : Nat) (h0 : Nat) (h1 : Nat) (r_t : Nat → Nat) (r_p1 : Nat → Nat) (t_steps t_height t_things p1_count p1_at p1_fault : Int32) (t_kind : Nat → Int32) (t_value : Nat → Int32) (p1_bytes : Nat → Int32) (a2 : Int32) (R : (Nat → Int32) × (Nat → Int32) × Int32 × Int32 × Int32 × Int32) (hf : pf_X3_readProduct TT a2 t_kind t_value t_steps t_things p1_bytes p1_count p1_at p1_fault = some R) : hm_Mv l E yX3_readProduct cX3_readProduct 5 [] (hm_rr (f + 1) (lo + 30) 0 0) [.ref h0, .ref h1, .int a2] sz [oc3 h0 r_t t_steps t_height t_things, oc5 h1 r_p1 p1_count p1_at p1_fault, ic E (r_t 0) 80 t_kind, ic E (r_t 1) 80 t_value, ic E (r_p1 0) 400 p1_bytes] (fun _ => [oc3 h0 r_t (R.2.2.1) t_height (R.2.2.2.1), oc5 h1 r_p1 p1_count (R.2.2.2.2.1) (R.2.2.2.2.2), ic E (r_t 0) 80 (R.1), ic E (r_t 1) 80 (R.2.1), ic E (r_p1 0) 400 p1_bytes]) := by
  refine hm_ct_v R (fun u _ => [oc3 h0 r_t (u.2.2.1) t_height (u.2.2.2.1), oc5 h1 r_p1 p1_count (u.2.2.2.2.1) (u.2.2.2.2.2), ic E (r_t 0) 80 (u.1), ic E (r_t 1) 80 (u.2.1), ic E (r_p1 0) 400 p1_bytes]) (by decide) (Nat.le_of_ble_eq_true rfl) ?_
  intro p e s m args below meth c A Q ls H locs hx hb hml hown X hA Y hex hin w hl hQ
  have hl : lv_has ls 5 [(0, .ref h0), (1, .ref h1), (2, .int a2)] := hl
  unfold pf_X3_readProduct at hf
  refine lv_aload_n hx hb dX3_readProduct_0 rfl (lv_at hl 0 rfl) ?_
  refine lv_aload_n hx hb dX3_readProduct_1 rfl (lv_at hl 1 rfl) ?_
  refine lv_iload_n hx hb dX3_readProduct_2 rfl (lv_at hl 2 rfl) ?_
  obtain ⟨f1, f2, x3, x4, x5, x6, hc3, hf⟩ := pf_bv_6 hf
  refine hm_aft_v (ws' := fun _ => [oc3 h0 r_t x3 t_height x4, oc5 h1 r_p1 p1_count x5 x6, ic E (r_t 0) 80 f1, ic E (r_t 1) 80 f2, ic E (r_p1 0) 400 p1_bytes]) (hm_runV (rest := []) hx hb hml hown X hA Y w 0 (ci := 3) (T := TX3) (N := 6) rfl rfl mw_X3_readThing ml_X3_65 dX3_readProduct_3 hm_ac0 [.ref h1, .int a2] rfl [0, 1, 2, 3, 4] rfl rfl (hT E H.size h0 h1 r_t r_p1 t_steps t_height t_things p1_count p1_at p1_fault t_kind t_value p1_bytes a2 (f1, f2, x3, x4, x5, x6) hc3) rfl hl.1 (by refine ⟨⟨rfl, rfl⟩, ⟨?_, ?_⟩, ⟨Nat.le_of_ble_eq_true rfl, Nat.le_of_ble_eq_true rfl⟩, Nat.le_of_ble_eq_true rfl⟩ <;> simp only [hm_rr] <;> omega)) hA w [0, 1, 2, 3, 4] [] [0, 1, 2, 3, 4] rfl rfl (by decide) (fun _ => rfl) (fun _ H locs w => ?_)
  refine lv_iconst (v := 0) hx hb dX3_readProduct_6 (by decide) ?_
  refine lv_istore_n (lv' := [(3, .int 0), (0, .ref h0), (1, .ref h1), (2, .int a2)]) hx hb dX3_readProduct_7 rfl hl (by decide) rfl (fun ls hl => ?_)
  have klp_X3_readProduct_8 : ∀ (n : Nat) (x7 : Int32) (f8 : Nat → Int32) (f9 : Nat → Int32) (x10 : Int32) (x11 : Int32) (x12 : Int32) (x13 : Int32) (H : Heap) (locs : List Loc) (ls : Array Slot), lp_X3_readProduct_8 TT a2 p1_count p1_bytes n x7 f8 f9 x10 x11 x12 x13 = some R → hm_W E A s.heap [oc3 h0 r_t x10 t_height x11, oc5 h1 r_p1 p1_count x12 x13, ic E (r_t 0) 80 f8, ic E (r_t 1) 80 f9, ic E (r_p1 0) 400 p1_bytes] H locs → lv_has ls 5 [(0, .ref h0), (1, .ref h1), (2, .int a2), (3, .int x7)] → W p l e (hm_rr (f + 1) (lo + 30) 0 0) s m args below meth c H locs 0 0 Q (F0 m 8 ls []) := by
    intro n
    induction n with
    | zero =>
      intro x7 f8 f9 x10 x11 x12 x13 H locs ls hf w hl
      exact pf_no hf
    | succ n ih8 =>
      intro x7 f8 f9 x10 x11 x12 x13 H locs ls hf w hl
      rw [lp_X3_readProduct_8] at hf
      refine lv_iload_n hx hb dX3_readProduct_8 rfl (lv_at hl 3 rfl) ?_
      refine lv_sipush (v := 400) hx hb dX3_readProduct_9 (by decide) ?_
      refine lv_icmp_ge (tgt := 79) hx hb dX3_readProduct_12 (by decide) (fun c12 => ?_) (fun c12 => ?_)
      · have hf := pf_t c12 hf
        exact hQ _ _ _ _ (f8, f9, x10, x11, x12, x13) (fun _ => 0) hf w dX3_readProduct_79
      · have hf := pf_e c12 hf
        refine lv_aload_n hx hb dX3_readProduct_15 rfl (lv_at hl 1 rfl) ?_
        obtain ⟨r14, hc16, hf⟩ := pf_bi_0 hf
        refine hm_aft_i (ws' := fun _ => [oc3 h0 r_t x10 t_height x11, oc5 h1 r_p1 p1_count x12 x13, ic E (r_t 0) 80 f8, ic E (r_t 1) 80 f9, ic E (r_p1 0) 400 p1_bytes]) (hm_runV (rest := []) hx hb hml hown X hA Y w 1 (ci := 5) (T := TX5) (N := 4) rfl rfl mw_X5_goesOn ml_X3_53 dX3_readProduct_16 hm_ac0 [] rfl [1] rfl rfl (ct_X5_goesOn l E H.size h1 r_p1 p1_count x12 x13 (r14, ()) hc16) rfl hl.1 (by refine ⟨⟨rfl, rfl⟩, ⟨?_, ?_⟩, ⟨Nat.le_of_ble_eq_true rfl, Nat.le_of_ble_eq_true rfl⟩, Nat.le_of_ble_eq_true rfl⟩ <;> simp only [hm_rr] <;> omega)) hA w [1] [0, 2, 3, 4] [0, 4, 1, 2, 3] rfl rfl (by decide) (fun _ => rfl) (fun _ H locs w => ?_)
        refine lv_if_eq (tgt := 79) hx hb dX3_readProduct_19 (by decide) (fun c19 => ?_) (fun c19 => ?_)
        · have hf := pf_t c19 hf
          exact hQ _ _ _ _ (f8, f9, x10, x11, x12, x13) (fun _ => 0) hf w dX3_readProduct_79
        · have hf := pf_e c19 hf
          refine lv_aload_n hx hb dX3_readProduct_22 rfl (lv_at hl 1 rfl) ?_
          obtain ⟨r15, hc23, hf⟩ := pf_bi_0 hf
          refine hm_aft_i (ws' := fun _ => [oc3 h0 r_t x10 t_height x11, oc5 h1 r_p1 p1_count x12 x13, ic E (r_t 0) 80 f8, ic E (r_t 1) 80 f9, ic E (r_p1 0) 400 p1_bytes]) (hm_runV (rest := []) hx hb hml hown X hA Y w 1 (ci := 5) (T := TX5) (N := 4) rfl rfl mw_X5_peek ml_X3_57 dX3_readProduct_23 hm_ac0 [] rfl [1, 4] rfl rfl (ct_X5_peek l E H.size h1 r_p1 p1_count x12 x13 p1_bytes (r15, ()) hc23) rfl hl.1 (by refine ⟨⟨rfl, rfl⟩, ⟨?_, ?_⟩, ⟨Nat.le_of_ble_eq_true rfl, Nat.le_of_ble_eq_true rfl⟩, Nat.le_of_ble_eq_true rfl⟩ <;> simp only [hm_rr] <;> omega)) hA w [1, 4] [0, 2, 3] [0, 3, 1, 2, 4] rfl rfl (by decide) (fun _ => rfl) (fun _ H locs w => ?_)
          refine lv_istore (lv' := [(4, .int r15), (0, .ref h0), (1, .ref h1), (2, .int a2), (3, .int x7)]) hx hb dX3_readProduct_26 hl (by decide) rfl (fun ls hl => ?_)
          refine lv_iload hx hb dX3_readProduct_28 (lv_at hl 0 rfl) ?_
          refine lv_bipush (v := 42) hx hb dX3_readProduct_30 (by decide) ?_
          obtain ⟨J50, hJ50, hf⟩ := pf_jn hf
          have kJ50 : ∀ (H : Heap) (locs : List Loc) (ls : Array Slot), J50 = some R → hm_W E A s.heap [oc3 h0 r_t x10 t_height x11, oc5 h1 r_p1 p1_count x12 x13, ic E (r_t 0) 80 f8, ic E (r_t 1) 80 f9, ic E (r_p1 0) 400 p1_bytes] H locs → lv_has ls 5 [(0, .ref h0), (1, .ref h1), (2, .int a2), (3, .int x7), (4, .int r15)] → W p l e (hm_rr (f + 1) (lo + 30) 0 0) s m args below meth c H locs 0 0 Q (F0 m 50 ls []) := by
            intro H locs ls hf w hl
            have hf := pf_j0 hJ50 hf
            refine lv_aload_n hx hb dX3_readProduct_50 rfl (lv_at hl 1 rfl) ?_
            refine lv_dup hx hb dX3_readProduct_51 rfl ?_
            refine hm_get cb_X5 hx hb hown X w 1 2 fl_X3_43 dX3_readProduct_52 rfl (by decide) rfl ?_
            refine lv_iconst (v := 1) hx hb dX3_readProduct_55 (by decide) ?_
            refine lv_iadd hx hb dX3_readProduct_56 ?_
            refine lv_topi (fun x16 ex16 => ?_)
            have hf := pf_nm ex16 hf
            refine hm_put (ws' := [oc3 h0 r_t x10 t_height x11, oc5 h1 r_p1 p1_count x16 x13, ic E (r_t 0) 80 f8, ic E (r_t 1) 80 f9, ic E (r_p1 0) 400 p1_bytes]) cb_X5 hx hb hown X w 1 2 fl_X3_43 dX3_readProduct_57 rfl (by decide) (Nat.le_of_ble_eq_true rfl) rfl rfl rfl rfl (fun H locs w => ?_)
            refine lv_aload_n hx hb dX3_readProduct_60 rfl (lv_at hl 0 rfl) ?_
            refine lv_aload_n hx hb dX3_readProduct_61 rfl (lv_at hl 1 rfl) ?_
            refine lv_iload_n hx hb dX3_readProduct_62 rfl (lv_at hl 2 rfl) ?_
            obtain ⟨f17, f18, x19, x20, x21, x22, hc63, hf⟩ := pf_bv_6 hf
            refine hm_aft_v (ws' := fun _ => [oc3 h0 r_t x19 t_height x20, oc5 h1 r_p1 p1_count x21 x22, ic E (r_t 0) 80 f17, ic E (r_t 1) 80 f18, ic E (r_p1 0) 400 p1_bytes]) (hm_runV (rest := []) hx hb hml hown X hA Y w 0 (ci := 3) (T := TX3) (N := 6) rfl rfl mw_X3_readThing ml_X3_65 dX3_readProduct_63 hm_ac0 [.ref h1, .int a2] rfl [0, 1, 2, 3, 4] rfl rfl (hT E H.size h0 h1 r_t r_p1 x10 t_height x11 p1_count x16 x13 f8 f9 p1_bytes a2 (f17, f18, x19, x20, x21, x22) hc63) rfl hl.1 (by refine ⟨⟨rfl, rfl⟩, ⟨?_, ?_⟩, ⟨Nat.le_of_ble_eq_true rfl, Nat.le_of_ble_eq_true rfl⟩, Nat.le_of_ble_eq_true rfl⟩ <;> simp only [hm_rr] <;> omega)) hA w [0, 1, 2, 3, 4] [] [0, 1, 2, 3, 4] rfl rfl (by decide) (fun _ => rfl) (fun _ H locs w => ?_)
            refine lv_aload_n hx hb dX3_readProduct_66 rfl (lv_at hl 0 rfl) ?_
            refine lv_iload hx hb dX3_readProduct_67 (lv_at hl 4 rfl) ?_
            refine lv_iconst (v := 0) hx hb dX3_readProduct_69 (by decide) ?_
            obtain ⟨f23, f24, x25, hc70, hf⟩ := pf_bv_3 hf
            refine hm_aft_v (ws' := fun _ => [oc3 h0 r_t x25 t_height x20, oc5 h1 r_p1 p1_count x21 x22, ic E (r_t 0) 80 f23, ic E (r_t 1) 80 f24, ic E (r_p1 0) 400 p1_bytes]) (hm_runV (rest := []) hx hb hml hown X hA Y w 0 (ci := 3) (T := TX3) (N := 6) rfl rfl mw_X3_add ml_X3_61 dX3_readProduct_70 hm_ac0 [.int r15, .int 0] rfl [0, 2, 3] rfl rfl (ct_X3_add l E H.size h0 r_t x19 t_height x20 f17 f18 r15 0 (f23, f24, x25) hc70) rfl hl.1 (by refine ⟨⟨rfl, rfl⟩, ⟨?_, ?_⟩, ⟨Nat.le_of_ble_eq_true rfl, Nat.le_of_ble_eq_true rfl⟩, Nat.le_of_ble_eq_true rfl⟩ <;> simp only [hm_rr] <;> omega)) hA w [0, 2, 3] [1, 4] [2, 0, 3, 4, 1] rfl rfl (by decide) (fun _ => rfl) (fun _ H locs w => ?_)
            obtain ⟨x26, ex26⟩ : ∃ y : Int32, y = (x7 + 1) := ⟨_, rfl⟩
            have hf := pf_nm ex26 hf
            refine lv_iinc (v := x26) (lv' := [(3, .int x26), (0, .ref h0), (1, .ref h1), (2, .int a2), (4, .int r15)]) hx hb dX3_readProduct_73 hl (k := 3) rfl (by rw [ex26]; rfl) (by decide) rfl (fun ls hl => ?_)
            refine lv_goto (tgt := 8) hx hb dX3_readProduct_76 (by decide) ?_
            exact ih8 _ _ _ _ _ _ _ _ _ _ hf w (lv_sub hl [1, 2, 3, 0] rfl)
          refine lv_icmp_eq (tgt := 50) hx hb dX3_readProduct_32 (by decide) (fun c32 => ?_) (fun c32 => ?_)
          · have hf := pf_t c32 hf
            exact kJ50 _ _ _ hf w (lv_sub hl [1, 2, 3, 4, 0] rfl)
          · have hf := pf_e c32 hf
            refine lv_iload hx hb dX3_readProduct_35 (lv_at hl 0 rfl) ?_
            refine lv_bipush (v := 47) hx hb dX3_readProduct_37 (by decide) ?_
            refine lv_icmp_eq (tgt := 50) hx hb dX3_readProduct_39 (by decide) (fun c39 => ?_) (fun c39 => ?_)
            · have hf := pf_t c39 hf
              exact kJ50 _ _ _ hf w (lv_sub hl [1, 2, 3, 4, 0] rfl)
            · have hf := pf_e c39 hf
              refine lv_iload hx hb dX3_readProduct_42 (lv_at hl 0 rfl) ?_
              refine lv_bipush (v := 37) hx hb dX3_readProduct_44 (by decide) ?_
              refine lv_icmp_eq (tgt := 50) hx hb dX3_readProduct_46 (by decide) (fun c46 => ?_) (fun c46 => ?_)
              · have hf := pf_t c46 hf
                exact kJ50 _ _ _ hf w (lv_sub hl [1, 2, 3, 4, 0] rfl)
              · have hf := pf_e c46 hf
                exact hQ _ _ _ _ (f8, f9, x10, x11, x12, x13) (fun _ => 0) hf w dX3_readProduct_49
  exact klp_X3_readProduct_8 FU _ _ _ _ _ _ _ _ _ _ hf w (lv_sub hl [1, 2, 3, 0] rfl)
set_option maxHeartbeats 8000000 in
set_option maxRecDepth 100000 in
theorem ct_X3_readSum (l : Launch) (TT : Int32 → (Nat → Int32) → (Nat → Int32) → Int32 → Int32 → (Nat → Int32) → Int32 → Int32 → Int32 → Option ((Nat → Int32) × (Nat → Int32) × Int32 × Int32 × Int32 × Int32)) (f lo : Nat) (hT : hm_TT l TT f lo) (rf : 8 ≤ f) (rl : 400 ≤ lo) (E : hm_E) (sz : Nat) (h0 : Nat) (h1 : Nat) (r_t : Nat → Nat) (r_p1 : Nat → Nat) (t_steps t_height t_things p1_count p1_at p1_fault : Int32) (t_kind : Nat → Int32) (t_value : Nat → Int32) (p1_bytes : Nat → Int32) (a2 : Int32) (R : (Nat → Int32) × (Nat → Int32) × Int32 × Int32 × Int32 × Int32) (hf : pf_X3_readSum TT a2 t_kind t_value t_steps t_things p1_bytes p1_count p1_at p1_fault = some R) : hm_Mv l E yX3_readSum cX3_readSum 5 [] (hm_rr (f + 2) (lo + 60) 0 0) [.ref h0, .ref h1, .int a2] sz [oc3 h0 r_t t_steps t_height t_things, oc5 h1 r_p1 p1_count p1_at p1_fault, ic E (r_t 0) 80 t_kind, ic E (r_t 1) 80 t_value, ic E (r_p1 0) 400 p1_bytes] (fun _ => [oc3 h0 r_t (R.2.2.1) t_height (R.2.2.2.1), oc5 h1 r_p1 p1_count (R.2.2.2.2.1) (R.2.2.2.2.2), ic E (r_t 0) 80 (R.1), ic E (r_t 1) 80 (R.2.1), ic E (r_p1 0) 400 p1_bytes]) := by
  refine hm_ct_v R (fun u _ => [oc3 h0 r_t (u.2.2.1) t_height (u.2.2.2.1), oc5 h1 r_p1 p1_count (u.2.2.2.2.1) (u.2.2.2.2.2), ic E (r_t 0) 80 (u.1), ic E (r_t 1) 80 (u.2.1), ic E (r_p1 0) 400 p1_bytes]) (by decide) (Nat.le_of_ble_eq_true rfl) ?_
  intro p e s m args below meth c A Q ls H locs hx hb hml hown X hA Y hex hin w hl hQ
  have hl : lv_has ls 5 [(0, .ref h0), (1, .ref h1), (2, .int a2)] := hl
  unfold pf_X3_readSum at hf
  refine lv_aload_n hx hb dX3_readSum_0 rfl (lv_at hl 0 rfl) ?_
  refine lv_aload_n hx hb dX3_readSum_1 rfl (lv_at hl 1 rfl) ?_
  refine lv_iload_n hx hb dX3_readSum_2 rfl (lv_at hl 2 rfl) ?_
  obtain ⟨f1, f2, x3, x4, x5, x6, hc3, hf⟩ := pf_bv_6 hf
  refine hm_aft_v (ws' := fun _ => [oc3 h0 r_t x3 t_height x4, oc5 h1 r_p1 p1_count x5 x6, ic E (r_t 0) 80 f1, ic E (r_t 1) 80 f2, ic E (r_p1 0) 400 p1_bytes]) (hm_runV (rest := []) hx hb hml hown X hA Y w 0 (ci := 3) (T := TX3) (N := 6) rfl rfl mw_X3_readProduct ml_X3_50 dX3_readSum_3 hm_ac0 [.ref h1, .int a2] rfl [0, 1, 2, 3, 4] rfl rfl (ct_X3_readProduct l TT f lo hT rf rl E H.size h0 h1 r_t r_p1 t_steps t_height t_things p1_count p1_at p1_fault t_kind t_value p1_bytes a2 (f1, f2, x3, x4, x5, x6) hc3) rfl hl.1 (by refine ⟨⟨rfl, rfl⟩, ⟨?_, ?_⟩, ⟨Nat.le_of_ble_eq_true rfl, Nat.le_of_ble_eq_true rfl⟩, Nat.le_of_ble_eq_true rfl⟩ <;> simp only [hm_rr] <;> omega)) hA w [0, 1, 2, 3, 4] [] [0, 1, 2, 3, 4] rfl rfl (by decide) (fun _ => rfl) (fun _ H locs w => ?_)
  refine lv_iconst (v := 0) hx hb dX3_readSum_6 (by decide) ?_
  refine lv_istore_n (lv' := [(3, .int 0), (0, .ref h0), (1, .ref h1), (2, .int a2)]) hx hb dX3_readSum_7 rfl hl (by decide) rfl (fun ls hl => ?_)
  have klp_X3_readSum_8 : ∀ (n : Nat) (x7 : Int32) (f8 : Nat → Int32) (f9 : Nat → Int32) (x10 : Int32) (x11 : Int32) (x12 : Int32) (x13 : Int32) (H : Heap) (locs : List Loc) (ls : Array Slot), lp_X3_readSum_8 TT a2 p1_count p1_bytes n x7 f8 f9 x10 x11 x12 x13 = some R → hm_W E A s.heap [oc3 h0 r_t x10 t_height x11, oc5 h1 r_p1 p1_count x12 x13, ic E (r_t 0) 80 f8, ic E (r_t 1) 80 f9, ic E (r_p1 0) 400 p1_bytes] H locs → lv_has ls 5 [(0, .ref h0), (1, .ref h1), (2, .int a2), (3, .int x7)] → W p l e (hm_rr (f + 2) (lo + 60) 0 0) s m args below meth c H locs 0 0 Q (F0 m 8 ls []) := by
    intro n
    induction n with
    | zero =>
      intro x7 f8 f9 x10 x11 x12 x13 H locs ls hf w hl
      exact pf_no hf
    | succ n ih8 =>
      intro x7 f8 f9 x10 x11 x12 x13 H locs ls hf w hl
      rw [lp_X3_readSum_8] at hf
      refine lv_iload_n hx hb dX3_readSum_8 rfl (lv_at hl 3 rfl) ?_
      refine lv_sipush (v := 400) hx hb dX3_readSum_9 (by decide) ?_
      refine lv_icmp_ge (tgt := 72) hx hb dX3_readSum_12 (by decide) (fun c12 => ?_) (fun c12 => ?_)
      · have hf := pf_t c12 hf
        exact hQ _ _ _ _ (f8, f9, x10, x11, x12, x13) (fun _ => 0) hf w dX3_readSum_72
      · have hf := pf_e c12 hf
        refine lv_aload_n hx hb dX3_readSum_15 rfl (lv_at hl 1 rfl) ?_
        obtain ⟨r14, hc16, hf⟩ := pf_bi_0 hf
        refine hm_aft_i (ws' := fun _ => [oc3 h0 r_t x10 t_height x11, oc5 h1 r_p1 p1_count x12 x13, ic E (r_t 0) 80 f8, ic E (r_t 1) 80 f9, ic E (r_p1 0) 400 p1_bytes]) (hm_runV (rest := []) hx hb hml hown X hA Y w 1 (ci := 5) (T := TX5) (N := 4) rfl rfl mw_X5_goesOn ml_X3_53 dX3_readSum_16 hm_ac0 [] rfl [1] rfl rfl (ct_X5_goesOn l E H.size h1 r_p1 p1_count x12 x13 (r14, ()) hc16) rfl hl.1 (by refine ⟨⟨rfl, rfl⟩, ⟨?_, ?_⟩, ⟨Nat.le_of_ble_eq_true rfl, Nat.le_of_ble_eq_true rfl⟩, Nat.le_of_ble_eq_true rfl⟩ <;> simp only [hm_rr] <;> omega)) hA w [1] [0, 2, 3, 4] [0, 4, 1, 2, 3] rfl rfl (by decide) (fun _ => rfl) (fun _ H locs w => ?_)
        refine lv_if_eq (tgt := 72) hx hb dX3_readSum_19 (by decide) (fun c19 => ?_) (fun c19 => ?_)
        · have hf := pf_t c19 hf
          exact hQ _ _ _ _ (f8, f9, x10, x11, x12, x13) (fun _ => 0) hf w dX3_readSum_72
        · have hf := pf_e c19 hf
          refine lv_aload_n hx hb dX3_readSum_22 rfl (lv_at hl 1 rfl) ?_
          obtain ⟨r15, hc23, hf⟩ := pf_bi_0 hf
          refine hm_aft_i (ws' := fun _ => [oc3 h0 r_t x10 t_height x11, oc5 h1 r_p1 p1_count x12 x13, ic E (r_t 0) 80 f8, ic E (r_t 1) 80 f9, ic E (r_p1 0) 400 p1_bytes]) (hm_runV (rest := []) hx hb hml hown X hA Y w 1 (ci := 5) (T := TX5) (N := 4) rfl rfl mw_X5_peek ml_X3_57 dX3_readSum_23 hm_ac0 [] rfl [1, 4] rfl rfl (ct_X5_peek l E H.size h1 r_p1 p1_count x12 x13 p1_bytes (r15, ()) hc23) rfl hl.1 (by refine ⟨⟨rfl, rfl⟩, ⟨?_, ?_⟩, ⟨Nat.le_of_ble_eq_true rfl, Nat.le_of_ble_eq_true rfl⟩, Nat.le_of_ble_eq_true rfl⟩ <;> simp only [hm_rr] <;> omega)) hA w [1, 4] [0, 2, 3] [0, 3, 1, 2, 4] rfl rfl (by decide) (fun _ => rfl) (fun _ H locs w => ?_)
          refine lv_istore (lv' := [(4, .int r15), (0, .ref h0), (1, .ref h1), (2, .int a2), (3, .int x7)]) hx hb dX3_readSum_26 hl (by decide) rfl (fun ls hl => ?_)
          refine lv_iload hx hb dX3_readSum_28 (lv_at hl 0 rfl) ?_
          refine lv_bipush (v := 43) hx hb dX3_readSum_30 (by decide) ?_
          obtain ⟨J43, hJ43, hf⟩ := pf_jn hf
          have kJ43 : ∀ (H : Heap) (locs : List Loc) (ls : Array Slot), J43 = some R → hm_W E A s.heap [oc3 h0 r_t x10 t_height x11, oc5 h1 r_p1 p1_count x12 x13, ic E (r_t 0) 80 f8, ic E (r_t 1) 80 f9, ic E (r_p1 0) 400 p1_bytes] H locs → lv_has ls 5 [(0, .ref h0), (1, .ref h1), (2, .int a2), (3, .int x7), (4, .int r15)] → W p l e (hm_rr (f + 2) (lo + 60) 0 0) s m args below meth c H locs 0 0 Q (F0 m 43 ls []) := by
            intro H locs ls hf w hl
            have hf := pf_j0 hJ43 hf
            refine lv_aload_n hx hb dX3_readSum_43 rfl (lv_at hl 1 rfl) ?_
            refine lv_dup hx hb dX3_readSum_44 rfl ?_
            refine hm_get cb_X5 hx hb hown X w 1 2 fl_X3_43 dX3_readSum_45 rfl (by decide) rfl ?_
            refine lv_iconst (v := 1) hx hb dX3_readSum_48 (by decide) ?_
            refine lv_iadd hx hb dX3_readSum_49 ?_
            refine lv_topi (fun x16 ex16 => ?_)
            have hf := pf_nm ex16 hf
            refine hm_put (ws' := [oc3 h0 r_t x10 t_height x11, oc5 h1 r_p1 p1_count x16 x13, ic E (r_t 0) 80 f8, ic E (r_t 1) 80 f9, ic E (r_p1 0) 400 p1_bytes]) cb_X5 hx hb hown X w 1 2 fl_X3_43 dX3_readSum_50 rfl (by decide) (Nat.le_of_ble_eq_true rfl) rfl rfl rfl rfl (fun H locs w => ?_)
            refine lv_aload_n hx hb dX3_readSum_53 rfl (lv_at hl 0 rfl) ?_
            refine lv_aload_n hx hb dX3_readSum_54 rfl (lv_at hl 1 rfl) ?_
            refine lv_iload_n hx hb dX3_readSum_55 rfl (lv_at hl 2 rfl) ?_
            obtain ⟨f17, f18, x19, x20, x21, x22, hc56, hf⟩ := pf_bv_6 hf
            refine hm_aft_v (ws' := fun _ => [oc3 h0 r_t x19 t_height x20, oc5 h1 r_p1 p1_count x21 x22, ic E (r_t 0) 80 f17, ic E (r_t 1) 80 f18, ic E (r_p1 0) 400 p1_bytes]) (hm_runV (rest := []) hx hb hml hown X hA Y w 0 (ci := 3) (T := TX3) (N := 6) rfl rfl mw_X3_readProduct ml_X3_50 dX3_readSum_56 hm_ac0 [.ref h1, .int a2] rfl [0, 1, 2, 3, 4] rfl rfl (ct_X3_readProduct l TT f lo hT rf rl E H.size h0 h1 r_t r_p1 x10 t_height x11 p1_count x16 x13 f8 f9 p1_bytes a2 (f17, f18, x19, x20, x21, x22) hc56) rfl hl.1 (by refine ⟨⟨rfl, rfl⟩, ⟨?_, ?_⟩, ⟨Nat.le_of_ble_eq_true rfl, Nat.le_of_ble_eq_true rfl⟩, Nat.le_of_ble_eq_true rfl⟩ <;> simp only [hm_rr] <;> omega)) hA w [0, 1, 2, 3, 4] [] [0, 1, 2, 3, 4] rfl rfl (by decide) (fun _ => rfl) (fun _ H locs w => ?_)
            refine lv_aload_n hx hb dX3_readSum_59 rfl (lv_at hl 0 rfl) ?_
            refine lv_iload hx hb dX3_readSum_60 (lv_at hl 4 rfl) ?_
            refine lv_iconst (v := 0) hx hb dX3_readSum_62 (by decide) ?_
            obtain ⟨f23, f24, x25, hc63, hf⟩ := pf_bv_3 hf
            refine hm_aft_v (ws' := fun _ => [oc3 h0 r_t x25 t_height x20, oc5 h1 r_p1 p1_count x21 x22, ic E (r_t 0) 80 f23, ic E (r_t 1) 80 f24, ic E (r_p1 0) 400 p1_bytes]) (hm_runV (rest := []) hx hb hml hown X hA Y w 0 (ci := 3) (T := TX3) (N := 6) rfl rfl mw_X3_add ml_X3_61 dX3_readSum_63 hm_ac0 [.int r15, .int 0] rfl [0, 2, 3] rfl rfl (ct_X3_add l E H.size h0 r_t x19 t_height x20 f17 f18 r15 0 (f23, f24, x25) hc63) rfl hl.1 (by refine ⟨⟨rfl, rfl⟩, ⟨?_, ?_⟩, ⟨Nat.le_of_ble_eq_true rfl, Nat.le_of_ble_eq_true rfl⟩, Nat.le_of_ble_eq_true rfl⟩ <;> simp only [hm_rr] <;> omega)) hA w [0, 2, 3] [1, 4] [2, 0, 3, 4, 1] rfl rfl (by decide) (fun _ => rfl) (fun _ H locs w => ?_)
            obtain ⟨x26, ex26⟩ : ∃ y : Int32, y = (x7 + 1) := ⟨_, rfl⟩
            have hf := pf_nm ex26 hf
            refine lv_iinc (v := x26) (lv' := [(3, .int x26), (0, .ref h0), (1, .ref h1), (2, .int a2), (4, .int r15)]) hx hb dX3_readSum_66 hl (k := 3) rfl (by rw [ex26]; rfl) (by decide) rfl (fun ls hl => ?_)
            refine lv_goto (tgt := 8) hx hb dX3_readSum_69 (by decide) ?_
            exact ih8 _ _ _ _ _ _ _ _ _ _ hf w (lv_sub hl [1, 2, 3, 0] rfl)
          refine lv_icmp_eq (tgt := 43) hx hb dX3_readSum_32 (by decide) (fun c32 => ?_) (fun c32 => ?_)
          · have hf := pf_t c32 hf
            exact kJ43 _ _ _ hf w (lv_sub hl [1, 2, 3, 4, 0] rfl)
          · have hf := pf_e c32 hf
            refine lv_iload hx hb dX3_readSum_35 (lv_at hl 0 rfl) ?_
            refine lv_bipush (v := 45) hx hb dX3_readSum_37 (by decide) ?_
            refine lv_icmp_eq (tgt := 43) hx hb dX3_readSum_39 (by decide) (fun c39 => ?_) (fun c39 => ?_)
            · have hf := pf_t c39 hf
              exact kJ43 _ _ _ hf w (lv_sub hl [1, 2, 3, 4, 0] rfl)
            · have hf := pf_e c39 hf
              exact hQ _ _ _ _ (f8, f9, x10, x11, x12, x13) (fun _ => 0) hf w dX3_readSum_42
  exact klp_X3_readSum_8 FU _ _ _ _ _ _ _ _ _ _ hf w (lv_sub hl [1, 2, 3, 0] rfl)
set_option maxHeartbeats 8000000 in
set_option maxRecDepth 100000 in
theorem ct_X3_readChoice (l : Launch) (TT : Int32 → (Nat → Int32) → (Nat → Int32) → Int32 → Int32 → (Nat → Int32) → Int32 → Int32 → Int32 → Option ((Nat → Int32) × (Nat → Int32) × Int32 × Int32 × Int32 × Int32)) (f lo : Nat) (hT : hm_TT l TT f lo) (rf : 8 ≤ f) (rl : 400 ≤ lo) (E : hm_E) (sz : Nat) (h0 : Nat) (h1 : Nat) (r_t : Nat → Nat) (r_p1 : Nat → Nat) (t_steps t_height t_things p1_count p1_at p1_fault : Int32) (t_kind : Nat → Int32) (t_value : Nat → Int32) (p1_bytes : Nat → Int32) (a2 : Int32) (R : (Nat → Int32) × (Nat → Int32) × Int32 × Int32 × Int32 × Int32) (hf : pf_X3_readChoice TT a2 t_kind t_value t_steps t_things p1_bytes p1_count p1_at p1_fault = some R) : hm_Mv l E yX3_readChoice cX3_readChoice 4 [] (hm_rr (f + 3) (lo + 90) 0 0) [.ref h0, .ref h1, .int a2] sz [oc3 h0 r_t t_steps t_height t_things, oc5 h1 r_p1 p1_count p1_at p1_fault, ic E (r_t 0) 80 t_kind, ic E (r_t 1) 80 t_value, ic E (r_p1 0) 400 p1_bytes] (fun _ => [oc3 h0 r_t (R.2.2.1) t_height (R.2.2.2.1), oc5 h1 r_p1 p1_count (R.2.2.2.2.1) (R.2.2.2.2.2), ic E (r_t 0) 80 (R.1), ic E (r_t 1) 80 (R.2.1), ic E (r_p1 0) 400 p1_bytes]) := by
  refine hm_ct_v R (fun u _ => [oc3 h0 r_t (u.2.2.1) t_height (u.2.2.2.1), oc5 h1 r_p1 p1_count (u.2.2.2.2.1) (u.2.2.2.2.2), ic E (r_t 0) 80 (u.1), ic E (r_t 1) 80 (u.2.1), ic E (r_p1 0) 400 p1_bytes]) (by decide) (Nat.le_of_ble_eq_true rfl) ?_
  intro p e s m args below meth c A Q ls H locs hx hb hml hown X hA Y hex hin w hl hQ
  have hl : lv_has ls 4 [(0, .ref h0), (1, .ref h1), (2, .int a2)] := hl
  unfold pf_X3_readChoice at hf
  refine lv_aload_n hx hb dX3_readChoice_0 rfl (lv_at hl 0 rfl) ?_
  refine lv_aload_n hx hb dX3_readChoice_1 rfl (lv_at hl 1 rfl) ?_
  refine lv_iload_n hx hb dX3_readChoice_2 rfl (lv_at hl 2 rfl) ?_
  obtain ⟨f1, f2, x3, x4, x5, x6, hc3, hf⟩ := pf_bv_6 hf
  refine hm_aft_v (ws' := fun _ => [oc3 h0 r_t x3 t_height x4, oc5 h1 r_p1 p1_count x5 x6, ic E (r_t 0) 80 f1, ic E (r_t 1) 80 f2, ic E (r_p1 0) 400 p1_bytes]) (hm_runV (rest := []) hx hb hml hown X hA Y w 0 (ci := 3) (T := TX3) (N := 6) rfl rfl mw_X3_readSum ml_X3_39 dX3_readChoice_3 hm_ac0 [.ref h1, .int a2] rfl [0, 1, 2, 3, 4] rfl rfl (ct_X3_readSum l TT f lo hT rf rl E H.size h0 h1 r_t r_p1 t_steps t_height t_things p1_count p1_at p1_fault t_kind t_value p1_bytes a2 (f1, f2, x3, x4, x5, x6) hc3) rfl hl.1 (by refine ⟨⟨rfl, rfl⟩, ⟨?_, ?_⟩, ⟨Nat.le_of_ble_eq_true rfl, Nat.le_of_ble_eq_true rfl⟩, Nat.le_of_ble_eq_true rfl⟩ <;> simp only [hm_rr] <;> omega)) hA w [0, 1, 2, 3, 4] [] [0, 1, 2, 3, 4] rfl rfl (by decide) (fun _ => rfl) (fun _ H locs w => ?_)
  refine lv_aload_n hx hb dX3_readChoice_6 rfl (lv_at hl 1 rfl) ?_
  obtain ⟨r7, hc7, hf⟩ := pf_bi_0 hf
  refine hm_aft_i (ws' := fun _ => [oc3 h0 r_t x3 t_height x4, oc5 h1 r_p1 p1_count x5 x6, ic E (r_t 0) 80 f1, ic E (r_t 1) 80 f2, ic E (r_p1 0) 400 p1_bytes]) (hm_runV (rest := []) hx hb hml hown X hA Y w 1 (ci := 5) (T := TX5) (N := 4) rfl rfl mw_X5_peek ml_X3_57 dX3_readChoice_7 hm_ac0 [] rfl [1, 4] rfl rfl (ct_X5_peek l E H.size h1 r_p1 p1_count x5 x6 p1_bytes (r7, ()) hc7) rfl hl.1 (by refine ⟨⟨rfl, rfl⟩, ⟨?_, ?_⟩, ⟨Nat.le_of_ble_eq_true rfl, Nat.le_of_ble_eq_true rfl⟩, Nat.le_of_ble_eq_true rfl⟩ <;> simp only [hm_rr] <;> omega)) hA w [1, 4] [0, 2, 3] [0, 3, 1, 2, 4] rfl rfl (by decide) (fun _ => rfl) (fun _ H locs w => ?_)
  refine lv_istore_n (lv' := [(3, .int r7), (0, .ref h0), (1, .ref h1), (2, .int a2)]) hx hb dX3_readChoice_10 rfl hl (by decide) rfl (fun ls hl => ?_)
  refine lv_aload_n hx hb dX3_readChoice_11 rfl (lv_at hl 2 rfl) ?_
  refine lv_bipush (v := 60) hx hb dX3_readChoice_12 (by decide) ?_
  obtain ⟨r8, x9, hc14, hf⟩ := pf_bi_1 hf
  refine hm_aft_i (ws' := fun _ => [oc3 h0 r_t x3 t_height x4, oc5 h1 r_p1 p1_count x9 x6, ic E (r_t 0) 80 f1, ic E (r_t 1) 80 f2, ic E (r_p1 0) 400 p1_bytes]) (hm_runV (rest := []) hx hb hml hown X hA Y w 1 (ci := 5) (T := TX5) (N := 4) rfl rfl mw_X5_takes ml_X3_74 dX3_readChoice_14 hm_ac0 [.int 60] rfl [1, 4] rfl rfl (ct_X5_takes l E H.size h1 r_p1 p1_count x5 x6 p1_bytes 60 (r8, x9) hc14) rfl hl.1 (by refine ⟨⟨rfl, rfl⟩, ⟨?_, ?_⟩, ⟨Nat.le_of_ble_eq_true rfl, Nat.le_of_ble_eq_true rfl⟩, Nat.le_of_ble_eq_true rfl⟩ <;> simp only [hm_rr] <;> omega)) hA w [1, 4] [0, 2, 3] [0, 3, 1, 2, 4] rfl rfl (by decide) (fun _ => rfl) (fun _ H locs w => ?_)
  obtain ⟨J26, hJ26, hf⟩ := pf_jn hf
  have kJ26 : ∀ (x10 : Int32) (x11 : Int32) (H : Heap) (locs : List Loc) (ls : Array Slot), J26 x10 x11 = some R → hm_W E A s.heap [oc3 h0 r_t x3 t_height x4, oc5 h1 r_p1 p1_count x10 x11, ic E (r_t 0) 80 f1, ic E (r_t 1) 80 f2, ic E (r_p1 0) 400 p1_bytes] H locs → lv_has ls 4 [(0, .ref h0), (1, .ref h1), (2, .int a2), (3, .int r7)] → W p l e (hm_rr (f + 3) (lo + 90) 0 0) s m args below meth c H locs 0 0 Q (F0 m 26 ls []) := by
    intro x10 x11 H locs ls hf w hl
    have hf := pf_j2 hJ26 hf
    refine lv_aload_n hx hb dX3_readChoice_26 rfl (lv_at hl 0 rfl) ?_
    refine lv_aload_n hx hb dX3_readChoice_27 rfl (lv_at hl 1 rfl) ?_
    refine lv_iload_n hx hb dX3_readChoice_28 rfl (lv_at hl 2 rfl) ?_
    obtain ⟨f12, f13, x14, x15, x16, x17, hc29, hf⟩ := pf_bv_6 hf
    refine hm_aft_v (ws' := fun _ => [oc3 h0 r_t x14 t_height x15, oc5 h1 r_p1 p1_count x16 x17, ic E (r_t 0) 80 f12, ic E (r_t 1) 80 f13, ic E (r_p1 0) 400 p1_bytes]) (hm_runV (rest := []) hx hb hml hown X hA Y w 0 (ci := 3) (T := TX3) (N := 6) rfl rfl mw_X3_readSum ml_X3_39 dX3_readChoice_29 hm_ac0 [.ref h1, .int a2] rfl [0, 1, 2, 3, 4] rfl rfl (ct_X3_readSum l TT f lo hT rf rl E H.size h0 h1 r_t r_p1 x3 t_height x4 p1_count x10 x11 f1 f2 p1_bytes a2 (f12, f13, x14, x15, x16, x17) hc29) rfl hl.1 (by refine ⟨⟨rfl, rfl⟩, ⟨?_, ?_⟩, ⟨Nat.le_of_ble_eq_true rfl, Nat.le_of_ble_eq_true rfl⟩, Nat.le_of_ble_eq_true rfl⟩ <;> simp only [hm_rr] <;> omega)) hA w [0, 1, 2, 3, 4] [] [0, 1, 2, 3, 4] rfl rfl (by decide) (fun _ => rfl) (fun _ H locs w => ?_)
    refine lv_aload_n hx hb dX3_readChoice_32 rfl (lv_at hl 1 rfl) ?_
    refine lv_bipush (v := 63) hx hb dX3_readChoice_33 (by decide) ?_
    obtain ⟨x18, x19, hc35, hf⟩ := pf_bv_2 hf
    refine hm_aft_v (ws' := fun _ => [oc3 h0 r_t x14 t_height x15, oc5 h1 r_p1 p1_count x18 x19, ic E (r_t 0) 80 f12, ic E (r_t 1) 80 f13, ic E (r_p1 0) 400 p1_bytes]) (hm_runV (rest := []) hx hb hml hown X hA Y w 1 (ci := 5) (T := TX5) (N := 4) rfl rfl mw_X5_needs ml_X3_78 dX3_readChoice_35 hm_ac0 [.int 63] rfl [1, 4] rfl rfl (ct_X5_needs l E H.size h1 r_p1 p1_count x16 x17 p1_bytes 63 (x18, x19) hc35) rfl hl.1 (by refine ⟨⟨rfl, rfl⟩, ⟨?_, ?_⟩, ⟨Nat.le_of_ble_eq_true rfl, Nat.le_of_ble_eq_true rfl⟩, Nat.le_of_ble_eq_true rfl⟩ <;> simp only [hm_rr] <;> omega)) hA w [1, 4] [0, 2, 3] [0, 3, 1, 2, 4] rfl rfl (by decide) (fun _ => rfl) (fun _ H locs w => ?_)
    refine lv_aload_n hx hb dX3_readChoice_38 rfl (lv_at hl 0 rfl) ?_
    refine lv_aload_n hx hb dX3_readChoice_39 rfl (lv_at hl 1 rfl) ?_
    refine lv_iload_n hx hb dX3_readChoice_40 rfl (lv_at hl 2 rfl) ?_
    obtain ⟨f20, f21, x22, x23, x24, x25, hc41, hf⟩ := pf_bv_6 hf
    refine hm_aft_v (ws' := fun _ => [oc3 h0 r_t x22 t_height x23, oc5 h1 r_p1 p1_count x24 x25, ic E (r_t 0) 80 f20, ic E (r_t 1) 80 f21, ic E (r_p1 0) 400 p1_bytes]) (hm_runV (rest := []) hx hb hml hown X hA Y w 0 (ci := 3) (T := TX3) (N := 6) rfl rfl mw_X3_readSum ml_X3_39 dX3_readChoice_41 hm_ac0 [.ref h1, .int a2] rfl [0, 1, 2, 3, 4] rfl rfl (ct_X3_readSum l TT f lo hT rf rl E H.size h0 h1 r_t r_p1 x14 t_height x15 p1_count x18 x19 f12 f13 p1_bytes a2 (f20, f21, x22, x23, x24, x25) hc41) rfl hl.1 (by refine ⟨⟨rfl, rfl⟩, ⟨?_, ?_⟩, ⟨Nat.le_of_ble_eq_true rfl, Nat.le_of_ble_eq_true rfl⟩, Nat.le_of_ble_eq_true rfl⟩ <;> simp only [hm_rr] <;> omega)) hA w [0, 1, 2, 3, 4] [] [0, 1, 2, 3, 4] rfl rfl (by decide) (fun _ => rfl) (fun _ H locs w => ?_)
    refine lv_aload_n hx hb dX3_readChoice_44 rfl (lv_at hl 1 rfl) ?_
    refine lv_bipush (v := 58) hx hb dX3_readChoice_45 (by decide) ?_
    obtain ⟨x26, x27, hc47, hf⟩ := pf_bv_2 hf
    refine hm_aft_v (ws' := fun _ => [oc3 h0 r_t x22 t_height x23, oc5 h1 r_p1 p1_count x26 x27, ic E (r_t 0) 80 f20, ic E (r_t 1) 80 f21, ic E (r_p1 0) 400 p1_bytes]) (hm_runV (rest := []) hx hb hml hown X hA Y w 1 (ci := 5) (T := TX5) (N := 4) rfl rfl mw_X5_needs ml_X3_78 dX3_readChoice_47 hm_ac0 [.int 58] rfl [1, 4] rfl rfl (ct_X5_needs l E H.size h1 r_p1 p1_count x24 x25 p1_bytes 58 (x26, x27) hc47) rfl hl.1 (by refine ⟨⟨rfl, rfl⟩, ⟨?_, ?_⟩, ⟨Nat.le_of_ble_eq_true rfl, Nat.le_of_ble_eq_true rfl⟩, Nat.le_of_ble_eq_true rfl⟩ <;> simp only [hm_rr] <;> omega)) hA w [1, 4] [0, 2, 3] [0, 3, 1, 2, 4] rfl rfl (by decide) (fun _ => rfl) (fun _ H locs w => ?_)
    refine lv_aload_n hx hb dX3_readChoice_50 rfl (lv_at hl 0 rfl) ?_
    refine lv_aload_n hx hb dX3_readChoice_51 rfl (lv_at hl 1 rfl) ?_
    refine lv_iload_n hx hb dX3_readChoice_52 rfl (lv_at hl 2 rfl) ?_
    obtain ⟨f28, f29, x30, x31, x32, x33, hc53, hf⟩ := pf_bv_6 hf
    refine hm_aft_v (ws' := fun _ => [oc3 h0 r_t x30 t_height x31, oc5 h1 r_p1 p1_count x32 x33, ic E (r_t 0) 80 f28, ic E (r_t 1) 80 f29, ic E (r_p1 0) 400 p1_bytes]) (hm_runV (rest := []) hx hb hml hown X hA Y w 0 (ci := 3) (T := TX3) (N := 6) rfl rfl mw_X3_readSum ml_X3_39 dX3_readChoice_53 hm_ac0 [.ref h1, .int a2] rfl [0, 1, 2, 3, 4] rfl rfl (ct_X3_readSum l TT f lo hT rf rl E H.size h0 h1 r_t r_p1 x22 t_height x23 p1_count x26 x27 f20 f21 p1_bytes a2 (f28, f29, x30, x31, x32, x33) hc53) rfl hl.1 (by refine ⟨⟨rfl, rfl⟩, ⟨?_, ?_⟩, ⟨Nat.le_of_ble_eq_true rfl, Nat.le_of_ble_eq_true rfl⟩, Nat.le_of_ble_eq_true rfl⟩ <;> simp only [hm_rr] <;> omega)) hA w [0, 1, 2, 3, 4] [] [0, 1, 2, 3, 4] rfl rfl (by decide) (fun _ => rfl) (fun _ H locs w => ?_)
    refine lv_aload_n hx hb dX3_readChoice_56 rfl (lv_at hl 1 rfl) ?_
    refine lv_bipush (v := 93) hx hb dX3_readChoice_57 (by decide) ?_
    obtain ⟨x34, x35, hc59, hf⟩ := pf_bv_2 hf
    refine hm_aft_v (ws' := fun _ => [oc3 h0 r_t x30 t_height x31, oc5 h1 r_p1 p1_count x34 x35, ic E (r_t 0) 80 f28, ic E (r_t 1) 80 f29, ic E (r_p1 0) 400 p1_bytes]) (hm_runV (rest := []) hx hb hml hown X hA Y w 1 (ci := 5) (T := TX5) (N := 4) rfl rfl mw_X5_needs ml_X3_78 dX3_readChoice_59 hm_ac0 [.int 93] rfl [1, 4] rfl rfl (ct_X5_needs l E H.size h1 r_p1 p1_count x32 x33 p1_bytes 93 (x34, x35) hc59) rfl hl.1 (by refine ⟨⟨rfl, rfl⟩, ⟨?_, ?_⟩, ⟨Nat.le_of_ble_eq_true rfl, Nat.le_of_ble_eq_true rfl⟩, Nat.le_of_ble_eq_true rfl⟩ <;> simp only [hm_rr] <;> omega)) hA w [1, 4] [0, 2, 3] [0, 3, 1, 2, 4] rfl rfl (by decide) (fun _ => rfl) (fun _ H locs w => ?_)
    refine lv_aload_n hx hb dX3_readChoice_62 rfl (lv_at hl 0 rfl) ?_
    refine lv_iload_n hx hb dX3_readChoice_63 rfl (lv_at hl 3 rfl) ?_
    refine lv_iconst (v := 0) hx hb dX3_readChoice_64 (by decide) ?_
    obtain ⟨f36, f37, x38, hc65, hf⟩ := pf_bv_3 hf
    refine hm_aft_v (ws' := fun _ => [oc3 h0 r_t x38 t_height x31, oc5 h1 r_p1 p1_count x34 x35, ic E (r_t 0) 80 f36, ic E (r_t 1) 80 f37, ic E (r_p1 0) 400 p1_bytes]) (hm_runV (rest := []) hx hb hml hown X hA Y w 0 (ci := 3) (T := TX3) (N := 6) rfl rfl mw_X3_add ml_X3_61 dX3_readChoice_65 hm_ac0 [.int r7, .int 0] rfl [0, 2, 3] rfl rfl (ct_X3_add l E H.size h0 r_t x30 t_height x31 f28 f29 r7 0 (f36, f37, x38) hc65) rfl hl.1 (by refine ⟨⟨rfl, rfl⟩, ⟨?_, ?_⟩, ⟨Nat.le_of_ble_eq_true rfl, Nat.le_of_ble_eq_true rfl⟩, Nat.le_of_ble_eq_true rfl⟩ <;> simp only [hm_rr] <;> omega)) hA w [0, 2, 3] [1, 4] [2, 0, 3, 4, 1] rfl rfl (by decide) (fun _ => rfl) (fun _ H locs w => ?_)
    exact hQ _ _ _ _ (f36, f37, x38, x31, x34, x35) (fun _ => 0) hf w dX3_readChoice_68
  refine lv_if_ne (tgt := 26) hx hb dX3_readChoice_17 (by decide) (fun c17 => ?_) (fun c17 => ?_)
  · have hf := pf_e c17 hf
    exact kJ26 _ _ _ _ _ hf w (lv_sub hl [1, 2, 3, 0] rfl)
  · have hf := pf_t c17 hf
    refine lv_aload_n hx hb dX3_readChoice_20 rfl (lv_at hl 2 rfl) ?_
    refine lv_bipush (v := 61) hx hb dX3_readChoice_21 (by decide) ?_
    obtain ⟨x39, x40, hc23, hf⟩ := pf_bv_2 hf
    refine hm_aft_v (ws' := fun _ => [oc3 h0 r_t x3 t_height x4, oc5 h1 r_p1 p1_count x39 x40, ic E (r_t 0) 80 f1, ic E (r_t 1) 80 f2, ic E (r_p1 0) 400 p1_bytes]) (hm_runV (rest := []) hx hb hml hown X hA Y w 1 (ci := 5) (T := TX5) (N := 4) rfl rfl mw_X5_needs ml_X3_78 dX3_readChoice_23 hm_ac0 [.int 61] rfl [1, 4] rfl rfl (ct_X5_needs l E H.size h1 r_p1 p1_count x9 x6 p1_bytes 61 (x39, x40) hc23) rfl hl.1 (by refine ⟨⟨rfl, rfl⟩, ⟨?_, ?_⟩, ⟨Nat.le_of_ble_eq_true rfl, Nat.le_of_ble_eq_true rfl⟩, Nat.le_of_ble_eq_true rfl⟩ <;> simp only [hm_rr] <;> omega)) hA w [1, 4] [0, 2, 3] [0, 3, 1, 2, 4] rfl rfl (by decide) (fun _ => rfl) (fun _ H locs w => ?_)
    exact kJ26 _ _ _ _ _ hf w (lv_sub hl [1, 2, 3, 0] rfl)
set_option maxHeartbeats 8000000 in
set_option maxRecDepth 100000 in
theorem ct_X3_readThing (l : Launch) : ∀ n : Nat, hm_TT l (pf_X3_readThing n) (8 + 4 * n) (400 + 120 * n) := by
  intro n
  induction n with
  | zero =>
    intro E sz h0 h1 r_t r_p1 t_steps t_height t_things p1_count p1_at p1_fault t_kind t_value p1_bytes a2 R hf
    exact pf_no hf
  | succ n hT =>
    intro E sz h0 h1 r_t r_p1 t_steps t_height t_things p1_count p1_at p1_fault t_kind t_value p1_bytes a2 R hf
    refine hm_ct_v R (fun u _ => [oc3 h0 r_t (u.2.2.1) t_height (u.2.2.2.1), oc5 h1 r_p1 p1_count (u.2.2.2.2.1) (u.2.2.2.2.2), ic E (r_t 0) 80 (u.1), ic E (r_t 1) 80 (u.2.1), ic E (r_p1 0) 400 p1_bytes]) (by decide) (Nat.le_of_ble_eq_true rfl) ?_
    intro p e s m args below meth c A Q ls H locs hx hb hml hown X hA Y hex hin w hl hQ
    have hl : lv_has ls 4 [(0, .ref h0), (1, .ref h1), (2, .int a2)] := hl
    rw [pf_X3_readThing] at hf
    refine lv_aload_n hx hb dX3_readThing_0 rfl (lv_at hl 1 rfl) ?_
    obtain ⟨r1, hc1, hf⟩ := pf_bi_0 hf
    refine hm_aft_i (ws' := fun _ => [oc3 h0 r_t t_steps t_height t_things, oc5 h1 r_p1 p1_count p1_at p1_fault, ic E (r_t 0) 80 t_kind, ic E (r_t 1) 80 t_value, ic E (r_p1 0) 400 p1_bytes]) (hm_runV (rest := []) hx hb hml hown X hA Y w 1 (ci := 5) (T := TX5) (N := 4) rfl rfl mw_X5_goesOn ml_X3_53 dX3_readThing_1 hm_ac0 [] rfl [1] rfl rfl (ct_X5_goesOn l E H.size h1 r_p1 p1_count p1_at p1_fault (r1, ()) hc1) rfl hl.1 (by refine ⟨⟨rfl, rfl⟩, ⟨?_, ?_⟩, ⟨Nat.le_of_ble_eq_true rfl, Nat.le_of_ble_eq_true rfl⟩, Nat.le_of_ble_eq_true rfl⟩ <;> simp only [hm_rr] <;> omega)) hA w [1] [0, 2, 3, 4] [0, 4, 1, 2, 3] rfl rfl (by decide) (fun _ => rfl) (fun _ H locs w => ?_)
    refine lv_if_eq (tgt := 22) hx hb dX3_readThing_4 (by decide) (fun c4 => ?_) (fun c4 => ?_)
    · have hf := pf_t c4 hf
      refine lv_aload_n hx hb dX3_readThing_22 rfl (lv_at hl 1 rfl) ?_
      refine lv_aload_n hx hb dX3_readThing_23 rfl (lv_at hl 1 rfl) ?_
      refine hm_get cb_X5 hx hb hown X w 1 2 fl_X3_43 dX3_readThing_24 rfl (by decide) rfl ?_
      obtain ⟨x2, hc27, hf⟩ := pf_bv_1 hf
      refine hm_aft_v (ws' := fun _ => [oc3 h0 r_t t_steps t_height t_things, oc5 h1 r_p1 p1_count p1_at x2, ic E (r_t 0) 80 t_kind, ic E (r_t 1) 80 t_value, ic E (r_p1 0) 400 p1_bytes]) (hm_runV (rest := []) hx hb hml hown X hA Y w 1 (ci := 5) (T := TX5) (N := 4) rfl rfl mw_X5_blame ml_X3_46 dX3_readThing_27 hm_ac0 [.int p1_at] rfl [1] rfl rfl (ct_X5_blame l E H.size h1 r_p1 p1_count p1_at p1_fault p1_at x2 hc27) rfl hl.1 (by refine ⟨⟨rfl, rfl⟩, ⟨?_, ?_⟩, ⟨Nat.le_of_ble_eq_true rfl, Nat.le_of_ble_eq_true rfl⟩, Nat.le_of_ble_eq_true rfl⟩ <;> simp only [hm_rr] <;> omega)) hA w [1] [0, 2, 3, 4] [0, 4, 1, 2, 3] rfl rfl (by decide) (fun _ => rfl) (fun _ H locs w => ?_)
      exact hQ _ _ _ _ (t_kind, t_value, t_steps, t_things, p1_at, x2) (fun _ => 0) hf w dX3_readThing_30
    · have hf := pf_e c4 hf
      refine lv_aload_n hx hb dX3_readThing_7 rfl (lv_at hl 0 rfl) ?_
      refine hm_get cb_X3 hx hb hown X w 0 5 fl_X3_28 dX3_readThing_8 rfl (by decide) rfl ?_
      refine lv_bipush (v := 40) hx hb dX3_readThing_11 (by decide) ?_
      refine lv_icmp_ge (tgt := 22) hx hb dX3_readThing_13 (by decide) (fun c13 => ?_) (fun c13 => ?_)
      · have hf := pf_t c13 hf
        refine lv_aload_n hx hb dX3_readThing_22 rfl (lv_at hl 1 rfl) ?_
        refine lv_aload_n hx hb dX3_readThing_23 rfl (lv_at hl 1 rfl) ?_
        refine hm_get cb_X5 hx hb hown X w 1 2 fl_X3_43 dX3_readThing_24 rfl (by decide) rfl ?_
        obtain ⟨x3, hc27, hf⟩ := pf_bv_1 hf
        refine hm_aft_v (ws' := fun _ => [oc3 h0 r_t t_steps t_height t_things, oc5 h1 r_p1 p1_count p1_at x3, ic E (r_t 0) 80 t_kind, ic E (r_t 1) 80 t_value, ic E (r_p1 0) 400 p1_bytes]) (hm_runV (rest := []) hx hb hml hown X hA Y w 1 (ci := 5) (T := TX5) (N := 4) rfl rfl mw_X5_blame ml_X3_46 dX3_readThing_27 hm_ac0 [.int p1_at] rfl [1] rfl rfl (ct_X5_blame l E H.size h1 r_p1 p1_count p1_at p1_fault p1_at x3 hc27) rfl hl.1 (by refine ⟨⟨rfl, rfl⟩, ⟨?_, ?_⟩, ⟨Nat.le_of_ble_eq_true rfl, Nat.le_of_ble_eq_true rfl⟩, Nat.le_of_ble_eq_true rfl⟩ <;> simp only [hm_rr] <;> omega)) hA w [1] [0, 2, 3, 4] [0, 4, 1, 2, 3] rfl rfl (by decide) (fun _ => rfl) (fun _ H locs w => ?_)
        exact hQ _ _ _ _ (t_kind, t_value, t_steps, t_things, p1_at, x3) (fun _ => 0) hf w dX3_readThing_30
      · have hf := pf_e c13 hf
        refine lv_iload_n hx hb dX3_readThing_16 rfl (lv_at hl 2 rfl) ?_
        refine lv_bipush (v := 8) hx hb dX3_readThing_17 (by decide) ?_
        refine lv_icmp_le (tgt := 31) hx hb dX3_readThing_19 (by decide) (fun c19 => ?_) (fun c19 => ?_)
        · have hf := pf_t c19 hf
          refine lv_aload_n hx hb dX3_readThing_31 rfl (lv_at hl 0 rfl) ?_
          refine lv_dup hx hb dX3_readThing_32 rfl ?_
          refine hm_get cb_X3 hx hb hown X w 0 5 fl_X3_28 dX3_readThing_33 rfl (by decide) rfl ?_
          refine lv_iconst (v := 1) hx hb dX3_readThing_36 (by decide) ?_
          refine lv_iadd hx hb dX3_readThing_37 ?_
          refine lv_topi (fun x4 ex4 => ?_)
          have hf := pf_nm ex4 hf
          refine hm_put (ws' := [oc3 h0 r_t t_steps t_height x4, oc5 h1 r_p1 p1_count p1_at p1_fault, ic E (r_t 0) 80 t_kind, ic E (r_t 1) 80 t_value, ic E (r_p1 0) 400 p1_bytes]) cb_X3 hx hb hown X w 0 5 fl_X3_28 dX3_readThing_38 rfl (by decide) (Nat.le_of_ble_eq_true rfl) rfl rfl rfl rfl (fun H locs w => ?_)
          refine lv_aload_n hx hb dX3_readThing_41 rfl (lv_at hl 1 rfl) ?_
          obtain ⟨r5, hc42, hf⟩ := pf_bi_0 hf
          refine hm_aft_i (ws' := fun _ => [oc3 h0 r_t t_steps t_height x4, oc5 h1 r_p1 p1_count p1_at p1_fault, ic E (r_t 0) 80 t_kind, ic E (r_t 1) 80 t_value, ic E (r_p1 0) 400 p1_bytes]) (hm_runV (rest := []) hx hb hml hown X hA Y w 1 (ci := 5) (T := TX5) (N := 4) rfl rfl mw_X5_isAtDigit ml_X3_68 dX3_readThing_42 hm_ac0 [] rfl [1, 4] rfl rfl (ct_X5_isAtDigit l E H.size h1 r_p1 p1_count p1_at p1_fault p1_bytes (r5, ()) hc42) rfl hl.1 (by refine ⟨⟨rfl, rfl⟩, ⟨?_, ?_⟩, ⟨Nat.le_of_ble_eq_true rfl, Nat.le_of_ble_eq_true rfl⟩, Nat.le_of_ble_eq_true rfl⟩ <;> simp only [hm_rr] <;> omega)) hA w [1, 4] [0, 2, 3] [0, 3, 1, 2, 4] rfl rfl (by decide) (fun _ => rfl) (fun _ H locs w => ?_)
          refine lv_if_eq (tgt := 59) hx hb dX3_readThing_45 (by decide) (fun c45 => ?_) (fun c45 => ?_)
          · have hf := pf_t c45 hf
            refine lv_aload_n hx hb dX3_readThing_59 rfl (lv_at hl 1 rfl) ?_
            obtain ⟨r6, hc60, hf⟩ := pf_bi_0 hf
            refine hm_aft_i (ws' := fun _ => [oc3 h0 r_t t_steps t_height x4, oc5 h1 r_p1 p1_count p1_at p1_fault, ic E (r_t 0) 80 t_kind, ic E (r_t 1) 80 t_value, ic E (r_p1 0) 400 p1_bytes]) (hm_runV (rest := []) hx hb hml hown X hA Y w 1 (ci := 5) (T := TX5) (N := 4) rfl rfl mw_X5_peek ml_X3_57 dX3_readThing_60 hm_ac0 [] rfl [1, 4] rfl rfl (ct_X5_peek l E H.size h1 r_p1 p1_count p1_at p1_fault p1_bytes (r6, ()) hc60) rfl hl.1 (by refine ⟨⟨rfl, rfl⟩, ⟨?_, ?_⟩, ⟨Nat.le_of_ble_eq_true rfl, Nat.le_of_ble_eq_true rfl⟩, Nat.le_of_ble_eq_true rfl⟩ <;> simp only [hm_rr] <;> omega)) hA w [1, 4] [0, 2, 3] [0, 3, 1, 2, 4] rfl rfl (by decide) (fun _ => rfl) (fun _ H locs w => ?_)
            refine lv_istore_n (lv' := [(3, .int r6), (0, .ref h0), (1, .ref h1), (2, .int a2)]) hx hb dX3_readThing_63 rfl hl (by decide) rfl (fun ls hl => ?_)
            refine lv_iload_n hx hb dX3_readThing_64 rfl (lv_at hl 0 rfl) ?_
            refine lv_bipush (v := 105) hx hb dX3_readThing_65 (by decide) ?_
            obtain ⟨J94, hJ94, hf⟩ := pf_jn hf
            have kJ94 : ∀ (H : Heap) (locs : List Loc) (ls : Array Slot), J94 = some R → hm_W E A s.heap [oc3 h0 r_t t_steps t_height x4, oc5 h1 r_p1 p1_count p1_at p1_fault, ic E (r_t 0) 80 t_kind, ic E (r_t 1) 80 t_value, ic E (r_p1 0) 400 p1_bytes] H locs → lv_has ls 4 [(0, .ref h0), (1, .ref h1), (3, .int r6)] → W p l e (hm_rr (8 + 4 * (n + 1)) (400 + 120 * (n + 1)) 0 0) s m args below meth c H locs 0 0 Q (F0 m 94 ls []) := by
              intro H locs ls hf w hl
              have hf := pf_j0 hJ94 hf
              refine lv_aload_n hx hb dX3_readThing_94 rfl (lv_at hl 1 rfl) ?_
              refine lv_dup hx hb dX3_readThing_95 rfl ?_
              refine hm_get cb_X5 hx hb hown X w 1 2 fl_X3_43 dX3_readThing_96 rfl (by decide) rfl ?_
              refine lv_iconst (v := 1) hx hb dX3_readThing_99 (by decide) ?_
              refine lv_iadd hx hb dX3_readThing_100 ?_
              refine lv_topi (fun x7 ex7 => ?_)
              have hf := pf_nm ex7 hf
              refine hm_put (ws' := [oc3 h0 r_t t_steps t_height x4, oc5 h1 r_p1 p1_count x7 p1_fault, ic E (r_t 0) 80 t_kind, ic E (r_t 1) 80 t_value, ic E (r_p1 0) 400 p1_bytes]) cb_X5 hx hb hown X w 1 2 fl_X3_43 dX3_readThing_101 rfl (by decide) (Nat.le_of_ble_eq_true rfl) rfl rfl rfl rfl (fun H locs w => ?_)
              refine lv_aload_n hx hb dX3_readThing_104 rfl (lv_at hl 0 rfl) ?_
              refine lv_iload_n hx hb dX3_readThing_105 rfl (lv_at hl 2 rfl) ?_
              refine lv_iconst (v := 0) hx hb dX3_readThing_106 (by decide) ?_
              obtain ⟨f8, f9, x10, hc107, hf⟩ := pf_bv_3 hf
              refine hm_aft_v (ws' := fun _ => [oc3 h0 r_t x10 t_height x4, oc5 h1 r_p1 p1_count x7 p1_fault, ic E (r_t 0) 80 f8, ic E (r_t 1) 80 f9, ic E (r_p1 0) 400 p1_bytes]) (hm_runV (rest := []) hx hb hml hown X hA Y w 0 (ci := 3) (T := TX3) (N := 6) rfl rfl mw_X3_add ml_X3_61 dX3_readThing_107 hm_ac0 [.int r6, .int 0] rfl [0, 2, 3] rfl rfl (ct_X3_add l E H.size h0 r_t t_steps t_height x4 t_kind t_value r6 0 (f8, f9, x10) hc107) rfl hl.1 (by refine ⟨⟨rfl, rfl⟩, ⟨?_, ?_⟩, ⟨Nat.le_of_ble_eq_true rfl, Nat.le_of_ble_eq_true rfl⟩, Nat.le_of_ble_eq_true rfl⟩ <;> simp only [hm_rr] <;> omega)) hA w [0, 2, 3] [1, 4] [2, 0, 3, 4, 1] rfl rfl (by decide) (fun _ => rfl) (fun _ H locs w => ?_)
              refine lv_goto (tgt := 194) hx hb dX3_readThing_110 (by decide) ?_
              exact hQ _ _ _ _ (f8, f9, x10, x4, x7, p1_fault) (fun _ => 0) hf w dX3_readThing_194
            refine lv_icmp_eq (tgt := 94) hx hb dX3_readThing_67 (by decide) (fun c67 => ?_) (fun c67 => ?_)
            · have hf := pf_t c67 hf
              exact kJ94 _ _ _ hf w (lv_sub hl [1, 2, 0] rfl)
            · have hf := pf_e c67 hf
              refine lv_iload_n hx hb dX3_readThing_70 rfl (lv_at hl 0 rfl) ?_
              refine lv_bipush (v := 115) hx hb dX3_readThing_71 (by decide) ?_
              refine lv_icmp_eq (tgt := 94) hx hb dX3_readThing_73 (by decide) (fun c73 => ?_) (fun c73 => ?_)
              · have hf := pf_t c73 hf
                exact kJ94 _ _ _ hf w (lv_sub hl [1, 2, 0] rfl)
              · have hf := pf_e c73 hf
                refine lv_iload_n hx hb dX3_readThing_76 rfl (lv_at hl 0 rfl) ?_
                refine lv_bipush (v := 119) hx hb dX3_readThing_77 (by decide) ?_
                refine lv_icmp_eq (tgt := 94) hx hb dX3_readThing_79 (by decide) (fun c79 => ?_) (fun c79 => ?_)
                · have hf := pf_t c79 hf
                  exact kJ94 _ _ _ hf w (lv_sub hl [1, 2, 0] rfl)
                · have hf := pf_e c79 hf
                  refine lv_iload_n hx hb dX3_readThing_82 rfl (lv_at hl 0 rfl) ?_
                  refine lv_bipush (v := 104) hx hb dX3_readThing_83 (by decide) ?_
                  refine lv_icmp_eq (tgt := 94) hx hb dX3_readThing_85 (by decide) (fun c85 => ?_) (fun c85 => ?_)
                  · have hf := pf_t c85 hf
                    exact kJ94 _ _ _ hf w (lv_sub hl [1, 2, 0] rfl)
                  · have hf := pf_e c85 hf
                    refine lv_iload_n hx hb dX3_readThing_88 rfl (lv_at hl 0 rfl) ?_
                    refine lv_bipush (v := 116) hx hb dX3_readThing_89 (by decide) ?_
                    refine lv_icmp_ne (tgt := 113) hx hb dX3_readThing_91 (by decide) (fun c91 => ?_) (fun c91 => ?_)
                    · have hf := pf_e c91 hf
                      refine lv_aload_n hx hb dX3_readThing_113 rfl (lv_at hl 2 rfl) ?_
                      refine lv_bipush (v := 40) hx hb dX3_readThing_114 (by decide) ?_
                      obtain ⟨r11, x12, hc116, hf⟩ := pf_bi_1 hf
                      refine hm_aft_i (ws' := fun _ => [oc3 h0 r_t t_steps t_height x4, oc5 h1 r_p1 p1_count x12 p1_fault, ic E (r_t 0) 80 t_kind, ic E (r_t 1) 80 t_value, ic E (r_p1 0) 400 p1_bytes]) (hm_runV (rest := []) hx hb hml hown X hA Y w 1 (ci := 5) (T := TX5) (N := 4) rfl rfl mw_X5_takes ml_X3_74 dX3_readThing_116 hm_ac0 [.int 40] rfl [1, 4] rfl rfl (ct_X5_takes l E H.size h1 r_p1 p1_count p1_at p1_fault p1_bytes 40 (r11, x12) hc116) rfl hl.1 (by refine ⟨⟨rfl, rfl⟩, ⟨?_, ?_⟩, ⟨Nat.le_of_ble_eq_true rfl, Nat.le_of_ble_eq_true rfl⟩, Nat.le_of_ble_eq_true rfl⟩ <;> simp only [hm_rr] <;> omega)) hA w [1, 4] [0, 2, 3] [0, 3, 1, 2, 4] rfl rfl (by decide) (fun _ => rfl) (fun _ H locs w => ?_)
                      refine lv_if_eq (tgt := 139) hx hb dX3_readThing_119 (by decide) (fun c119 => ?_) (fun c119 => ?_)
                      · have hf := pf_t c119 hf
                        refine lv_aload_n hx hb dX3_readThing_139 rfl (lv_at hl 2 rfl) ?_
                        refine lv_bipush (v := 45) hx hb dX3_readThing_140 (by decide) ?_
                        obtain ⟨r13, x14, hc142, hf⟩ := pf_bi_1 hf
                        refine hm_aft_i (ws' := fun _ => [oc3 h0 r_t t_steps t_height x4, oc5 h1 r_p1 p1_count x14 p1_fault, ic E (r_t 0) 80 t_kind, ic E (r_t 1) 80 t_value, ic E (r_p1 0) 400 p1_bytes]) (hm_runV (rest := []) hx hb hml hown X hA Y w 1 (ci := 5) (T := TX5) (N := 4) rfl rfl mw_X5_takes ml_X3_74 dX3_readThing_142 hm_ac0 [.int 45] rfl [1, 4] rfl rfl (ct_X5_takes l E H.size h1 r_p1 p1_count x12 p1_fault p1_bytes 45 (r13, x14) hc142) rfl hl.1 (by refine ⟨⟨rfl, rfl⟩, ⟨?_, ?_⟩, ⟨Nat.le_of_ble_eq_true rfl, Nat.le_of_ble_eq_true rfl⟩, Nat.le_of_ble_eq_true rfl⟩ <;> simp only [hm_rr] <;> omega)) hA w [1, 4] [0, 2, 3] [0, 3, 1, 2, 4] rfl rfl (by decide) (fun _ => rfl) (fun _ H locs w => ?_)
                        refine lv_if_eq (tgt := 166) hx hb dX3_readThing_145 (by decide) (fun c145 => ?_) (fun c145 => ?_)
                        · have hf := pf_t c145 hf
                          refine lv_aload_n hx hb dX3_readThing_166 rfl (lv_at hl 2 rfl) ?_
                          refine lv_bipush (v := 91) hx hb dX3_readThing_167 (by decide) ?_
                          obtain ⟨r15, x16, hc169, hf⟩ := pf_bi_1 hf
                          refine hm_aft_i (ws' := fun _ => [oc3 h0 r_t t_steps t_height x4, oc5 h1 r_p1 p1_count x16 p1_fault, ic E (r_t 0) 80 t_kind, ic E (r_t 1) 80 t_value, ic E (r_p1 0) 400 p1_bytes]) (hm_runV (rest := []) hx hb hml hown X hA Y w 1 (ci := 5) (T := TX5) (N := 4) rfl rfl mw_X5_takes ml_X3_74 dX3_readThing_169 hm_ac0 [.int 91] rfl [1, 4] rfl rfl (ct_X5_takes l E H.size h1 r_p1 p1_count x14 p1_fault p1_bytes 91 (r15, x16) hc169) rfl hl.1 (by refine ⟨⟨rfl, rfl⟩, ⟨?_, ?_⟩, ⟨Nat.le_of_ble_eq_true rfl, Nat.le_of_ble_eq_true rfl⟩, Nat.le_of_ble_eq_true rfl⟩ <;> simp only [hm_rr] <;> omega)) hA w [1, 4] [0, 2, 3] [0, 3, 1, 2, 4] rfl rfl (by decide) (fun _ => rfl) (fun _ H locs w => ?_)
                          refine lv_if_eq (tgt := 186) hx hb dX3_readThing_172 (by decide) (fun c172 => ?_) (fun c172 => ?_)
                          · have hf := pf_t c172 hf
                            refine lv_aload_n hx hb dX3_readThing_186 rfl (lv_at hl 2 rfl) ?_
                            refine lv_aload_n hx hb dX3_readThing_187 rfl (lv_at hl 2 rfl) ?_
                            refine hm_get cb_X5 hx hb hown X w 1 2 fl_X3_43 dX3_readThing_188 rfl (by decide) rfl ?_
                            obtain ⟨x17, hc191, hf⟩ := pf_bv_1 hf
                            refine hm_aft_v (ws' := fun _ => [oc3 h0 r_t t_steps t_height x4, oc5 h1 r_p1 p1_count x16 x17, ic E (r_t 0) 80 t_kind, ic E (r_t 1) 80 t_value, ic E (r_p1 0) 400 p1_bytes]) (hm_runV (rest := []) hx hb hml hown X hA Y w 1 (ci := 5) (T := TX5) (N := 4) rfl rfl mw_X5_blame ml_X3_46 dX3_readThing_191 hm_ac0 [.int x16] rfl [1] rfl rfl (ct_X5_blame l E H.size h1 r_p1 p1_count x16 p1_fault x16 x17 hc191) rfl hl.1 (by refine ⟨⟨rfl, rfl⟩, ⟨?_, ?_⟩, ⟨Nat.le_of_ble_eq_true rfl, Nat.le_of_ble_eq_true rfl⟩, Nat.le_of_ble_eq_true rfl⟩ <;> simp only [hm_rr] <;> omega)) hA w [1] [0, 2, 3, 4] [0, 4, 1, 2, 3] rfl rfl (by decide) (fun _ => rfl) (fun _ H locs w => ?_)
                            exact hQ _ _ _ _ (t_kind, t_value, t_steps, x4, x16, x17) (fun _ => 0) hf w dX3_readThing_194
                          · have hf := pf_e c172 hf
                            refine lv_aload_n hx hb dX3_readThing_175 rfl (lv_at hl 1 rfl) ?_
                            refine lv_aload_n hx hb dX3_readThing_176 rfl (lv_at hl 2 rfl) ?_
                            refine lv_iload_n hx hb dX3_readThing_177 rfl (lv_at hl 3 rfl) ?_
                            refine lv_iconst (v := 1) hx hb dX3_readThing_178 (by decide) ?_
                            refine lv_iadd hx hb dX3_readThing_179 ?_
                            obtain ⟨f18, f19, x20, x21, x22, x23, hc180, hf⟩ := pf_bv_6 hf
                            refine hm_aft_v (ws' := fun _ => [oc3 h0 r_t x20 t_height x21, oc5 h1 r_p1 p1_count x22 x23, ic E (r_t 0) 80 f18, ic E (r_t 1) 80 f19, ic E (r_p1 0) 400 p1_bytes]) (hm_runV (rest := []) hx hb hml hown X hA Y w 0 (ci := 3) (T := TX3) (N := 6) rfl rfl mw_X3_readChoice ml_X3_81 dX3_readThing_180 hm_ac0 [.ref h1, .int (a2 + 1)] rfl [0, 1, 2, 3, 4] rfl rfl (ct_X3_readChoice l (pf_X3_readThing n) (8 + 4 * n) (400 + 120 * n) hT (by omega) (by omega) E H.size h0 h1 r_t r_p1 t_steps t_height x4 p1_count x16 p1_fault t_kind t_value p1_bytes (a2 + 1) (f18, f19, x20, x21, x22, x23) hc180) rfl hl.1 (by refine ⟨⟨rfl, rfl⟩, ⟨?_, ?_⟩, ⟨Nat.le_of_ble_eq_true rfl, Nat.le_of_ble_eq_true rfl⟩, Nat.le_of_ble_eq_true rfl⟩ <;> simp only [hm_rr] <;> omega)) hA w [0, 1, 2, 3, 4] [] [0, 1, 2, 3, 4] rfl rfl (by decide) (fun _ => rfl) (fun _ H locs w => ?_)
                            refine lv_goto (tgt := 194) hx hb dX3_readThing_183 (by decide) ?_
                            exact hQ _ _ _ _ (f18, f19, x20, x21, x22, x23) (fun _ => 0) hf w dX3_readThing_194
                        · have hf := pf_e c145 hf
                          refine lv_aload_n hx hb dX3_readThing_148 rfl (lv_at hl 1 rfl) ?_
                          refine lv_aload_n hx hb dX3_readThing_149 rfl (lv_at hl 2 rfl) ?_
                          refine lv_iload_n hx hb dX3_readThing_150 rfl (lv_at hl 3 rfl) ?_
                          refine lv_iconst (v := 1) hx hb dX3_readThing_151 (by decide) ?_
                          refine lv_iadd hx hb dX3_readThing_152 ?_
                          obtain ⟨f24, f25, x26, x27, x28, x29, hc153, hf⟩ := pf_bv_6 hf
                          refine hm_aft_v (ws' := fun _ => [oc3 h0 r_t x26 t_height x27, oc5 h1 r_p1 p1_count x28 x29, ic E (r_t 0) 80 f24, ic E (r_t 1) 80 f25, ic E (r_p1 0) 400 p1_bytes]) (hm_runV (rest := []) hx hb hml hown X hA Y w 0 (ci := 3) (T := TX3) (N := 6) rfl rfl mw_X3_readThing ml_X3_65 dX3_readThing_153 hm_ac0 [.ref h1, .int (a2 + 1)] rfl [0, 1, 2, 3, 4] rfl rfl (hT E H.size h0 h1 r_t r_p1 t_steps t_height x4 p1_count x14 p1_fault t_kind t_value p1_bytes (a2 + 1) (f24, f25, x26, x27, x28, x29) hc153) rfl hl.1 (by refine ⟨⟨rfl, rfl⟩, ⟨?_, ?_⟩, ⟨Nat.le_of_ble_eq_true rfl, Nat.le_of_ble_eq_true rfl⟩, Nat.le_of_ble_eq_true rfl⟩ <;> simp only [hm_rr] <;> omega)) hA w [0, 1, 2, 3, 4] [] [0, 1, 2, 3, 4] rfl rfl (by decide) (fun _ => rfl) (fun _ H locs w => ?_)
                          refine lv_aload_n hx hb dX3_readThing_156 rfl (lv_at hl 1 rfl) ?_
                          refine lv_bipush (v := 110) hx hb dX3_readThing_157 (by decide) ?_
                          refine lv_iconst (v := 0) hx hb dX3_readThing_159 (by decide) ?_
                          obtain ⟨f30, f31, x32, hc160, hf⟩ := pf_bv_3 hf
                          refine hm_aft_v (ws' := fun _ => [oc3 h0 r_t x32 t_height x27, oc5 h1 r_p1 p1_count x28 x29, ic E (r_t 0) 80 f30, ic E (r_t 1) 80 f31, ic E (r_p1 0) 400 p1_bytes]) (hm_runV (rest := []) hx hb hml hown X hA Y w 0 (ci := 3) (T := TX3) (N := 6) rfl rfl mw_X3_add ml_X3_61 dX3_readThing_160 hm_ac0 [.int 110, .int 0] rfl [0, 2, 3] rfl rfl (ct_X3_add l E H.size h0 r_t x26 t_height x27 f24 f25 110 0 (f30, f31, x32) hc160) rfl hl.1 (by refine ⟨⟨rfl, rfl⟩, ⟨?_, ?_⟩, ⟨Nat.le_of_ble_eq_true rfl, Nat.le_of_ble_eq_true rfl⟩, Nat.le_of_ble_eq_true rfl⟩ <;> simp only [hm_rr] <;> omega)) hA w [0, 2, 3] [1, 4] [2, 0, 3, 4, 1] rfl rfl (by decide) (fun _ => rfl) (fun _ H locs w => ?_)
                          refine lv_goto (tgt := 194) hx hb dX3_readThing_163 (by decide) ?_
                          exact hQ _ _ _ _ (f30, f31, x32, x27, x28, x29) (fun _ => 0) hf w dX3_readThing_194
                      · have hf := pf_e c119 hf
                        refine lv_aload_n hx hb dX3_readThing_122 rfl (lv_at hl 1 rfl) ?_
                        refine lv_aload_n hx hb dX3_readThing_123 rfl (lv_at hl 2 rfl) ?_
                        refine lv_iload_n hx hb dX3_readThing_124 rfl (lv_at hl 3 rfl) ?_
                        refine lv_iconst (v := 1) hx hb dX3_readThing_125 (by decide) ?_
                        refine lv_iadd hx hb dX3_readThing_126 ?_
                        obtain ⟨f33, f34, x35, x36, x37, x38, hc127, hf⟩ := pf_bv_6 hf
                        refine hm_aft_v (ws' := fun _ => [oc3 h0 r_t x35 t_height x36, oc5 h1 r_p1 p1_count x37 x38, ic E (r_t 0) 80 f33, ic E (r_t 1) 80 f34, ic E (r_p1 0) 400 p1_bytes]) (hm_runV (rest := []) hx hb hml hown X hA Y w 0 (ci := 3) (T := TX3) (N := 6) rfl rfl mw_X3_readSum ml_X3_39 dX3_readThing_127 hm_ac0 [.ref h1, .int (a2 + 1)] rfl [0, 1, 2, 3, 4] rfl rfl (ct_X3_readSum l (pf_X3_readThing n) (8 + 4 * n) (400 + 120 * n) hT (by omega) (by omega) E H.size h0 h1 r_t r_p1 t_steps t_height x4 p1_count x12 p1_fault t_kind t_value p1_bytes (a2 + 1) (f33, f34, x35, x36, x37, x38) hc127) rfl hl.1 (by refine ⟨⟨rfl, rfl⟩, ⟨?_, ?_⟩, ⟨Nat.le_of_ble_eq_true rfl, Nat.le_of_ble_eq_true rfl⟩, Nat.le_of_ble_eq_true rfl⟩ <;> simp only [hm_rr] <;> omega)) hA w [0, 1, 2, 3, 4] [] [0, 1, 2, 3, 4] rfl rfl (by decide) (fun _ => rfl) (fun _ H locs w => ?_)
                        refine lv_aload_n hx hb dX3_readThing_130 rfl (lv_at hl 2 rfl) ?_
                        refine lv_bipush (v := 41) hx hb dX3_readThing_131 (by decide) ?_
                        obtain ⟨x39, x40, hc133, hf⟩ := pf_bv_2 hf
                        refine hm_aft_v (ws' := fun _ => [oc3 h0 r_t x35 t_height x36, oc5 h1 r_p1 p1_count x39 x40, ic E (r_t 0) 80 f33, ic E (r_t 1) 80 f34, ic E (r_p1 0) 400 p1_bytes]) (hm_runV (rest := []) hx hb hml hown X hA Y w 1 (ci := 5) (T := TX5) (N := 4) rfl rfl mw_X5_needs ml_X3_78 dX3_readThing_133 hm_ac0 [.int 41] rfl [1, 4] rfl rfl (ct_X5_needs l E H.size h1 r_p1 p1_count x37 x38 p1_bytes 41 (x39, x40) hc133) rfl hl.1 (by refine ⟨⟨rfl, rfl⟩, ⟨?_, ?_⟩, ⟨Nat.le_of_ble_eq_true rfl, Nat.le_of_ble_eq_true rfl⟩, Nat.le_of_ble_eq_true rfl⟩ <;> simp only [hm_rr] <;> omega)) hA w [1, 4] [0, 2, 3] [0, 3, 1, 2, 4] rfl rfl (by decide) (fun _ => rfl) (fun _ H locs w => ?_)
                        refine lv_goto (tgt := 194) hx hb dX3_readThing_136 (by decide) ?_
                        exact hQ _ _ _ _ (f33, f34, x35, x36, x39, x40) (fun _ => 0) hf w dX3_readThing_194
                    · have hf := pf_t c91 hf
                      exact kJ94 _ _ _ hf w (lv_sub hl [1, 2, 0] rfl)
          · have hf := pf_e c45 hf
            refine lv_aload_n hx hb dX3_readThing_48 rfl (lv_at hl 0 rfl) ?_
            refine lv_bipush (v := 48) hx hb dX3_readThing_49 (by decide) ?_
            refine lv_aload_n hx hb dX3_readThing_51 rfl (lv_at hl 1 rfl) ?_
            obtain ⟨r41, x42, x43, hc52, hf⟩ := pf_bi_2 hf
            refine hm_aft_i (ws' := fun _ => [oc3 h0 r_t t_steps t_height x4, oc5 h1 r_p1 p1_count x42 x43, ic E (r_t 0) 80 t_kind, ic E (r_t 1) 80 t_value, ic E (r_p1 0) 400 p1_bytes]) (hm_runV (rest := [.int 48, .ref h0]) hx hb hml hown X hA Y w 1 (ci := 5) (T := TX5) (N := 4) rfl rfl mw_X5_number ml_X3_71 dX3_readThing_52 hm_ac0 [] rfl [1, 4] rfl rfl (ct_X5_number l E H.size h1 r_p1 p1_count p1_at p1_fault p1_bytes (r41, x42, x43) hc52) rfl hl.1 (by refine ⟨⟨rfl, rfl⟩, ⟨?_, ?_⟩, ⟨Nat.le_of_ble_eq_true rfl, Nat.le_of_ble_eq_true rfl⟩, Nat.le_of_ble_eq_true rfl⟩ <;> simp only [hm_rr] <;> omega)) hA w [1, 4] [0, 2, 3] [0, 3, 1, 2, 4] rfl rfl (by decide) (fun _ => rfl) (fun _ H locs w => ?_)
            obtain ⟨f44, f45, x46, hc55, hf⟩ := pf_bv_3 hf
            refine hm_aft_v (ws' := fun _ => [oc3 h0 r_t x46 t_height x4, oc5 h1 r_p1 p1_count x42 x43, ic E (r_t 0) 80 f44, ic E (r_t 1) 80 f45, ic E (r_p1 0) 400 p1_bytes]) (hm_runV (rest := []) hx hb hml hown X hA Y w 0 (ci := 3) (T := TX3) (N := 6) rfl rfl mw_X3_add ml_X3_61 dX3_readThing_55 hm_ac0 [.int 48, .int r41] rfl [0, 2, 3] rfl rfl (ct_X3_add l E H.size h0 r_t t_steps t_height x4 t_kind t_value 48 r41 (f44, f45, x46) hc55) rfl hl.1 (by refine ⟨⟨rfl, rfl⟩, ⟨?_, ?_⟩, ⟨Nat.le_of_ble_eq_true rfl, Nat.le_of_ble_eq_true rfl⟩, Nat.le_of_ble_eq_true rfl⟩ <;> simp only [hm_rr] <;> omega)) hA w [0, 2, 3] [1, 4] [2, 0, 3, 4, 1] rfl rfl (by decide) (fun _ => rfl) (fun _ H locs w => ?_)
            exact hQ _ _ _ _ (f44, f45, x46, x4, x42, x43) (fun _ => 0) hf w dX3_readThing_58
        · have hf := pf_e c19 hf
          refine lv_aload_n hx hb dX3_readThing_22 rfl (lv_at hl 1 rfl) ?_
          refine lv_aload_n hx hb dX3_readThing_23 rfl (lv_at hl 1 rfl) ?_
          refine hm_get cb_X5 hx hb hown X w 1 2 fl_X3_43 dX3_readThing_24 rfl (by decide) rfl ?_
          obtain ⟨x47, hc27, hf⟩ := pf_bv_1 hf
          refine hm_aft_v (ws' := fun _ => [oc3 h0 r_t t_steps t_height t_things, oc5 h1 r_p1 p1_count p1_at x47, ic E (r_t 0) 80 t_kind, ic E (r_t 1) 80 t_value, ic E (r_p1 0) 400 p1_bytes]) (hm_runV (rest := []) hx hb hml hown X hA Y w 1 (ci := 5) (T := TX5) (N := 4) rfl rfl mw_X5_blame ml_X3_46 dX3_readThing_27 hm_ac0 [.int p1_at] rfl [1] rfl rfl (ct_X5_blame l E H.size h1 r_p1 p1_count p1_at p1_fault p1_at x47 hc27) rfl hl.1 (by refine ⟨⟨rfl, rfl⟩, ⟨?_, ?_⟩, ⟨Nat.le_of_ble_eq_true rfl, Nat.le_of_ble_eq_true rfl⟩, Nat.le_of_ble_eq_true rfl⟩ <;> simp only [hm_rr] <;> omega)) hA w [1] [0, 2, 3, 4] [0, 4, 1, 2, 3] rfl rfl (by decide) (fun _ => rfl) (fun _ H locs w => ?_)
          exact hQ _ _ _ _ (t_kind, t_value, t_steps, t_things, p1_at, x47) (fun _ => 0) hf w dX3_readThing_30
set_option maxHeartbeats 8000000 in
set_option maxRecDepth 100000 in
theorem ct_X3_read (l : Launch) (E : hm_E) (sz : Nat) (h0 : Nat) (h1 : Nat) (r_t : Nat → Nat) (r_p1 : Nat → Nat) (t_steps t_height t_things p1_count p1_at p1_fault : Int32) (t_kind : Nat → Int32) (t_value : Nat → Int32) (p1_bytes : Nat → Int32) (R : (Nat → Int32) × (Nat → Int32) × Int32 × Int32 × Int32 × Int32) (hf : pf_X3_read t_kind t_value t_steps t_things p1_bytes p1_count = some R) : hm_Mv l E yX3_read cX3_read 2 [] (hm_rr 59 1924 0 0) [.ref h0, .ref h1] sz [oc3 h0 r_t t_steps t_height t_things, oc5 h1 r_p1 p1_count p1_at p1_fault, ic E (r_t 0) 80 t_kind, ic E (r_t 1) 80 t_value, ic E (r_p1 0) 400 p1_bytes] (fun _ => [oc3 h0 r_t (R.2.2.1) t_height (R.2.2.2.1), oc5 h1 r_p1 p1_count (R.2.2.2.2.1) (R.2.2.2.2.2), ic E (r_t 0) 80 (R.1), ic E (r_t 1) 80 (R.2.1), ic E (r_p1 0) 400 p1_bytes]) := by
  refine hm_ct_v R (fun u _ => [oc3 h0 r_t (u.2.2.1) t_height (u.2.2.2.1), oc5 h1 r_p1 p1_count (u.2.2.2.2.1) (u.2.2.2.2.2), ic E (r_t 0) 80 (u.1), ic E (r_t 1) 80 (u.2.1), ic E (r_p1 0) 400 p1_bytes]) (by decide) (Nat.le_of_ble_eq_true rfl) ?_
  intro p e s m args below meth c A Q ls H locs hx hb hml hown X hA Y hex hin w hl hQ
  have hl : lv_has ls 2 [(0, .ref h0), (1, .ref h1)] := hl
  unfold pf_X3_read at hf
  refine lv_aload_n hx hb dX3_read_0 rfl (lv_at hl 1 rfl) ?_
  obtain ⟨x1, x2, hc1, hf⟩ := pf_bv_2 hf
  refine hm_aft_v (ws' := fun _ => [oc3 h0 r_t t_steps t_height t_things, oc5 h1 r_p1 p1_count x1 x2, ic E (r_t 0) 80 t_kind, ic E (r_t 1) 80 t_value, ic E (r_p1 0) 400 p1_bytes]) (hm_runV (rest := []) hx hb hml hown X hA Y w 1 (ci := 5) (T := TX5) (N := 4) rfl rfl mw_X5_rewind ml_X3_31 dX3_read_1 hm_ac0 [] rfl [1] rfl rfl (ct_X5_rewind l E H.size h1 r_p1 p1_count p1_at p1_fault (x1, x2) hc1) rfl hl.1 ⟨⟨rfl, rfl⟩, ⟨Nat.le_of_ble_eq_true rfl, Nat.le_of_ble_eq_true rfl⟩, ⟨Nat.le_of_ble_eq_true rfl, Nat.le_of_ble_eq_true rfl⟩, Nat.le_of_ble_eq_true rfl⟩) hA w [1] [0, 2, 3, 4] [0, 4, 1, 2, 3] rfl rfl (by decide) (fun _ => rfl) (fun _ H locs w => ?_)
  refine lv_aload_n hx hb dX3_read_4 rfl (lv_at hl 1 rfl) ?_
  refine hm_get cb_X5 hx hb hown X w 1 1 fl_X3_36 dX3_read_5 rfl (by decide) rfl ?_
  refine lv_if_ne (tgt := 12) hx hb dX3_read_8 (by decide) (fun c8 => ?_) (fun c8 => ?_)
  · have hf := pf_e c8 hf
    refine lv_aload_n hx hb dX3_read_12 rfl (lv_at hl 0 rfl) ?_
    refine lv_aload_n hx hb dX3_read_13 rfl (lv_at hl 1 rfl) ?_
    refine lv_iconst (v := 1) hx hb dX3_read_14 (by decide) ?_
    obtain ⟨f3, f4, x5, x6, x7, x8, hc15, hf⟩ := pf_bv_6 hf
    refine hm_aft_v (ws' := fun _ => [oc3 h0 r_t x5 t_height x6, oc5 h1 r_p1 p1_count x7 x8, ic E (r_t 0) 80 f3, ic E (r_t 1) 80 f4, ic E (r_p1 0) 400 p1_bytes]) (hm_runV (rest := []) hx hb hml hown X hA Y w 0 (ci := 3) (T := TX3) (N := 6) rfl rfl mw_X3_readSum ml_X3_39 dX3_read_15 hm_ac0 [.ref h1, .int 1] rfl [0, 1, 2, 3, 4] rfl rfl (ct_X3_readSum l (pf_X3_readThing 12) (8 + 4 * 12) (400 + 120 * 12) (ct_X3_readThing l 12) (by decide) (by decide) E H.size h0 h1 r_t r_p1 t_steps t_height t_things p1_count x1 x2 t_kind t_value p1_bytes 1 (f3, f4, x5, x6, x7, x8) hc15) rfl hl.1 ⟨⟨rfl, rfl⟩, ⟨Nat.le_of_ble_eq_true rfl, Nat.le_of_ble_eq_true rfl⟩, ⟨Nat.le_of_ble_eq_true rfl, Nat.le_of_ble_eq_true rfl⟩, Nat.le_of_ble_eq_true rfl⟩) hA w [0, 1, 2, 3, 4] [] [0, 1, 2, 3, 4] rfl rfl (by decide) (fun _ => rfl) (fun _ H locs w => ?_)
    refine lv_aload_n hx hb dX3_read_18 rfl (lv_at hl 1 rfl) ?_
    refine hm_get cb_X5 hx hb hown X w 1 2 fl_X3_43 dX3_read_19 rfl (by decide) rfl ?_
    refine lv_aload_n hx hb dX3_read_22 rfl (lv_at hl 1 rfl) ?_
    refine hm_get cb_X5 hx hb hown X w 1 1 fl_X3_36 dX3_read_23 rfl (by decide) rfl ?_
    refine lv_icmp_ge (tgt := 37) hx hb dX3_read_26 (by decide) (fun c26 => ?_) (fun c26 => ?_)
    · have hf := pf_t c26 hf
      exact hQ _ _ _ _ (f3, f4, x5, x6, x7, x8) (fun _ => 0) hf w dX3_read_37
    · have hf := pf_e c26 hf
      refine lv_aload_n hx hb dX3_read_29 rfl (lv_at hl 1 rfl) ?_
      refine lv_aload_n hx hb dX3_read_30 rfl (lv_at hl 1 rfl) ?_
      refine hm_get cb_X5 hx hb hown X w 1 2 fl_X3_43 dX3_read_31 rfl (by decide) rfl ?_
      obtain ⟨x9, hc34, hf⟩ := pf_bv_1 hf
      refine hm_aft_v (ws' := fun _ => [oc3 h0 r_t x5 t_height x6, oc5 h1 r_p1 p1_count x7 x9, ic E (r_t 0) 80 f3, ic E (r_t 1) 80 f4, ic E (r_p1 0) 400 p1_bytes]) (hm_runV (rest := []) hx hb hml hown X hA Y w 1 (ci := 5) (T := TX5) (N := 4) rfl rfl mw_X5_blame ml_X3_46 dX3_read_34 hm_ac0 [.int x7] rfl [1] rfl rfl (ct_X5_blame l E H.size h1 r_p1 p1_count x7 x8 x7 x9 hc34) rfl hl.1 ⟨⟨rfl, rfl⟩, ⟨Nat.le_of_ble_eq_true rfl, Nat.le_of_ble_eq_true rfl⟩, ⟨Nat.le_of_ble_eq_true rfl, Nat.le_of_ble_eq_true rfl⟩, Nat.le_of_ble_eq_true rfl⟩) hA w [1] [0, 2, 3, 4] [0, 4, 1, 2, 3] rfl rfl (by decide) (fun _ => rfl) (fun _ H locs w => ?_)
      exact hQ _ _ _ _ (f3, f4, x5, x6, x7, x9) (fun _ => 0) hf w dX3_read_37
  · have hf := pf_t c8 hf
    exact hQ _ _ _ _ (t_kind, t_value, t_steps, t_things, x1, x2) (fun _ => 0) hf w dX3_read_11
set_option maxHeartbeats 8000000 in
set_option maxRecDepth 100000 in
theorem ct_X0_isAct (l : Launch) (E : hm_E) (sz : Nat) (a0 : Int32) (R : Int32 × Unit) (hf : pf_X0_isAct a0 = some R) : hm_Mi l E yX0_isAct cX0_isAct 1 .boolean [] (hm_rr 0 0 0 0) [.int a0] sz [] R.1 (fun _ => []) := by
  refine hm_ct_i R (fun u qs => []) (by decide) (Nat.le_of_ble_eq_true rfl) (Or.inr rfl) ?_
  intro p e s m args below meth c A Q ls H locs hx hb hml hown X hA Y hex w hl hQ
  have hl : lv_has ls 1 [(0, .int a0)] := hl
  unfold pf_X0_isAct at hf
  refine lv_iload_n hx hb dX0_isAct_0 rfl (lv_at hl 0 rfl) ?_
  by_cases c1_61 : a0 = 61
  · have hf := pf_t c1_61 hf
    refine lv_lookup (off := 83) (tgt := 84) hx hb dX0_isAct_1 (by decide) (by rw [c1_61]; rfl) (by decide) ?_
    refine lv_iconst (v := 1) hx hb dX0_isAct_84 (by decide) ?_
    exact hQ _ _ _ _ _ () (fun _ => 0) hf rfl w dX0_isAct_85
  · have hf := pf_e c1_61 hf
    by_cases c1_99 : a0 = 99
    · have hf := pf_t c1_99 hf
      refine lv_lookup (off := 83) (tgt := 84) hx hb dX0_isAct_1 (by decide) (by rw [c1_99]; rfl) (by decide) ?_
      refine lv_iconst (v := 1) hx hb dX0_isAct_84 (by decide) ?_
      exact hQ _ _ _ _ _ () (fun _ => 0) hf rfl w dX0_isAct_85
    · have hf := pf_e c1_99 hf
      by_cases c1_102 : a0 = 102
      · have hf := pf_t c1_102 hf
        refine lv_lookup (off := 83) (tgt := 84) hx hb dX0_isAct_1 (by decide) (by rw [c1_102]; rfl) (by decide) ?_
        refine lv_iconst (v := 1) hx hb dX0_isAct_84 (by decide) ?_
        exact hQ _ _ _ _ _ () (fun _ => 0) hf rfl w dX0_isAct_85
      · have hf := pf_e c1_102 hf
        by_cases c1_104 : a0 = 104
        · have hf := pf_t c1_104 hf
          refine lv_lookup (off := 83) (tgt := 84) hx hb dX0_isAct_1 (by decide) (by rw [c1_104]; rfl) (by decide) ?_
          refine lv_iconst (v := 1) hx hb dX0_isAct_84 (by decide) ?_
          exact hQ _ _ _ _ _ () (fun _ => 0) hf rfl w dX0_isAct_85
        · have hf := pf_e c1_104 hf
          by_cases c1_108 : a0 = 108
          · have hf := pf_t c1_108 hf
            refine lv_lookup (off := 83) (tgt := 84) hx hb dX0_isAct_1 (by decide) (by rw [c1_108]; rfl) (by decide) ?_
            refine lv_iconst (v := 1) hx hb dX0_isAct_84 (by decide) ?_
            exact hQ _ _ _ _ _ () (fun _ => 0) hf rfl w dX0_isAct_85
          · have hf := pf_e c1_108 hf
            by_cases c1_111 : a0 = 111
            · have hf := pf_t c1_111 hf
              refine lv_lookup (off := 83) (tgt := 84) hx hb dX0_isAct_1 (by decide) (by rw [c1_111]; rfl) (by decide) ?_
              refine lv_iconst (v := 1) hx hb dX0_isAct_84 (by decide) ?_
              exact hQ _ _ _ _ _ () (fun _ => 0) hf rfl w dX0_isAct_85
            · have hf := pf_e c1_111 hf
              by_cases c1_112 : a0 = 112
              · have hf := pf_t c1_112 hf
                refine lv_lookup (off := 83) (tgt := 84) hx hb dX0_isAct_1 (by decide) (by rw [c1_112]; rfl) (by decide) ?_
                refine lv_iconst (v := 1) hx hb dX0_isAct_84 (by decide) ?_
                exact hQ _ _ _ _ _ () (fun _ => 0) hf rfl w dX0_isAct_85
              · have hf := pf_e c1_112 hf
                by_cases c1_115 : a0 = 115
                · have hf := pf_t c1_115 hf
                  refine lv_lookup (off := 83) (tgt := 84) hx hb dX0_isAct_1 (by decide) (by rw [c1_115]; rfl) (by decide) ?_
                  refine lv_iconst (v := 1) hx hb dX0_isAct_84 (by decide) ?_
                  exact hQ _ _ _ _ _ () (fun _ => 0) hf rfl w dX0_isAct_85
                · have hf := pf_e c1_115 hf
                  by_cases c1_120 : a0 = 120
                  · have hf := pf_t c1_120 hf
                    refine lv_lookup (off := 83) (tgt := 84) hx hb dX0_isAct_1 (by decide) (by rw [c1_120]; rfl) (by decide) ?_
                    refine lv_iconst (v := 1) hx hb dX0_isAct_84 (by decide) ?_
                    exact hQ _ _ _ _ _ () (fun _ => 0) hf rfl w dX0_isAct_85
                  · have hf := pf_e c1_120 hf
                    refine lv_lookup (off := 85) (tgt := 86) hx hb dX0_isAct_1 (by decide) (by rw [lv_osw c1_61 (by decide), lv_osw c1_99 (by decide), lv_osw c1_102 (by decide), lv_osw c1_104 (by decide), lv_osw c1_108 (by decide), lv_osw c1_111 (by decide), lv_osw c1_112 (by decide), lv_osw c1_115 (by decide), lv_osw c1_120 (by decide)]; rfl) (by decide) ?_
                    refine lv_iconst (v := 0) hx hb dX0_isAct_86 (by decide) ?_
                    exact hQ _ _ _ _ _ () (fun _ => 0) hf rfl w dX0_isAct_87
set_option maxHeartbeats 8000000 in
set_option maxRecDepth 100000 in
theorem ct_X0_readAct (l : Launch) (E : hm_E) (sz : Nat) (h0 : Nat) (h1 : Nat) (r_t : Nat → Nat) (r_p1 : Nat → Nat) (t_count t_done t_ended p1_count p1_at p1_fault : Int32) (t_kind : Nat → Int32) (t_one : Nat → Int32) (t_two : Nat → Int32) (p1_bytes : Nat → Int32) (R : Int32 × (Nat → Int32) × (Nat → Int32) × (Nat → Int32) × Int32 × Int32) (hf : pf_X0_readAct t_count t_kind t_one t_two p1_bytes p1_count p1_at p1_fault = some R) : hm_Mv l E yX0_readAct cX0_readAct 3 [] (hm_rr 4 84 0 0) [.ref h0, .ref h1] sz [oc0 h0 r_t t_count t_done t_ended, oc5 h1 r_p1 p1_count p1_at p1_fault, ic E (r_t 1) 40 t_kind, ic E (r_t 2) 40 t_one, ic E (r_t 3) 40 t_two, ic E (r_p1 0) 400 p1_bytes] (fun _ => [oc0 h0 r_t (R.1) t_done t_ended, oc5 h1 r_p1 p1_count (R.2.2.2.2.1) (R.2.2.2.2.2), ic E (r_t 1) 40 (R.2.1), ic E (r_t 2) 40 (R.2.2.1), ic E (r_t 3) 40 (R.2.2.2.1), ic E (r_p1 0) 400 p1_bytes]) := by
  refine hm_ct_v R (fun u _ => [oc0 h0 r_t (u.1) t_done t_ended, oc5 h1 r_p1 p1_count (u.2.2.2.2.1) (u.2.2.2.2.2), ic E (r_t 1) 40 (u.2.1), ic E (r_t 2) 40 (u.2.2.1), ic E (r_t 3) 40 (u.2.2.2.1), ic E (r_p1 0) 400 p1_bytes]) (by decide) (Nat.le_of_ble_eq_true rfl) ?_
  intro p e s m args below meth c A Q ls H locs hx hb hml hown X hA Y hex hin w hl hQ
  have hl : lv_has ls 3 [(0, .ref h0), (1, .ref h1)] := hl
  unfold pf_X0_readAct at hf
  refine lv_aload_n hx hb dX0_readAct_0 rfl (lv_at hl 1 rfl) ?_
  obtain ⟨r1, hc1, hf⟩ := pf_bi_0 hf
  refine hm_aft_i (ws' := fun _ => [oc0 h0 r_t t_count t_done t_ended, oc5 h1 r_p1 p1_count p1_at p1_fault, ic E (r_t 1) 40 t_kind, ic E (r_t 2) 40 t_one, ic E (r_t 3) 40 t_two, ic E (r_p1 0) 400 p1_bytes]) (hm_runV (rest := []) hx hb hml hown X hA Y w 1 (ci := 5) (T := TX5) (N := 4) rfl rfl mw_X5_peek ml_X0_47 dX0_readAct_1 hm_ac0 [] rfl [1, 5] rfl rfl (ct_X5_peek l E H.size h1 r_p1 p1_count p1_at p1_fault p1_bytes (r1, ()) hc1) rfl hl.1 ⟨⟨rfl, rfl⟩, ⟨Nat.le_of_ble_eq_true rfl, Nat.le_of_ble_eq_true rfl⟩, ⟨Nat.le_of_ble_eq_true rfl, Nat.le_of_ble_eq_true rfl⟩, Nat.le_of_ble_eq_true rfl⟩) hA w [1, 5] [0, 2, 3, 4] [0, 4, 1, 2, 3, 5] rfl rfl (by decide) (fun _ => rfl) (fun _ H locs w => ?_)
  refine lv_istore_n (lv' := [(2, .int r1), (0, .ref h0), (1, .ref h1)]) hx hb dX0_readAct_4 rfl hl (by decide) rfl (fun ls hl => ?_)
  refine lv_aload_n hx hb dX0_readAct_5 rfl (lv_at hl 1 rfl) ?_
  refine hm_get cb_X0 hx hb hown X w 0 0 fl_X0_9 dX0_readAct_6 rfl (by decide) rfl ?_
  refine lv_bipush (v := 40) hx hb dX0_readAct_9 (by decide) ?_
  refine lv_icmp_ge (tgt := 21) hx hb dX0_readAct_11 (by decide) (fun c11 => ?_) (fun c11 => ?_)
  · have hf := pf_t c11 hf
    refine lv_aload_n hx hb dX0_readAct_21 rfl (lv_at hl 2 rfl) ?_
    refine lv_aload_n hx hb dX0_readAct_22 rfl (lv_at hl 2 rfl) ?_
    refine hm_get cb_X5 hx hb hown X w 1 2 fl_X0_55 dX0_readAct_23 rfl (by decide) rfl ?_
    obtain ⟨x2, hc26, hf⟩ := pf_bv_1 hf
    refine hm_aft_v (ws' := fun _ => [oc0 h0 r_t t_count t_done t_ended, oc5 h1 r_p1 p1_count p1_at x2, ic E (r_t 1) 40 t_kind, ic E (r_t 2) 40 t_one, ic E (r_t 3) 40 t_two, ic E (r_p1 0) 400 p1_bytes]) (hm_runV (rest := []) hx hb hml hown X hA Y w 1 (ci := 5) (T := TX5) (N := 4) rfl rfl mw_X5_blame ml_X0_58 dX0_readAct_26 hm_ac0 [.int p1_at] rfl [1] rfl rfl (ct_X5_blame l E H.size h1 r_p1 p1_count p1_at p1_fault p1_at x2 hc26) rfl hl.1 ⟨⟨rfl, rfl⟩, ⟨Nat.le_of_ble_eq_true rfl, Nat.le_of_ble_eq_true rfl⟩, ⟨Nat.le_of_ble_eq_true rfl, Nat.le_of_ble_eq_true rfl⟩, Nat.le_of_ble_eq_true rfl⟩) hA w [1] [0, 2, 3, 4, 5] [0, 5, 1, 2, 3, 4] rfl rfl (by decide) (fun _ => rfl) (fun _ H locs w => ?_)
    exact hQ _ _ _ _ (t_count, t_kind, t_one, t_two, p1_at, x2) (fun _ => 0) hf w dX0_readAct_29
  · have hf := pf_e c11 hf
    refine lv_iload_n hx hb dX0_readAct_14 rfl (lv_at hl 0 rfl) ?_
    obtain ⟨r3, hc15, hf⟩ := pf_bi_0 hf
    refine hm_aft_i (ws' := fun _ => [oc0 h0 r_t t_count t_done t_ended, oc5 h1 r_p1 p1_count p1_at p1_fault, ic E (r_t 1) 40 t_kind, ic E (r_t 2) 40 t_one, ic E (r_t 3) 40 t_two, ic E (r_p1 0) 400 p1_bytes]) (hm_runS (rest := []) hx hb hml hown X hA Y w mw_X0_isAct ml_X0_51 dX0_readAct_15 hm_ac0 [.int r1] rfl [] rfl rfl (ct_X0_isAct l E H.size r1 (r3, ()) hc15) rfl hl.1 ⟨⟨rfl, rfl⟩, ⟨Nat.le_of_ble_eq_true rfl, Nat.le_of_ble_eq_true rfl⟩, ⟨Nat.le_of_ble_eq_true rfl, Nat.le_of_ble_eq_true rfl⟩, Nat.le_of_ble_eq_true rfl⟩) hA w [] [0, 1, 2, 3, 4, 5] [0, 1, 2, 3, 4, 5] rfl rfl (by decide) (fun _ => rfl) (fun _ H locs w => ?_)
    refine lv_if_ne (tgt := 30) hx hb dX0_readAct_18 (by decide) (fun c18 => ?_) (fun c18 => ?_)
    · have hf := pf_e c18 hf
      refine lv_aload_n hx hb dX0_readAct_30 rfl (lv_at hl 2 rfl) ?_
      refine lv_dup hx hb dX0_readAct_31 rfl ?_
      refine hm_get cb_X5 hx hb hown X w 1 2 fl_X0_55 dX0_readAct_32 rfl (by decide) rfl ?_
      refine lv_iconst (v := 1) hx hb dX0_readAct_35 (by decide) ?_
      refine lv_iadd hx hb dX0_readAct_36 ?_
      refine lv_topi (fun x4 ex4 => ?_)
      have hf := pf_nm ex4 hf
      refine hm_put (ws' := [oc0 h0 r_t t_count t_done t_ended, oc5 h1 r_p1 p1_count x4 p1_fault, ic E (r_t 1) 40 t_kind, ic E (r_t 2) 40 t_one, ic E (r_t 3) 40 t_two, ic E (r_p1 0) 400 p1_bytes]) cb_X5 hx hb hown X w 1 2 fl_X0_55 dX0_readAct_37 rfl (by decide) (Nat.le_of_ble_eq_true rfl) rfl rfl rfl rfl (fun H locs w => ?_)
      refine lv_aload_n hx hb dX0_readAct_40 rfl (lv_at hl 1 rfl) ?_
      refine hm_get cb_X0 hx hb hown X w 0 1 fl_X0_15 dX0_readAct_41 rfl (by decide) rfl ?_
      refine lv_aload_n hx hb dX0_readAct_44 rfl (lv_at hl 1 rfl) ?_
      refine hm_get cb_X0 hx hb hown X w 0 0 fl_X0_9 dX0_readAct_45 rfl (by decide) rfl ?_
      refine lv_iload_n hx hb dX0_readAct_48 rfl (lv_at hl 0 rfl) ?_
      obtain ⟨g49, hf⟩ := pf_ckI hf
      refine hm_iast (ws' := [oc0 h0 r_t t_count t_done t_ended, oc5 h1 r_p1 p1_count x4 p1_fault, ic E (r_t 1) 40 (upd t_kind t_count.toNatClampNeg r1), ic E (r_t 2) 40 t_one, ic E (r_t 3) 40 t_two, ic E (r_p1 0) 400 p1_bytes]) hx hb X w 2 dX0_readAct_49 rfl g49 rfl (fun H locs w => ?_)
      refine lv_aload_n hx hb dX0_readAct_50 rfl (lv_at hl 1 rfl) ?_
      refine hm_get cb_X0 hx hb hown X w 0 2 fl_X0_19 dX0_readAct_51 rfl (by decide) rfl ?_
      refine lv_aload_n hx hb dX0_readAct_54 rfl (lv_at hl 1 rfl) ?_
      refine hm_get cb_X0 hx hb hown X w 0 0 fl_X0_9 dX0_readAct_55 rfl (by decide) rfl ?_
      refine lv_iconst (v := 0) hx hb dX0_readAct_58 (by decide) ?_
      obtain ⟨g59, hf⟩ := pf_ckI hf
      refine hm_iast (ws' := [oc0 h0 r_t t_count t_done t_ended, oc5 h1 r_p1 p1_count x4 p1_fault, ic E (r_t 1) 40 (upd t_kind t_count.toNatClampNeg r1), ic E (r_t 2) 40 (upd t_one t_count.toNatClampNeg 0), ic E (r_t 3) 40 t_two, ic E (r_p1 0) 400 p1_bytes]) hx hb X w 3 dX0_readAct_59 rfl g59 rfl (fun H locs w => ?_)
      refine lv_aload_n hx hb dX0_readAct_60 rfl (lv_at hl 1 rfl) ?_
      refine hm_get cb_X0 hx hb hown X w 0 3 fl_X0_22 dX0_readAct_61 rfl (by decide) rfl ?_
      refine lv_aload_n hx hb dX0_readAct_64 rfl (lv_at hl 1 rfl) ?_
      refine hm_get cb_X0 hx hb hown X w 0 0 fl_X0_9 dX0_readAct_65 rfl (by decide) rfl ?_
      refine lv_iconst (v := 0) hx hb dX0_readAct_68 (by decide) ?_
      obtain ⟨g69, hf⟩ := pf_ckI hf
      refine hm_iast (ws' := [oc0 h0 r_t t_count t_done t_ended, oc5 h1 r_p1 p1_count x4 p1_fault, ic E (r_t 1) 40 (upd t_kind t_count.toNatClampNeg r1), ic E (r_t 2) 40 (upd t_one t_count.toNatClampNeg 0), ic E (r_t 3) 40 (upd t_two t_count.toNatClampNeg 0), ic E (r_p1 0) 400 p1_bytes]) hx hb X w 4 dX0_readAct_69 rfl g69 rfl (fun H locs w => ?_)
      refine lv_iload_n hx hb dX0_readAct_70 rfl (lv_at hl 0 rfl) ?_
      refine lv_bipush (v := 99) hx hb dX0_readAct_71 (by decide) ?_
      obtain ⟨J123, hJ123, hf⟩ := pf_jn hf
      have kJ123 : ∀ (f5 : Nat → Int32) (x6 : Int32) (x7 : Int32) (H : Heap) (locs : List Loc) (ls : Array Slot), J123 f5 x6 x7 = some R → hm_W E A s.heap [oc0 h0 r_t t_count t_done t_ended, oc5 h1 r_p1 p1_count x6 x7, ic E (r_t 1) 40 (upd t_kind t_count.toNatClampNeg r1), ic E (r_t 2) 40 f5, ic E (r_t 3) 40 (upd t_two t_count.toNatClampNeg 0), ic E (r_p1 0) 400 p1_bytes] H locs → lv_has ls 3 [(0, .ref h0), (1, .ref h1), (2, .int r1)] → W p l e (hm_rr 4 84 0 0) s m args below meth c H locs 0 0 Q (F0 m 123 ls []) := by
        intro f5 x6 x7 H locs ls hf w hl
        have hf := pf_j3 hJ123 hf
        refine lv_iload_n hx hb dX0_readAct_123 rfl (lv_at hl 2 rfl) ?_
        refine lv_bipush (v := 108) hx hb dX0_readAct_124 (by decide) ?_
        obtain ⟨J173, hJ173, hf⟩ := pf_jn hf
        have kJ173 : ∀ (f8 : Nat → Int32) (x9 : Int32) (x10 : Int32) (H : Heap) (locs : List Loc) (ls : Array Slot), J173 f8 x9 x10 = some R → hm_W E A s.heap [oc0 h0 r_t t_count t_done t_ended, oc5 h1 r_p1 p1_count x9 x10, ic E (r_t 1) 40 (upd t_kind t_count.toNatClampNeg r1), ic E (r_t 2) 40 f5, ic E (r_t 3) 40 f8, ic E (r_p1 0) 400 p1_bytes] H locs → lv_has ls 3 [(0, .ref h0), (1, .ref h1)] → W p l e (hm_rr 4 84 0 0) s m args below meth c H locs 0 0 Q (F0 m 173 ls []) := by
          intro f8 x9 x10 H locs ls hf w hl
          have hf := pf_j3 hJ173 hf
          refine lv_aload_n hx hb dX0_readAct_173 rfl (lv_at hl 1 rfl) ?_
          refine lv_bipush (v := 59) hx hb dX0_readAct_174 (by decide) ?_
          obtain ⟨x11, x12, hc176, hf⟩ := pf_bv_2 hf
          refine hm_aft_v (ws' := fun _ => [oc0 h0 r_t t_count t_done t_ended, oc5 h1 r_p1 p1_count x11 x12, ic E (r_t 1) 40 (upd t_kind t_count.toNatClampNeg r1), ic E (r_t 2) 40 f5, ic E (r_t 3) 40 f8, ic E (r_p1 0) 400 p1_bytes]) (hm_runV (rest := []) hx hb hml hown X hA Y w 1 (ci := 5) (T := TX5) (N := 4) rfl rfl mw_X5_needs ml_X0_68 dX0_readAct_176 hm_ac0 [.int 59] rfl [1, 5] rfl rfl (ct_X5_needs l E H.size h1 r_p1 p1_count x9 x10 p1_bytes 59 (x11, x12) hc176) rfl hl.1 ⟨⟨rfl, rfl⟩, ⟨Nat.le_of_ble_eq_true rfl, Nat.le_of_ble_eq_true rfl⟩, ⟨Nat.le_of_ble_eq_true rfl, Nat.le_of_ble_eq_true rfl⟩, Nat.le_of_ble_eq_true rfl⟩) hA w [1, 5] [0, 2, 3, 4] [0, 4, 1, 2, 3, 5] rfl rfl (by decide) (fun _ => rfl) (fun _ H locs w => ?_)
          refine lv_aload_n hx hb dX0_readAct_179 rfl (lv_at hl 0 rfl) ?_
          refine lv_dup hx hb dX0_readAct_180 rfl ?_
          refine hm_get cb_X0 hx hb hown X w 0 0 fl_X0_9 dX0_readAct_181 rfl (by decide) rfl ?_
          refine lv_iconst (v := 1) hx hb dX0_readAct_184 (by decide) ?_
          refine lv_iadd hx hb dX0_readAct_185 ?_
          refine lv_topi (fun x13 ex13 => ?_)
          have hf := pf_nm ex13 hf
          refine hm_put (ws' := [oc0 h0 r_t x13 t_done t_ended, oc5 h1 r_p1 p1_count x11 x12, ic E (r_t 1) 40 (upd t_kind t_count.toNatClampNeg r1), ic E (r_t 2) 40 f5, ic E (r_t 3) 40 f8, ic E (r_p1 0) 400 p1_bytes]) cb_X0 hx hb hown X w 0 0 fl_X0_9 dX0_readAct_186 rfl (by decide) (Nat.le_of_ble_eq_true rfl) rfl rfl rfl rfl (fun H locs w => ?_)
          exact hQ _ _ _ _ (x13, (upd t_kind t_count.toNatClampNeg r1), f5, f8, x11, x12) (fun _ => 0) hf w dX0_readAct_189
        obtain ⟨J141, hJ141, hf⟩ := pf_jn hf
        have kJ141 : ∀ (H : Heap) (locs : List Loc) (ls : Array Slot), J141 = some R → hm_W E A s.heap [oc0 h0 r_t t_count t_done t_ended, oc5 h1 r_p1 p1_count x6 x7, ic E (r_t 1) 40 (upd t_kind t_count.toNatClampNeg r1), ic E (r_t 2) 40 f5, ic E (r_t 3) 40 (upd t_two t_count.toNatClampNeg 0), ic E (r_p1 0) 400 p1_bytes] H locs → lv_has ls 3 [(0, .ref h0), (1, .ref h1), (2, .int r1)] → W p l e (hm_rr 4 84 0 0) s m args below meth c H locs 0 0 Q (F0 m 141 ls []) := by
          intro H locs ls hf w hl
          have hf := pf_j0 hJ141 hf
          refine lv_aload_n hx hb dX0_readAct_141 rfl (lv_at hl 1 rfl) ?_
          refine lv_bipush (v := 44) hx hb dX0_readAct_142 (by decide) ?_
          obtain ⟨x14, x15, hc144, hf⟩ := pf_bv_2 hf
          refine hm_aft_v (ws' := fun _ => [oc0 h0 r_t t_count t_done t_ended, oc5 h1 r_p1 p1_count x14 x15, ic E (r_t 1) 40 (upd t_kind t_count.toNatClampNeg r1), ic E (r_t 2) 40 f5, ic E (r_t 3) 40 (upd t_two t_count.toNatClampNeg 0), ic E (r_p1 0) 400 p1_bytes]) (hm_runV (rest := []) hx hb hml hown X hA Y w 1 (ci := 5) (T := TX5) (N := 4) rfl rfl mw_X5_needs ml_X0_68 dX0_readAct_144 hm_ac0 [.int 44] rfl [1, 5] rfl rfl (ct_X5_needs l E H.size h1 r_p1 p1_count x6 x7 p1_bytes 44 (x14, x15) hc144) rfl hl.1 ⟨⟨rfl, rfl⟩, ⟨Nat.le_of_ble_eq_true rfl, Nat.le_of_ble_eq_true rfl⟩, ⟨Nat.le_of_ble_eq_true rfl, Nat.le_of_ble_eq_true rfl⟩, Nat.le_of_ble_eq_true rfl⟩) hA w [1, 5] [0, 2, 3, 4] [0, 4, 1, 2, 3, 5] rfl rfl (by decide) (fun _ => rfl) (fun _ H locs w => ?_)
          refine lv_aload_n hx hb dX0_readAct_147 rfl (lv_at hl 0 rfl) ?_
          refine hm_get cb_X0 hx hb hown X w 0 3 fl_X0_22 dX0_readAct_148 rfl (by decide) rfl ?_
          refine lv_aload_n hx hb dX0_readAct_151 rfl (lv_at hl 0 rfl) ?_
          refine hm_get cb_X0 hx hb hown X w 0 0 fl_X0_9 dX0_readAct_152 rfl (by decide) rfl ?_
          refine lv_iload_n hx hb dX0_readAct_155 rfl (lv_at hl 2 rfl) ?_
          refine lv_bipush (v := 108) hx hb dX0_readAct_156 (by decide) ?_
          obtain ⟨J172, hJ172, hf⟩ := pf_jn hf
          have kJ172 : ∀ (x16 : Int32) (x17 : Int32) (x18 : Int32) (H : Heap) (locs : List Loc) (ls : Array Slot), J172 x16 x17 x18 = some R → hm_W E A s.heap [oc0 h0 r_t t_count t_done t_ended, oc5 h1 r_p1 p1_count x17 x18, ic E (r_t 1) 40 (upd t_kind t_count.toNatClampNeg r1), ic E (r_t 2) 40 f5, ic E (r_t 3) 40 (upd t_two t_count.toNatClampNeg 0), ic E (r_p1 0) 400 p1_bytes] H locs → lv_has ls 3 [(0, .ref h0), (1, .ref h1)] → W p l e (hm_rr 4 84 0 0) s m args below meth c H locs 0 0 Q (F0 m 172 ls [.int x16, .int t_count, .ref (r_t 3)]) := by
            intro x16 x17 x18 H locs ls hf w hl
            have hf := pf_j3 hJ172 hf
            obtain ⟨g172, hf⟩ := pf_ckI hf
            refine hm_iast (ws' := [oc0 h0 r_t t_count t_done t_ended, oc5 h1 r_p1 p1_count x17 x18, ic E (r_t 1) 40 (upd t_kind t_count.toNatClampNeg r1), ic E (r_t 2) 40 f5, ic E (r_t 3) 40 (upd (upd t_two t_count.toNatClampNeg 0) t_count.toNatClampNeg x16), ic E (r_p1 0) 400 p1_bytes]) hx hb X w 4 dX0_readAct_172 rfl g172 rfl (fun H locs w => ?_)
            exact kJ173 _ _ _ _ _ _ hf w (lv_sub hl [0, 1] rfl)
          refine lv_icmp_ne (tgt := 168) hx hb dX0_readAct_158 (by decide) (fun c158 => ?_) (fun c158 => ?_)
          · have hf := pf_e c158 hf
            refine lv_aload_n hx hb dX0_readAct_168 rfl (lv_at hl 1 rfl) ?_
            obtain ⟨r19, x20, x21, hc169, hf⟩ := pf_bi_2 hf
            refine hm_aft_i (ws' := fun _ => [oc0 h0 r_t t_count t_done t_ended, oc5 h1 r_p1 p1_count x20 x21, ic E (r_t 1) 40 (upd t_kind t_count.toNatClampNeg r1), ic E (r_t 2) 40 f5, ic E (r_t 3) 40 (upd t_two t_count.toNatClampNeg 0), ic E (r_p1 0) 400 p1_bytes]) (hm_runV (rest := [.int t_count, .ref (r_t 3)]) hx hb hml hown X hA Y w 1 (ci := 5) (T := TX5) (N := 4) rfl rfl mw_X5_signedNumber ml_X0_62 dX0_readAct_169 hm_ac0 [] rfl [1, 5] rfl rfl (ct_X5_signedNumber l E H.size h1 r_p1 p1_count x14 x15 p1_bytes (r19, x20, x21) hc169) rfl hl.1 ⟨⟨rfl, rfl⟩, ⟨Nat.le_of_ble_eq_true rfl, Nat.le_of_ble_eq_true rfl⟩, ⟨Nat.le_of_ble_eq_true rfl, Nat.le_of_ble_eq_true rfl⟩, Nat.le_of_ble_eq_true rfl⟩) hA w [1, 5] [0, 2, 3, 4] [0, 4, 1, 2, 3, 5] rfl rfl (by decide) (fun _ => rfl) (fun _ H locs w => ?_)
            exact kJ172 _ _ _ _ _ _ hf w (lv_sub hl [0, 1] rfl)
          · have hf := pf_t c158 hf
            refine lv_aload_n hx hb dX0_readAct_161 rfl (lv_at hl 1 rfl) ?_
            obtain ⟨r22, x23, x24, hc162, hf⟩ := pf_bi_2 hf
            refine hm_aft_i (ws' := fun _ => [oc0 h0 r_t t_count t_done t_ended, oc5 h1 r_p1 p1_count x23 x24, ic E (r_t 1) 40 (upd t_kind t_count.toNatClampNeg r1), ic E (r_t 2) 40 f5, ic E (r_t 3) 40 (upd t_two t_count.toNatClampNeg 0), ic E (r_p1 0) 400 p1_bytes]) (hm_runV (rest := [.int t_count, .ref (r_t 3)]) hx hb hml hown X hA Y w 1 (ci := 5) (T := TX5) (N := 4) rfl rfl mw_X5_number ml_X0_65 dX0_readAct_162 hm_ac0 [] rfl [1, 5] rfl rfl (ct_X5_number l E H.size h1 r_p1 p1_count x14 x15 p1_bytes (r22, x23, x24) hc162) rfl hl.1 ⟨⟨rfl, rfl⟩, ⟨Nat.le_of_ble_eq_true rfl, Nat.le_of_ble_eq_true rfl⟩, ⟨Nat.le_of_ble_eq_true rfl, Nat.le_of_ble_eq_true rfl⟩, Nat.le_of_ble_eq_true rfl⟩) hA w [1, 5] [0, 2, 3, 4] [0, 4, 1, 2, 3, 5] rfl rfl (by decide) (fun _ => rfl) (fun _ H locs w => ?_)
            refine lv_goto (tgt := 172) hx hb dX0_readAct_165 (by decide) ?_
            exact kJ172 _ _ _ _ _ _ hf w (lv_sub hl [0, 1] rfl)
        refine lv_icmp_eq (tgt := 141) hx hb dX0_readAct_126 (by decide) (fun c126 => ?_) (fun c126 => ?_)
        · have hf := pf_t c126 hf
          exact kJ141 _ _ _ hf w (lv_sub hl [0, 1, 2] rfl)
        · have hf := pf_e c126 hf
          refine lv_iload_n hx hb dX0_readAct_129 rfl (lv_at hl 2 rfl) ?_
          refine lv_bipush (v := 115) hx hb dX0_readAct_130 (by decide) ?_
          refine lv_icmp_eq (tgt := 141) hx hb dX0_readAct_132 (by decide) (fun c132 => ?_) (fun c132 => ?_)
          · have hf := pf_t c132 hf
            exact kJ141 _ _ _ hf w (lv_sub hl [0, 1, 2] rfl)
          · have hf := pf_e c132 hf
            refine lv_iload_n hx hb dX0_readAct_135 rfl (lv_at hl 2 rfl) ?_
            refine lv_bipush (v := 111) hx hb dX0_readAct_136 (by decide) ?_
            refine lv_icmp_ne (tgt := 173) hx hb dX0_readAct_138 (by decide) (fun c138 => ?_) (fun c138 => ?_)
            · have hf := pf_e c138 hf
              exact kJ173 _ _ _ _ _ _ hf w (lv_sub hl [0, 1] rfl)
            · have hf := pf_t c138 hf
              exact kJ141 _ _ _ hf w (lv_sub hl [0, 1, 2] rfl)
      obtain ⟨J88, hJ88, hf⟩ := pf_jn hf
      have kJ88 : ∀ (H : Heap) (locs : List Loc) (ls : Array Slot), J88 = some R → hm_W E A s.heap [oc0 h0 r_t t_count t_done t_ended, oc5 h1 r_p1 p1_count x4 p1_fault, ic E (r_t 1) 40 (upd t_kind t_count.toNatClampNeg r1), ic E (r_t 2) 40 (upd t_one t_count.toNatClampNeg 0), ic E (r_t 3) 40 (upd t_two t_count.toNatClampNeg 0), ic E (r_p1 0) 400 p1_bytes] H locs → lv_has ls 3 [(0, .ref h0), (1, .ref h1), (2, .int r1)] → W p l e (hm_rr 4 84 0 0) s m args below meth c H locs 0 0 Q (F0 m 88 ls []) := by
        intro H locs ls hf w hl
        have hf := pf_j0 hJ88 hf
        refine lv_aload_n hx hb dX0_readAct_88 rfl (lv_at hl 0 rfl) ?_
        refine hm_get cb_X0 hx hb hown X w 0 2 fl_X0_19 dX0_readAct_89 rfl (by decide) rfl ?_
        refine lv_aload_n hx hb dX0_readAct_92 rfl (lv_at hl 0 rfl) ?_
        refine hm_get cb_X0 hx hb hown X w 0 0 fl_X0_9 dX0_readAct_93 rfl (by decide) rfl ?_
        refine lv_aload_n hx hb dX0_readAct_96 rfl (lv_at hl 1 rfl) ?_
        obtain ⟨r25, x26, x27, hc97, hf⟩ := pf_bi_2 hf
        refine hm_aft_i (ws' := fun _ => [oc0 h0 r_t t_count t_done t_ended, oc5 h1 r_p1 p1_count x26 x27, ic E (r_t 1) 40 (upd t_kind t_count.toNatClampNeg r1), ic E (r_t 2) 40 (upd t_one t_count.toNatClampNeg 0), ic E (r_t 3) 40 (upd t_two t_count.toNatClampNeg 0), ic E (r_p1 0) 400 p1_bytes]) (hm_runV (rest := [.int t_count, .ref (r_t 2)]) hx hb hml hown X hA Y w 1 (ci := 5) (T := TX5) (N := 4) rfl rfl mw_X5_signedNumber ml_X0_62 dX0_readAct_97 hm_ac0 [] rfl [1, 5] rfl rfl (ct_X5_signedNumber l E H.size h1 r_p1 p1_count x4 p1_fault p1_bytes (r25, x26, x27) hc97) rfl hl.1 ⟨⟨rfl, rfl⟩, ⟨Nat.le_of_ble_eq_true rfl, Nat.le_of_ble_eq_true rfl⟩, ⟨Nat.le_of_ble_eq_true rfl, Nat.le_of_ble_eq_true rfl⟩, Nat.le_of_ble_eq_true rfl⟩) hA w [1, 5] [0, 2, 3, 4] [0, 4, 1, 2, 3, 5] rfl rfl (by decide) (fun _ => rfl) (fun _ H locs w => ?_)
        obtain ⟨g100, hf⟩ := pf_ckI hf
        refine hm_iast (ws' := [oc0 h0 r_t t_count t_done t_ended, oc5 h1 r_p1 p1_count x26 x27, ic E (r_t 1) 40 (upd t_kind t_count.toNatClampNeg r1), ic E (r_t 2) 40 (upd (upd t_one t_count.toNatClampNeg 0) t_count.toNatClampNeg r25), ic E (r_t 3) 40 (upd t_two t_count.toNatClampNeg 0), ic E (r_p1 0) 400 p1_bytes]) hx hb X w 3 dX0_readAct_100 rfl g100 rfl (fun H locs w => ?_)
        refine lv_goto (tgt := 123) hx hb dX0_readAct_101 (by decide) ?_
        exact kJ123 _ _ _ _ _ _ hf w (lv_sub hl [0, 1, 2] rfl)
      refine lv_icmp_eq (tgt := 88) hx hb dX0_readAct_73 (by decide) (fun c73 => ?_) (fun c73 => ?_)
      · have hf := pf_t c73 hf
        exact kJ88 _ _ _ hf w (lv_sub hl [1, 2, 0] rfl)
      · have hf := pf_e c73 hf
        refine lv_iload_n hx hb dX0_readAct_76 rfl (lv_at hl 0 rfl) ?_
        refine lv_bipush (v := 120) hx hb dX0_readAct_77 (by decide) ?_
        refine lv_icmp_eq (tgt := 88) hx hb dX0_readAct_79 (by decide) (fun c79 => ?_) (fun c79 => ?_)
        · have hf := pf_t c79 hf
          exact kJ88 _ _ _ hf w (lv_sub hl [1, 2, 0] rfl)
        · have hf := pf_e c79 hf
          refine lv_iload_n hx hb dX0_readAct_82 rfl (lv_at hl 0 rfl) ?_
          refine lv_bipush (v := 61) hx hb dX0_readAct_83 (by decide) ?_
          refine lv_icmp_ne (tgt := 104) hx hb dX0_readAct_85 (by decide) (fun c85 => ?_) (fun c85 => ?_)
          · have hf := pf_e c85 hf
            refine lv_iload_n hx hb dX0_readAct_104 rfl (lv_at hl 0 rfl) ?_
            refine lv_bipush (v := 102) hx hb dX0_readAct_105 (by decide) ?_
            refine lv_icmp_eq (tgt := 123) hx hb dX0_readAct_107 (by decide) (fun c107 => ?_) (fun c107 => ?_)
            · have hf := pf_t c107 hf
              exact kJ123 _ _ _ _ _ _ hf w (lv_sub hl [1, 2, 0] rfl)
            · have hf := pf_e c107 hf
              refine lv_aload_n hx hb dX0_readAct_110 rfl (lv_at hl 1 rfl) ?_
              refine hm_get cb_X0 hx hb hown X w 0 2 fl_X0_19 dX0_readAct_111 rfl (by decide) rfl ?_
              refine lv_aload_n hx hb dX0_readAct_114 rfl (lv_at hl 1 rfl) ?_
              refine hm_get cb_X0 hx hb hown X w 0 0 fl_X0_9 dX0_readAct_115 rfl (by decide) rfl ?_
              refine lv_aload_n hx hb dX0_readAct_118 rfl (lv_at hl 2 rfl) ?_
              obtain ⟨r28, x29, x30, hc119, hf⟩ := pf_bi_2 hf
              refine hm_aft_i (ws' := fun _ => [oc0 h0 r_t t_count t_done t_ended, oc5 h1 r_p1 p1_count x29 x30, ic E (r_t 1) 40 (upd t_kind t_count.toNatClampNeg r1), ic E (r_t 2) 40 (upd t_one t_count.toNatClampNeg 0), ic E (r_t 3) 40 (upd t_two t_count.toNatClampNeg 0), ic E (r_p1 0) 400 p1_bytes]) (hm_runV (rest := [.int t_count, .ref (r_t 2)]) hx hb hml hown X hA Y w 1 (ci := 5) (T := TX5) (N := 4) rfl rfl mw_X5_number ml_X0_65 dX0_readAct_119 hm_ac0 [] rfl [1, 5] rfl rfl (ct_X5_number l E H.size h1 r_p1 p1_count x4 p1_fault p1_bytes (r28, x29, x30) hc119) rfl hl.1 ⟨⟨rfl, rfl⟩, ⟨Nat.le_of_ble_eq_true rfl, Nat.le_of_ble_eq_true rfl⟩, ⟨Nat.le_of_ble_eq_true rfl, Nat.le_of_ble_eq_true rfl⟩, Nat.le_of_ble_eq_true rfl⟩) hA w [1, 5] [0, 2, 3, 4] [0, 4, 1, 2, 3, 5] rfl rfl (by decide) (fun _ => rfl) (fun _ H locs w => ?_)
              obtain ⟨g122, hf⟩ := pf_ckI hf
              refine hm_iast (ws' := [oc0 h0 r_t t_count t_done t_ended, oc5 h1 r_p1 p1_count x29 x30, ic E (r_t 1) 40 (upd t_kind t_count.toNatClampNeg r1), ic E (r_t 2) 40 (upd (upd t_one t_count.toNatClampNeg 0) t_count.toNatClampNeg r28), ic E (r_t 3) 40 (upd t_two t_count.toNatClampNeg 0), ic E (r_p1 0) 400 p1_bytes]) hx hb X w 3 dX0_readAct_122 rfl g122 rfl (fun H locs w => ?_)
              exact kJ123 _ _ _ _ _ _ hf w (lv_sub hl [1, 2, 0] rfl)
          · have hf := pf_t c85 hf
            exact kJ88 _ _ _ hf w (lv_sub hl [1, 2, 0] rfl)
    · have hf := pf_t c18 hf
      refine lv_aload_n hx hb dX0_readAct_21 rfl (lv_at hl 2 rfl) ?_
      refine lv_aload_n hx hb dX0_readAct_22 rfl (lv_at hl 2 rfl) ?_
      refine hm_get cb_X5 hx hb hown X w 1 2 fl_X0_55 dX0_readAct_23 rfl (by decide) rfl ?_
      obtain ⟨x31, hc26, hf⟩ := pf_bv_1 hf
      refine hm_aft_v (ws' := fun _ => [oc0 h0 r_t t_count t_done t_ended, oc5 h1 r_p1 p1_count p1_at x31, ic E (r_t 1) 40 t_kind, ic E (r_t 2) 40 t_one, ic E (r_t 3) 40 t_two, ic E (r_p1 0) 400 p1_bytes]) (hm_runV (rest := []) hx hb hml hown X hA Y w 1 (ci := 5) (T := TX5) (N := 4) rfl rfl mw_X5_blame ml_X0_58 dX0_readAct_26 hm_ac0 [.int p1_at] rfl [1] rfl rfl (ct_X5_blame l E H.size h1 r_p1 p1_count p1_at p1_fault p1_at x31 hc26) rfl hl.1 ⟨⟨rfl, rfl⟩, ⟨Nat.le_of_ble_eq_true rfl, Nat.le_of_ble_eq_true rfl⟩, ⟨Nat.le_of_ble_eq_true rfl, Nat.le_of_ble_eq_true rfl⟩, Nat.le_of_ble_eq_true rfl⟩) hA w [1] [0, 2, 3, 4, 5] [0, 5, 1, 2, 3, 4] rfl rfl (by decide) (fun _ => rfl) (fun _ H locs w => ?_)
      exact hQ _ _ _ _ (t_count, t_kind, t_one, t_two, p1_at, x31) (fun _ => 0) hf w dX0_readAct_29
set_option maxHeartbeats 8000000 in
set_option maxRecDepth 100000 in
theorem ct_X0_read (l : Launch) (E : hm_E) (sz : Nat) (h0 : Nat) (h1 : Nat) (r_t : Nat → Nat) (r_p1 : Nat → Nat) (t_count t_done t_ended p1_count p1_at p1_fault : Int32) (t_kind : Nat → Int32) (t_one : Nat → Int32) (t_two : Nat → Int32) (p1_bytes : Nat → Int32) (R : Int32 × (Nat → Int32) × (Nat → Int32) × (Nat → Int32) × Int32 × Int32) (hf : pf_X0_read t_kind t_one t_two p1_bytes p1_count = some R) : hm_Mv l E yX0_read cX0_read 3 [] (hm_rr 5 106 0 0) [.ref h0, .ref h1] sz [oc0 h0 r_t t_count t_done t_ended, oc5 h1 r_p1 p1_count p1_at p1_fault, ic E (r_t 1) 40 t_kind, ic E (r_t 2) 40 t_one, ic E (r_t 3) 40 t_two, ic E (r_p1 0) 400 p1_bytes] (fun _ => [oc0 h0 r_t (R.1) t_done t_ended, oc5 h1 r_p1 p1_count (R.2.2.2.2.1) (R.2.2.2.2.2), ic E (r_t 1) 40 (R.2.1), ic E (r_t 2) 40 (R.2.2.1), ic E (r_t 3) 40 (R.2.2.2.1), ic E (r_p1 0) 400 p1_bytes]) := by
  refine hm_ct_v R (fun u _ => [oc0 h0 r_t (u.1) t_done t_ended, oc5 h1 r_p1 p1_count (u.2.2.2.2.1) (u.2.2.2.2.2), ic E (r_t 1) 40 (u.2.1), ic E (r_t 2) 40 (u.2.2.1), ic E (r_t 3) 40 (u.2.2.2.1), ic E (r_p1 0) 400 p1_bytes]) (by decide) (Nat.le_of_ble_eq_true rfl) ?_
  intro p e s m args below meth c A Q ls H locs hx hb hml hown X hA Y hex hin w hl hQ
  have hl : lv_has ls 3 [(0, .ref h0), (1, .ref h1)] := hl
  unfold pf_X0_read at hf
  refine lv_aload_n hx hb dX0_read_0 rfl (lv_at hl 1 rfl) ?_
  obtain ⟨x1, x2, hc1, hf⟩ := pf_bv_2 hf
  refine hm_aft_v (ws' := fun _ => [oc0 h0 r_t t_count t_done t_ended, oc5 h1 r_p1 p1_count x1 x2, ic E (r_t 1) 40 t_kind, ic E (r_t 2) 40 t_one, ic E (r_t 3) 40 t_two, ic E (r_p1 0) 400 p1_bytes]) (hm_runV (rest := []) hx hb hml hown X hA Y w 1 (ci := 5) (T := TX5) (N := 4) rfl rfl mw_X5_rewind ml_X0_34 dX0_read_1 hm_ac0 [] rfl [1] rfl rfl (ct_X5_rewind l E H.size h1 r_p1 p1_count p1_at p1_fault (x1, x2) hc1) rfl hl.1 ⟨⟨rfl, rfl⟩, ⟨Nat.le_of_ble_eq_true rfl, Nat.le_of_ble_eq_true rfl⟩, ⟨Nat.le_of_ble_eq_true rfl, Nat.le_of_ble_eq_true rfl⟩, Nat.le_of_ble_eq_true rfl⟩) hA w [1] [0, 2, 3, 4, 5] [0, 5, 1, 2, 3, 4] rfl rfl (by decide) (fun _ => rfl) (fun _ H locs w => ?_)
  refine lv_aload_n hx hb dX0_read_4 rfl (lv_at hl 0 rfl) ?_
  refine lv_iconst (v := 0) hx hb dX0_read_5 (by decide) ?_
  refine hm_put (ws' := [oc0 h0 r_t 0 t_done t_ended, oc5 h1 r_p1 p1_count x1 x2, ic E (r_t 1) 40 t_kind, ic E (r_t 2) 40 t_one, ic E (r_t 3) 40 t_two, ic E (r_p1 0) 400 p1_bytes]) cb_X0 hx hb hown X w 0 0 fl_X0_9 dX0_read_6 rfl (by decide) (Nat.le_of_ble_eq_true rfl) rfl rfl rfl rfl (fun H locs w => ?_)
  refine lv_iconst (v := 0) hx hb dX0_read_9 (by decide) ?_
  refine lv_istore_n (lv' := [(2, .int 0), (0, .ref h0), (1, .ref h1)]) hx hb dX0_read_10 rfl hl (by decide) rfl (fun ls hl => ?_)
  have klp_X0_read_11 : ∀ (n : Nat) (x3 : Int32) (x4 : Int32) (f5 : Nat → Int32) (f6 : Nat → Int32) (f7 : Nat → Int32) (x8 : Int32) (x9 : Int32) (H : Heap) (locs : List Loc) (ls : Array Slot), lp_X0_read_11 p1_count p1_bytes n x3 x4 f5 f6 f7 x8 x9 = some R → hm_W E A s.heap [oc0 h0 r_t x4 t_done t_ended, oc5 h1 r_p1 p1_count x8 x9, ic E (r_t 1) 40 f5, ic E (r_t 2) 40 f6, ic E (r_t 3) 40 f7, ic E (r_p1 0) 400 p1_bytes] H locs → lv_has ls 3 [(0, .ref h0), (1, .ref h1), (2, .int x3)] → W p l e (hm_rr 5 106 0 0) s m args below meth c H locs 0 0 Q (F0 m 11 ls []) := by
    intro n
    induction n with
    | zero =>
      intro x3 x4 f5 f6 f7 x8 x9 H locs ls hf w hl
      exact pf_no hf
    | succ n ih11 =>
      intro x3 x4 f5 f6 f7 x8 x9 H locs ls hf w hl
      rw [lp_X0_read_11] at hf
      refine lv_iload_n hx hb dX0_read_11 rfl (lv_at hl 2 rfl) ?_
      refine lv_bipush (v := 40) hx hb dX0_read_12 (by decide) ?_
      refine lv_icmp_gt (tgt := 35) hx hb dX0_read_14 (by decide) (fun c14 => ?_) (fun c14 => ?_)
      · have hf := pf_t c14 hf
        exact hQ _ _ _ _ (x4, f5, f6, f7, x8, x9) (fun _ => 0) hf w dX0_read_35
      · have hf := pf_e c14 hf
        refine lv_aload_n hx hb dX0_read_17 rfl (lv_at hl 1 rfl) ?_
        obtain ⟨r10, hc18, hf⟩ := pf_bi_0 hf
        refine hm_aft_i (ws' := fun _ => [oc0 h0 r_t x4 t_done t_ended, oc5 h1 r_p1 p1_count x8 x9, ic E (r_t 1) 40 f5, ic E (r_t 2) 40 f6, ic E (r_t 3) 40 f7, ic E (r_p1 0) 400 p1_bytes]) (hm_runV (rest := []) hx hb hml hown X hA Y w 1 (ci := 5) (T := TX5) (N := 4) rfl rfl mw_X5_goesOn ml_X0_39 dX0_read_18 hm_ac0 [] rfl [1] rfl rfl (ct_X5_goesOn l E H.size h1 r_p1 p1_count x8 x9 (r10, ()) hc18) rfl hl.1 ⟨⟨rfl, rfl⟩, ⟨Nat.le_of_ble_eq_true rfl, Nat.le_of_ble_eq_true rfl⟩, ⟨Nat.le_of_ble_eq_true rfl, Nat.le_of_ble_eq_true rfl⟩, Nat.le_of_ble_eq_true rfl⟩) hA w [1] [0, 2, 3, 4, 5] [0, 5, 1, 2, 3, 4] rfl rfl (by decide) (fun _ => rfl) (fun _ H locs w => ?_)
        refine lv_if_eq (tgt := 35) hx hb dX0_read_21 (by decide) (fun c21 => ?_) (fun c21 => ?_)
        · have hf := pf_t c21 hf
          exact hQ _ _ _ _ (x4, f5, f6, f7, x8, x9) (fun _ => 0) hf w dX0_read_35
        · have hf := pf_e c21 hf
          refine lv_aload_n hx hb dX0_read_24 rfl (lv_at hl 0 rfl) ?_
          refine lv_aload_n hx hb dX0_read_25 rfl (lv_at hl 1 rfl) ?_
          obtain ⟨x11, f12, f13, f14, x15, x16, hc26, hf⟩ := pf_bv_6 hf
          refine hm_aft_v (ws' := fun _ => [oc0 h0 r_t x11 t_done t_ended, oc5 h1 r_p1 p1_count x15 x16, ic E (r_t 1) 40 f12, ic E (r_t 2) 40 f13, ic E (r_t 3) 40 f14, ic E (r_p1 0) 400 p1_bytes]) (hm_runV (rest := []) hx hb hml hown X hA Y w 0 (ci := 0) (T := TX0) (N := 7) rfl rfl mw_X0_readAct ml_X0_43 dX0_read_26 hm_ac0 [.ref h1] rfl [0, 1, 2, 3, 4, 5] rfl rfl (ct_X0_readAct l E H.size h0 h1 r_t r_p1 x4 t_done t_ended p1_count x8 x9 f5 f6 f7 p1_bytes (x11, f12, f13, f14, x15, x16) hc26) rfl hl.1 ⟨⟨rfl, rfl⟩, ⟨Nat.le_of_ble_eq_true rfl, Nat.le_of_ble_eq_true rfl⟩, ⟨Nat.le_of_ble_eq_true rfl, Nat.le_of_ble_eq_true rfl⟩, Nat.le_of_ble_eq_true rfl⟩) hA w [0, 1, 2, 3, 4, 5] [] [0, 1, 2, 3, 4, 5] rfl rfl (by decide) (fun _ => rfl) (fun _ H locs w => ?_)
          obtain ⟨x17, ex17⟩ : ∃ y : Int32, y = (x3 + 1) := ⟨_, rfl⟩
          have hf := pf_nm ex17 hf
          refine lv_iinc (v := x17) (lv' := [(2, .int x17), (0, .ref h0), (1, .ref h1)]) hx hb dX0_read_29 hl (k := 2) rfl (by rw [ex17]; rfl) (by decide) rfl (fun ls hl => ?_)
          refine lv_goto (tgt := 11) hx hb dX0_read_32 (by decide) ?_
          exact ih11 _ _ _ _ _ _ _ _ _ _ hf w (lv_sub hl [1, 2, 0] rfl)
  exact klp_X0_read_11 FU _ _ _ _ _ _ _ _ _ _ hf w (lv_sub hl [1, 2, 0] rfl)
set_option maxHeartbeats 8000000 in
set_option maxRecDepth 100000 in
theorem ct_X0_begin (l : Launch) (E : hm_E) (sz : Nat) (h0 : Nat) (r_t : Nat → Nat) (t_count t_done t_ended : Int32) (R : Int32 × Int32) (hf : pf_X0_begin = some R) : hm_Mv l E yX0_begin cX0_begin 1 [] (hm_rr 0 0 0 0) [.ref h0] sz [oc0 h0 r_t t_count t_done t_ended] (fun _ => [oc0 h0 r_t t_count (R.1) (R.2)]) := by
  refine hm_ct_v R (fun u _ => [oc0 h0 r_t t_count (u.1) (u.2)]) (by decide) (Nat.le_of_ble_eq_true rfl) ?_
  intro p e s m args below meth c A Q ls H locs hx hb hml hown X hA Y hex hin w hl hQ
  have hl : lv_has ls 1 [(0, .ref h0)] := hl
  unfold pf_X0_begin at hf
  refine lv_aload_n hx hb dX0_begin_0 rfl (lv_at hl 0 rfl) ?_
  refine lv_iconst (v := 0) hx hb dX0_begin_1 (by decide) ?_
  refine hm_put (ws' := [oc0 h0 r_t t_count 0 t_ended]) cb_X0 hx hb hown X w 0 4 fl_X0_25 dX0_begin_2 rfl (by decide) (Nat.le_of_ble_eq_true rfl) rfl rfl rfl rfl (fun H locs w => ?_)
  refine lv_aload_n hx hb dX0_begin_5 rfl (lv_at hl 0 rfl) ?_
  refine lv_iconst (v := (-1)) hx hb dX0_begin_6 (by decide) ?_
  refine hm_put (ws' := [oc0 h0 r_t t_count 0 (-1)]) cb_X0 hx hb hown X w 0 6 fl_X0_31 dX0_begin_7 rfl (by decide) (Nat.le_of_ble_eq_true rfl) rfl rfl rfl rfl (fun H locs w => ?_)
  exact hQ _ _ _ _ (0, (-1)) (fun _ => 0) hf w dX0_begin_10
set_option maxHeartbeats 8000000 in
set_option maxRecDepth 100000 in
theorem ct_X0_note (l : Launch) (E : hm_E) (sz : Nat) (h0 : Nat) (r_t : Nat → Nat) (t_count t_done t_ended : Int32) (t_told : Nat → Int32) (a1 : Int32) (R : Int32 × (Nat → Int32)) (hf : pf_X0_note a1 t_done t_told = some R) : hm_Mv l E yX0_note cX0_note 2 [] (hm_rr 0 0 0 0) [.ref h0, .int a1] sz [oc0 h0 r_t t_count t_done t_ended, ic E (r_t 5) 40 t_told] (fun _ => [oc0 h0 r_t t_count (R.1) t_ended, ic E (r_t 5) 40 (R.2)]) := by
  refine hm_ct_v R (fun u _ => [oc0 h0 r_t t_count (u.1) t_ended, ic E (r_t 5) 40 (u.2)]) (by decide) (Nat.le_of_ble_eq_true rfl) ?_
  intro p e s m args below meth c A Q ls H locs hx hb hml hown X hA Y hex hin w hl hQ
  have hl : lv_has ls 2 [(0, .ref h0), (1, .int a1)] := hl
  unfold pf_X0_note at hf
  refine lv_aload_n hx hb dX0_note_0 rfl (lv_at hl 0 rfl) ?_
  refine hm_get cb_X0 hx hb hown X w 0 4 fl_X0_25 dX0_note_1 rfl (by decide) rfl ?_
  refine lv_bipush (v := 40) hx hb dX0_note_4 (by decide) ?_
  refine lv_icmp_ge (tgt := 29) hx hb dX0_note_6 (by decide) (fun c6 => ?_) (fun c6 => ?_)
  · have hf := pf_t c6 hf
    exact hQ _ _ _ _ (t_done, t_told) (fun _ => 0) hf w dX0_note_29
  · have hf := pf_e c6 hf
    refine lv_aload_n hx hb dX0_note_9 rfl (lv_at hl 0 rfl) ?_
    refine hm_get cb_X0 hx hb hown X w 0 5 fl_X0_28 dX0_note_10 rfl (by decide) rfl ?_
    refine lv_aload_n hx hb dX0_note_13 rfl (lv_at hl 0 rfl) ?_
    refine hm_get cb_X0 hx hb hown X w 0 4 fl_X0_25 dX0_note_14 rfl (by decide) rfl ?_
    refine lv_iload_n hx hb dX0_note_17 rfl (lv_at hl 1 rfl) ?_
    obtain ⟨g18, hf⟩ := pf_ckI hf
    refine hm_iast (ws' := [oc0 h0 r_t t_count t_done t_ended, ic E (r_t 5) 40 (upd t_told t_done.toNatClampNeg a1)]) hx hb X w 1 dX0_note_18 rfl g18 rfl (fun H locs w => ?_)
    refine lv_aload_n hx hb dX0_note_19 rfl (lv_at hl 0 rfl) ?_
    refine lv_dup hx hb dX0_note_20 rfl ?_
    refine hm_get cb_X0 hx hb hown X w 0 4 fl_X0_25 dX0_note_21 rfl (by decide) rfl ?_
    refine lv_iconst (v := 1) hx hb dX0_note_24 (by decide) ?_
    refine lv_iadd hx hb dX0_note_25 ?_
    refine lv_topi (fun x1 ex1 => ?_)
    have hf := pf_nm ex1 hf
    refine hm_put (ws' := [oc0 h0 r_t t_count x1 t_ended, ic E (r_t 5) 40 (upd t_told t_done.toNatClampNeg a1)]) cb_X0 hx hb hown X w 0 4 fl_X0_25 dX0_note_26 rfl (by decide) (Nat.le_of_ble_eq_true rfl) rfl rfl rfl rfl (fun H locs w => ?_)
    exact hQ _ _ _ _ (x1, (upd t_told t_done.toNatClampNeg a1)) (fun _ => 0) hf w dX0_note_29
set_option maxHeartbeats 8000000 in
set_option maxRecDepth 100000 in
theorem ct_X1_begin (l : Launch) (E : hm_E) (sz : Nat) (h0 : Nat) (r_t : Nat → Nat) (t_bits t_sum t_heldAtEnd t_left t_lates t_ones t_code : Int32) (a1 : Int32) (R : Int32 × Int32 × Int32 × Int32 × Int32) (hf : pf_X1_begin a1 = some R) : hm_Mv l E yX1_begin cX1_begin 2 [] (hm_rr 0 0 0 0) [.ref h0, .int a1] sz [oc1 h0 r_t t_bits t_sum t_heldAtEnd t_left t_lates t_ones t_code] (fun _ => [oc1 h0 r_t (R.1) (R.2.1) (R.2.2.1) t_left (R.2.2.2.1) (R.2.2.2.2) t_code]) := by
  refine hm_ct_v R (fun u _ => [oc1 h0 r_t (u.1) (u.2.1) (u.2.2.1) t_left (u.2.2.2.1) (u.2.2.2.2) t_code]) (by decide) (Nat.le_of_ble_eq_true rfl) ?_
  intro p e s m args below meth c A Q ls H locs hx hb hml hown X hA Y hex hin w hl hQ
  have hl : lv_has ls 2 [(0, .ref h0), (1, .int a1)] := hl
  unfold pf_X1_begin at hf
  refine lv_aload_n hx hb dX1_begin_0 rfl (lv_at hl 0 rfl) ?_
  refine lv_iload_n hx hb dX1_begin_1 rfl (lv_at hl 1 rfl) ?_
  refine hm_put (ws' := [oc1 h0 r_t a1 t_sum t_heldAtEnd t_left t_lates t_ones t_code]) cb_X1 hx hb hown X w 0 0 fl_X1_9 dX1_begin_2 rfl (by decide) (Nat.le_of_ble_eq_true rfl) rfl rfl rfl rfl (fun H locs w => ?_)
  refine lv_aload_n hx hb dX1_begin_5 rfl (lv_at hl 0 rfl) ?_
  refine lv_iconst (v := 0) hx hb dX1_begin_6 (by decide) ?_
  refine hm_put (ws' := [oc1 h0 r_t a1 0 t_heldAtEnd t_left t_lates t_ones t_code]) cb_X1 hx hb hown X w 0 5 fl_X1_28 dX1_begin_7 rfl (by decide) (Nat.le_of_ble_eq_true rfl) rfl rfl rfl rfl (fun H locs w => ?_)
  refine lv_aload_n hx hb dX1_begin_10 rfl (lv_at hl 0 rfl) ?_
  refine lv_iconst (v := 0) hx hb dX1_begin_11 (by decide) ?_
  refine hm_put (ws' := [oc1 h0 r_t a1 0 0 t_left t_lates t_ones t_code]) cb_X1 hx hb hown X w 0 6 fl_X1_31 dX1_begin_12 rfl (by decide) (Nat.le_of_ble_eq_true rfl) rfl rfl rfl rfl (fun H locs w => ?_)
  refine lv_aload_n hx hb dX1_begin_15 rfl (lv_at hl 0 rfl) ?_
  refine lv_iconst (v := 0) hx hb dX1_begin_16 (by decide) ?_
  refine hm_put (ws' := [oc1 h0 r_t a1 0 0 t_left 0 t_ones t_code]) cb_X1 hx hb hown X w 0 8 fl_X1_37 dX1_begin_17 rfl (by decide) (Nat.le_of_ble_eq_true rfl) rfl rfl rfl rfl (fun H locs w => ?_)
  refine lv_aload_n hx hb dX1_begin_20 rfl (lv_at hl 0 rfl) ?_
  refine lv_iconst (v := 0) hx hb dX1_begin_21 (by decide) ?_
  refine hm_put (ws' := [oc1 h0 r_t a1 0 0 t_left 0 0 t_code]) cb_X1 hx hb hown X w 0 9 fl_X1_40 dX1_begin_22 rfl (by decide) (Nat.le_of_ble_eq_true rfl) rfl rfl rfl rfl (fun H locs w => ?_)
  exact hQ _ _ _ _ (a1, 0, 0, 0, 0) (fun _ => 0) hf w dX1_begin_25
set_option maxHeartbeats 8000000 in
set_option maxRecDepth 100000 in
theorem ct_X1_sign (l : Launch) (E : hm_E) (sz : Nat) (h0 : Nat) (r_t : Nat → Nat) (t_bits t_sum t_heldAtEnd t_left t_lates t_ones t_code : Int32) (t_late : Nat → Int32) (t_one : Nat → Int32) (a1 : Int32) (R : Int32 × Unit) (hf : pf_X1_sign a1 t_one t_late = some R) : hm_Mi l E yX1_sign cX1_sign 2 .int [] (hm_rr 0 0 0 0) [.ref h0, .int a1] sz [oc1 h0 r_t t_bits t_sum t_heldAtEnd t_left t_lates t_ones t_code, ic E (r_t 2) 12 t_late, ic E (r_t 1) 12 t_one] R.1 (fun _ => [oc1 h0 r_t t_bits t_sum t_heldAtEnd t_left t_lates t_ones t_code, ic E (r_t 2) 12 t_late, ic E (r_t 1) 12 t_one]) := by
  refine hm_ct_i R (fun u qs => [oc1 h0 r_t t_bits t_sum t_heldAtEnd t_left t_lates t_ones t_code, ic E (r_t 2) 12 t_late, ic E (r_t 1) 12 t_one]) (by decide) (Nat.le_of_ble_eq_true rfl) (Or.inl rfl) ?_
  intro p e s m args below meth c A Q ls H locs hx hb hml hown X hA Y hex w hl hQ
  have hl : lv_has ls 2 [(0, .ref h0), (1, .int a1)] := hl
  unfold pf_X1_sign at hf
  refine lv_aload_n hx hb dX1_sign_0 rfl (lv_at hl 0 rfl) ?_
  refine hm_get cb_X1 hx hb hown X w 0 2 fl_X1_19 dX1_sign_1 rfl (by decide) rfl ?_
  refine lv_iload_n hx hb dX1_sign_4 rfl (lv_at hl 1 rfl) ?_
  obtain ⟨g5, hf⟩ := pf_ckI hf
  refine hm_iald hx hb X w 1 dX1_sign_5 rfl g5 ?_
  refine lv_iconst (v := 1) hx hb dX1_sign_6 (by decide) ?_
  refine lv_icmp_ne (tgt := 28) hx hb dX1_sign_7 (by decide) (fun c7 => ?_) (fun c7 => ?_)
  · have hf := pf_e c7 hf
    refine lv_aload_n hx hb dX1_sign_28 rfl (lv_at hl 0 rfl) ?_
    refine hm_get cb_X1 hx hb hown X w 0 1 fl_X1_15 dX1_sign_29 rfl (by decide) rfl ?_
    refine lv_iload_n hx hb dX1_sign_32 rfl (lv_at hl 1 rfl) ?_
    obtain ⟨g33, hf⟩ := pf_ckI hf
    refine hm_iald hx hb X w 2 dX1_sign_33 rfl g33 ?_
    refine lv_iconst (v := 1) hx hb dX1_sign_34 (by decide) ?_
    refine lv_icmp_ne (tgt := 43) hx hb dX1_sign_35 (by decide) (fun c35 => ?_) (fun c35 => ?_)
    · have hf := pf_e c35 hf
      refine lv_bipush (v := 48) hx hb dX1_sign_43 (by decide) ?_
      exact hQ _ _ _ _ _ () (fun _ => 0) hf rfl w dX1_sign_45
    · have hf := pf_t c35 hf
      refine lv_bipush (v := 49) hx hb dX1_sign_38 (by decide) ?_
      refine lv_goto (tgt := 45) hx hb dX1_sign_40 (by decide) ?_
      exact hQ _ _ _ _ _ () (fun _ => 0) hf rfl w dX1_sign_45
  · have hf := pf_t c7 hf
    refine lv_aload_n hx hb dX1_sign_10 rfl (lv_at hl 0 rfl) ?_
    refine hm_get cb_X1 hx hb hown X w 0 1 fl_X1_15 dX1_sign_11 rfl (by decide) rfl ?_
    refine lv_iload_n hx hb dX1_sign_14 rfl (lv_at hl 1 rfl) ?_
    obtain ⟨g15, hf⟩ := pf_ckI hf
    refine hm_iald hx hb X w 2 dX1_sign_15 rfl g15 ?_
    refine lv_iconst (v := 1) hx hb dX1_sign_16 (by decide) ?_
    refine lv_icmp_ne (tgt := 25) hx hb dX1_sign_17 (by decide) (fun c17 => ?_) (fun c17 => ?_)
    · have hf := pf_e c17 hf
      refine lv_bipush (v := 45) hx hb dX1_sign_25 (by decide) ?_
      exact hQ _ _ _ _ _ () (fun _ => 0) hf rfl w dX1_sign_27
    · have hf := pf_t c17 hf
      refine lv_bipush (v := 43) hx hb dX1_sign_20 (by decide) ?_
      refine lv_goto (tgt := 27) hx hb dX1_sign_22 (by decide) ?_
      exact hQ _ _ _ _ _ () (fun _ => 0) hf rfl w dX1_sign_27
set_option maxHeartbeats 8000000 in
set_option maxRecDepth 100000 in
theorem ct_X2_clear (l : Launch) (E : hm_E) (sz : Nat) (h0 : Nat) (r_t : Nat → Nat) (d_t : Nat) (t_bits t_offset t_band t_rule t_noise t_step t_draws t_heat t_hour t_seenCount : Int32) (R : Int32 × Int32 × Int32 × Int32 × Int32 × Int32) (hf : pf_X2_clear = some R) : hm_Mv l E yX2_clear cX2_clear 1 [] (hm_rr 0 0 0 0) [.ref h0] sz [oc2 h0 r_t d_t t_bits t_offset t_band t_rule t_noise t_step t_draws t_heat t_hour t_seenCount] (fun _ => [oc2 h0 r_t d_t (R.1) (R.2.1) (R.2.2.1) (R.2.2.2.1) (R.2.2.2.2.1) (R.2.2.2.2.2) t_draws t_heat t_hour t_seenCount]) := by
  refine hm_ct_v R (fun u _ => [oc2 h0 r_t d_t (u.1) (u.2.1) (u.2.2.1) (u.2.2.2.1) (u.2.2.2.2.1) (u.2.2.2.2.2) t_draws t_heat t_hour t_seenCount]) (by decide) (Nat.le_of_ble_eq_true rfl) ?_
  intro p e s m args below meth c A Q ls H locs hx hb hml hown X hA Y hex hin w hl hQ
  have hl : lv_has ls 1 [(0, .ref h0)] := hl
  unfold pf_X2_clear at hf
  refine lv_aload_n hx hb dX2_clear_0 rfl (lv_at hl 0 rfl) ?_
  refine lv_iconst (v := 0) hx hb dX2_clear_1 (by decide) ?_
  refine hm_put (ws' := [oc2 h0 r_t d_t 0 t_offset t_band t_rule t_noise t_step t_draws t_heat t_hour t_seenCount]) cb_X2 hx hb hown X w 0 0 fl_X2_9 dX2_clear_2 rfl (by decide) (Nat.le_of_ble_eq_true rfl) rfl rfl rfl rfl (fun H locs w => ?_)
  refine lv_aload_n hx hb dX2_clear_5 rfl (lv_at hl 0 rfl) ?_
  refine lv_iconst (v := 0) hx hb dX2_clear_6 (by decide) ?_
  refine hm_put (ws' := [oc2 h0 r_t d_t 0 0 t_band t_rule t_noise t_step t_draws t_heat t_hour t_seenCount]) cb_X2 hx hb hown X w 0 5 fl_X2_28 dX2_clear_7 rfl (by decide) (Nat.le_of_ble_eq_true rfl) rfl rfl rfl rfl (fun H locs w => ?_)
  refine lv_aload_n hx hb dX2_clear_10 rfl (lv_at hl 0 rfl) ?_
  refine lv_iconst (v := 0) hx hb dX2_clear_11 (by decide) ?_
  refine hm_put (ws' := [oc2 h0 r_t d_t 0 0 0 t_rule t_noise t_step t_draws t_heat t_hour t_seenCount]) cb_X2 hx hb hown X w 0 6 fl_X2_31 dX2_clear_12 rfl (by decide) (Nat.le_of_ble_eq_true rfl) rfl rfl rfl rfl (fun H locs w => ?_)
  refine lv_aload_n hx hb dX2_clear_15 rfl (lv_at hl 0 rfl) ?_
  refine lv_iconst (v := 3) hx hb dX2_clear_16 (by decide) ?_
  refine hm_put (ws' := [oc2 h0 r_t d_t 0 0 0 3 t_noise t_step t_draws t_heat t_hour t_seenCount]) cb_X2 hx hb hown X w 0 7 fl_X2_34 dX2_clear_17 rfl (by decide) (Nat.le_of_ble_eq_true rfl) rfl rfl rfl rfl (fun H locs w => ?_)
  refine lv_aload_n hx hb dX2_clear_20 rfl (lv_at hl 0 rfl) ?_
  refine lv_iconst (v := 0) hx hb dX2_clear_21 (by decide) ?_
  refine hm_put (ws' := [oc2 h0 r_t d_t 0 0 0 3 0 t_step t_draws t_heat t_hour t_seenCount]) cb_X2 hx hb hown X w 0 8 fl_X2_37 dX2_clear_22 rfl (by decide) (Nat.le_of_ble_eq_true rfl) rfl rfl rfl rfl (fun H locs w => ?_)
  refine lv_aload_n hx hb dX2_clear_25 rfl (lv_at hl 0 rfl) ?_
  refine lv_iconst (v := 1) hx hb dX2_clear_26 (by decide) ?_
  refine hm_put (ws' := [oc2 h0 r_t d_t 0 0 0 3 0 1 t_draws t_heat t_hour t_seenCount]) cb_X2 hx hb hown X w 0 9 fl_X2_40 dX2_clear_27 rfl (by decide) (Nat.le_of_ble_eq_true rfl) rfl rfl rfl rfl (fun H locs w => ?_)
  exact hQ _ _ _ _ (0, 0, 0, 3, 0, 1) (fun _ => 0) hf w dX2_clear_30
set_option maxHeartbeats 8000000 in
set_option maxRecDepth 100000 in
theorem ct_X2_addBit (l : Launch) (E : hm_E) (sz : Nat) (h0 : Nat) (r_t : Nat → Nat) (d_t : Nat) (t_bits t_offset t_band t_rule t_noise t_step t_draws t_heat t_hour t_seenCount : Int32) (t_off : Nat → Int32) (t_size : Nat → Int32) (t_stuck : Nat → Int32) (t_worth : Nat → Int32) (a1 : Int32) (a2 : Int32) (R : Int32 × (Nat → Int32) × (Nat → Int32) × (Nat → Int32) × (Nat → Int32)) (hf : pf_X2_addBit a1 a2 t_bits t_size t_off t_worth t_stuck = some R) : hm_Mv l E yX2_addBit cX2_addBit 3 [] (hm_rr 0 0 0 0) [.ref h0, .int a1, .int a2] sz [oc2 h0 r_t d_t t_bits t_offset t_band t_rule t_noise t_step t_draws t_heat t_hour t_seenCount, ic E (r_t 2) 12 t_off, ic E (r_t 1) 12 t_size, ic E (r_t 4) 12 t_stuck, ic E (r_t 3) 12 t_worth] (fun _ => [oc2 h0 r_t d_t (R.1) t_offset t_band t_rule t_noise t_step t_draws t_heat t_hour t_seenCount, ic E (r_t 2) 12 (R.2.2.1), ic E (r_t 1) 12 (R.2.1), ic E (r_t 4) 12 (R.2.2.2.2), ic E (r_t 3) 12 (R.2.2.2.1)]) := by
  refine hm_ct_v R (fun u _ => [oc2 h0 r_t d_t (u.1) t_offset t_band t_rule t_noise t_step t_draws t_heat t_hour t_seenCount, ic E (r_t 2) 12 (u.2.2.1), ic E (r_t 1) 12 (u.2.1), ic E (r_t 4) 12 (u.2.2.2.2), ic E (r_t 3) 12 (u.2.2.2.1)]) (by decide) (Nat.le_of_ble_eq_true rfl) ?_
  intro p e s m args below meth c A Q ls H locs hx hb hml hown X hA Y hex hin w hl hQ
  have hl : lv_has ls 3 [(0, .ref h0), (1, .int a1), (2, .int a2)] := hl
  unfold pf_X2_addBit at hf
  refine lv_aload_n hx hb dX2_addBit_0 rfl (lv_at hl 0 rfl) ?_
  refine hm_get cb_X2 hx hb hown X w 0 0 fl_X2_9 dX2_addBit_1 rfl (by decide) rfl ?_
  refine lv_bipush (v := 12) hx hb dX2_addBit_4 (by decide) ?_
  refine lv_icmp_ge (tgt := 59) hx hb dX2_addBit_6 (by decide) (fun c6 => ?_) (fun c6 => ?_)
  · have hf := pf_t c6 hf
    exact hQ _ _ _ _ (t_bits, t_size, t_off, t_worth, t_stuck) (fun _ => 0) hf w dX2_addBit_59
  · have hf := pf_e c6 hf
    refine lv_aload_n hx hb dX2_addBit_9 rfl (lv_at hl 0 rfl) ?_
    refine hm_get cb_X2 hx hb hown X w 0 1 fl_X2_15 dX2_addBit_10 rfl (by decide) rfl ?_
    refine lv_aload_n hx hb dX2_addBit_13 rfl (lv_at hl 0 rfl) ?_
    refine hm_get cb_X2 hx hb hown X w 0 0 fl_X2_9 dX2_addBit_14 rfl (by decide) rfl ?_
    refine lv_iload_n hx hb dX2_addBit_17 rfl (lv_at hl 1 rfl) ?_
    obtain ⟨g18, hf⟩ := pf_ckI hf
    refine hm_iast (ws' := [oc2 h0 r_t d_t t_bits t_offset t_band t_rule t_noise t_step t_draws t_heat t_hour t_seenCount, ic E (r_t 2) 12 t_off, ic E (r_t 1) 12 (upd t_size t_bits.toNatClampNeg a1), ic E (r_t 4) 12 t_stuck, ic E (r_t 3) 12 t_worth]) hx hb X w 2 dX2_addBit_18 rfl g18 rfl (fun H locs w => ?_)
    refine lv_aload_n hx hb dX2_addBit_19 rfl (lv_at hl 0 rfl) ?_
    refine hm_get cb_X2 hx hb hown X w 0 2 fl_X2_19 dX2_addBit_20 rfl (by decide) rfl ?_
    refine lv_aload_n hx hb dX2_addBit_23 rfl (lv_at hl 0 rfl) ?_
    refine hm_get cb_X2 hx hb hown X w 0 0 fl_X2_9 dX2_addBit_24 rfl (by decide) rfl ?_
    refine lv_iload_n hx hb dX2_addBit_27 rfl (lv_at hl 2 rfl) ?_
    obtain ⟨g28, hf⟩ := pf_ckI hf
    refine hm_iast (ws' := [oc2 h0 r_t d_t t_bits t_offset t_band t_rule t_noise t_step t_draws t_heat t_hour t_seenCount, ic E (r_t 2) 12 (upd t_off t_bits.toNatClampNeg a2), ic E (r_t 1) 12 (upd t_size t_bits.toNatClampNeg a1), ic E (r_t 4) 12 t_stuck, ic E (r_t 3) 12 t_worth]) hx hb X w 1 dX2_addBit_28 rfl g28 rfl (fun H locs w => ?_)
    refine lv_aload_n hx hb dX2_addBit_29 rfl (lv_at hl 0 rfl) ?_
    refine hm_get cb_X2 hx hb hown X w 0 3 fl_X2_22 dX2_addBit_30 rfl (by decide) rfl ?_
    refine lv_aload_n hx hb dX2_addBit_33 rfl (lv_at hl 0 rfl) ?_
    refine hm_get cb_X2 hx hb hown X w 0 0 fl_X2_9 dX2_addBit_34 rfl (by decide) rfl ?_
    refine lv_iload_n hx hb dX2_addBit_37 rfl (lv_at hl 1 rfl) ?_
    obtain ⟨g38, hf⟩ := pf_ckI hf
    refine hm_iast (ws' := [oc2 h0 r_t d_t t_bits t_offset t_band t_rule t_noise t_step t_draws t_heat t_hour t_seenCount, ic E (r_t 2) 12 (upd t_off t_bits.toNatClampNeg a2), ic E (r_t 1) 12 (upd t_size t_bits.toNatClampNeg a1), ic E (r_t 4) 12 t_stuck, ic E (r_t 3) 12 (upd t_worth t_bits.toNatClampNeg a1)]) hx hb X w 4 dX2_addBit_38 rfl g38 rfl (fun H locs w => ?_)
    refine lv_aload_n hx hb dX2_addBit_39 rfl (lv_at hl 0 rfl) ?_
    refine hm_get cb_X2 hx hb hown X w 0 4 fl_X2_25 dX2_addBit_40 rfl (by decide) rfl ?_
    refine lv_aload_n hx hb dX2_addBit_43 rfl (lv_at hl 0 rfl) ?_
    refine hm_get cb_X2 hx hb hown X w 0 0 fl_X2_9 dX2_addBit_44 rfl (by decide) rfl ?_
    refine lv_iconst (v := (-1)) hx hb dX2_addBit_47 (by decide) ?_
    obtain ⟨g48, hf⟩ := pf_ckI hf
    refine hm_iast (ws' := [oc2 h0 r_t d_t t_bits t_offset t_band t_rule t_noise t_step t_draws t_heat t_hour t_seenCount, ic E (r_t 2) 12 (upd t_off t_bits.toNatClampNeg a2), ic E (r_t 1) 12 (upd t_size t_bits.toNatClampNeg a1), ic E (r_t 4) 12 (upd t_stuck t_bits.toNatClampNeg (-1)), ic E (r_t 3) 12 (upd t_worth t_bits.toNatClampNeg a1)]) hx hb X w 3 dX2_addBit_48 rfl g48 rfl (fun H locs w => ?_)
    refine lv_aload_n hx hb dX2_addBit_49 rfl (lv_at hl 0 rfl) ?_
    refine lv_dup hx hb dX2_addBit_50 rfl ?_
    refine hm_get cb_X2 hx hb hown X w 0 0 fl_X2_9 dX2_addBit_51 rfl (by decide) rfl ?_
    refine lv_iconst (v := 1) hx hb dX2_addBit_54 (by decide) ?_
    refine lv_iadd hx hb dX2_addBit_55 ?_
    refine lv_topi (fun x1 ex1 => ?_)
    have hf := pf_nm ex1 hf
    refine hm_put (ws' := [oc2 h0 r_t d_t x1 t_offset t_band t_rule t_noise t_step t_draws t_heat t_hour t_seenCount, ic E (r_t 2) 12 (upd t_off t_bits.toNatClampNeg a2), ic E (r_t 1) 12 (upd t_size t_bits.toNatClampNeg a1), ic E (r_t 4) 12 (upd t_stuck t_bits.toNatClampNeg (-1)), ic E (r_t 3) 12 (upd t_worth t_bits.toNatClampNeg a1)]) cb_X2 hx hb hown X w 0 0 fl_X2_9 dX2_addBit_56 rfl (by decide) (Nat.le_of_ble_eq_true rfl) rfl rfl rfl rfl (fun H locs w => ?_)
    exact hQ _ _ _ _ (x1, (upd t_size t_bits.toNatClampNeg a1), (upd t_off t_bits.toNatClampNeg a2), (upd t_worth t_bits.toNatClampNeg a1), (upd t_stuck t_bits.toNatClampNeg (-1))) (fun _ => 0) hf w dX2_addBit_59
set_option maxHeartbeats 8000000 in
set_option maxRecDepth 100000 in
theorem ct_X2_takeForm (l : Launch) (E : hm_E) (sz : Nat) (h0 : Nat) (h1 : Nat) (r_t : Nat → Nat) (d_t : Nat) (r_p1 : Nat → Nat) (d_p1 : Nat) (t_bits t_offset t_band t_rule t_noise t_step t_draws t_heat t_hour t_seenCount p1_bits p1_offset p1_band p1_rule p1_noise p1_step p1_draws p1_heat p1_hour p1_seenCount : Int32) (t_off : Nat → Int32) (t_size : Nat → Int32) (t_stuck : Nat → Int32) (t_worth : Nat → Int32) (p1_off : Nat → Int32) (p1_size : Nat → Int32) (p1_stuck : Nat → Int32) (p1_worth : Nat → Int32) (R : Int32 × (Nat → Int32) × (Nat → Int32) × (Nat → Int32) × (Nat → Int32) × Int32 × Int32 × Int32 × Int32 × Int32) (hf : pf_X2_takeForm t_size t_off t_worth t_stuck p1_bits p1_size p1_off p1_worth p1_stuck p1_offset p1_band p1_rule p1_noise p1_step = some R) : hm_Mv l E yX2_takeForm cX2_takeForm 2 [] (hm_rr 1 48 0 0) [.ref h0, .ref h1] sz [oc2 h0 r_t d_t t_bits t_offset t_band t_rule t_noise t_step t_draws t_heat t_hour t_seenCount, oc2 h1 r_p1 d_p1 p1_bits p1_offset p1_band p1_rule p1_noise p1_step p1_draws p1_heat p1_hour p1_seenCount, ic E (r_t 2) 12 t_off, ic E (r_t 1) 12 t_size, ic E (r_t 4) 12 t_stuck, ic E (r_t 3) 12 t_worth, ic E (r_p1 2) 12 p1_off, ic E (r_p1 1) 12 p1_size, ic E (r_p1 4) 12 p1_stuck, ic E (r_p1 3) 12 p1_worth] (fun _ => [oc2 h0 r_t d_t (R.1) (R.2.2.2.2.2.1) (R.2.2.2.2.2.2.1) (R.2.2.2.2.2.2.2.1) (R.2.2.2.2.2.2.2.2.1) (R.2.2.2.2.2.2.2.2.2) t_draws t_heat t_hour t_seenCount, oc2 h1 r_p1 d_p1 p1_bits p1_offset p1_band p1_rule p1_noise p1_step p1_draws p1_heat p1_hour p1_seenCount, ic E (r_t 2) 12 (R.2.2.1), ic E (r_t 1) 12 (R.2.1), ic E (r_t 4) 12 (R.2.2.2.2.1), ic E (r_t 3) 12 (R.2.2.2.1), ic E (r_p1 2) 12 p1_off, ic E (r_p1 1) 12 p1_size, ic E (r_p1 4) 12 p1_stuck, ic E (r_p1 3) 12 p1_worth]) := by
  refine hm_ct_v R (fun u _ => [oc2 h0 r_t d_t (u.1) (u.2.2.2.2.2.1) (u.2.2.2.2.2.2.1) (u.2.2.2.2.2.2.2.1) (u.2.2.2.2.2.2.2.2.1) (u.2.2.2.2.2.2.2.2.2) t_draws t_heat t_hour t_seenCount, oc2 h1 r_p1 d_p1 p1_bits p1_offset p1_band p1_rule p1_noise p1_step p1_draws p1_heat p1_hour p1_seenCount, ic E (r_t 2) 12 (u.2.2.1), ic E (r_t 1) 12 (u.2.1), ic E (r_t 4) 12 (u.2.2.2.2.1), ic E (r_t 3) 12 (u.2.2.2.1), ic E (r_p1 2) 12 p1_off, ic E (r_p1 1) 12 p1_size, ic E (r_p1 4) 12 p1_stuck, ic E (r_p1 3) 12 p1_worth]) (by decide) (Nat.le_of_ble_eq_true rfl) ?_
  intro p e s m args below meth c A Q ls H locs hx hb hml hown X hA Y hex hin w hl hQ
  have hl : lv_has ls 2 [(0, .ref h0), (1, .ref h1)] := hl
  unfold pf_X2_takeForm at hf
  refine lv_aload_n hx hb dX2_takeForm_0 rfl (lv_at hl 0 rfl) ?_
  refine lv_aload_n hx hb dX2_takeForm_1 rfl (lv_at hl 1 rfl) ?_
  refine hm_get cb_X2 hx hb hown X w 1 0 fl_X2_9 dX2_takeForm_2 rfl (by decide) rfl ?_
  refine hm_put (ws' := [oc2 h0 r_t d_t p1_bits t_offset t_band t_rule t_noise t_step t_draws t_heat t_hour t_seenCount, oc2 h1 r_p1 d_p1 p1_bits p1_offset p1_band p1_rule p1_noise p1_step p1_draws p1_heat p1_hour p1_seenCount, ic E (r_t 2) 12 t_off, ic E (r_t 1) 12 t_size, ic E (r_t 4) 12 t_stuck, ic E (r_t 3) 12 t_worth, ic E (r_p1 2) 12 p1_off, ic E (r_p1 1) 12 p1_size, ic E (r_p1 4) 12 p1_stuck, ic E (r_p1 3) 12 p1_worth]) cb_X2 hx hb hown X w 0 0 fl_X2_9 dX2_takeForm_5 rfl (by decide) (Nat.le_of_ble_eq_true rfl) rfl rfl rfl rfl (fun H locs w => ?_)
  refine lv_aload_n hx hb dX2_takeForm_8 rfl (lv_at hl 1 rfl) ?_
  refine hm_get cb_X2 hx hb hown X w 1 1 fl_X2_15 dX2_takeForm_9 rfl (by decide) rfl ?_
  refine lv_iconst (v := 0) hx hb dX2_takeForm_12 (by decide) ?_
  refine lv_aload_n hx hb dX2_takeForm_13 rfl (lv_at hl 0 rfl) ?_
  refine hm_get cb_X2 hx hb hown X w 0 1 fl_X2_15 dX2_takeForm_14 rfl (by decide) rfl ?_
  refine lv_iconst (v := 0) hx hb dX2_takeForm_17 (by decide) ?_
  refine lv_bipush (v := 12) hx hb dX2_takeForm_18 (by decide) ?_
  refine hm_copy (ws' := [oc2 h0 r_t d_t p1_bits t_offset t_band t_rule t_noise t_step t_draws t_heat t_hour t_seenCount, oc2 h1 r_p1 d_p1 p1_bits p1_offset p1_band p1_rule p1_noise p1_step p1_draws p1_heat p1_hour p1_seenCount, ic E (r_t 2) 12 t_off, ic E (r_t 1) 12 (va_cpy p1_size t_size 0 0 12), ic E (r_t 4) 12 t_stuck, ic E (r_t 3) 12 t_worth, ic E (r_p1 2) 12 p1_off, ic E (r_p1 1) 12 p1_size, ic E (r_p1 4) 12 p1_stuck, ic E (r_p1 3) 12 p1_worth]) hx hb (hml.trans hl.1.symm) hown X w 7 3 ml_X2_68 ac_n ac_s ac_i dX2_takeForm_20 rfl rfl (by decide) (by decide) (by decide) (by decide) (by decide) (Nat.le_of_ble_eq_true rfl) (by decide) rfl (fun H locs w => ?_)
  refine lv_aload_n hx hb dX2_takeForm_23 rfl (lv_at hl 1 rfl) ?_
  refine hm_get cb_X2 hx hb hown X w 1 2 fl_X2_19 dX2_takeForm_24 rfl (by decide) rfl ?_
  refine lv_iconst (v := 0) hx hb dX2_takeForm_27 (by decide) ?_
  refine lv_aload_n hx hb dX2_takeForm_28 rfl (lv_at hl 0 rfl) ?_
  refine hm_get cb_X2 hx hb hown X w 0 2 fl_X2_19 dX2_takeForm_29 rfl (by decide) rfl ?_
  refine lv_iconst (v := 0) hx hb dX2_takeForm_32 (by decide) ?_
  refine lv_bipush (v := 12) hx hb dX2_takeForm_33 (by decide) ?_
  refine hm_copy (ws' := [oc2 h0 r_t d_t p1_bits t_offset t_band t_rule t_noise t_step t_draws t_heat t_hour t_seenCount, oc2 h1 r_p1 d_p1 p1_bits p1_offset p1_band p1_rule p1_noise p1_step p1_draws p1_heat p1_hour p1_seenCount, ic E (r_t 2) 12 (va_cpy p1_off t_off 0 0 12), ic E (r_t 1) 12 (va_cpy p1_size t_size 0 0 12), ic E (r_t 4) 12 t_stuck, ic E (r_t 3) 12 t_worth, ic E (r_p1 2) 12 p1_off, ic E (r_p1 1) 12 p1_size, ic E (r_p1 4) 12 p1_stuck, ic E (r_p1 3) 12 p1_worth]) hx hb (hml.trans hl.1.symm) hown X w 6 2 ml_X2_68 ac_n ac_s ac_i dX2_takeForm_35 rfl rfl (by decide) (by decide) (by decide) (by decide) (by decide) (Nat.le_of_ble_eq_true rfl) (by decide) rfl (fun H locs w => ?_)
  refine lv_aload_n hx hb dX2_takeForm_38 rfl (lv_at hl 1 rfl) ?_
  refine hm_get cb_X2 hx hb hown X w 1 3 fl_X2_22 dX2_takeForm_39 rfl (by decide) rfl ?_
  refine lv_iconst (v := 0) hx hb dX2_takeForm_42 (by decide) ?_
  refine lv_aload_n hx hb dX2_takeForm_43 rfl (lv_at hl 0 rfl) ?_
  refine hm_get cb_X2 hx hb hown X w 0 3 fl_X2_22 dX2_takeForm_44 rfl (by decide) rfl ?_
  refine lv_iconst (v := 0) hx hb dX2_takeForm_47 (by decide) ?_
  refine lv_bipush (v := 12) hx hb dX2_takeForm_48 (by decide) ?_
  refine hm_copy (ws' := [oc2 h0 r_t d_t p1_bits t_offset t_band t_rule t_noise t_step t_draws t_heat t_hour t_seenCount, oc2 h1 r_p1 d_p1 p1_bits p1_offset p1_band p1_rule p1_noise p1_step p1_draws p1_heat p1_hour p1_seenCount, ic E (r_t 2) 12 (va_cpy p1_off t_off 0 0 12), ic E (r_t 1) 12 (va_cpy p1_size t_size 0 0 12), ic E (r_t 4) 12 t_stuck, ic E (r_t 3) 12 (va_cpy p1_worth t_worth 0 0 12), ic E (r_p1 2) 12 p1_off, ic E (r_p1 1) 12 p1_size, ic E (r_p1 4) 12 p1_stuck, ic E (r_p1 3) 12 p1_worth]) hx hb (hml.trans hl.1.symm) hown X w 9 5 ml_X2_68 ac_n ac_s ac_i dX2_takeForm_50 rfl rfl (by decide) (by decide) (by decide) (by decide) (by decide) (Nat.le_of_ble_eq_true rfl) (by decide) rfl (fun H locs w => ?_)
  refine lv_aload_n hx hb dX2_takeForm_53 rfl (lv_at hl 1 rfl) ?_
  refine hm_get cb_X2 hx hb hown X w 1 4 fl_X2_25 dX2_takeForm_54 rfl (by decide) rfl ?_
  refine lv_iconst (v := 0) hx hb dX2_takeForm_57 (by decide) ?_
  refine lv_aload_n hx hb dX2_takeForm_58 rfl (lv_at hl 0 rfl) ?_
  refine hm_get cb_X2 hx hb hown X w 0 4 fl_X2_25 dX2_takeForm_59 rfl (by decide) rfl ?_
  refine lv_iconst (v := 0) hx hb dX2_takeForm_62 (by decide) ?_
  refine lv_bipush (v := 12) hx hb dX2_takeForm_63 (by decide) ?_
  refine hm_copy (ws' := [oc2 h0 r_t d_t p1_bits t_offset t_band t_rule t_noise t_step t_draws t_heat t_hour t_seenCount, oc2 h1 r_p1 d_p1 p1_bits p1_offset p1_band p1_rule p1_noise p1_step p1_draws p1_heat p1_hour p1_seenCount, ic E (r_t 2) 12 (va_cpy p1_off t_off 0 0 12), ic E (r_t 1) 12 (va_cpy p1_size t_size 0 0 12), ic E (r_t 4) 12 (va_cpy p1_stuck t_stuck 0 0 12), ic E (r_t 3) 12 (va_cpy p1_worth t_worth 0 0 12), ic E (r_p1 2) 12 p1_off, ic E (r_p1 1) 12 p1_size, ic E (r_p1 4) 12 p1_stuck, ic E (r_p1 3) 12 p1_worth]) hx hb (hml.trans hl.1.symm) hown X w 8 4 ml_X2_68 ac_n ac_s ac_i dX2_takeForm_65 rfl rfl (by decide) (by decide) (by decide) (by decide) (by decide) (Nat.le_of_ble_eq_true rfl) (by decide) rfl (fun H locs w => ?_)
  refine lv_aload_n hx hb dX2_takeForm_68 rfl (lv_at hl 0 rfl) ?_
  refine lv_aload_n hx hb dX2_takeForm_69 rfl (lv_at hl 1 rfl) ?_
  refine hm_get cb_X2 hx hb hown X w 1 5 fl_X2_28 dX2_takeForm_70 rfl (by decide) rfl ?_
  refine hm_put (ws' := [oc2 h0 r_t d_t p1_bits p1_offset t_band t_rule t_noise t_step t_draws t_heat t_hour t_seenCount, oc2 h1 r_p1 d_p1 p1_bits p1_offset p1_band p1_rule p1_noise p1_step p1_draws p1_heat p1_hour p1_seenCount, ic E (r_t 2) 12 (va_cpy p1_off t_off 0 0 12), ic E (r_t 1) 12 (va_cpy p1_size t_size 0 0 12), ic E (r_t 4) 12 (va_cpy p1_stuck t_stuck 0 0 12), ic E (r_t 3) 12 (va_cpy p1_worth t_worth 0 0 12), ic E (r_p1 2) 12 p1_off, ic E (r_p1 1) 12 p1_size, ic E (r_p1 4) 12 p1_stuck, ic E (r_p1 3) 12 p1_worth]) cb_X2 hx hb hown X w 0 5 fl_X2_28 dX2_takeForm_73 rfl (by decide) (Nat.le_of_ble_eq_true rfl) rfl rfl rfl rfl (fun H locs w => ?_)
  refine lv_aload_n hx hb dX2_takeForm_76 rfl (lv_at hl 0 rfl) ?_
  refine lv_aload_n hx hb dX2_takeForm_77 rfl (lv_at hl 1 rfl) ?_
  refine hm_get cb_X2 hx hb hown X w 1 6 fl_X2_31 dX2_takeForm_78 rfl (by decide) rfl ?_
  refine hm_put (ws' := [oc2 h0 r_t d_t p1_bits p1_offset p1_band t_rule t_noise t_step t_draws t_heat t_hour t_seenCount, oc2 h1 r_p1 d_p1 p1_bits p1_offset p1_band p1_rule p1_noise p1_step p1_draws p1_heat p1_hour p1_seenCount, ic E (r_t 2) 12 (va_cpy p1_off t_off 0 0 12), ic E (r_t 1) 12 (va_cpy p1_size t_size 0 0 12), ic E (r_t 4) 12 (va_cpy p1_stuck t_stuck 0 0 12), ic E (r_t 3) 12 (va_cpy p1_worth t_worth 0 0 12), ic E (r_p1 2) 12 p1_off, ic E (r_p1 1) 12 p1_size, ic E (r_p1 4) 12 p1_stuck, ic E (r_p1 3) 12 p1_worth]) cb_X2 hx hb hown X w 0 6 fl_X2_31 dX2_takeForm_81 rfl (by decide) (Nat.le_of_ble_eq_true rfl) rfl rfl rfl rfl (fun H locs w => ?_)
  refine lv_aload_n hx hb dX2_takeForm_84 rfl (lv_at hl 0 rfl) ?_
  refine lv_aload_n hx hb dX2_takeForm_85 rfl (lv_at hl 1 rfl) ?_
  refine hm_get cb_X2 hx hb hown X w 1 7 fl_X2_34 dX2_takeForm_86 rfl (by decide) rfl ?_
  refine hm_put (ws' := [oc2 h0 r_t d_t p1_bits p1_offset p1_band p1_rule t_noise t_step t_draws t_heat t_hour t_seenCount, oc2 h1 r_p1 d_p1 p1_bits p1_offset p1_band p1_rule p1_noise p1_step p1_draws p1_heat p1_hour p1_seenCount, ic E (r_t 2) 12 (va_cpy p1_off t_off 0 0 12), ic E (r_t 1) 12 (va_cpy p1_size t_size 0 0 12), ic E (r_t 4) 12 (va_cpy p1_stuck t_stuck 0 0 12), ic E (r_t 3) 12 (va_cpy p1_worth t_worth 0 0 12), ic E (r_p1 2) 12 p1_off, ic E (r_p1 1) 12 p1_size, ic E (r_p1 4) 12 p1_stuck, ic E (r_p1 3) 12 p1_worth]) cb_X2 hx hb hown X w 0 7 fl_X2_34 dX2_takeForm_89 rfl (by decide) (Nat.le_of_ble_eq_true rfl) rfl rfl rfl rfl (fun H locs w => ?_)
  refine lv_aload_n hx hb dX2_takeForm_92 rfl (lv_at hl 0 rfl) ?_
  refine lv_aload_n hx hb dX2_takeForm_93 rfl (lv_at hl 1 rfl) ?_
  refine hm_get cb_X2 hx hb hown X w 1 8 fl_X2_37 dX2_takeForm_94 rfl (by decide) rfl ?_
  refine hm_put (ws' := [oc2 h0 r_t d_t p1_bits p1_offset p1_band p1_rule p1_noise t_step t_draws t_heat t_hour t_seenCount, oc2 h1 r_p1 d_p1 p1_bits p1_offset p1_band p1_rule p1_noise p1_step p1_draws p1_heat p1_hour p1_seenCount, ic E (r_t 2) 12 (va_cpy p1_off t_off 0 0 12), ic E (r_t 1) 12 (va_cpy p1_size t_size 0 0 12), ic E (r_t 4) 12 (va_cpy p1_stuck t_stuck 0 0 12), ic E (r_t 3) 12 (va_cpy p1_worth t_worth 0 0 12), ic E (r_p1 2) 12 p1_off, ic E (r_p1 1) 12 p1_size, ic E (r_p1 4) 12 p1_stuck, ic E (r_p1 3) 12 p1_worth]) cb_X2 hx hb hown X w 0 8 fl_X2_37 dX2_takeForm_97 rfl (by decide) (Nat.le_of_ble_eq_true rfl) rfl rfl rfl rfl (fun H locs w => ?_)
  refine lv_aload_n hx hb dX2_takeForm_100 rfl (lv_at hl 0 rfl) ?_
  refine lv_aload_n hx hb dX2_takeForm_101 rfl (lv_at hl 1 rfl) ?_
  refine hm_get cb_X2 hx hb hown X w 1 9 fl_X2_40 dX2_takeForm_102 rfl (by decide) rfl ?_
  refine hm_put (ws' := [oc2 h0 r_t d_t p1_bits p1_offset p1_band p1_rule p1_noise p1_step t_draws t_heat t_hour t_seenCount, oc2 h1 r_p1 d_p1 p1_bits p1_offset p1_band p1_rule p1_noise p1_step p1_draws p1_heat p1_hour p1_seenCount, ic E (r_t 2) 12 (va_cpy p1_off t_off 0 0 12), ic E (r_t 1) 12 (va_cpy p1_size t_size 0 0 12), ic E (r_t 4) 12 (va_cpy p1_stuck t_stuck 0 0 12), ic E (r_t 3) 12 (va_cpy p1_worth t_worth 0 0 12), ic E (r_p1 2) 12 p1_off, ic E (r_p1 1) 12 p1_size, ic E (r_p1 4) 12 p1_stuck, ic E (r_p1 3) 12 p1_worth]) cb_X2 hx hb hown X w 0 9 fl_X2_40 dX2_takeForm_105 rfl (by decide) (Nat.le_of_ble_eq_true rfl) rfl rfl rfl rfl (fun H locs w => ?_)
  exact hQ _ _ _ _ (p1_bits, (va_cpy p1_size t_size 0 0 12), (va_cpy p1_off t_off 0 0 12), (va_cpy p1_worth t_worth 0 0 12), (va_cpy p1_stuck t_stuck 0 0 12), p1_offset, p1_band, p1_rule, p1_noise, p1_step) (fun _ => 0) hf w dX2_takeForm_108
set_option maxHeartbeats 8000000 in
set_option maxRecDepth 100000 in
theorem ct_X2_copyFrom (l : Launch) (E : hm_E) (sz : Nat) (h0 : Nat) (h1 : Nat) (r_t : Nat → Nat) (d_t : Nat) (r_p1 : Nat → Nat) (d_p1 : Nat) (t_bits t_offset t_band t_rule t_noise t_step t_draws t_heat t_hour t_seenCount p1_bits p1_offset p1_band p1_rule p1_noise p1_step p1_draws p1_heat p1_hour p1_seenCount : Int32) (t_off : Nat → Int32) (t_seenCode : Nat → Int32) (t_seenX : Nat → Int32) (t_size : Nat → Int32) (t_stuck : Nat → Int32) (t_worth : Nat → Int32) (p1_off : Nat → Int32) (p1_seenCode : Nat → Int32) (p1_seenX : Nat → Int32) (p1_size : Nat → Int32) (p1_stuck : Nat → Int32) (p1_worth : Nat → Int32) (R : Int32 × (Nat → Int32) × (Nat → Int32) × (Nat → Int32) × (Nat → Int32) × Int32 × Int32 × Int32 × Int32 × Int32 × Int32 × Int32 × Int32 × (Nat → Int32) × (Nat → Int32) × Int32) (hf : pf_X2_copyFrom t_size t_off t_worth t_stuck t_seenX t_seenCode p1_bits p1_size p1_off p1_worth p1_stuck p1_offset p1_band p1_rule p1_noise p1_step p1_draws p1_heat p1_hour p1_seenX p1_seenCode p1_seenCount = some R) : hm_Mv l E yX2_copyFrom cX2_copyFrom 2 [] (hm_rr 2 69 0 0) [.ref h0, .ref h1] sz [oc2 h0 r_t d_t t_bits t_offset t_band t_rule t_noise t_step t_draws t_heat t_hour t_seenCount, oc2 h1 r_p1 d_p1 p1_bits p1_offset p1_band p1_rule p1_noise p1_step p1_draws p1_heat p1_hour p1_seenCount, ic E (r_t 2) 12 t_off, ic E (r_t 15) 8 t_seenCode, ic E (r_t 14) 8 t_seenX, ic E (r_t 1) 12 t_size, ic E (r_t 4) 12 t_stuck, ic E (r_t 3) 12 t_worth, ic E (r_p1 2) 12 p1_off, ic E (r_p1 15) 8 p1_seenCode, ic E (r_p1 14) 8 p1_seenX, ic E (r_p1 1) 12 p1_size, ic E (r_p1 4) 12 p1_stuck, ic E (r_p1 3) 12 p1_worth] (fun _ => [oc2 h0 r_t d_p1 (R.1) (R.2.2.2.2.2.1) (R.2.2.2.2.2.2.1) (R.2.2.2.2.2.2.2.1) (R.2.2.2.2.2.2.2.2.1) (R.2.2.2.2.2.2.2.2.2.1) (R.2.2.2.2.2.2.2.2.2.2.1) (R.2.2.2.2.2.2.2.2.2.2.2.1) (R.2.2.2.2.2.2.2.2.2.2.2.2.1) (R.2.2.2.2.2.2.2.2.2.2.2.2.2.2.2), oc2 h1 r_p1 d_p1 p1_bits p1_offset p1_band p1_rule p1_noise p1_step p1_draws p1_heat p1_hour p1_seenCount, ic E (r_t 2) 12 (R.2.2.1), ic E (r_t 15) 8 (R.2.2.2.2.2.2.2.2.2.2.2.2.2.2.1), ic E (r_t 14) 8 (R.2.2.2.2.2.2.2.2.2.2.2.2.2.1), ic E (r_t 1) 12 (R.2.1), ic E (r_t 4) 12 (R.2.2.2.2.1), ic E (r_t 3) 12 (R.2.2.2.1), ic E (r_p1 2) 12 p1_off, ic E (r_p1 15) 8 p1_seenCode, ic E (r_p1 14) 8 p1_seenX, ic E (r_p1 1) 12 p1_size, ic E (r_p1 4) 12 p1_stuck, ic E (r_p1 3) 12 p1_worth]) := by
  refine hm_ct_v R (fun u _ => [oc2 h0 r_t d_p1 (u.1) (u.2.2.2.2.2.1) (u.2.2.2.2.2.2.1) (u.2.2.2.2.2.2.2.1) (u.2.2.2.2.2.2.2.2.1) (u.2.2.2.2.2.2.2.2.2.1) (u.2.2.2.2.2.2.2.2.2.2.1) (u.2.2.2.2.2.2.2.2.2.2.2.1) (u.2.2.2.2.2.2.2.2.2.2.2.2.1) (u.2.2.2.2.2.2.2.2.2.2.2.2.2.2.2), oc2 h1 r_p1 d_p1 p1_bits p1_offset p1_band p1_rule p1_noise p1_step p1_draws p1_heat p1_hour p1_seenCount, ic E (r_t 2) 12 (u.2.2.1), ic E (r_t 15) 8 (u.2.2.2.2.2.2.2.2.2.2.2.2.2.2.1), ic E (r_t 14) 8 (u.2.2.2.2.2.2.2.2.2.2.2.2.2.1), ic E (r_t 1) 12 (u.2.1), ic E (r_t 4) 12 (u.2.2.2.2.1), ic E (r_t 3) 12 (u.2.2.2.1), ic E (r_p1 2) 12 p1_off, ic E (r_p1 15) 8 p1_seenCode, ic E (r_p1 14) 8 p1_seenX, ic E (r_p1 1) 12 p1_size, ic E (r_p1 4) 12 p1_stuck, ic E (r_p1 3) 12 p1_worth]) (by decide) (Nat.le_of_ble_eq_true rfl) ?_
  intro p e s m args below meth c A Q ls H locs hx hb hml hown X hA Y hex hin w hl hQ
  have hl : lv_has ls 2 [(0, .ref h0), (1, .ref h1)] := hl
  unfold pf_X2_copyFrom at hf
  refine lv_aload_n hx hb dX2_copyFrom_0 rfl (lv_at hl 0 rfl) ?_
  refine lv_aload_n hx hb dX2_copyFrom_1 rfl (lv_at hl 1 rfl) ?_
  obtain ⟨x1, f2, f3, f4, f5, x6, x7, x8, x9, x10, hc2, hf⟩ := pf_bv_10 hf
  refine hm_aft_v (ws' := fun _ => [oc2 h0 r_t d_t x1 x6 x7 x8 x9 x10 t_draws t_heat t_hour t_seenCount, oc2 h1 r_p1 d_p1 p1_bits p1_offset p1_band p1_rule p1_noise p1_step p1_draws p1_heat p1_hour p1_seenCount, ic E (r_t 2) 12 f3, ic E (r_t 15) 8 t_seenCode, ic E (r_t 14) 8 t_seenX, ic E (r_t 1) 12 f2, ic E (r_t 4) 12 f5, ic E (r_t 3) 12 f4, ic E (r_p1 2) 12 p1_off, ic E (r_p1 15) 8 p1_seenCode, ic E (r_p1 14) 8 p1_seenX, ic E (r_p1 1) 12 p1_size, ic E (r_p1 4) 12 p1_stuck, ic E (r_p1 3) 12 p1_worth]) (hm_runV (rest := []) hx hb hml hown X hA Y w 0 (ci := 2) (T := TX2) (N := 17) rfl rfl mw_X2_takeForm ml_X2_74 dX2_copyFrom_2 hm_ac0 [.ref h1] rfl [0, 1, 2, 5, 6, 7, 8, 11, 12, 13] rfl rfl (ct_X2_takeForm l E H.size h0 h1 r_t d_t r_p1 d_p1 t_bits t_offset t_band t_rule t_noise t_step t_draws t_heat t_hour t_seenCount p1_bits p1_offset p1_band p1_rule p1_noise p1_step p1_draws p1_heat p1_hour p1_seenCount t_off t_size t_stuck t_worth p1_off p1_size p1_stuck p1_worth (x1, f2, f3, f4, f5, x6, x7, x8, x9, x10) hc2) rfl hl.1 ⟨⟨rfl, rfl⟩, ⟨Nat.le_of_ble_eq_true rfl, Nat.le_of_ble_eq_true rfl⟩, ⟨Nat.le_of_ble_eq_true rfl, Nat.le_of_ble_eq_true rfl⟩, Nat.le_of_ble_eq_true rfl⟩) hA w [0, 1, 2, 5, 6, 7, 8, 11, 12, 13] [3, 4, 9, 10] [4, 5, 6, 0, 1, 7, 8, 9, 10, 2, 3, 11, 12, 13] rfl rfl (by decide) (fun _ => rfl) (fun _ H locs w => ?_)
  refine lv_aload_n hx hb dX2_copyFrom_5 rfl (lv_at hl 0 rfl) ?_
  refine lv_aload_n hx hb dX2_copyFrom_6 rfl (lv_at hl 1 rfl) ?_
  refine hm_get cb_X2 hx hb hown X w 1 10 fl_X2_43 dX2_copyFrom_7 rfl (by decide) rfl ?_
  refine hm_put (ws' := [oc2 h0 r_t d_t x1 x6 x7 x8 x9 x10 p1_draws t_heat t_hour t_seenCount, oc2 h1 r_p1 d_p1 p1_bits p1_offset p1_band p1_rule p1_noise p1_step p1_draws p1_heat p1_hour p1_seenCount, ic E (r_t 2) 12 f3, ic E (r_t 15) 8 t_seenCode, ic E (r_t 14) 8 t_seenX, ic E (r_t 1) 12 f2, ic E (r_t 4) 12 f5, ic E (r_t 3) 12 f4, ic E (r_p1 2) 12 p1_off, ic E (r_p1 15) 8 p1_seenCode, ic E (r_p1 14) 8 p1_seenX, ic E (r_p1 1) 12 p1_size, ic E (r_p1 4) 12 p1_stuck, ic E (r_p1 3) 12 p1_worth]) cb_X2 hx hb hown X w 0 10 fl_X2_43 dX2_copyFrom_10 rfl (by decide) (Nat.le_of_ble_eq_true rfl) rfl rfl rfl rfl (fun H locs w => ?_)
  refine lv_aload_n hx hb dX2_copyFrom_13 rfl (lv_at hl 0 rfl) ?_
  refine lv_aload_n hx hb dX2_copyFrom_14 rfl (lv_at hl 1 rfl) ?_
  refine hm_get cb_X2 hx hb hown X w 1 11 fl_X2_46 dX2_copyFrom_15 rfl (by decide) rfl ?_
  refine hm_put (ws' := [oc2 h0 r_t d_t x1 x6 x7 x8 x9 x10 p1_draws p1_heat t_hour t_seenCount, oc2 h1 r_p1 d_p1 p1_bits p1_offset p1_band p1_rule p1_noise p1_step p1_draws p1_heat p1_hour p1_seenCount, ic E (r_t 2) 12 f3, ic E (r_t 15) 8 t_seenCode, ic E (r_t 14) 8 t_seenX, ic E (r_t 1) 12 f2, ic E (r_t 4) 12 f5, ic E (r_t 3) 12 f4, ic E (r_p1 2) 12 p1_off, ic E (r_p1 15) 8 p1_seenCode, ic E (r_p1 14) 8 p1_seenX, ic E (r_p1 1) 12 p1_size, ic E (r_p1 4) 12 p1_stuck, ic E (r_p1 3) 12 p1_worth]) cb_X2 hx hb hown X w 0 11 fl_X2_46 dX2_copyFrom_18 rfl (by decide) (Nat.le_of_ble_eq_true rfl) rfl rfl rfl rfl (fun H locs w => ?_)
  refine lv_aload_n hx hb dX2_copyFrom_21 rfl (lv_at hl 0 rfl) ?_
  refine lv_aload_n hx hb dX2_copyFrom_22 rfl (lv_at hl 1 rfl) ?_
  refine hm_get cb_X2 hx hb hown X w 1 12 fl_X2_49 dX2_copyFrom_23 rfl (by decide) rfl ?_
  refine hm_put (ws' := [oc2 h0 r_t d_t x1 x6 x7 x8 x9 x10 p1_draws p1_heat p1_hour t_seenCount, oc2 h1 r_p1 d_p1 p1_bits p1_offset p1_band p1_rule p1_noise p1_step p1_draws p1_heat p1_hour p1_seenCount, ic E (r_t 2) 12 f3, ic E (r_t 15) 8 t_seenCode, ic E (r_t 14) 8 t_seenX, ic E (r_t 1) 12 f2, ic E (r_t 4) 12 f5, ic E (r_t 3) 12 f4, ic E (r_p1 2) 12 p1_off, ic E (r_p1 15) 8 p1_seenCode, ic E (r_p1 14) 8 p1_seenX, ic E (r_p1 1) 12 p1_size, ic E (r_p1 4) 12 p1_stuck, ic E (r_p1 3) 12 p1_worth]) cb_X2 hx hb hown X w 0 12 fl_X2_49 dX2_copyFrom_26 rfl (by decide) (Nat.le_of_ble_eq_true rfl) rfl rfl rfl rfl (fun H locs w => ?_)
  refine lv_aload_n hx hb dX2_copyFrom_29 rfl (lv_at hl 0 rfl) ?_
  refine lv_aload_n hx hb dX2_copyFrom_30 rfl (lv_at hl 1 rfl) ?_
  refine hm_get cb_X2 hx hb hown X w 1 13 fl_X2_55 dX2_copyFrom_31 rfl (by decide) rfl ?_
  refine hm_put (ws' := [oc2 h0 r_t d_p1 x1 x6 x7 x8 x9 x10 p1_draws p1_heat p1_hour t_seenCount, oc2 h1 r_p1 d_p1 p1_bits p1_offset p1_band p1_rule p1_noise p1_step p1_draws p1_heat p1_hour p1_seenCount, ic E (r_t 2) 12 f3, ic E (r_t 15) 8 t_seenCode, ic E (r_t 14) 8 t_seenX, ic E (r_t 1) 12 f2, ic E (r_t 4) 12 f5, ic E (r_t 3) 12 f4, ic E (r_p1 2) 12 p1_off, ic E (r_p1 15) 8 p1_seenCode, ic E (r_p1 14) 8 p1_seenX, ic E (r_p1 1) 12 p1_size, ic E (r_p1 4) 12 p1_stuck, ic E (r_p1 3) 12 p1_worth]) cb_X2 hx hb hown X w 0 13 fl_X2_55 dX2_copyFrom_34 rfl (by decide) (Nat.le_of_ble_eq_true rfl) rfl rfl rfl rfl (fun H locs w => ?_)
  refine lv_aload_n hx hb dX2_copyFrom_37 rfl (lv_at hl 1 rfl) ?_
  refine hm_get cb_X2 hx hb hown X w 1 14 fl_X2_59 dX2_copyFrom_38 rfl (by decide) rfl ?_
  refine lv_iconst (v := 0) hx hb dX2_copyFrom_41 (by decide) ?_
  refine lv_aload_n hx hb dX2_copyFrom_42 rfl (lv_at hl 0 rfl) ?_
  refine hm_get cb_X2 hx hb hown X w 0 14 fl_X2_59 dX2_copyFrom_43 rfl (by decide) rfl ?_
  refine lv_iconst (v := 0) hx hb dX2_copyFrom_46 (by decide) ?_
  refine lv_bipush (v := 8) hx hb dX2_copyFrom_47 (by decide) ?_
  refine hm_copy (ws' := [oc2 h0 r_t d_p1 x1 x6 x7 x8 x9 x10 p1_draws p1_heat p1_hour t_seenCount, oc2 h1 r_p1 d_p1 p1_bits p1_offset p1_band p1_rule p1_noise p1_step p1_draws p1_heat p1_hour p1_seenCount, ic E (r_t 2) 12 f3, ic E (r_t 15) 8 t_seenCode, ic E (r_t 14) 8 (va_cpy p1_seenX t_seenX 0 0 8), ic E (r_t 1) 12 f2, ic E (r_t 4) 12 f5, ic E (r_t 3) 12 f4, ic E (r_p1 2) 12 p1_off, ic E (r_p1 15) 8 p1_seenCode, ic E (r_p1 14) 8 p1_seenX, ic E (r_p1 1) 12 p1_size, ic E (r_p1 4) 12 p1_stuck, ic E (r_p1 3) 12 p1_worth]) hx hb (hml.trans hl.1.symm) hown X w 10 4 ml_X2_68 ac_n ac_s ac_i dX2_copyFrom_49 rfl rfl (by decide) (by decide) (by decide) (by decide) (by decide) (Nat.le_of_ble_eq_true rfl) (by decide) rfl (fun H locs w => ?_)
  refine lv_aload_n hx hb dX2_copyFrom_52 rfl (lv_at hl 1 rfl) ?_
  refine hm_get cb_X2 hx hb hown X w 1 15 fl_X2_62 dX2_copyFrom_53 rfl (by decide) rfl ?_
  refine lv_iconst (v := 0) hx hb dX2_copyFrom_56 (by decide) ?_
  refine lv_aload_n hx hb dX2_copyFrom_57 rfl (lv_at hl 0 rfl) ?_
  refine hm_get cb_X2 hx hb hown X w 0 15 fl_X2_62 dX2_copyFrom_58 rfl (by decide) rfl ?_
  refine lv_iconst (v := 0) hx hb dX2_copyFrom_61 (by decide) ?_
  refine lv_bipush (v := 8) hx hb dX2_copyFrom_62 (by decide) ?_
  refine hm_copy (ws' := [oc2 h0 r_t d_p1 x1 x6 x7 x8 x9 x10 p1_draws p1_heat p1_hour t_seenCount, oc2 h1 r_p1 d_p1 p1_bits p1_offset p1_band p1_rule p1_noise p1_step p1_draws p1_heat p1_hour p1_seenCount, ic E (r_t 2) 12 f3, ic E (r_t 15) 8 (va_cpy p1_seenCode t_seenCode 0 0 8), ic E (r_t 14) 8 (va_cpy p1_seenX t_seenX 0 0 8), ic E (r_t 1) 12 f2, ic E (r_t 4) 12 f5, ic E (r_t 3) 12 f4, ic E (r_p1 2) 12 p1_off, ic E (r_p1 15) 8 p1_seenCode, ic E (r_p1 14) 8 p1_seenX, ic E (r_p1 1) 12 p1_size, ic E (r_p1 4) 12 p1_stuck, ic E (r_p1 3) 12 p1_worth]) hx hb (hml.trans hl.1.symm) hown X w 9 3 ml_X2_68 ac_n ac_s ac_i dX2_copyFrom_64 rfl rfl (by decide) (by decide) (by decide) (by decide) (by decide) (Nat.le_of_ble_eq_true rfl) (by decide) rfl (fun H locs w => ?_)
  refine lv_aload_n hx hb dX2_copyFrom_67 rfl (lv_at hl 0 rfl) ?_
  refine lv_aload_n hx hb dX2_copyFrom_68 rfl (lv_at hl 1 rfl) ?_
  refine hm_get cb_X2 hx hb hown X w 1 16 fl_X2_65 dX2_copyFrom_69 rfl (by decide) rfl ?_
  refine hm_put (ws' := [oc2 h0 r_t d_p1 x1 x6 x7 x8 x9 x10 p1_draws p1_heat p1_hour p1_seenCount, oc2 h1 r_p1 d_p1 p1_bits p1_offset p1_band p1_rule p1_noise p1_step p1_draws p1_heat p1_hour p1_seenCount, ic E (r_t 2) 12 f3, ic E (r_t 15) 8 (va_cpy p1_seenCode t_seenCode 0 0 8), ic E (r_t 14) 8 (va_cpy p1_seenX t_seenX 0 0 8), ic E (r_t 1) 12 f2, ic E (r_t 4) 12 f5, ic E (r_t 3) 12 f4, ic E (r_p1 2) 12 p1_off, ic E (r_p1 15) 8 p1_seenCode, ic E (r_p1 14) 8 p1_seenX, ic E (r_p1 1) 12 p1_size, ic E (r_p1 4) 12 p1_stuck, ic E (r_p1 3) 12 p1_worth]) cb_X2 hx hb hown X w 0 16 fl_X2_65 dX2_copyFrom_72 rfl (by decide) (Nat.le_of_ble_eq_true rfl) rfl rfl rfl rfl (fun H locs w => ?_)
  exact hQ _ _ _ _ (x1, f2, f3, f4, f5, x6, x7, x8, x9, x10, p1_draws, p1_heat, p1_hour, (va_cpy p1_seenX t_seenX 0 0 8), (va_cpy p1_seenCode t_seenCode 0 0 8), p1_seenCount) (fun _ => 0) hf w dX2_copyFrom_75
set_option maxHeartbeats 8000000 in
set_option maxRecDepth 100000 in
theorem ct_X7_within (l : Launch) (E : hm_E) (sz : Nat) (a0 : Int32) (a1 : Int32) (a2 : Int32) (R : Int32 × Unit) (hf : pf_X7_within a0 a1 a2 = some R) : hm_Mi l E yX7_within cX7_within 3 .boolean [] (hm_rr 0 0 0 0) [.int a0, .int a1, .int a2] sz [] R.1 (fun _ => []) := by
  refine hm_ct_i R (fun u qs => []) (by decide) (Nat.le_of_ble_eq_true rfl) (Or.inr rfl) ?_
  intro p e s m args below meth c A Q ls H locs hx hb hml hown X hA Y hex w hl hQ
  have hl : lv_has ls 3 [(0, .int a0), (1, .int a1), (2, .int a2)] := hl
  unfold pf_X7_within at hf
  refine lv_iload_n hx hb dX7_within_0 rfl (lv_at hl 0 rfl) ?_
  refine lv_iload_n hx hb dX7_within_1 rfl (lv_at hl 1 rfl) ?_
  refine lv_icmp_lt (tgt := 14) hx hb dX7_within_2 (by decide) (fun c2 => ?_) (fun c2 => ?_)
  · have hf := pf_t c2 hf
    refine lv_iconst (v := 0) hx hb dX7_within_14 (by decide) ?_
    exact hQ _ _ _ _ _ () (fun _ => 0) hf rfl w dX7_within_15
  · have hf := pf_e c2 hf
    refine lv_iload_n hx hb dX7_within_5 rfl (lv_at hl 0 rfl) ?_
    refine lv_iload_n hx hb dX7_within_6 rfl (lv_at hl 2 rfl) ?_
    refine lv_icmp_gt (tgt := 14) hx hb dX7_within_7 (by decide) (fun c7 => ?_) (fun c7 => ?_)
    · have hf := pf_t c7 hf
      refine lv_iconst (v := 0) hx hb dX7_within_14 (by decide) ?_
      exact hQ _ _ _ _ _ () (fun _ => 0) hf rfl w dX7_within_15
    · have hf := pf_e c7 hf
      refine lv_iconst (v := 1) hx hb dX7_within_10 (by decide) ?_
      refine lv_goto (tgt := 15) hx hb dX7_within_11 (by decide) ?_
      exact hQ _ _ _ _ _ () (fun _ => 0) hf rfl w dX7_within_15
set_option maxHeartbeats 8000000 in
set_option maxRecDepth 100000 in
theorem ct_X2_mayBeSet (l : Launch) (E : hm_E) (sz : Nat) (a0 : Int32) (a1 : Int32) (R : Int32 × Unit) (hf : pf_X2_mayBeSet a0 a1 = some R) : hm_Mi l E yX2_mayBeSet cX2_mayBeSet 2 .boolean [] (hm_rr 1 22 0 0) [.int a0, .int a1] sz [] R.1 (fun _ => []) := by
  refine hm_ct_i R (fun u qs => []) (by decide) (Nat.le_of_ble_eq_true rfl) (Or.inr rfl) ?_
  intro p e s m args below meth c A Q ls H locs hx hb hml hown X hA Y hex w hl hQ
  have hl : lv_has ls 2 [(0, .int a0), (1, .int a1)] := hl
  unfold pf_X2_mayBeSet at hf
  refine lv_iload_n hx hb dX2_mayBeSet_0 rfl (lv_at hl 0 rfl) ?_
  by_cases c1_0 : a0 = 0
  · have hf := pf_t c1_0 hf
    refine lv_tableIn (off := 35) (tgt := 36) hx hb dX2_mayBeSet_1 (by rw [c1_0]; decide) (by rw [c1_0]; decide) (by rw [c1_0]; rfl) (by decide) ?_
    refine lv_iload_n hx hb dX2_mayBeSet_36 rfl (lv_at hl 1 rfl) ?_
    refine lv_bipush (v := (-99)) hx hb dX2_mayBeSet_37 (by decide) ?_
    refine lv_bipush (v := 99) hx hb dX2_mayBeSet_39 (by decide) ?_
    obtain ⟨r1, hc41, hf⟩ := pf_bi_0 hf
    refine hm_aft_i (ws' := fun _ => []) (hm_runSN (rest := []) hx hb hml hown X hA Y w mw_X7_within ml_X2_78 dX2_mayBeSet_41 hm_ac0 [.int a1, .int (-99), .int 99] rfl [] rfl rfl (ct_X7_within l E H.size a1 (-99) 99 (r1, ()) hc41) rfl hl.1 ⟨⟨rfl, rfl⟩, ⟨Nat.le_of_ble_eq_true rfl, Nat.le_of_ble_eq_true rfl⟩, ⟨Nat.le_of_ble_eq_true rfl, Nat.le_of_ble_eq_true rfl⟩, Nat.le_of_ble_eq_true rfl⟩) hA w [] [] [] rfl rfl (by decide) (fun _ => rfl) (fun _ H locs w => ?_)
    obtain ⟨g44, hf⟩ := pf_ckZ hf
    exact hQ _ _ _ _ _ () (fun _ => 0) hf (hm_z g44) w dX2_mayBeSet_44
  · have hf := pf_e c1_0 hf
    by_cases c1_1 : a0 = 1
    · have hf := pf_t c1_1 hf
      refine lv_tableIn (off := 44) (tgt := 45) hx hb dX2_mayBeSet_1 (by rw [c1_1]; decide) (by rw [c1_1]; decide) (by rw [c1_1]; rfl) (by decide) ?_
      refine lv_iload_n hx hb dX2_mayBeSet_45 rfl (lv_at hl 1 rfl) ?_
      refine lv_iconst (v := 0) hx hb dX2_mayBeSet_46 (by decide) ?_
      refine lv_bipush (v := 50) hx hb dX2_mayBeSet_47 (by decide) ?_
      obtain ⟨r2, hc49, hf⟩ := pf_bi_0 hf
      refine hm_aft_i (ws' := fun _ => []) (hm_runSN (rest := []) hx hb hml hown X hA Y w mw_X7_within ml_X2_78 dX2_mayBeSet_49 hm_ac0 [.int a1, .int 0, .int 50] rfl [] rfl rfl (ct_X7_within l E H.size a1 0 50 (r2, ()) hc49) rfl hl.1 ⟨⟨rfl, rfl⟩, ⟨Nat.le_of_ble_eq_true rfl, Nat.le_of_ble_eq_true rfl⟩, ⟨Nat.le_of_ble_eq_true rfl, Nat.le_of_ble_eq_true rfl⟩, Nat.le_of_ble_eq_true rfl⟩) hA w [] [] [] rfl rfl (by decide) (fun _ => rfl) (fun _ H locs w => ?_)
      obtain ⟨g52, hf⟩ := pf_ckZ hf
      exact hQ _ _ _ _ _ () (fun _ => 0) hf (hm_z g52) w dX2_mayBeSet_52
    · have hf := pf_e c1_1 hf
      by_cases c1_2 : a0 = 2
      · have hf := pf_t c1_2 hf
        refine lv_tableIn (off := 52) (tgt := 53) hx hb dX2_mayBeSet_1 (by rw [c1_2]; decide) (by rw [c1_2]; decide) (by rw [c1_2]; rfl) (by decide) ?_
        refine lv_iload_n hx hb dX2_mayBeSet_53 rfl (lv_at hl 1 rfl) ?_
        refine lv_iconst (v := 0) hx hb dX2_mayBeSet_54 (by decide) ?_
        refine lv_iconst (v := 3) hx hb dX2_mayBeSet_55 (by decide) ?_
        obtain ⟨r3, hc56, hf⟩ := pf_bi_0 hf
        refine hm_aft_i (ws' := fun _ => []) (hm_runSN (rest := []) hx hb hml hown X hA Y w mw_X7_within ml_X2_78 dX2_mayBeSet_56 hm_ac0 [.int a1, .int 0, .int 3] rfl [] rfl rfl (ct_X7_within l E H.size a1 0 3 (r3, ()) hc56) rfl hl.1 ⟨⟨rfl, rfl⟩, ⟨Nat.le_of_ble_eq_true rfl, Nat.le_of_ble_eq_true rfl⟩, ⟨Nat.le_of_ble_eq_true rfl, Nat.le_of_ble_eq_true rfl⟩, Nat.le_of_ble_eq_true rfl⟩) hA w [] [] [] rfl rfl (by decide) (fun _ => rfl) (fun _ H locs w => ?_)
        obtain ⟨g59, hf⟩ := pf_ckZ hf
        exact hQ _ _ _ _ _ () (fun _ => 0) hf (hm_z g59) w dX2_mayBeSet_59
      · have hf := pf_e c1_2 hf
        by_cases c1_3 : a0 = 3
        · have hf := pf_t c1_3 hf
          refine lv_tableIn (off := 59) (tgt := 60) hx hb dX2_mayBeSet_1 (by rw [c1_3]; decide) (by rw [c1_3]; decide) (by rw [c1_3]; rfl) (by decide) ?_
          refine lv_iload_n hx hb dX2_mayBeSet_60 rfl (lv_at hl 1 rfl) ?_
          refine lv_iconst (v := 0) hx hb dX2_mayBeSet_61 (by decide) ?_
          refine lv_bipush (v := 20) hx hb dX2_mayBeSet_62 (by decide) ?_
          obtain ⟨r4, hc64, hf⟩ := pf_bi_0 hf
          refine hm_aft_i (ws' := fun _ => []) (hm_runSN (rest := []) hx hb hml hown X hA Y w mw_X7_within ml_X2_78 dX2_mayBeSet_64 hm_ac0 [.int a1, .int 0, .int 20] rfl [] rfl rfl (ct_X7_within l E H.size a1 0 20 (r4, ()) hc64) rfl hl.1 ⟨⟨rfl, rfl⟩, ⟨Nat.le_of_ble_eq_true rfl, Nat.le_of_ble_eq_true rfl⟩, ⟨Nat.le_of_ble_eq_true rfl, Nat.le_of_ble_eq_true rfl⟩, Nat.le_of_ble_eq_true rfl⟩) hA w [] [] [] rfl rfl (by decide) (fun _ => rfl) (fun _ H locs w => ?_)
          obtain ⟨g67, hf⟩ := pf_ckZ hf
          exact hQ _ _ _ _ _ () (fun _ => 0) hf (hm_z g67) w dX2_mayBeSet_67
        · have hf := pf_e c1_3 hf
          by_cases c1_4 : a0 = 4
          · have hf := pf_t c1_4 hf
            refine lv_tableIn (off := 67) (tgt := 68) hx hb dX2_mayBeSet_1 (by rw [c1_4]; decide) (by rw [c1_4]; decide) (by rw [c1_4]; rfl) (by decide) ?_
            refine lv_iload_n hx hb dX2_mayBeSet_68 rfl (lv_at hl 1 rfl) ?_
            refine lv_iconst (v := 1) hx hb dX2_mayBeSet_69 (by decide) ?_
            refine lv_bipush (v := 64) hx hb dX2_mayBeSet_70 (by decide) ?_
            obtain ⟨r5, hc72, hf⟩ := pf_bi_0 hf
            refine hm_aft_i (ws' := fun _ => []) (hm_runSN (rest := []) hx hb hml hown X hA Y w mw_X7_within ml_X2_78 dX2_mayBeSet_72 hm_ac0 [.int a1, .int 1, .int 64] rfl [] rfl rfl (ct_X7_within l E H.size a1 1 64 (r5, ()) hc72) rfl hl.1 ⟨⟨rfl, rfl⟩, ⟨Nat.le_of_ble_eq_true rfl, Nat.le_of_ble_eq_true rfl⟩, ⟨Nat.le_of_ble_eq_true rfl, Nat.le_of_ble_eq_true rfl⟩, Nat.le_of_ble_eq_true rfl⟩) hA w [] [] [] rfl rfl (by decide) (fun _ => rfl) (fun _ H locs w => ?_)
            obtain ⟨g75, hf⟩ := pf_ckZ hf
            exact hQ _ _ _ _ _ () (fun _ => 0) hf (hm_z g75) w dX2_mayBeSet_75
          · have hf := pf_e c1_4 hf
            refine lv_tableOut (tgt := 76) hx hb dX2_mayBeSet_1 (hm_out (fun k h1 h2 => by have u := And.intro h1 h2; have v0 := hm_ti c1_0; rw [show (0 : Int32).toInt = 0 from by decide] at v0; have v1 := hm_ti c1_1; rw [show (1 : Int32).toInt = 1 from by decide] at v1; have v2 := hm_ti c1_2; rw [show (2 : Int32).toInt = 2 from by decide] at v2; have v3 := hm_ti c1_3; rw [show (3 : Int32).toInt = 3 from by decide] at v3; have v4 := hm_ti c1_4; rw [show (4 : Int32).toInt = 4 from by decide] at v4; omega)) (by decide) ?_
            refine lv_iconst (v := 0) hx hb dX2_mayBeSet_76 (by decide) ?_
            exact hQ _ _ _ _ _ () (fun _ => 0) hf rfl w dX2_mayBeSet_77
set_option maxHeartbeats 8000000 in
set_option maxRecDepth 100000 in
theorem ct_X2_put (l : Launch) (E : hm_E) (sz : Nat) (h0 : Nat) (r_t : Nat → Nat) (d_t : Nat) (t_bits t_offset t_band t_rule t_noise t_step t_draws t_heat t_hour t_seenCount : Int32) (a1 : Int32) (a2 : Int32) (R : Int32 × Int32 × Int32 × Int32 × Int32) (hf : pf_X2_put a1 a2 t_offset t_band t_rule t_noise t_step = some R) : hm_Mv l E yX2_put cX2_put 3 [] (hm_rr 0 0 0 0) [.ref h0, .int a1, .int a2] sz [oc2 h0 r_t d_t t_bits t_offset t_band t_rule t_noise t_step t_draws t_heat t_hour t_seenCount] (fun _ => [oc2 h0 r_t d_t t_bits (R.1) (R.2.1) (R.2.2.1) (R.2.2.2.1) (R.2.2.2.2) t_draws t_heat t_hour t_seenCount]) := by
  refine hm_ct_v R (fun u _ => [oc2 h0 r_t d_t t_bits (u.1) (u.2.1) (u.2.2.1) (u.2.2.2.1) (u.2.2.2.2) t_draws t_heat t_hour t_seenCount]) (by decide) (Nat.le_of_ble_eq_true rfl) ?_
  intro p e s m args below meth c A Q ls H locs hx hb hml hown X hA Y hex hin w hl hQ
  have hl : lv_has ls 3 [(0, .ref h0), (1, .int a1), (2, .int a2)] := hl
  unfold pf_X2_put at hf
  refine lv_iload_n hx hb dX2_put_0 rfl (lv_at hl 1 rfl) ?_
  by_cases c1_0 : a1 = 0
  · have hf := pf_t c1_0 hf
    refine lv_tableIn (off := 35) (tgt := 36) hx hb dX2_put_1 (by rw [c1_0]; decide) (by rw [c1_0]; decide) (by rw [c1_0]; rfl) (by decide) ?_
    refine lv_aload_n hx hb dX2_put_36 rfl (lv_at hl 0 rfl) ?_
    refine lv_iload_n hx hb dX2_put_37 rfl (lv_at hl 2 rfl) ?_
    refine hm_put (ws' := [oc2 h0 r_t d_t t_bits a2 t_band t_rule t_noise t_step t_draws t_heat t_hour t_seenCount]) cb_X2 hx hb hown X w 0 5 fl_X2_28 dX2_put_38 rfl (by decide) (Nat.le_of_ble_eq_true rfl) rfl rfl rfl rfl (fun H locs w => ?_)
    refine lv_goto (tgt := 76) hx hb dX2_put_41 (by decide) ?_
    exact hQ _ _ _ _ (a2, t_band, t_rule, t_noise, t_step) (fun _ => 0) hf w dX2_put_76
  · have hf := pf_e c1_0 hf
    by_cases c1_1 : a1 = 1
    · have hf := pf_t c1_1 hf
      refine lv_tableIn (off := 43) (tgt := 44) hx hb dX2_put_1 (by rw [c1_1]; decide) (by rw [c1_1]; decide) (by rw [c1_1]; rfl) (by decide) ?_
      refine lv_aload_n hx hb dX2_put_44 rfl (lv_at hl 0 rfl) ?_
      refine lv_iload_n hx hb dX2_put_45 rfl (lv_at hl 2 rfl) ?_
      refine hm_put (ws' := [oc2 h0 r_t d_t t_bits t_offset a2 t_rule t_noise t_step t_draws t_heat t_hour t_seenCount]) cb_X2 hx hb hown X w 0 6 fl_X2_31 dX2_put_46 rfl (by decide) (Nat.le_of_ble_eq_true rfl) rfl rfl rfl rfl (fun H locs w => ?_)
      refine lv_goto (tgt := 76) hx hb dX2_put_49 (by decide) ?_
      exact hQ _ _ _ _ (t_offset, a2, t_rule, t_noise, t_step) (fun _ => 0) hf w dX2_put_76
    · have hf := pf_e c1_1 hf
      by_cases c1_2 : a1 = 2
      · have hf := pf_t c1_2 hf
        refine lv_tableIn (off := 51) (tgt := 52) hx hb dX2_put_1 (by rw [c1_2]; decide) (by rw [c1_2]; decide) (by rw [c1_2]; rfl) (by decide) ?_
        refine lv_aload_n hx hb dX2_put_52 rfl (lv_at hl 0 rfl) ?_
        refine lv_iload_n hx hb dX2_put_53 rfl (lv_at hl 2 rfl) ?_
        refine hm_put (ws' := [oc2 h0 r_t d_t t_bits t_offset t_band a2 t_noise t_step t_draws t_heat t_hour t_seenCount]) cb_X2 hx hb hown X w 0 7 fl_X2_34 dX2_put_54 rfl (by decide) (Nat.le_of_ble_eq_true rfl) rfl rfl rfl rfl (fun H locs w => ?_)
        refine lv_goto (tgt := 76) hx hb dX2_put_57 (by decide) ?_
        exact hQ _ _ _ _ (t_offset, t_band, a2, t_noise, t_step) (fun _ => 0) hf w dX2_put_76
      · have hf := pf_e c1_2 hf
        by_cases c1_3 : a1 = 3
        · have hf := pf_t c1_3 hf
          refine lv_tableIn (off := 59) (tgt := 60) hx hb dX2_put_1 (by rw [c1_3]; decide) (by rw [c1_3]; decide) (by rw [c1_3]; rfl) (by decide) ?_
          refine lv_aload_n hx hb dX2_put_60 rfl (lv_at hl 0 rfl) ?_
          refine lv_iload_n hx hb dX2_put_61 rfl (lv_at hl 2 rfl) ?_
          refine hm_put (ws' := [oc2 h0 r_t d_t t_bits t_offset t_band t_rule a2 t_step t_draws t_heat t_hour t_seenCount]) cb_X2 hx hb hown X w 0 8 fl_X2_37 dX2_put_62 rfl (by decide) (Nat.le_of_ble_eq_true rfl) rfl rfl rfl rfl (fun H locs w => ?_)
          refine lv_goto (tgt := 76) hx hb dX2_put_65 (by decide) ?_
          exact hQ _ _ _ _ (t_offset, t_band, t_rule, a2, t_step) (fun _ => 0) hf w dX2_put_76
        · have hf := pf_e c1_3 hf
          by_cases c1_4 : a1 = 4
          · have hf := pf_t c1_4 hf
            refine lv_tableIn (off := 67) (tgt := 68) hx hb dX2_put_1 (by rw [c1_4]; decide) (by rw [c1_4]; decide) (by rw [c1_4]; rfl) (by decide) ?_
            refine lv_aload_n hx hb dX2_put_68 rfl (lv_at hl 0 rfl) ?_
            refine lv_iload_n hx hb dX2_put_69 rfl (lv_at hl 2 rfl) ?_
            refine hm_put (ws' := [oc2 h0 r_t d_t t_bits t_offset t_band t_rule t_noise a2 t_draws t_heat t_hour t_seenCount]) cb_X2 hx hb hown X w 0 9 fl_X2_40 dX2_put_70 rfl (by decide) (Nat.le_of_ble_eq_true rfl) rfl rfl rfl rfl (fun H locs w => ?_)
            refine lv_goto (tgt := 76) hx hb dX2_put_73 (by decide) ?_
            exact hQ _ _ _ _ (t_offset, t_band, t_rule, t_noise, a2) (fun _ => 0) hf w dX2_put_76
          · have hf := pf_e c1_4 hf
            refine lv_tableOut (tgt := 76) hx hb dX2_put_1 (hm_out (fun k h1 h2 => by have u := And.intro h1 h2; have v0 := hm_ti c1_0; rw [show (0 : Int32).toInt = 0 from by decide] at v0; have v1 := hm_ti c1_1; rw [show (1 : Int32).toInt = 1 from by decide] at v1; have v2 := hm_ti c1_2; rw [show (2 : Int32).toInt = 2 from by decide] at v2; have v3 := hm_ti c1_3; rw [show (3 : Int32).toInt = 3 from by decide] at v3; have v4 := hm_ti c1_4; rw [show (4 : Int32).toInt = 4 from by decide] at v4; omega)) (by decide) ?_
            exact hQ _ _ _ _ (t_offset, t_band, t_rule, t_noise, t_step) (fun _ => 0) hf w dX2_put_76
set_option maxHeartbeats 8000000 in
set_option maxRecDepth 100000 in
theorem ct_X2_weight (l : Launch) (E : hm_E) (sz : Nat) (h0 : Nat) (r_t : Nat → Nat) (d_t : Nat) (t_bits t_offset t_band t_rule t_noise t_step t_draws t_heat t_hour t_seenCount : Int32) (t_off : Nat → Int32) (t_size : Nat → Int32) (a1 : Int32) (R : Int32 × Unit) (hf : pf_X2_weight a1 t_size t_off = some R) : hm_Mi l E yX2_weight cX2_weight 2 .int [] (hm_rr 0 0 0 0) [.ref h0, .int a1] sz [oc2 h0 r_t d_t t_bits t_offset t_band t_rule t_noise t_step t_draws t_heat t_hour t_seenCount, ic E (r_t 2) 12 t_off, ic E (r_t 1) 12 t_size] R.1 (fun _ => [oc2 h0 r_t d_t t_bits t_offset t_band t_rule t_noise t_step t_draws t_heat t_hour t_seenCount, ic E (r_t 2) 12 t_off, ic E (r_t 1) 12 t_size]) := by
  refine hm_ct_i R (fun u qs => [oc2 h0 r_t d_t t_bits t_offset t_band t_rule t_noise t_step t_draws t_heat t_hour t_seenCount, ic E (r_t 2) 12 t_off, ic E (r_t 1) 12 t_size]) (by decide) (Nat.le_of_ble_eq_true rfl) (Or.inl rfl) ?_
  intro p e s m args below meth c A Q ls H locs hx hb hml hown X hA Y hex w hl hQ
  have hl : lv_has ls 2 [(0, .ref h0), (1, .int a1)] := hl
  unfold pf_X2_weight at hf
  refine lv_aload_n hx hb dX2_weight_0 rfl (lv_at hl 0 rfl) ?_
  refine hm_get cb_X2 hx hb hown X w 0 1 fl_X2_15 dX2_weight_1 rfl (by decide) rfl ?_
  refine lv_iload_n hx hb dX2_weight_4 rfl (lv_at hl 1 rfl) ?_
  obtain ⟨g5, hf⟩ := pf_ckI hf
  refine hm_iald hx hb X w 2 dX2_weight_5 rfl g5 ?_
  refine lv_aload_n hx hb dX2_weight_6 rfl (lv_at hl 0 rfl) ?_
  refine hm_get cb_X2 hx hb hown X w 0 2 fl_X2_19 dX2_weight_7 rfl (by decide) rfl ?_
  refine lv_iload_n hx hb dX2_weight_10 rfl (lv_at hl 1 rfl) ?_
  obtain ⟨g11, hf⟩ := pf_ckI hf
  refine hm_iald hx hb X w 1 dX2_weight_11 rfl g11 ?_
  refine lv_iadd hx hb dX2_weight_12 ?_
  exact hQ _ _ _ _ _ () (fun _ => 0) hf rfl w dX2_weight_13