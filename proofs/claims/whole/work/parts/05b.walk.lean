set_option maxHeartbeats 8000000 in
set_option maxRecDepth 100000 in
theorem ct_X2_weightsBelow (l : Launch) (E : hm_E) (sz : Nat) (h0 : Nat) (r_t : Nat → Nat) (d_t : Nat) (t_bits t_offset t_band t_rule t_noise t_step t_draws t_heat t_hour t_seenCount : Int32) (t_off : Nat → Int32) (t_size : Nat → Int32) (a1 : Int32) (R : Int32 × Unit) (hf : pf_X2_weightsBelow a1 t_bits t_size t_off = some R) : hm_Mi l E yX2_weightsBelow cX2_weightsBelow 4 .int [] (hm_rr 1 21 0 0) [.ref h0, .int a1] sz [oc2 h0 r_t d_t t_bits t_offset t_band t_rule t_noise t_step t_draws t_heat t_hour t_seenCount, ic E (r_t 2) 12 t_off, ic E (r_t 1) 12 t_size] R.1 (fun _ => [oc2 h0 r_t d_t t_bits t_offset t_band t_rule t_noise t_step t_draws t_heat t_hour t_seenCount, ic E (r_t 2) 12 t_off, ic E (r_t 1) 12 t_size]) := by
  refine hm_ct_i R (fun u qs => [oc2 h0 r_t d_t t_bits t_offset t_band t_rule t_noise t_step t_draws t_heat t_hour t_seenCount, ic E (r_t 2) 12 t_off, ic E (r_t 1) 12 t_size]) (by decide) (Nat.le_of_ble_eq_true rfl) (Or.inl rfl) ?_
  intro p e s m args below meth c A Q ls H locs hx hb hml hown X hA Y hex w hl hQ
  have hl : lv_has ls 4 [(0, .ref h0), (1, .int a1)] := hl
  unfold pf_X2_weightsBelow at hf
  refine lv_iconst (v := 0) hx hb dX2_weightsBelow_0 (by decide) ?_
  refine lv_istore_n (lv' := [(2, .int 0), (0, .ref h0), (1, .int a1)]) hx hb dX2_weightsBelow_1 rfl hl (by decide) rfl (fun ls hl => ?_)
  refine lv_iconst (v := 0) hx hb dX2_weightsBelow_2 (by decide) ?_
  refine lv_istore_n (lv' := [(3, .int 0), (2, .int 0), (0, .ref h0), (1, .int a1)]) hx hb dX2_weightsBelow_3 rfl hl (by decide) rfl (fun ls hl => ?_)
  have klp_X2_weightsBelow_4 : ∀ (n : Nat) (x1 : Int32) (x2 : Int32) (H : Heap) (locs : List Loc) (ls : Array Slot), lp_X2_weightsBelow_4 a1 t_bits t_off t_size n x1 x2 = some R → hm_W E A s.heap [oc2 h0 r_t d_t t_bits t_offset t_band t_rule t_noise t_step t_draws t_heat t_hour t_seenCount, ic E (r_t 2) 12 t_off, ic E (r_t 1) 12 t_size] H locs → lv_has ls 4 [(0, .ref h0), (1, .int a1), (2, .int x1), (3, .int x2)] → W p l e (hm_rr 1 21 0 0) s m args below meth c H locs 0 0 Q (F0 m 4 ls []) := by
    intro n
    induction n with
    | zero =>
      intro x1 x2 H locs ls hf w hl
      exact pf_no hf
    | succ n ih4 =>
      intro x1 x2 H locs ls hf w hl
      rw [lp_X2_weightsBelow_4] at hf
      refine lv_iload_n hx hb dX2_weightsBelow_4 rfl (lv_at hl 3 rfl) ?_
      refine lv_iload_n hx hb dX2_weightsBelow_5 rfl (lv_at hl 1 rfl) ?_
      refine lv_icmp_ge (tgt := 31) hx hb dX2_weightsBelow_6 (by decide) (fun c6 => ?_) (fun c6 => ?_)
      · have hf := pf_t c6 hf
        refine lv_iload_n hx hb dX2_weightsBelow_31 rfl (lv_at hl 2 rfl) ?_
        exact hQ _ _ _ _ _ () (fun _ => 0) hf rfl w dX2_weightsBelow_32
      · have hf := pf_e c6 hf
        refine lv_iload_n hx hb dX2_weightsBelow_9 rfl (lv_at hl 3 rfl) ?_
        refine lv_aload_n hx hb dX2_weightsBelow_10 rfl (lv_at hl 0 rfl) ?_
        refine hm_get cb_X2 hx hb hown X w 0 0 fl_X2_9 dX2_weightsBelow_11 rfl (by decide) rfl ?_
        refine lv_icmp_ge (tgt := 31) hx hb dX2_weightsBelow_14 (by decide) (fun c14 => ?_) (fun c14 => ?_)
        · have hf := pf_t c14 hf
          refine lv_iload_n hx hb dX2_weightsBelow_31 rfl (lv_at hl 2 rfl) ?_
          exact hQ _ _ _ _ _ () (fun _ => 0) hf rfl w dX2_weightsBelow_32
        · have hf := pf_e c14 hf
          refine lv_iload_n hx hb dX2_weightsBelow_17 rfl (lv_at hl 2 rfl) ?_
          refine lv_aload_n hx hb dX2_weightsBelow_18 rfl (lv_at hl 0 rfl) ?_
          refine lv_iload_n hx hb dX2_weightsBelow_19 rfl (lv_at hl 3 rfl) ?_
          obtain ⟨r3, hc20, hf⟩ := pf_bi_0 hf
          refine hm_aft_i (ws' := fun _ => [oc2 h0 r_t d_t t_bits t_offset t_band t_rule t_noise t_step t_draws t_heat t_hour t_seenCount, ic E (r_t 2) 12 t_off, ic E (r_t 1) 12 t_size]) (hm_runV (rest := [.int x1]) hx hb hml hown X hA Y w 0 (ci := 2) (T := TX2) (N := 17) rfl rfl mw_X2_weight ml_X2_82 dX2_weightsBelow_20 hm_ac0 [.int x2] rfl [0, 1, 2] rfl rfl (ct_X2_weight l E H.size h0 r_t d_t t_bits t_offset t_band t_rule t_noise t_step t_draws t_heat t_hour t_seenCount t_off t_size x2 (r3, ()) hc20) rfl hl.1 ⟨⟨rfl, rfl⟩, ⟨Nat.le_of_ble_eq_true rfl, Nat.le_of_ble_eq_true rfl⟩, ⟨Nat.le_of_ble_eq_true rfl, Nat.le_of_ble_eq_true rfl⟩, Nat.le_of_ble_eq_true rfl⟩) hA w [0, 1, 2] [] [0, 1, 2] rfl rfl (by decide) (fun _ => rfl) (fun _ H locs w => ?_)
          refine lv_iadd hx hb dX2_weightsBelow_23 ?_
          refine lv_topi (fun x4 ex4 => ?_)
          have hf := pf_nm ex4 hf
          refine lv_istore_n (lv' := [(2, .int x4), (0, .ref h0), (1, .int a1), (3, .int x2)]) hx hb dX2_weightsBelow_24 rfl hl (by decide) rfl (fun ls hl => ?_)
          obtain ⟨x5, ex5⟩ : ∃ y : Int32, y = (x2 + 1) := ⟨_, rfl⟩
          have hf := pf_nm ex5 hf
          refine lv_iinc (v := x5) (lv' := [(3, .int x5), (2, .int x4), (0, .ref h0), (1, .int a1)]) hx hb dX2_weightsBelow_25 hl (k := 3) rfl (by rw [ex5]; rfl) (by decide) rfl (fun ls hl => ?_)
          refine lv_goto (tgt := 4) hx hb dX2_weightsBelow_28 (by decide) ?_
          exact ih4 _ _ _ _ _ hf w (lv_sub hl [2, 3, 1, 0] rfl)
  exact klp_X2_weightsBelow_4 FU _ _ _ _ _ hf w (lv_sub hl [2, 3, 1, 0] rfl)
set_option maxHeartbeats 8000000 in
set_option maxRecDepth 100000 in
theorem ct_X2_allSizes (l : Launch) (E : hm_E) (sz : Nat) (h0 : Nat) (r_t : Nat → Nat) (d_t : Nat) (t_bits t_offset t_band t_rule t_noise t_step t_draws t_heat t_hour t_seenCount : Int32) (t_size : Nat → Int32) (R : Int32 × Unit) (hf : pf_X2_allSizes t_bits t_size = some R) : hm_Mi l E yX2_allSizes cX2_allSizes 3 .int [] (hm_rr 0 0 0 0) [.ref h0] sz [oc2 h0 r_t d_t t_bits t_offset t_band t_rule t_noise t_step t_draws t_heat t_hour t_seenCount, ic E (r_t 1) 12 t_size] R.1 (fun _ => [oc2 h0 r_t d_t t_bits t_offset t_band t_rule t_noise t_step t_draws t_heat t_hour t_seenCount, ic E (r_t 1) 12 t_size]) := by
  refine hm_ct_i R (fun u qs => [oc2 h0 r_t d_t t_bits t_offset t_band t_rule t_noise t_step t_draws t_heat t_hour t_seenCount, ic E (r_t 1) 12 t_size]) (by decide) (Nat.le_of_ble_eq_true rfl) (Or.inl rfl) ?_
  intro p e s m args below meth c A Q ls H locs hx hb hml hown X hA Y hex w hl hQ
  have hl : lv_has ls 3 [(0, .ref h0)] := hl
  unfold pf_X2_allSizes at hf
  refine lv_iconst (v := 0) hx hb dX2_allSizes_0 (by decide) ?_
  refine lv_istore_n (lv' := [(1, .int 0), (0, .ref h0)]) hx hb dX2_allSizes_1 rfl hl (by decide) rfl (fun ls hl => ?_)
  refine lv_iconst (v := 0) hx hb dX2_allSizes_2 (by decide) ?_
  refine lv_istore_n (lv' := [(2, .int 0), (1, .int 0), (0, .ref h0)]) hx hb dX2_allSizes_3 rfl hl (by decide) rfl (fun ls hl => ?_)
  have klp_X2_allSizes_4 : ∀ (n : Nat) (x1 : Int32) (x2 : Int32) (H : Heap) (locs : List Loc) (ls : Array Slot), lp_X2_allSizes_4 t_bits t_size n x1 x2 = some R → hm_W E A s.heap [oc2 h0 r_t d_t t_bits t_offset t_band t_rule t_noise t_step t_draws t_heat t_hour t_seenCount, ic E (r_t 1) 12 t_size] H locs → lv_has ls 3 [(0, .ref h0), (1, .int x1), (2, .int x2)] → W p l e (hm_rr 0 0 0 0) s m args below meth c H locs 0 0 Q (F0 m 4 ls []) := by
    intro n
    induction n with
    | zero =>
      intro x1 x2 H locs ls hf w hl
      exact pf_no hf
    | succ n ih4 =>
      intro x1 x2 H locs ls hf w hl
      rw [lp_X2_allSizes_4] at hf
      refine lv_iload_n hx hb dX2_allSizes_4 rfl (lv_at hl 2 rfl) ?_
      refine lv_aload_n hx hb dX2_allSizes_5 rfl (lv_at hl 0 rfl) ?_
      refine hm_get cb_X2 hx hb hown X w 0 0 fl_X2_9 dX2_allSizes_6 rfl (by decide) rfl ?_
      refine lv_icmp_ge (tgt := 27) hx hb dX2_allSizes_9 (by decide) (fun c9 => ?_) (fun c9 => ?_)
      · have hf := pf_t c9 hf
        refine lv_iload_n hx hb dX2_allSizes_27 rfl (lv_at hl 1 rfl) ?_
        exact hQ _ _ _ _ _ () (fun _ => 0) hf rfl w dX2_allSizes_28
      · have hf := pf_e c9 hf
        refine lv_iload_n hx hb dX2_allSizes_12 rfl (lv_at hl 1 rfl) ?_
        refine lv_aload_n hx hb dX2_allSizes_13 rfl (lv_at hl 0 rfl) ?_
        refine hm_get cb_X2 hx hb hown X w 0 1 fl_X2_15 dX2_allSizes_14 rfl (by decide) rfl ?_
        refine lv_iload_n hx hb dX2_allSizes_17 rfl (lv_at hl 2 rfl) ?_
        obtain ⟨g18, hf⟩ := pf_ckI hf
        refine hm_iald hx hb X w 1 dX2_allSizes_18 rfl g18 ?_
        refine lv_iadd hx hb dX2_allSizes_19 ?_
        refine lv_topi (fun x3 ex3 => ?_)
        have hf := pf_nm ex3 hf
        refine lv_istore_n (lv' := [(1, .int x3), (0, .ref h0), (2, .int x2)]) hx hb dX2_allSizes_20 rfl hl (by decide) rfl (fun ls hl => ?_)
        obtain ⟨x4, ex4⟩ : ∃ y : Int32, y = (x2 + 1) := ⟨_, rfl⟩
        have hf := pf_nm ex4 hf
        refine lv_iinc (v := x4) (lv' := [(2, .int x4), (1, .int x3), (0, .ref h0)]) hx hb dX2_allSizes_21 hl (k := 2) rfl (by rw [ex4]; rfl) (by decide) rfl (fun ls hl => ?_)
        refine lv_goto (tgt := 4) hx hb dX2_allSizes_24 (by decide) ?_
        exact ih4 _ _ _ _ _ hf w (lv_sub hl [2, 1, 0] rfl)
  exact klp_X2_allSizes_4 FU _ _ _ _ _ hf w (lv_sub hl [2, 1, 0] rfl)
set_option maxHeartbeats 8000000 in
set_option maxRecDepth 100000 in
theorem ct_X2_allWorths (l : Launch) (E : hm_E) (sz : Nat) (h0 : Nat) (r_t : Nat → Nat) (d_t : Nat) (t_bits t_offset t_band t_rule t_noise t_step t_draws t_heat t_hour t_seenCount : Int32) (t_worth : Nat → Int32) (R : Int32 × Unit) (hf : pf_X2_allWorths t_bits t_worth = some R) : hm_Mi l E yX2_allWorths cX2_allWorths 3 .int [] (hm_rr 0 0 0 0) [.ref h0] sz [oc2 h0 r_t d_t t_bits t_offset t_band t_rule t_noise t_step t_draws t_heat t_hour t_seenCount, ic E (r_t 3) 12 t_worth] R.1 (fun _ => [oc2 h0 r_t d_t t_bits t_offset t_band t_rule t_noise t_step t_draws t_heat t_hour t_seenCount, ic E (r_t 3) 12 t_worth]) := by
  refine hm_ct_i R (fun u qs => [oc2 h0 r_t d_t t_bits t_offset t_band t_rule t_noise t_step t_draws t_heat t_hour t_seenCount, ic E (r_t 3) 12 t_worth]) (by decide) (Nat.le_of_ble_eq_true rfl) (Or.inl rfl) ?_
  intro p e s m args below meth c A Q ls H locs hx hb hml hown X hA Y hex w hl hQ
  have hl : lv_has ls 3 [(0, .ref h0)] := hl
  unfold pf_X2_allWorths at hf
  refine lv_iconst (v := 0) hx hb dX2_allWorths_0 (by decide) ?_
  refine lv_istore_n (lv' := [(1, .int 0), (0, .ref h0)]) hx hb dX2_allWorths_1 rfl hl (by decide) rfl (fun ls hl => ?_)
  refine lv_iconst (v := 0) hx hb dX2_allWorths_2 (by decide) ?_
  refine lv_istore_n (lv' := [(2, .int 0), (1, .int 0), (0, .ref h0)]) hx hb dX2_allWorths_3 rfl hl (by decide) rfl (fun ls hl => ?_)
  have klp_X2_allWorths_4 : ∀ (n : Nat) (x1 : Int32) (x2 : Int32) (H : Heap) (locs : List Loc) (ls : Array Slot), lp_X2_allWorths_4 t_bits t_worth n x1 x2 = some R → hm_W E A s.heap [oc2 h0 r_t d_t t_bits t_offset t_band t_rule t_noise t_step t_draws t_heat t_hour t_seenCount, ic E (r_t 3) 12 t_worth] H locs → lv_has ls 3 [(0, .ref h0), (1, .int x1), (2, .int x2)] → W p l e (hm_rr 0 0 0 0) s m args below meth c H locs 0 0 Q (F0 m 4 ls []) := by
    intro n
    induction n with
    | zero =>
      intro x1 x2 H locs ls hf w hl
      exact pf_no hf
    | succ n ih4 =>
      intro x1 x2 H locs ls hf w hl
      rw [lp_X2_allWorths_4] at hf
      refine lv_iload_n hx hb dX2_allWorths_4 rfl (lv_at hl 2 rfl) ?_
      refine lv_aload_n hx hb dX2_allWorths_5 rfl (lv_at hl 0 rfl) ?_
      refine hm_get cb_X2 hx hb hown X w 0 0 fl_X2_9 dX2_allWorths_6 rfl (by decide) rfl ?_
      refine lv_icmp_ge (tgt := 27) hx hb dX2_allWorths_9 (by decide) (fun c9 => ?_) (fun c9 => ?_)
      · have hf := pf_t c9 hf
        refine lv_iload_n hx hb dX2_allWorths_27 rfl (lv_at hl 1 rfl) ?_
        exact hQ _ _ _ _ _ () (fun _ => 0) hf rfl w dX2_allWorths_28
      · have hf := pf_e c9 hf
        refine lv_iload_n hx hb dX2_allWorths_12 rfl (lv_at hl 1 rfl) ?_
        refine lv_aload_n hx hb dX2_allWorths_13 rfl (lv_at hl 0 rfl) ?_
        refine hm_get cb_X2 hx hb hown X w 0 3 fl_X2_22 dX2_allWorths_14 rfl (by decide) rfl ?_
        refine lv_iload_n hx hb dX2_allWorths_17 rfl (lv_at hl 2 rfl) ?_
        obtain ⟨g18, hf⟩ := pf_ckI hf
        refine hm_iald hx hb X w 1 dX2_allWorths_18 rfl g18 ?_
        refine lv_iadd hx hb dX2_allWorths_19 ?_
        refine lv_topi (fun x3 ex3 => ?_)
        have hf := pf_nm ex3 hf
        refine lv_istore_n (lv' := [(1, .int x3), (0, .ref h0), (2, .int x2)]) hx hb dX2_allWorths_20 rfl hl (by decide) rfl (fun ls hl => ?_)
        obtain ⟨x4, ex4⟩ : ∃ y : Int32, y = (x2 + 1) := ⟨_, rfl⟩
        have hf := pf_nm ex4 hf
        refine lv_iinc (v := x4) (lv' := [(2, .int x4), (1, .int x3), (0, .ref h0)]) hx hb dX2_allWorths_21 hl (k := 2) rfl (by rw [ex4]; rfl) (by decide) rfl (fun ls hl => ?_)
        refine lv_goto (tgt := 4) hx hb dX2_allWorths_24 (by decide) ?_
        exact ih4 _ _ _ _ _ hf w (lv_sub hl [2, 1, 0] rfl)
  exact klp_X2_allWorths_4 FU _ _ _ _ _ hf w (lv_sub hl [2, 1, 0] rfl)
set_option maxHeartbeats 8000000 in
set_option maxRecDepth 100000 in
theorem ct_X2_isShort (l : Launch) (E : hm_E) (sz : Nat) (h0 : Nat) (r_t : Nat → Nat) (d_t : Nat) (t_bits t_offset t_band t_rule t_noise t_step t_draws t_heat t_hour t_seenCount : Int32) (t_off : Nat → Int32) (t_size : Nat → Int32) (a1 : Int32) (R : Int32 × Unit) (hf : pf_X2_isShort a1 t_bits t_size t_off = some R) : hm_Mi l E yX2_isShort cX2_isShort 2 .boolean [] (hm_rr 2 44 0 0) [.ref h0, .int a1] sz [oc2 h0 r_t d_t t_bits t_offset t_band t_rule t_noise t_step t_draws t_heat t_hour t_seenCount, ic E (r_t 2) 12 t_off, ic E (r_t 1) 12 t_size] R.1 (fun _ => [oc2 h0 r_t d_t t_bits t_offset t_band t_rule t_noise t_step t_draws t_heat t_hour t_seenCount, ic E (r_t 2) 12 t_off, ic E (r_t 1) 12 t_size]) := by
  refine hm_ct_i R (fun u qs => [oc2 h0 r_t d_t t_bits t_offset t_band t_rule t_noise t_step t_draws t_heat t_hour t_seenCount, ic E (r_t 2) 12 t_off, ic E (r_t 1) 12 t_size]) (by decide) (Nat.le_of_ble_eq_true rfl) (Or.inr rfl) ?_
  intro p e s m args below meth c A Q ls H locs hx hb hml hown X hA Y hex w hl hQ
  have hl : lv_has ls 2 [(0, .ref h0), (1, .int a1)] := hl
  unfold pf_X2_isShort at hf
  refine lv_aload_n hx hb dX2_isShort_0 rfl (lv_at hl 0 rfl) ?_
  refine lv_iload_n hx hb dX2_isShort_1 rfl (lv_at hl 1 rfl) ?_
  obtain ⟨r1, hc2, hf⟩ := pf_bi_0 hf
  refine hm_aft_i (ws' := fun _ => [oc2 h0 r_t d_t t_bits t_offset t_band t_rule t_noise t_step t_draws t_heat t_hour t_seenCount, ic E (r_t 2) 12 t_off, ic E (r_t 1) 12 t_size]) (hm_runV (rest := []) hx hb hml hown X hA Y w 0 (ci := 2) (T := TX2) (N := 17) rfl rfl mw_X2_weight ml_X2_82 dX2_isShort_2 hm_ac0 [.int a1] rfl [0, 1, 2] rfl rfl (ct_X2_weight l E H.size h0 r_t d_t t_bits t_offset t_band t_rule t_noise t_step t_draws t_heat t_hour t_seenCount t_off t_size a1 (r1, ()) hc2) rfl hl.1 ⟨⟨rfl, rfl⟩, ⟨Nat.le_of_ble_eq_true rfl, Nat.le_of_ble_eq_true rfl⟩, ⟨Nat.le_of_ble_eq_true rfl, Nat.le_of_ble_eq_true rfl⟩, Nat.le_of_ble_eq_true rfl⟩) hA w [0, 1, 2] [] [0, 1, 2] rfl rfl (by decide) (fun _ => rfl) (fun _ H locs w => ?_)
  refine lv_aload_n hx hb dX2_isShort_5 rfl (lv_at hl 0 rfl) ?_
  refine lv_iload_n hx hb dX2_isShort_6 rfl (lv_at hl 1 rfl) ?_
  obtain ⟨r2, hc7, hf⟩ := pf_bi_0 hf
  refine hm_aft_i (ws' := fun _ => [oc2 h0 r_t d_t t_bits t_offset t_band t_rule t_noise t_step t_draws t_heat t_hour t_seenCount, ic E (r_t 2) 12 t_off, ic E (r_t 1) 12 t_size]) (hm_runV (rest := [.int r1]) hx hb hml hown X hA Y w 0 (ci := 2) (T := TX2) (N := 17) rfl rfl mw_X2_weightsBelow ml_X2_86 dX2_isShort_7 hm_ac0 [.int a1] rfl [0, 1, 2] rfl rfl (ct_X2_weightsBelow l E H.size h0 r_t d_t t_bits t_offset t_band t_rule t_noise t_step t_draws t_heat t_hour t_seenCount t_off t_size a1 (r2, ()) hc7) rfl hl.1 ⟨⟨rfl, rfl⟩, ⟨Nat.le_of_ble_eq_true rfl, Nat.le_of_ble_eq_true rfl⟩, ⟨Nat.le_of_ble_eq_true rfl, Nat.le_of_ble_eq_true rfl⟩, Nat.le_of_ble_eq_true rfl⟩) hA w [0, 1, 2] [] [0, 1, 2] rfl rfl (by decide) (fun _ => rfl) (fun _ H locs w => ?_)
  refine lv_icmp_le (tgt := 17) hx hb dX2_isShort_10 (by decide) (fun c10 => ?_) (fun c10 => ?_)
  · have hf := pf_t c10 hf
    refine lv_iconst (v := 0) hx hb dX2_isShort_17 (by decide) ?_
    exact hQ _ _ _ _ _ () (fun _ => 0) hf rfl w dX2_isShort_18
  · have hf := pf_e c10 hf
    refine lv_iconst (v := 1) hx hb dX2_isShort_13 (by decide) ?_
    refine lv_goto (tgt := 18) hx hb dX2_isShort_14 (by decide) ?_
    exact hQ _ _ _ _ _ () (fun _ => 0) hf rfl w dX2_isShort_18
set_option maxHeartbeats 8000000 in
set_option maxRecDepth 100000 in
theorem ct_X2_drawOf (l : Launch) (E : hm_E) (sz : Nat) (h0 : Nat) (r_t : Nat → Nat) (d_t : Nat) (t_bits t_offset t_band t_rule t_noise t_step t_draws t_heat t_hour t_seenCount : Int32) (a1 : Int32) (R : Int32 × Int32) (hf : pf_X2_drawOf a1 t_draws = some R) : hm_Mi l E yX2_drawOf cX2_drawOf 2 .int [] (hm_rr 0 0 0 0) [.ref h0, .int a1] sz [oc2 h0 r_t d_t t_bits t_offset t_band t_rule t_noise t_step t_draws t_heat t_hour t_seenCount] R.1 (fun _ => [oc2 h0 r_t d_t t_bits t_offset t_band t_rule t_noise t_step R.2 t_heat t_hour t_seenCount]) := by
  refine hm_ct_i R (fun u qs => [oc2 h0 r_t d_t t_bits t_offset t_band t_rule t_noise t_step u t_heat t_hour t_seenCount]) (by decide) (Nat.le_of_ble_eq_true rfl) (Or.inl rfl) ?_
  intro p e s m args below meth c A Q ls H locs hx hb hml hown X hA Y hex w hl hQ
  have hl : lv_has ls 2 [(0, .ref h0), (1, .int a1)] := hl
  unfold pf_X2_drawOf at hf
  refine lv_aload_n hx hb dX2_drawOf_0 rfl (lv_at hl 0 rfl) ?_
  refine lv_aload_n hx hb dX2_drawOf_1 rfl (lv_at hl 0 rfl) ?_
  refine hm_get cb_X2 hx hb hown X w 0 10 fl_X2_43 dX2_drawOf_2 rfl (by decide) rfl ?_
  refine lv_ldc (v := 1103515245) hx hb hown (X.use ck_X2_89 rfl) dX2_drawOf_5 ?_
  refine lv_imul hx hb dX2_drawOf_7 ?_
  refine lv_sipush (v := 12345) hx hb dX2_drawOf_8 (by decide) ?_
  refine lv_iadd hx hb dX2_drawOf_11 ?_
  refine lv_topi (fun x1 ex1 => ?_)
  have hf := pf_nm ex1 hf
  refine hm_put (ws' := [oc2 h0 r_t d_t t_bits t_offset t_band t_rule t_noise t_step x1 t_heat t_hour t_seenCount]) cb_X2 hx hb hown X w 0 10 fl_X2_43 dX2_drawOf_12 rfl (by decide) (Nat.le_of_ble_eq_true rfl) rfl rfl rfl rfl (fun H locs w => ?_)
  refine lv_iload_n hx hb dX2_drawOf_15 rfl (lv_at hl 1 rfl) ?_
  refine lv_iconst (v := 1) hx hb dX2_drawOf_16 (by decide) ?_
  refine lv_icmp_ge (tgt := 24) hx hb dX2_drawOf_17 (by decide) (fun c17 => ?_) (fun c17 => ?_)
  · have hf := pf_t c17 hf
    refine lv_aload_n hx hb dX2_drawOf_24 rfl (lv_at hl 0 rfl) ?_
    refine hm_get cb_X2 hx hb hown X w 0 10 fl_X2_43 dX2_drawOf_25 rfl (by decide) rfl ?_
    refine lv_bipush (v := 16) hx hb dX2_drawOf_28 (by decide) ?_
    refine lv_iushr (v := ((x1).toUInt32 >>> ((16 : Int32).toUInt32 &&& Int32.toUInt32 31)).toInt32) hx hb dX2_drawOf_30 rfl ?_
    refine lv_iload_n hx hb dX2_drawOf_31 rfl (lv_at hl 1 rfl) ?_
    obtain ⟨g32, hf⟩ := pf_ckD hf
    refine lv_irem hx hb dX2_drawOf_32 g32 ?_
    exact hQ _ _ _ _ _ x1 (fun _ => 0) hf rfl w dX2_drawOf_33
  · have hf := pf_e c17 hf
    refine lv_iconst (v := 0) hx hb dX2_drawOf_20 (by decide) ?_
    refine lv_goto (tgt := 33) hx hb dX2_drawOf_21 (by decide) ?_
    exact hQ _ _ _ _ _ x1 (fun _ => 0) hf rfl w dX2_drawOf_33
set_option maxHeartbeats 8000000 in
set_option maxRecDepth 100000 in
theorem ct_X2_isLate (l : Launch) (E : hm_E) (sz : Nat) (h0 : Nat) (r_t : Nat → Nat) (d_t : Nat) (t_bits t_offset t_band t_rule t_noise t_step t_draws t_heat t_hour t_seenCount : Int32) (t_stuck : Nat → Int32) (a1 : Int32) (a2 : Int32) (R : Int32 × Unit) (hf : pf_X2_isLate a1 a2 t_stuck t_band = some R) : hm_Mi l E yX2_isLate cX2_isLate 3 .boolean [] (hm_rr 0 0 0 0) [.ref h0, .int a1, .int a2] sz [oc2 h0 r_t d_t t_bits t_offset t_band t_rule t_noise t_step t_draws t_heat t_hour t_seenCount, ic E (r_t 4) 12 t_stuck] R.1 (fun _ => [oc2 h0 r_t d_t t_bits t_offset t_band t_rule t_noise t_step t_draws t_heat t_hour t_seenCount, ic E (r_t 4) 12 t_stuck]) := by
  refine hm_ct_i R (fun u qs => [oc2 h0 r_t d_t t_bits t_offset t_band t_rule t_noise t_step t_draws t_heat t_hour t_seenCount, ic E (r_t 4) 12 t_stuck]) (by decide) (Nat.le_of_ble_eq_true rfl) (Or.inr rfl) ?_
  intro p e s m args below meth c A Q ls H locs hx hb hml hown X hA Y hex w hl hQ
  have hl : lv_has ls 3 [(0, .ref h0), (1, .int a1), (2, .int a2)] := hl
  unfold pf_X2_isLate at hf
  refine lv_aload_n hx hb dX2_isLate_0 rfl (lv_at hl 0 rfl) ?_
  refine hm_get cb_X2 hx hb hown X w 0 4 fl_X2_25 dX2_isLate_1 rfl (by decide) rfl ?_
  refine lv_iload_n hx hb dX2_isLate_4 rfl (lv_at hl 1 rfl) ?_
  obtain ⟨g5, hf⟩ := pf_ckI hf
  refine hm_iald hx hb X w 1 dX2_isLate_5 rfl g5 ?_
  refine lv_iconst (v := (-1)) hx hb dX2_isLate_6 (by decide) ?_
  refine lv_icmp_ne (tgt := 31) hx hb dX2_isLate_7 (by decide) (fun c7 => ?_) (fun c7 => ?_)
  · have hf := pf_e c7 hf
    refine lv_iconst (v := 0) hx hb dX2_isLate_31 (by decide) ?_
    exact hQ _ _ _ _ _ () (fun _ => 0) hf rfl w dX2_isLate_32
  · have hf := pf_t c7 hf
    refine lv_iload_n hx hb dX2_isLate_10 rfl (lv_at hl 2 rfl) ?_
    refine lv_aload_n hx hb dX2_isLate_11 rfl (lv_at hl 0 rfl) ?_
    refine hm_get cb_X2 hx hb hown X w 0 6 fl_X2_31 dX2_isLate_12 rfl (by decide) rfl ?_
    refine lv_ineg hx hb dX2_isLate_15 ?_
    refine lv_icmp_le (tgt := 31) hx hb dX2_isLate_16 (by decide) (fun c16 => ?_) (fun c16 => ?_)
    · have hf := pf_t c16 hf
      refine lv_iconst (v := 0) hx hb dX2_isLate_31 (by decide) ?_
      exact hQ _ _ _ _ _ () (fun _ => 0) hf rfl w dX2_isLate_32
    · have hf := pf_e c16 hf
      refine lv_iload_n hx hb dX2_isLate_19 rfl (lv_at hl 2 rfl) ?_
      refine lv_aload_n hx hb dX2_isLate_20 rfl (lv_at hl 0 rfl) ?_
      refine hm_get cb_X2 hx hb hown X w 0 6 fl_X2_31 dX2_isLate_21 rfl (by decide) rfl ?_
      refine lv_icmp_ge (tgt := 31) hx hb dX2_isLate_24 (by decide) (fun c24 => ?_) (fun c24 => ?_)
      · have hf := pf_t c24 hf
        refine lv_iconst (v := 0) hx hb dX2_isLate_31 (by decide) ?_
        exact hQ _ _ _ _ _ () (fun _ => 0) hf rfl w dX2_isLate_32
      · have hf := pf_e c24 hf
        refine lv_iconst (v := 1) hx hb dX2_isLate_27 (by decide) ?_
        refine lv_goto (tgt := 32) hx hb dX2_isLate_28 (by decide) ?_
        exact hQ _ _ _ _ _ () (fun _ => 0) hf rfl w dX2_isLate_32
set_option maxHeartbeats 8000000 in
set_option maxRecDepth 100000 in
theorem ct_X2_decide (l : Launch) (E : hm_E) (sz : Nat) (h0 : Nat) (r_t : Nat → Nat) (d_t : Nat) (t_bits t_offset t_band t_rule t_noise t_step t_draws t_heat t_hour t_seenCount : Int32) (t_stuck : Nat → Int32) (a1 : Int32) (a2 : Int32) (a3 : Int32) (R : Int32 × Int32) (hf : pf_X2_decide a1 a2 a3 t_stuck t_rule t_draws = some R) : hm_Mi l E yX2_decide cX2_decide 4 .int [] (hm_rr 1 21 0 0) [.ref h0, .int a1, .int a2, .int a3] sz [oc2 h0 r_t d_t t_bits t_offset t_band t_rule t_noise t_step t_draws t_heat t_hour t_seenCount, ic E (r_t 4) 12 t_stuck] R.1 (fun _ => [oc2 h0 r_t d_t t_bits t_offset t_band t_rule t_noise t_step R.2 t_heat t_hour t_seenCount, ic E (r_t 4) 12 t_stuck]) := by
  refine hm_ct_i R (fun u qs => [oc2 h0 r_t d_t t_bits t_offset t_band t_rule t_noise t_step u t_heat t_hour t_seenCount, ic E (r_t 4) 12 t_stuck]) (by decide) (Nat.le_of_ble_eq_true rfl) (Or.inl rfl) ?_
  intro p e s m args below meth c A Q ls H locs hx hb hml hown X hA Y hex w hl hQ
  have hl : lv_has ls 4 [(0, .ref h0), (1, .int a1), (2, .int a2), (3, .int a3)] := hl
  unfold pf_X2_decide at hf
  refine lv_aload_n hx hb dX2_decide_0 rfl (lv_at hl 0 rfl) ?_
  refine hm_get cb_X2 hx hb hown X w 0 4 fl_X2_25 dX2_decide_1 rfl (by decide) rfl ?_
  refine lv_iload_n hx hb dX2_decide_4 rfl (lv_at hl 1 rfl) ?_
  obtain ⟨g5, hf⟩ := pf_ckI hf
  refine hm_iald hx hb X w 1 dX2_decide_5 rfl g5 ?_
  refine lv_iconst (v := (-1)) hx hb dX2_decide_6 (by decide) ?_
  refine lv_icmp_eq (tgt := 17) hx hb dX2_decide_7 (by decide) (fun c7 => ?_) (fun c7 => ?_)
  · have hf := pf_t c7 hf
    refine lv_iload_n hx hb dX2_decide_17 rfl (lv_at hl 3 rfl) ?_
    obtain ⟨J52, hJ52, hf⟩ := pf_jn hf
    have kJ52 : ∀ (H : Heap) (locs : List Loc) (ls : Array Slot), J52 = some R → hm_W E A s.heap [oc2 h0 r_t d_t t_bits t_offset t_band t_rule t_noise t_step t_draws t_heat t_hour t_seenCount, ic E (r_t 4) 12 t_stuck] H locs → lv_has ls 4 [(2, .int a2)] → W p l e (hm_rr 1 21 0 0) s m args below meth c H locs 0 0 Q (F0 m 52 ls []) := by
      intro H locs ls hf w hl
      have hf := pf_j0 hJ52 hf
      refine lv_iload_n hx hb dX2_decide_52 rfl (lv_at hl 0 rfl) ?_
      refine lv_if_lt (tgt := 60) hx hb dX2_decide_53 (by decide) (fun c53 => ?_) (fun c53 => ?_)
      · have hf := pf_t c53 hf
        refine lv_iconst (v := 0) hx hb dX2_decide_60 (by decide) ?_
        exact hQ _ _ _ _ _ t_draws (fun _ => 0) hf rfl w dX2_decide_61
      · have hf := pf_e c53 hf
        refine lv_iconst (v := 1) hx hb dX2_decide_56 (by decide) ?_
        refine lv_goto (tgt := 61) hx hb dX2_decide_57 (by decide) ?_
        exact hQ _ _ _ _ _ t_draws (fun _ => 0) hf rfl w dX2_decide_61
    refine lv_if_eq (tgt := 52) hx hb dX2_decide_18 (by decide) (fun c18 => ?_) (fun c18 => ?_)
    · have hf := pf_t c18 hf
      exact kJ52 _ _ _ hf w (lv_sub hl [2] rfl)
    · have hf := pf_e c18 hf
      refine lv_aload_n hx hb dX2_decide_21 rfl (lv_at hl 0 rfl) ?_
      refine hm_get cb_X2 hx hb hown X w 0 7 fl_X2_34 dX2_decide_22 rfl (by decide) rfl ?_
      refine lv_iconst (v := 3) hx hb dX2_decide_25 (by decide) ?_
      refine lv_icmp_ge (tgt := 52) hx hb dX2_decide_26 (by decide) (fun c26 => ?_) (fun c26 => ?_)
      · have hf := pf_t c26 hf
        exact kJ52 _ _ _ hf w (lv_sub hl [2] rfl)
      · have hf := pf_e c26 hf
        refine lv_aload_n hx hb dX2_decide_29 rfl (lv_at hl 0 rfl) ?_
        refine hm_get cb_X2 hx hb hown X w 0 7 fl_X2_34 dX2_decide_30 rfl (by decide) rfl ?_
        refine lv_iconst (v := 2) hx hb dX2_decide_33 (by decide) ?_
        refine lv_icmp_ne (tgt := 45) hx hb dX2_decide_34 (by decide) (fun c34 => ?_) (fun c34 => ?_)
        · have hf := pf_e c34 hf
          refine lv_iconst (v := 1) hx hb dX2_decide_45 (by decide) ?_
          refine lv_aload_n hx hb dX2_decide_46 rfl (lv_at hl 0 rfl) ?_
          refine hm_get cb_X2 hx hb hown X w 0 7 fl_X2_34 dX2_decide_47 rfl (by decide) rfl ?_
          refine lv_isub hx hb dX2_decide_50 ?_
          exact hQ _ _ _ _ _ t_draws (fun _ => 0) hf rfl w dX2_decide_51
        · have hf := pf_t c34 hf
          refine lv_aload_n hx hb dX2_decide_37 rfl (lv_at hl 0 rfl) ?_
          refine lv_iconst (v := 2) hx hb dX2_decide_38 (by decide) ?_
          obtain ⟨r1, x2, hc39, hf⟩ := pf_bi_1 hf
          refine hm_aft_i (ws' := fun _ => [oc2 h0 r_t d_t t_bits t_offset t_band t_rule t_noise t_step x2 t_heat t_hour t_seenCount, ic E (r_t 4) 12 t_stuck]) (hm_runV (rest := []) hx hb hml hown X hA Y w 0 (ci := 2) (T := TX2) (N := 17) rfl rfl mw_X2_drawOf ml_X2_96 dX2_decide_39 hm_ac0 [.int 2] rfl [0] rfl rfl (ct_X2_drawOf l E H.size h0 r_t d_t t_bits t_offset t_band t_rule t_noise t_step t_draws t_heat t_hour t_seenCount 2 (r1, x2) hc39) rfl hl.1 ⟨⟨rfl, rfl⟩, ⟨Nat.le_of_ble_eq_true rfl, Nat.le_of_ble_eq_true rfl⟩, ⟨Nat.le_of_ble_eq_true rfl, Nat.le_of_ble_eq_true rfl⟩, Nat.le_of_ble_eq_true rfl⟩) hA w [0] [1] [1, 0] rfl rfl (by decide) (fun _ => rfl) (fun _ H locs w => ?_)
          refine lv_goto (tgt := 51) hx hb dX2_decide_42 (by decide) ?_
          exact hQ _ _ _ _ _ x2 (fun _ => 0) hf rfl w dX2_decide_51
  · have hf := pf_e c7 hf
    refine lv_aload_n hx hb dX2_decide_10 rfl (lv_at hl 0 rfl) ?_
    refine hm_get cb_X2 hx hb hown X w 0 4 fl_X2_25 dX2_decide_11 rfl (by decide) rfl ?_
    refine lv_iload_n hx hb dX2_decide_14 rfl (lv_at hl 1 rfl) ?_
    obtain ⟨g15, hf⟩ := pf_ckI hf
    refine hm_iald hx hb X w 1 dX2_decide_15 rfl g15 ?_
    exact hQ _ _ _ _ _ t_draws (fun _ => 0) hf rfl w dX2_decide_16
set_option maxHeartbeats 8000000 in
set_option maxRecDepth 100000 in
theorem ct_X2_codeOf (l : Launch) (E : hm_E) (sz : Nat) (h0 : Nat) (r_t : Nat → Nat) (d_t : Nat) (t_bits t_offset t_band t_rule t_noise t_step t_draws t_heat t_hour t_seenCount : Int32) (a1 : Int32) (R : Int32 × Unit) (hf : pf_X2_codeOf a1 t_step = some R) : hm_Mi l E yX2_codeOf cX2_codeOf 2 .int [] (hm_rr 0 0 0 0) [.ref h0, .int a1] sz [oc2 h0 r_t d_t t_bits t_offset t_band t_rule t_noise t_step t_draws t_heat t_hour t_seenCount] R.1 (fun _ => [oc2 h0 r_t d_t t_bits t_offset t_band t_rule t_noise t_step t_draws t_heat t_hour t_seenCount]) := by
  refine hm_ct_i R (fun u qs => [oc2 h0 r_t d_t t_bits t_offset t_band t_rule t_noise t_step t_draws t_heat t_hour t_seenCount]) (by decide) (Nat.le_of_ble_eq_true rfl) (Or.inl rfl) ?_
  intro p e s m args below meth c A Q ls H locs hx hb hml hown X hA Y hex w hl hQ
  have hl : lv_has ls 2 [(0, .ref h0), (1, .int a1)] := hl
  unfold pf_X2_codeOf at hf
  refine lv_aload_n hx hb dX2_codeOf_0 rfl (lv_at hl 0 rfl) ?_
  refine hm_get cb_X2 hx hb hown X w 0 9 fl_X2_40 dX2_codeOf_1 rfl (by decide) rfl ?_
  refine lv_iconst (v := 1) hx hb dX2_codeOf_4 (by decide) ?_
  refine lv_icmp_ge (tgt := 12) hx hb dX2_codeOf_5 (by decide) (fun c5 => ?_) (fun c5 => ?_)
  · have hf := pf_t c5 hf
    refine lv_iload_n hx hb dX2_codeOf_12 rfl (lv_at hl 1 rfl) ?_
    refine lv_iconst (v := 2) hx hb dX2_codeOf_13 (by decide) ?_
    refine lv_imul hx hb dX2_codeOf_14 ?_
    refine lv_aload_n hx hb dX2_codeOf_15 rfl (lv_at hl 0 rfl) ?_
    refine hm_get cb_X2 hx hb hown X w 0 9 fl_X2_40 dX2_codeOf_16 rfl (by decide) rfl ?_
    refine lv_iadd hx hb dX2_codeOf_19 ?_
    refine lv_aload_n hx hb dX2_codeOf_20 rfl (lv_at hl 0 rfl) ?_
    refine hm_get cb_X2 hx hb hown X w 0 9 fl_X2_40 dX2_codeOf_21 rfl (by decide) rfl ?_
    refine lv_iconst (v := 2) hx hb dX2_codeOf_24 (by decide) ?_
    refine lv_imul hx hb dX2_codeOf_25 ?_
    obtain ⟨g26, hf⟩ := pf_ckD hf
    refine lv_idiv hx hb dX2_codeOf_26 g26 ?_
    exact hQ _ _ _ _ _ () (fun _ => 0) hf rfl w dX2_codeOf_27
  · have hf := pf_e c5 hf
    refine lv_iconst (v := 0) hx hb dX2_codeOf_8 (by decide) ?_
    refine lv_goto (tgt := 27) hx hb dX2_codeOf_9 (by decide) ?_
    exact hQ _ _ _ _ _ () (fun _ => 0) hf rfl w dX2_codeOf_27
set_option maxHeartbeats 8000000 in
set_option maxRecDepth 100000 in
theorem ct_X2_run (l : Launch) (E : hm_E) (sz : Nat) (h0 : Nat) (h4 : Nat) (r_t : Nat → Nat) (d_t : Nat) (r_p4 : Nat → Nat) (t_bits t_offset t_band t_rule t_noise t_step t_draws t_heat t_hour t_seenCount p4_bits p4_sum p4_heldAtEnd p4_left p4_lates p4_ones p4_code : Int32) (t_off : Nat → Int32) (t_size : Nat → Int32) (t_stuck : Nat → Int32) (t_worth : Nat → Int32) (p4_apart : Nat → Int32) (p4_held : Nat → Int32) (p4_late : Nat → Int32) (p4_one : Nat → Int32) (a1 : Int32) (a2 : Int32) (a3 : Int32) (R : Int32 × Int32 × (Nat → Int32) × (Nat → Int32) × (Nat → Int32) × (Nat → Int32) × Int32 × Int32 × Int32 × Int32 × Int32 × Int32) (hf : pf_X2_run a1 a2 a3 t_size t_off t_worth t_stuck t_band t_rule t_noise t_step t_draws p4_one p4_late p4_apart p4_held = some R) : hm_Mv l E yX2_run cX2_run 7 [] (hm_rr 2 44 0 0) [.ref h0, .int a1, .int a2, .int a3, .ref h4] sz [oc2 h0 r_t d_t t_bits t_offset t_band t_rule t_noise t_step t_draws t_heat t_hour t_seenCount, oc1 h4 r_p4 p4_bits p4_sum p4_heldAtEnd p4_left p4_lates p4_ones p4_code, ic E (r_t 2) 12 t_off, ic E (r_t 1) 12 t_size, ic E (r_t 4) 12 t_stuck, ic E (r_t 3) 12 t_worth, ic E (r_p4 3) 12 p4_apart, ic E (r_p4 4) 12 p4_held, ic E (r_p4 2) 12 p4_late, ic E (r_p4 1) 12 p4_one] (fun _ => [oc2 h0 r_t d_t t_bits t_offset t_band t_rule t_noise t_step (R.1) t_heat t_hour t_seenCount, oc1 h4 r_p4 (R.2.1) (R.2.2.2.2.2.2.1) (R.2.2.2.2.2.2.2.1) (R.2.2.2.2.2.2.2.2.1) (R.2.2.2.2.2.2.2.2.2.1) (R.2.2.2.2.2.2.2.2.2.2.1) (R.2.2.2.2.2.2.2.2.2.2.2), ic E (r_t 2) 12 t_off, ic E (r_t 1) 12 t_size, ic E (r_t 4) 12 t_stuck, ic E (r_t 3) 12 t_worth, ic E (r_p4 3) 12 (R.2.2.2.2.1), ic E (r_p4 4) 12 (R.2.2.2.2.2.1), ic E (r_p4 2) 12 (R.2.2.2.1), ic E (r_p4 1) 12 (R.2.2.1)]) := by
  refine hm_ct_v R (fun u _ => [oc2 h0 r_t d_t t_bits t_offset t_band t_rule t_noise t_step (u.1) t_heat t_hour t_seenCount, oc1 h4 r_p4 (u.2.1) (u.2.2.2.2.2.2.1) (u.2.2.2.2.2.2.2.1) (u.2.2.2.2.2.2.2.2.1) (u.2.2.2.2.2.2.2.2.2.1) (u.2.2.2.2.2.2.2.2.2.2.1) (u.2.2.2.2.2.2.2.2.2.2.2), ic E (r_t 2) 12 t_off, ic E (r_t 1) 12 t_size, ic E (r_t 4) 12 t_stuck, ic E (r_t 3) 12 t_worth, ic E (r_p4 3) 12 (u.2.2.2.2.1), ic E (r_p4 4) 12 (u.2.2.2.2.2.1), ic E (r_p4 2) 12 (u.2.2.2.1), ic E (r_p4 1) 12 (u.2.2.1)]) (by decide) (Nat.le_of_ble_eq_true rfl) ?_
  intro p e s m args below meth c A Q ls H locs hx hb hml hown X hA Y hex hin w hl hQ
  have hl : lv_has ls 7 [(0, .ref h0), (1, .int a1), (2, .int a2), (3, .int a3), (4, .ref h4)] := hl
  unfold pf_X2_run at hf
  refine lv_aload hx hb dX2_run_0 (lv_at hl 4 rfl) ?_
  refine lv_iload_n hx hb dX2_run_2 rfl (lv_at hl 3 rfl) ?_
  obtain ⟨x1, x2, x3, x4, x5, hc3, hf⟩ := pf_bv_5 hf
  refine hm_aft_v (ws' := fun _ => [oc2 h0 r_t d_t t_bits t_offset t_band t_rule t_noise t_step t_draws t_heat t_hour t_seenCount, oc1 h4 r_p4 x1 x2 x3 p4_left x4 x5 p4_code, ic E (r_t 2) 12 t_off, ic E (r_t 1) 12 t_size, ic E (r_t 4) 12 t_stuck, ic E (r_t 3) 12 t_worth, ic E (r_p4 3) 12 p4_apart, ic E (r_p4 4) 12 p4_held, ic E (r_p4 2) 12 p4_late, ic E (r_p4 1) 12 p4_one]) (hm_runV (rest := []) hx hb hml hown X hA Y w 1 (ci := 1) (T := TX1) (N := 11) rfl rfl mw_X1_begin ml_X2_90 dX2_run_3 hm_ac0 [.int a3] rfl [1] rfl rfl (ct_X1_begin l E H.size h4 r_p4 p4_bits p4_sum p4_heldAtEnd p4_left p4_lates p4_ones p4_code a3 (x1, x2, x3, x4, x5) hc3) rfl hl.1 ⟨⟨rfl, rfl⟩, ⟨Nat.le_of_ble_eq_true rfl, Nat.le_of_ble_eq_true rfl⟩, ⟨Nat.le_of_ble_eq_true rfl, Nat.le_of_ble_eq_true rfl⟩, Nat.le_of_ble_eq_true rfl⟩) hA w [1] [0, 2, 3, 4, 5, 6, 7, 8, 9] [0, 9, 1, 2, 3, 4, 5, 6, 7, 8] rfl rfl (by decide) (fun _ => rfl) (fun _ H locs w => ?_)
  refine lv_iload_n hx hb dX2_run_6 rfl (lv_at hl 3 rfl) ?_
  refine lv_iconst (v := 1) hx hb dX2_run_7 (by decide) ?_
  refine lv_isub hx hb dX2_run_8 ?_
  refine lv_topi (fun x6 ex6 => ?_)
  have hf := pf_nm ex6 hf
  refine lv_istore (lv' := [(5, .int x6), (0, .ref h0), (1, .int a1), (2, .int a2), (3, .int a3), (4, .ref h4)]) hx hb dX2_run_9 hl (by decide) rfl (fun ls hl => ?_)
  obtain ⟨J235, hJ235, hf⟩ := pf_jn hf
  have kJ235 : ∀ (x7 : Int32) (f8 : Nat → Int32) (f9 : Nat → Int32) (f10 : Nat → Int32) (f11 : Nat → Int32) (x12 : Int32) (x13 : Int32) (x14 : Int32) (x15 : Int32) (H : Heap) (locs : List Loc) (ls : Array Slot), J235 x7 f8 f9 f10 f11 x12 x13 x14 x15 = some R → hm_W E A s.heap [oc2 h0 r_t d_t t_bits t_offset t_band t_rule t_noise t_step x7 t_heat t_hour t_seenCount, oc1 h4 r_p4 x1 x12 x13 p4_left x14 x15 p4_code, ic E (r_t 2) 12 t_off, ic E (r_t 1) 12 t_size, ic E (r_t 4) 12 t_stuck, ic E (r_t 3) 12 t_worth, ic E (r_p4 3) 12 f10, ic E (r_p4 4) 12 f11, ic E (r_p4 2) 12 f9, ic E (r_p4 1) 12 f8] H locs → lv_has ls 7 [(0, .ref h0), (1, .int a1), (2, .int a2), (4, .ref h4)] → W p l e (hm_rr 2 44 0 0) s m args below meth c H locs 0 0 Q (F0 m 235 ls []) := by
    intro x7 f8 f9 f10 f11 x12 x13 x14 x15 H locs ls hf w hl
    have hf := pf_j9 hJ235 hf
    refine lv_aload hx hb dX2_run_235 (lv_at hl 3 rfl) ?_
    refine lv_iload_n hx hb dX2_run_237 rfl (lv_at hl 1 rfl) ?_
    refine lv_iload_n hx hb dX2_run_238 rfl (lv_at hl 2 rfl) ?_
    refine lv_iadd hx hb dX2_run_239 ?_
    refine lv_aload hx hb dX2_run_240 (lv_at hl 3 rfl) ?_
    refine hm_get cb_X1 hx hb hown X w 1 6 fl_X2_102 dX2_run_242 rfl (by decide) rfl ?_
    refine lv_isub hx hb dX2_run_245 ?_
    refine lv_topi (fun x16 ex16 => ?_)
    have hf := pf_nm ex16 hf
    refine hm_put (ws' := [oc2 h0 r_t d_t t_bits t_offset t_band t_rule t_noise t_step x7 t_heat t_hour t_seenCount, oc1 h4 r_p4 x1 x12 x13 x16 x14 x15 p4_code, ic E (r_t 2) 12 t_off, ic E (r_t 1) 12 t_size, ic E (r_t 4) 12 t_stuck, ic E (r_t 3) 12 t_worth, ic E (r_p4 3) 12 f10, ic E (r_p4 4) 12 f11, ic E (r_p4 2) 12 f9, ic E (r_p4 1) 12 f8]) cb_X1 hx hb hown X w 1 7 fl_X2_131 dX2_run_246 rfl (by decide) (Nat.le_of_ble_eq_true rfl) rfl rfl rfl rfl (fun H locs w => ?_)
    refine lv_aload hx hb dX2_run_249 (lv_at hl 3 rfl) ?_
    refine lv_aload_n hx hb dX2_run_251 rfl (lv_at hl 0 rfl) ?_
    refine lv_aload hx hb dX2_run_252 (lv_at hl 3 rfl) ?_
    refine hm_get cb_X1 hx hb hown X w 1 5 fl_X2_119 dX2_run_254 rfl (by decide) rfl ?_
    obtain ⟨r17, hc257, hf⟩ := pf_bi_0 hf
    refine hm_aft_i (ws' := fun _ => [oc2 h0 r_t d_t t_bits t_offset t_band t_rule t_noise t_step x7 t_heat t_hour t_seenCount, oc1 h4 r_p4 x1 x12 x13 x16 x14 x15 p4_code, ic E (r_t 2) 12 t_off, ic E (r_t 1) 12 t_size, ic E (r_t 4) 12 t_stuck, ic E (r_t 3) 12 t_worth, ic E (r_p4 3) 12 f10, ic E (r_p4 4) 12 f11, ic E (r_p4 2) 12 f9, ic E (r_p4 1) 12 f8]) (hm_runV (rest := [.ref h4]) hx hb hml hown X hA Y w 0 (ci := 2) (T := TX2) (N := 17) rfl rfl mw_X2_codeOf ml_X2_134 dX2_run_257 hm_ac0 [.int x12] rfl [0] rfl rfl (ct_X2_codeOf l E H.size h0 r_t d_t t_bits t_offset t_band t_rule t_noise t_step x7 t_heat t_hour t_seenCount x12 (r17, ()) hc257) rfl hl.1 ⟨⟨rfl, rfl⟩, ⟨Nat.le_of_ble_eq_true rfl, Nat.le_of_ble_eq_true rfl⟩, ⟨Nat.le_of_ble_eq_true rfl, Nat.le_of_ble_eq_true rfl⟩, Nat.le_of_ble_eq_true rfl⟩) hA w [0] [1, 2, 3, 4, 5, 6, 7, 8, 9] [9, 0, 1, 2, 3, 4, 5, 6, 7, 8] rfl rfl (by decide) (fun _ => rfl) (fun _ H locs w => ?_)
    refine hm_put (ws' := [oc2 h0 r_t d_t t_bits t_offset t_band t_rule t_noise t_step x7 t_heat t_hour t_seenCount, oc1 h4 r_p4 x1 x12 x13 x16 x14 x15 r17, ic E (r_t 2) 12 t_off, ic E (r_t 1) 12 t_size, ic E (r_t 4) 12 t_stuck, ic E (r_t 3) 12 t_worth, ic E (r_p4 3) 12 f10, ic E (r_p4 4) 12 f11, ic E (r_p4 2) 12 f9, ic E (r_p4 1) 12 f8]) cb_X1 hx hb hown X w 1 10 fl_X2_137 dX2_run_260 rfl (by decide) (Nat.le_of_ble_eq_true rfl) rfl rfl rfl rfl (fun H locs w => ?_)
    exact hQ _ _ _ _ (x7, x1, f8, f9, f10, f11, x12, x13, x16, x14, x15, r17) (fun _ => 0) hf w dX2_run_263
  have klp_X2_run_11 : ∀ (n : Nat) (x18 : Int32) (x19 : Int32) (f20 : Nat → Int32) (f21 : Nat → Int32) (f22 : Nat → Int32) (f23 : Nat → Int32) (x24 : Int32) (x25 : Int32) (x26 : Int32) (x27 : Int32) (H : Heap) (locs : List Loc) (ls : Array Slot), lp_X2_run_11 a1 a2 t_band t_rule t_noise t_off t_size t_stuck t_worth J235 n x18 x19 f20 f21 f22 f23 x24 x25 x26 x27 = some R → hm_W E A s.heap [oc2 h0 r_t d_t t_bits t_offset t_band t_rule t_noise t_step x19 t_heat t_hour t_seenCount, oc1 h4 r_p4 x1 x24 x25 p4_left x26 x27 p4_code, ic E (r_t 2) 12 t_off, ic E (r_t 1) 12 t_size, ic E (r_t 4) 12 t_stuck, ic E (r_t 3) 12 t_worth, ic E (r_p4 3) 12 f22, ic E (r_p4 4) 12 f23, ic E (r_p4 2) 12 f21, ic E (r_p4 1) 12 f20] H locs → lv_has ls 7 [(0, .ref h0), (1, .int a1), (2, .int a2), (4, .ref h4), (5, .int x18)] → W p l e (hm_rr 2 44 0 0) s m args below meth c H locs 0 0 Q (F0 m 11 ls []) := by
    intro n
    induction n with
    | zero =>
      intro x18 x19 f20 f21 f22 f23 x24 x25 x26 x27 H locs ls hf w hl
      exact pf_no hf
    | succ n ih11 =>
      intro x18 x19 f20 f21 f22 f23 x24 x25 x26 x27 H locs ls hf w hl
      rw [lp_X2_run_11] at hf
      refine lv_iload hx hb dX2_run_11 (lv_at hl 4 rfl) ?_
      refine lv_if_lt (tgt := 235) hx hb dX2_run_13 (by decide) (fun c13 => ?_) (fun c13 => ?_)
      · have hf := pf_t c13 hf
        exact kJ235 _ _ _ _ _ _ _ _ _ _ _ _ hf w (lv_sub hl [0, 1, 2, 3] rfl)
      · have hf := pf_e c13 hf
        refine lv_aload_n hx hb dX2_run_16 rfl (lv_at hl 0 rfl) ?_
        refine hm_get cb_X2 hx hb hown X w 0 8 fl_X2_37 dX2_run_17 rfl (by decide) rfl ?_
        obtain ⟨J44, hJ44, hf⟩ := pf_jn hf
        have kJ44 : ∀ (x28 : Int32) (x29 : Int32) (H : Heap) (locs : List Loc) (ls : Array Slot), J44 x28 x29 = some R → hm_W E A s.heap [oc2 h0 r_t d_t t_bits t_offset t_band t_rule t_noise t_step x29 t_heat t_hour t_seenCount, oc1 h4 r_p4 x1 x24 x25 p4_left x26 x27 p4_code, ic E (r_t 2) 12 t_off, ic E (r_t 1) 12 t_size, ic E (r_t 4) 12 t_stuck, ic E (r_t 3) 12 t_worth, ic E (r_p4 3) 12 f22, ic E (r_p4 4) 12 f23, ic E (r_p4 2) 12 f21, ic E (r_p4 1) 12 f20] H locs → lv_has ls 7 [(0, .ref h0), (1, .int a1), (2, .int a2), (4, .ref h4), (5, .int x18)] → W p l e (hm_rr 2 44 0 0) s m args below meth c H locs 0 0 Q (F0 m 44 ls [.int x28]) := by
          intro x28 x29 H locs ls hf w hl
          have hf := pf_j2 hJ44 hf
          refine lv_istore (lv' := [(6, .int x28), (0, .ref h0), (1, .int a1), (2, .int a2), (4, .ref h4), (5, .int x18)]) hx hb dX2_run_44 hl (by decide) rfl (fun ls hl => ?_)
          refine lv_aload hx hb dX2_run_46 (lv_at hl 4 rfl) ?_
          refine hm_get cb_X1 hx hb hown X w 1 3 fl_X2_99 dX2_run_48 rfl (by decide) rfl ?_
          refine lv_iload hx hb dX2_run_51 (lv_at hl 5 rfl) ?_
          refine lv_iload_n hx hb dX2_run_53 rfl (lv_at hl 2 rfl) ?_
          refine lv_iload_n hx hb dX2_run_54 rfl (lv_at hl 3 rfl) ?_
          refine lv_iadd hx hb dX2_run_55 ?_
          refine lv_iload hx hb dX2_run_56 (lv_at hl 0 rfl) ?_
          refine lv_iadd hx hb dX2_run_58 ?_
          refine lv_aload hx hb dX2_run_59 (lv_at hl 4 rfl) ?_
          refine hm_get cb_X1 hx hb hown X w 1 6 fl_X2_102 dX2_run_61 rfl (by decide) rfl ?_
          refine lv_isub hx hb dX2_run_64 ?_
          refine lv_aload_n hx hb dX2_run_65 rfl (lv_at hl 1 rfl) ?_
          refine lv_iload hx hb dX2_run_66 (lv_at hl 5 rfl) ?_
          obtain ⟨r30, hc68, hf⟩ := pf_bi_0 hf
          refine hm_aft_i (ws' := fun _ => [oc2 h0 r_t d_t t_bits t_offset t_band t_rule t_noise t_step x29 t_heat t_hour t_seenCount, oc1 h4 r_p4 x1 x24 x25 p4_left x26 x27 p4_code, ic E (r_t 2) 12 t_off, ic E (r_t 1) 12 t_size, ic E (r_t 4) 12 t_stuck, ic E (r_t 3) 12 t_worth, ic E (r_p4 3) 12 f22, ic E (r_p4 4) 12 f23, ic E (r_p4 2) 12 f21, ic E (r_p4 1) 12 f20]) (hm_runV (rest := [.int (((a1 + a2) + x28) - x25), .int x18, .ref (r_p4 3)]) hx hb hml hown X hA Y w 0 (ci := 2) (T := TX2) (N := 17) rfl rfl mw_X2_weight ml_X2_82 dX2_run_68 hm_ac0 [.int x18] rfl [0, 2, 3] rfl rfl (ct_X2_weight l E H.size h0 r_t d_t t_bits t_offset t_band t_rule t_noise t_step x29 t_heat t_hour t_seenCount t_off t_size x18 (r30, ()) hc68) rfl hl.1 ⟨⟨rfl, rfl⟩, ⟨Nat.le_of_ble_eq_true rfl, Nat.le_of_ble_eq_true rfl⟩, ⟨Nat.le_of_ble_eq_true rfl, Nat.le_of_ble_eq_true rfl⟩, Nat.le_of_ble_eq_true rfl⟩) hA w [0, 2, 3] [1, 4, 5, 6, 7, 8, 9] [7, 0, 8, 9, 1, 2, 3, 4, 5, 6] rfl rfl (by decide) (fun _ => rfl) (fun _ H locs w => ?_)
          refine lv_isub hx hb dX2_run_71 ?_
          refine lv_topi (fun x31 ex31 => ?_)
          have hf := pf_nm ex31 hf
          obtain ⟨g72, hf⟩ := pf_ckI hf
          refine hm_iast (ws' := [oc2 h0 r_t d_t t_bits t_offset t_band t_rule t_noise t_step x29 t_heat t_hour t_seenCount, oc1 h4 r_p4 x1 x24 x25 p4_left x26 x27 p4_code, ic E (r_t 2) 12 t_off, ic E (r_t 1) 12 t_size, ic E (r_t 4) 12 t_stuck, ic E (r_t 3) 12 t_worth, ic E (r_p4 3) 12 (upd f22 x18.toNatClampNeg x31), ic E (r_p4 4) 12 f23, ic E (r_p4 2) 12 f21, ic E (r_p4 1) 12 f20]) hx hb X w 6 dX2_run_72 rfl g72 rfl (fun H locs w => ?_)
          refine lv_aload hx hb dX2_run_73 (lv_at hl 4 rfl) ?_
          refine hm_get cb_X1 hx hb hown X w 1 2 fl_X2_105 dX2_run_75 rfl (by decide) rfl ?_
          refine lv_iload hx hb dX2_run_78 (lv_at hl 5 rfl) ?_
          refine lv_aload_n hx hb dX2_run_80 rfl (lv_at hl 1 rfl) ?_
          refine lv_iload hx hb dX2_run_81 (lv_at hl 5 rfl) ?_
          refine lv_aload hx hb dX2_run_83 (lv_at hl 4 rfl) ?_
          refine hm_get cb_X1 hx hb hown X w 1 3 fl_X2_99 dX2_run_85 rfl (by decide) rfl ?_
          refine lv_iload hx hb dX2_run_88 (lv_at hl 5 rfl) ?_
          obtain ⟨g90, hf⟩ := pf_ckI hf
          refine hm_iald hx hb X w 6 dX2_run_90 rfl g90 ?_
          obtain ⟨r32, hc91, hf⟩ := pf_bi_0 hf
          refine hm_aft_i (ws' := fun _ => [oc2 h0 r_t d_t t_bits t_offset t_band t_rule t_noise t_step x29 t_heat t_hour t_seenCount, oc1 h4 r_p4 x1 x24 x25 p4_left x26 x27 p4_code, ic E (r_t 2) 12 t_off, ic E (r_t 1) 12 t_size, ic E (r_t 4) 12 t_stuck, ic E (r_t 3) 12 t_worth, ic E (r_p4 3) 12 (upd f22 x18.toNatClampNeg x31), ic E (r_p4 4) 12 f23, ic E (r_p4 2) 12 f21, ic E (r_p4 1) 12 f20]) (hm_runV (rest := [.int x18, .ref (r_p4 2)]) hx hb hml hown X hA Y w 0 (ci := 2) (T := TX2) (N := 17) rfl rfl mw_X2_isLate ml_X2_108 dX2_run_91 hm_ac0 [.int x18, .int ((upd f22 x18.toNatClampNeg x31) x18.toNatClampNeg)] rfl [0, 4] rfl rfl (ct_X2_isLate l E H.size h0 r_t d_t t_bits t_offset t_band t_rule t_noise t_step x29 t_heat t_hour t_seenCount t_stuck x18 ((upd f22 x18.toNatClampNeg x31) x18.toNatClampNeg) (r32, ()) hc91) rfl hl.1 ⟨⟨rfl, rfl⟩, ⟨Nat.le_of_ble_eq_true rfl, Nat.le_of_ble_eq_true rfl⟩, ⟨Nat.le_of_ble_eq_true rfl, Nat.le_of_ble_eq_true rfl⟩, Nat.le_of_ble_eq_true rfl⟩) hA w [0, 4] [1, 2, 3, 5, 6, 7, 8, 9] [8, 0, 1, 2, 9, 3, 4, 5, 6, 7] rfl rfl (by decide) (fun _ => rfl) (fun _ H locs w => ?_)
          obtain ⟨J102, hJ102, hf⟩ := pf_jn hf
          have kJ102 : ∀ (x33 : Int32) (H : Heap) (locs : List Loc) (ls : Array Slot), J102 x33 = some R → hm_W E A s.heap [oc2 h0 r_t d_t t_bits t_offset t_band t_rule t_noise t_step x29 t_heat t_hour t_seenCount, oc1 h4 r_p4 x1 x24 x25 p4_left x26 x27 p4_code, ic E (r_t 2) 12 t_off, ic E (r_t 1) 12 t_size, ic E (r_t 4) 12 t_stuck, ic E (r_t 3) 12 t_worth, ic E (r_p4 3) 12 (upd f22 x18.toNatClampNeg x31), ic E (r_p4 4) 12 f23, ic E (r_p4 2) 12 f21, ic E (r_p4 1) 12 f20] H locs → lv_has ls 7 [(0, .ref h0), (1, .int a1), (2, .int a2), (4, .ref h4), (5, .int x18)] → W p l e (hm_rr 2 44 0 0) s m args below meth c H locs 0 0 Q (F0 m 102 ls [.int x33, .int x18, .ref (r_p4 2)]) := by
            intro x33 H locs ls hf w hl
            have hf := pf_j1 hJ102 hf
            obtain ⟨g102, hf⟩ := pf_ckI hf
            refine hm_iast (ws' := [oc2 h0 r_t d_t t_bits t_offset t_band t_rule t_noise t_step x29 t_heat t_hour t_seenCount, oc1 h4 r_p4 x1 x24 x25 p4_left x26 x27 p4_code, ic E (r_t 2) 12 t_off, ic E (r_t 1) 12 t_size, ic E (r_t 4) 12 t_stuck, ic E (r_t 3) 12 t_worth, ic E (r_p4 3) 12 (upd f22 x18.toNatClampNeg x31), ic E (r_p4 4) 12 f23, ic E (r_p4 2) 12 (upd f21 x18.toNatClampNeg x33), ic E (r_p4 1) 12 f20]) hx hb X w 8 dX2_run_102 rfl g102 rfl (fun H locs w => ?_)
            refine lv_aload hx hb dX2_run_103 (lv_at hl 3 rfl) ?_
            refine hm_get cb_X1 hx hb hown X w 1 1 fl_X2_112 dX2_run_105 rfl (by decide) rfl ?_
            refine lv_iload hx hb dX2_run_108 (lv_at hl 4 rfl) ?_
            refine lv_aload_n hx hb dX2_run_110 rfl (lv_at hl 0 rfl) ?_
            refine lv_iload hx hb dX2_run_111 (lv_at hl 4 rfl) ?_
            refine lv_aload hx hb dX2_run_113 (lv_at hl 3 rfl) ?_
            refine hm_get cb_X1 hx hb hown X w 1 3 fl_X2_99 dX2_run_115 rfl (by decide) rfl ?_
            refine lv_iload hx hb dX2_run_118 (lv_at hl 4 rfl) ?_
            obtain ⟨g120, hf⟩ := pf_ckI hf
            refine hm_iald hx hb X w 6 dX2_run_120 rfl g120 ?_
            refine lv_aload hx hb dX2_run_121 (lv_at hl 3 rfl) ?_
            refine hm_get cb_X1 hx hb hown X w 1 2 fl_X2_105 dX2_run_123 rfl (by decide) rfl ?_
            refine lv_iload hx hb dX2_run_126 (lv_at hl 4 rfl) ?_
            obtain ⟨g128, hf⟩ := pf_ckI hf
            refine hm_iald hx hb X w 8 dX2_run_128 rfl g128 ?_
            refine lv_iconst (v := 1) hx hb dX2_run_129 (by decide) ?_
            obtain ⟨J138, hJ138, hf⟩ := pf_jn hf
            have kJ138 : ∀ (x34 : Int32) (H : Heap) (locs : List Loc) (ls : Array Slot), J138 x34 = some R → hm_W E A s.heap [oc2 h0 r_t d_t t_bits t_offset t_band t_rule t_noise t_step x29 t_heat t_hour t_seenCount, oc1 h4 r_p4 x1 x24 x25 p4_left x26 x27 p4_code, ic E (r_t 2) 12 t_off, ic E (r_t 1) 12 t_size, ic E (r_t 4) 12 t_stuck, ic E (r_t 3) 12 t_worth, ic E (r_p4 3) 12 (upd f22 x18.toNatClampNeg x31), ic E (r_p4 4) 12 f23, ic E (r_p4 2) 12 (upd f21 x18.toNatClampNeg x33), ic E (r_p4 1) 12 f20] H locs → lv_has ls 7 [(0, .ref h0), (1, .int a1), (2, .int a2), (4, .ref h4), (5, .int x18)] → W p l e (hm_rr 2 44 0 0) s m args below meth c H locs 0 0 Q (F0 m 138 ls [.int x34, .int ((upd f22 x18.toNatClampNeg x31) x18.toNatClampNeg), .int x18, .ref h0, .int x18, .ref (r_p4 1)]) := by
              intro x34 H locs ls hf w hl
              have hf := pf_j1 hJ138 hf
              obtain ⟨r35, x36, hc138, hf⟩ := pf_bi_1 hf
              refine hm_aft_i (ws' := fun _ => [oc2 h0 r_t d_t t_bits t_offset t_band t_rule t_noise t_step x36 t_heat t_hour t_seenCount, oc1 h4 r_p4 x1 x24 x25 p4_left x26 x27 p4_code, ic E (r_t 2) 12 t_off, ic E (r_t 1) 12 t_size, ic E (r_t 4) 12 t_stuck, ic E (r_t 3) 12 t_worth, ic E (r_p4 3) 12 (upd f22 x18.toNatClampNeg x31), ic E (r_p4 4) 12 f23, ic E (r_p4 2) 12 (upd f21 x18.toNatClampNeg x33), ic E (r_p4 1) 12 f20]) (hm_runV (rest := [.int x18, .ref (r_p4 1)]) hx hb hml hown X hA Y w 0 (ci := 2) (T := TX2) (N := 17) rfl rfl mw_X2_decide ml_X2_115 dX2_run_138 hm_ac0 [.int x18, .int ((upd f22 x18.toNatClampNeg x31) x18.toNatClampNeg), .int x34] rfl [0, 4] rfl rfl (ct_X2_decide l E H.size h0 r_t d_t t_bits t_offset t_band t_rule t_noise t_step x29 t_heat t_hour t_seenCount t_stuck x18 ((upd f22 x18.toNatClampNeg x31) x18.toNatClampNeg) x34 (r35, x36) hc138) rfl hl.1 ⟨⟨rfl, rfl⟩, ⟨Nat.le_of_ble_eq_true rfl, Nat.le_of_ble_eq_true rfl⟩, ⟨Nat.le_of_ble_eq_true rfl, Nat.le_of_ble_eq_true rfl⟩, Nat.le_of_ble_eq_true rfl⟩) hA w [0, 4] [1, 2, 3, 5, 6, 7, 8, 9] [8, 0, 1, 2, 9, 3, 4, 5, 6, 7] rfl rfl (by decide) (fun _ => rfl) (fun _ H locs w => ?_)
              obtain ⟨g141, hf⟩ := pf_ckI hf
              refine hm_iast (ws' := [oc2 h0 r_t d_t t_bits t_offset t_band t_rule t_noise t_step x36 t_heat t_hour t_seenCount, oc1 h4 r_p4 x1 x24 x25 p4_left x26 x27 p4_code, ic E (r_t 2) 12 t_off, ic E (r_t 1) 12 t_size, ic E (r_t 4) 12 t_stuck, ic E (r_t 3) 12 t_worth, ic E (r_p4 3) 12 (upd f22 x18.toNatClampNeg x31), ic E (r_p4 4) 12 f23, ic E (r_p4 2) 12 (upd f21 x18.toNatClampNeg x33), ic E (r_p4 1) 12 (upd f20 x18.toNatClampNeg r35)]) hx hb X w 9 dX2_run_141 rfl g141 rfl (fun H locs w => ?_)
              refine lv_aload hx hb dX2_run_142 (lv_at hl 3 rfl) ?_
              refine hm_get cb_X1 hx hb hown X w 1 1 fl_X2_112 dX2_run_144 rfl (by decide) rfl ?_
              refine lv_iload hx hb dX2_run_147 (lv_at hl 4 rfl) ?_
              obtain ⟨g149, hf⟩ := pf_ckI hf
              refine hm_iald hx hb X w 9 dX2_run_149 rfl g149 ?_
              refine lv_iconst (v := 1) hx hb dX2_run_150 (by decide) ?_
              obtain ⟨J198, hJ198, hf⟩ := pf_jn hf
              have kJ198 : ∀ (x37 : Int32) (x38 : Int32) (x39 : Int32) (H : Heap) (locs : List Loc) (ls : Array Slot), J198 x37 x38 x39 = some R → hm_W E A s.heap [oc2 h0 r_t d_t t_bits t_offset t_band t_rule t_noise t_step x36 t_heat t_hour t_seenCount, oc1 h4 r_p4 x1 x37 x38 p4_left x26 x39 p4_code, ic E (r_t 2) 12 t_off, ic E (r_t 1) 12 t_size, ic E (r_t 4) 12 t_stuck, ic E (r_t 3) 12 t_worth, ic E (r_p4 3) 12 (upd f22 x18.toNatClampNeg x31), ic E (r_p4 4) 12 f23, ic E (r_p4 2) 12 (upd f21 x18.toNatClampNeg x33), ic E (r_p4 1) 12 (upd f20 x18.toNatClampNeg r35)] H locs → lv_has ls 7 [(0, .ref h0), (1, .int a1), (2, .int a2), (4, .ref h4), (5, .int x18)] → W p l e (hm_rr 2 44 0 0) s m args below meth c H locs 0 0 Q (F0 m 198 ls []) := by
                intro x37 x38 x39 H locs ls hf w hl
                have hf := pf_j3 hJ198 hf
                refine lv_aload hx hb dX2_run_198 (lv_at hl 3 rfl) ?_
                refine lv_dup hx hb dX2_run_200 rfl ?_
                refine hm_get cb_X1 hx hb hown X w 1 8 fl_X2_125 dX2_run_201 rfl (by decide) rfl ?_
                refine lv_aload hx hb dX2_run_204 (lv_at hl 3 rfl) ?_
                refine hm_get cb_X1 hx hb hown X w 1 2 fl_X2_105 dX2_run_206 rfl (by decide) rfl ?_
                refine lv_iload hx hb dX2_run_209 (lv_at hl 4 rfl) ?_
                obtain ⟨g211, hf⟩ := pf_ckI hf
                refine hm_iald hx hb X w 8 dX2_run_211 rfl g211 ?_
                refine lv_iadd hx hb dX2_run_212 ?_
                refine lv_topi (fun x40 ex40 => ?_)
                have hf := pf_nm ex40 hf
                refine hm_put (ws' := [oc2 h0 r_t d_t t_bits t_offset t_band t_rule t_noise t_step x36 t_heat t_hour t_seenCount, oc1 h4 r_p4 x1 x37 x38 p4_left x40 x39 p4_code, ic E (r_t 2) 12 t_off, ic E (r_t 1) 12 t_size, ic E (r_t 4) 12 t_stuck, ic E (r_t 3) 12 t_worth, ic E (r_p4 3) 12 (upd f22 x18.toNatClampNeg x31), ic E (r_p4 4) 12 f23, ic E (r_p4 2) 12 (upd f21 x18.toNatClampNeg x33), ic E (r_p4 1) 12 (upd f20 x18.toNatClampNeg r35)]) cb_X1 hx hb hown X w 1 8 fl_X2_125 dX2_run_213 rfl (by decide) (Nat.le_of_ble_eq_true rfl) rfl rfl rfl rfl (fun H locs w => ?_)
                refine lv_aload hx hb dX2_run_216 (lv_at hl 3 rfl) ?_
                refine hm_get cb_X1 hx hb hown X w 1 4 fl_X2_128 dX2_run_218 rfl (by decide) rfl ?_
                refine lv_iload hx hb dX2_run_221 (lv_at hl 4 rfl) ?_
                refine lv_aload hx hb dX2_run_223 (lv_at hl 3 rfl) ?_
                refine hm_get cb_X1 hx hb hown X w 1 6 fl_X2_102 dX2_run_225 rfl (by decide) rfl ?_
                obtain ⟨g228, hf⟩ := pf_ckI hf
                refine hm_iast (ws' := [oc2 h0 r_t d_t t_bits t_offset t_band t_rule t_noise t_step x36 t_heat t_hour t_seenCount, oc1 h4 r_p4 x1 x37 x38 p4_left x40 x39 p4_code, ic E (r_t 2) 12 t_off, ic E (r_t 1) 12 t_size, ic E (r_t 4) 12 t_stuck, ic E (r_t 3) 12 t_worth, ic E (r_p4 3) 12 (upd f22 x18.toNatClampNeg x31), ic E (r_p4 4) 12 (upd f23 x18.toNatClampNeg x38), ic E (r_p4 2) 12 (upd f21 x18.toNatClampNeg x33), ic E (r_p4 1) 12 (upd f20 x18.toNatClampNeg r35)]) hx hb X w 7 dX2_run_228 rfl g228 rfl (fun H locs w => ?_)
                obtain ⟨x41, ex41⟩ : ∃ y : Int32, y = (x18 + (-1)) := ⟨_, rfl⟩
                have hf := pf_nm ex41 hf
                refine lv_iinc (v := x41) (lv' := [(5, .int x41), (0, .ref h0), (1, .int a1), (2, .int a2), (4, .ref h4)]) hx hb dX2_run_229 hl (k := 4) rfl (by rw [ex41]; rfl) (by decide) rfl (fun ls hl => ?_)
                refine lv_goto (tgt := 11) hx hb dX2_run_232 (by decide) ?_
                exact ih11 _ _ _ _ _ _ _ _ _ _ _ _ _ hf w (lv_sub hl [1, 2, 3, 4, 0] rfl)
              refine lv_icmp_ne (tgt := 198) hx hb dX2_run_151 (by decide) (fun c151 => ?_) (fun c151 => ?_)
              · have hf := pf_e c151 hf
                exact kJ198 _ _ _ _ _ _ hf w (lv_sub hl [0, 1, 2, 3, 4] rfl)
              · have hf := pf_t c151 hf
                refine lv_aload hx hb dX2_run_154 (lv_at hl 3 rfl) ?_
                refine lv_dup hx hb dX2_run_156 rfl ?_
                refine hm_get cb_X1 hx hb hown X w 1 6 fl_X2_102 dX2_run_157 rfl (by decide) rfl ?_
                refine lv_aload_n hx hb dX2_run_160 rfl (lv_at hl 0 rfl) ?_
                refine lv_iload hx hb dX2_run_161 (lv_at hl 4 rfl) ?_
                obtain ⟨r42, hc163, hf⟩ := pf_bi_0 hf
                refine hm_aft_i (ws' := fun _ => [oc2 h0 r_t d_t t_bits t_offset t_band t_rule t_noise t_step x36 t_heat t_hour t_seenCount, oc1 h4 r_p4 x1 x24 x25 p4_left x26 x27 p4_code, ic E (r_t 2) 12 t_off, ic E (r_t 1) 12 t_size, ic E (r_t 4) 12 t_stuck, ic E (r_t 3) 12 t_worth, ic E (r_p4 3) 12 (upd f22 x18.toNatClampNeg x31), ic E (r_p4 4) 12 f23, ic E (r_p4 2) 12 (upd f21 x18.toNatClampNeg x33), ic E (r_p4 1) 12 (upd f20 x18.toNatClampNeg r35)]) (hm_runV (rest := [.int x25, .ref h4]) hx hb hml hown X hA Y w 0 (ci := 2) (T := TX2) (N := 17) rfl rfl mw_X2_weight ml_X2_82 dX2_run_163 hm_ac0 [.int x18] rfl [0, 2, 3] rfl rfl (ct_X2_weight l E H.size h0 r_t d_t t_bits t_offset t_band t_rule t_noise t_step x36 t_heat t_hour t_seenCount t_off t_size x18 (r42, ()) hc163) rfl hl.1 ⟨⟨rfl, rfl⟩, ⟨Nat.le_of_ble_eq_true rfl, Nat.le_of_ble_eq_true rfl⟩, ⟨Nat.le_of_ble_eq_true rfl, Nat.le_of_ble_eq_true rfl⟩, Nat.le_of_ble_eq_true rfl⟩) hA w [0, 2, 3] [1, 4, 5, 6, 7, 8, 9] [7, 0, 8, 9, 1, 2, 3, 4, 5, 6] rfl rfl (by decide) (fun _ => rfl) (fun _ H locs w => ?_)
                refine lv_iadd hx hb dX2_run_166 ?_
                refine lv_topi (fun x43 ex43 => ?_)
                have hf := pf_nm ex43 hf
                refine hm_put (ws' := [oc2 h0 r_t d_t t_bits t_offset t_band t_rule t_noise t_step x36 t_heat t_hour t_seenCount, oc1 h4 r_p4 x1 x24 x43 p4_left x26 x27 p4_code, ic E (r_t 2) 12 t_off, ic E (r_t 1) 12 t_size, ic E (r_t 4) 12 t_stuck, ic E (r_t 3) 12 t_worth, ic E (r_p4 3) 12 (upd f22 x18.toNatClampNeg x31), ic E (r_p4 4) 12 f23, ic E (r_p4 2) 12 (upd f21 x18.toNatClampNeg x33), ic E (r_p4 1) 12 (upd f20 x18.toNatClampNeg r35)]) cb_X1 hx hb hown X w 1 6 fl_X2_102 dX2_run_167 rfl (by decide) (Nat.le_of_ble_eq_true rfl) rfl rfl rfl rfl (fun H locs w => ?_)
                refine lv_aload hx hb dX2_run_170 (lv_at hl 3 rfl) ?_
                refine lv_dup hx hb dX2_run_172 rfl ?_
                refine hm_get cb_X1 hx hb hown X w 1 5 fl_X2_119 dX2_run_173 rfl (by decide) rfl ?_
                refine lv_aload_n hx hb dX2_run_176 rfl (lv_at hl 0 rfl) ?_
                refine hm_get cb_X2 hx hb hown X w 0 3 fl_X2_22 dX2_run_177 rfl (by decide) rfl ?_
                refine lv_iload hx hb dX2_run_180 (lv_at hl 4 rfl) ?_
                obtain ⟨g182, hf⟩ := pf_ckI hf
                refine hm_iald hx hb X w 5 dX2_run_182 rfl g182 ?_
                refine lv_iadd hx hb dX2_run_183 ?_
                refine lv_topi (fun x44 ex44 => ?_)
                have hf := pf_nm ex44 hf
                refine hm_put (ws' := [oc2 h0 r_t d_t t_bits t_offset t_band t_rule t_noise t_step x36 t_heat t_hour t_seenCount, oc1 h4 r_p4 x1 x44 x43 p4_left x26 x27 p4_code, ic E (r_t 2) 12 t_off, ic E (r_t 1) 12 t_size, ic E (r_t 4) 12 t_stuck, ic E (r_t 3) 12 t_worth, ic E (r_p4 3) 12 (upd f22 x18.toNatClampNeg x31), ic E (r_p4 4) 12 f23, ic E (r_p4 2) 12 (upd f21 x18.toNatClampNeg x33), ic E (r_p4 1) 12 (upd f20 x18.toNatClampNeg r35)]) cb_X1 hx hb hown X w 1 5 fl_X2_119 dX2_run_184 rfl (by decide) (Nat.le_of_ble_eq_true rfl) rfl rfl rfl rfl (fun H locs w => ?_)
                refine lv_aload hx hb dX2_run_187 (lv_at hl 3 rfl) ?_
                refine lv_dup hx hb dX2_run_189 rfl ?_
                refine hm_get cb_X1 hx hb hown X w 1 9 fl_X2_122 dX2_run_190 rfl (by decide) rfl ?_
                refine lv_iconst (v := 1) hx hb dX2_run_193 (by decide) ?_
                refine lv_iadd hx hb dX2_run_194 ?_
                refine lv_topi (fun x45 ex45 => ?_)
                have hf := pf_nm ex45 hf
                refine hm_put (ws' := [oc2 h0 r_t d_t t_bits t_offset t_band t_rule t_noise t_step x36 t_heat t_hour t_seenCount, oc1 h4 r_p4 x1 x44 x43 p4_left x26 x45 p4_code, ic E (r_t 2) 12 t_off, ic E (r_t 1) 12 t_size, ic E (r_t 4) 12 t_stuck, ic E (r_t 3) 12 t_worth, ic E (r_p4 3) 12 (upd f22 x18.toNatClampNeg x31), ic E (r_p4 4) 12 f23, ic E (r_p4 2) 12 (upd f21 x18.toNatClampNeg x33), ic E (r_p4 1) 12 (upd f20 x18.toNatClampNeg r35)]) cb_X1 hx hb hown X w 1 9 fl_X2_122 dX2_run_195 rfl (by decide) (Nat.le_of_ble_eq_true rfl) rfl rfl rfl rfl (fun H locs w => ?_)
                exact kJ198 _ _ _ _ _ _ hf w (lv_sub hl [0, 1, 2, 3, 4] rfl)
            refine lv_icmp_ne (tgt := 137) hx hb dX2_run_130 (by decide) (fun c130 => ?_) (fun c130 => ?_)
            · have hf := pf_e c130 hf
              refine lv_iconst (v := 0) hx hb dX2_run_137 (by decide) ?_
              exact kJ138 _ _ _ _ hf w (lv_sub hl [0, 1, 2, 3, 4] rfl)
            · have hf := pf_t c130 hf
              refine lv_iconst (v := 1) hx hb dX2_run_133 (by decide) ?_
              refine lv_goto (tgt := 138) hx hb dX2_run_134 (by decide) ?_
              exact kJ138 _ _ _ _ hf w (lv_sub hl [0, 1, 2, 3, 4] rfl)
          refine lv_if_eq (tgt := 101) hx hb dX2_run_94 (by decide) (fun c94 => ?_) (fun c94 => ?_)
          · have hf := pf_t c94 hf
            refine lv_iconst (v := 0) hx hb dX2_run_101 (by decide) ?_
            exact kJ102 _ _ _ _ hf w (lv_sub hl [1, 2, 3, 4, 5] rfl)
          · have hf := pf_e c94 hf
            refine lv_iconst (v := 1) hx hb dX2_run_97 (by decide) ?_
            refine lv_goto (tgt := 102) hx hb dX2_run_98 (by decide) ?_
            exact kJ102 _ _ _ _ hf w (lv_sub hl [1, 2, 3, 4, 5] rfl)
        refine lv_if_le (tgt := 43) hx hb dX2_run_20 (by decide) (fun c20 => ?_) (fun c20 => ?_)
        · have hf := pf_t c20 hf
          refine lv_iconst (v := 0) hx hb dX2_run_43 (by decide) ?_
          exact kJ44 _ _ _ _ _ hf w (lv_sub hl [0, 1, 2, 3, 4] rfl)
        · have hf := pf_e c20 hf
          refine lv_aload_n hx hb dX2_run_23 rfl (lv_at hl 0 rfl) ?_
          refine lv_aload_n hx hb dX2_run_24 rfl (lv_at hl 0 rfl) ?_
          refine hm_get cb_X2 hx hb hown X w 0 8 fl_X2_37 dX2_run_25 rfl (by decide) rfl ?_
          refine lv_iconst (v := 2) hx hb dX2_run_28 (by decide) ?_
          refine lv_imul hx hb dX2_run_29 ?_
          refine lv_iconst (v := 1) hx hb dX2_run_30 (by decide) ?_
          refine lv_iadd hx hb dX2_run_31 ?_
          obtain ⟨r46, x47, hc32, hf⟩ := pf_bi_1 hf
          refine hm_aft_i (ws' := fun _ => [oc2 h0 r_t d_t t_bits t_offset t_band t_rule t_noise t_step x47 t_heat t_hour t_seenCount, oc1 h4 r_p4 x1 x24 x25 p4_left x26 x27 p4_code, ic E (r_t 2) 12 t_off, ic E (r_t 1) 12 t_size, ic E (r_t 4) 12 t_stuck, ic E (r_t 3) 12 t_worth, ic E (r_p4 3) 12 f22, ic E (r_p4 4) 12 f23, ic E (r_p4 2) 12 f21, ic E (r_p4 1) 12 f20]) (hm_runV (rest := []) hx hb hml hown X hA Y w 0 (ci := 2) (T := TX2) (N := 17) rfl rfl mw_X2_drawOf ml_X2_96 dX2_run_32 hm_ac0 [.int ((t_noise * 2) + 1)] rfl [0] rfl rfl (ct_X2_drawOf l E H.size h0 r_t d_t t_bits t_offset t_band t_rule t_noise t_step x19 t_heat t_hour t_seenCount ((t_noise * 2) + 1) (r46, x47) hc32) rfl hl.1 ⟨⟨rfl, rfl⟩, ⟨Nat.le_of_ble_eq_true rfl, Nat.le_of_ble_eq_true rfl⟩, ⟨Nat.le_of_ble_eq_true rfl, Nat.le_of_ble_eq_true rfl⟩, Nat.le_of_ble_eq_true rfl⟩) hA w [0] [1, 2, 3, 4, 5, 6, 7, 8, 9] [9, 0, 1, 2, 3, 4, 5, 6, 7, 8] rfl rfl (by decide) (fun _ => rfl) (fun _ H locs w => ?_)
          refine lv_aload_n hx hb dX2_run_35 rfl (lv_at hl 0 rfl) ?_
          refine hm_get cb_X2 hx hb hown X w 0 8 fl_X2_37 dX2_run_36 rfl (by decide) rfl ?_
          refine lv_isub hx hb dX2_run_39 ?_
          refine lv_goto (tgt := 44) hx hb dX2_run_40 (by decide) ?_
          exact kJ44 _ _ _ _ _ hf w (lv_sub hl [0, 1, 2, 3, 4] rfl)
  exact klp_X2_run_11 FU _ _ _ _ _ _ _ _ _ _ _ _ _ hf w (lv_sub hl [1, 2, 3, 5, 0] rfl)
set_option maxHeartbeats 8000000 in
set_option maxRecDepth 100000 in
theorem ct_X2_paperSum (l : Launch) (E : hm_E) (sz : Nat) (h0 : Nat) (r_t : Nat → Nat) (d_t : Nat) (t_bits t_offset t_band t_rule t_noise t_step t_draws t_heat t_hour t_seenCount : Int32) (t_off : Nat → Int32) (t_size : Nat → Int32) (t_stuck : Nat → Int32) (t_worth : Nat → Int32) (a1 : Int32) (a2 : Int32) (R : Int32 × Unit) (hf : pf_X2_paperSum a1 a2 t_bits t_size t_off t_worth t_stuck t_offset = some R) : hm_Mi l E yX2_paperSum cX2_paperSum 7 .int [] (hm_rr 1 21 0 0) [.ref h0, .int a1, .int a2] sz [oc2 h0 r_t d_t t_bits t_offset t_band t_rule t_noise t_step t_draws t_heat t_hour t_seenCount, ic E (r_t 2) 12 t_off, ic E (r_t 1) 12 t_size, ic E (r_t 4) 12 t_stuck, ic E (r_t 3) 12 t_worth] R.1 (fun _ => [oc2 h0 r_t d_t t_bits t_offset t_band t_rule t_noise t_step t_draws t_heat t_hour t_seenCount, ic E (r_t 2) 12 t_off, ic E (r_t 1) 12 t_size, ic E (r_t 4) 12 t_stuck, ic E (r_t 3) 12 t_worth]) := by
  refine hm_ct_i R (fun u qs => [oc2 h0 r_t d_t t_bits t_offset t_band t_rule t_noise t_step t_draws t_heat t_hour t_seenCount, ic E (r_t 2) 12 t_off, ic E (r_t 1) 12 t_size, ic E (r_t 4) 12 t_stuck, ic E (r_t 3) 12 t_worth]) (by decide) (Nat.le_of_ble_eq_true rfl) (Or.inl rfl) ?_
  intro p e s m args below meth c A Q ls H locs hx hb hml hown X hA Y hex w hl hQ
  have hl : lv_has ls 7 [(0, .ref h0), (1, .int a1), (2, .int a2)] := hl
  unfold pf_X2_paperSum at hf
  refine lv_iload_n hx hb dX2_paperSum_0 rfl (lv_at hl 1 rfl) ?_
  refine lv_aload_n hx hb dX2_paperSum_1 rfl (lv_at hl 0 rfl) ?_
  refine hm_get cb_X2 hx hb hown X w 0 5 fl_X2_28 dX2_paperSum_2 rfl (by decide) rfl ?_
  refine lv_iadd hx hb dX2_paperSum_5 ?_
  refine lv_topi (fun x1 ex1 => ?_)
  have hf := pf_nm ex1 hf
  refine lv_istore_n (lv' := [(3, .int x1), (0, .ref h0), (1, .int a1), (2, .int a2)]) hx hb dX2_paperSum_6 rfl hl (by decide) rfl (fun ls hl => ?_)
  refine lv_iconst (v := 0) hx hb dX2_paperSum_7 (by decide) ?_
  refine lv_istore (lv' := [(4, .int 0), (3, .int x1), (0, .ref h0), (1, .int a1), (2, .int a2)]) hx hb dX2_paperSum_8 hl (by decide) rfl (fun ls hl => ?_)
  refine lv_aload_n hx hb dX2_paperSum_10 rfl (lv_at hl 2 rfl) ?_
  refine hm_get cb_X2 hx hb hown X w 0 0 fl_X2_9 dX2_paperSum_11 rfl (by decide) rfl ?_
  refine lv_iconst (v := 1) hx hb dX2_paperSum_14 (by decide) ?_
  refine lv_isub hx hb dX2_paperSum_15 ?_
  refine lv_topi (fun x2 ex2 => ?_)
  have hf := pf_nm ex2 hf
  refine lv_istore (lv' := [(5, .int x2), (4, .int 0), (3, .int x1), (0, .ref h0), (1, .int a1), (2, .int a2)]) hx hb dX2_paperSum_16 hl (by decide) rfl (fun ls hl => ?_)
  have klp_X2_paperSum_18 : ∀ (n : Nat) (x3 : Int32) (x4 : Int32) (x5 : Int32) (H : Heap) (locs : List Loc) (ls : Array Slot), lp_X2_paperSum_18 a2 t_off t_size t_stuck t_worth n x3 x4 x5 = some R → hm_W E A s.heap [oc2 h0 r_t d_t t_bits t_offset t_band t_rule t_noise t_step t_draws t_heat t_hour t_seenCount, ic E (r_t 2) 12 t_off, ic E (r_t 1) 12 t_size, ic E (r_t 4) 12 t_stuck, ic E (r_t 3) 12 t_worth] H locs → lv_has ls 7 [(0, .ref h0), (2, .int a2), (3, .int x3), (4, .int x4), (5, .int x5)] → W p l e (hm_rr 1 21 0 0) s m args below meth c H locs 0 0 Q (F0 m 18 ls []) := by
    intro n
    induction n with
    | zero =>
      intro x3 x4 x5 H locs ls hf w hl
      exact pf_no hf
    | succ n ih18 =>
      intro x3 x4 x5 H locs ls hf w hl
      rw [lp_X2_paperSum_18] at hf
      refine lv_iload hx hb dX2_paperSum_18 (lv_at hl 4 rfl) ?_
      refine lv_if_lt (tgt := 106) hx hb dX2_paperSum_20 (by decide) (fun c20 => ?_) (fun c20 => ?_)
      · have hf := pf_t c20 hf
        refine lv_iload hx hb dX2_paperSum_106 (lv_at hl 3 rfl) ?_
        exact hQ _ _ _ _ _ () (fun _ => 0) hf rfl w dX2_paperSum_108
      · have hf := pf_e c20 hf
        refine lv_aload_n hx hb dX2_paperSum_23 rfl (lv_at hl 0 rfl) ?_
        refine hm_get cb_X2 hx hb hown X w 0 4 fl_X2_25 dX2_paperSum_24 rfl (by decide) rfl ?_
        refine lv_iload hx hb dX2_paperSum_27 (lv_at hl 4 rfl) ?_
        obtain ⟨g29, hf⟩ := pf_ckI hf
        refine hm_iald hx hb X w 3 dX2_paperSum_29 rfl g29 ?_
        refine lv_iconst (v := (-1)) hx hb dX2_paperSum_30 (by decide) ?_
        obtain ⟨J59, hJ59, hf⟩ := pf_jn hf
        have kJ59 : ∀ (x6 : Int32) (H : Heap) (locs : List Loc) (ls : Array Slot), J59 x6 = some R → hm_W E A s.heap [oc2 h0 r_t d_t t_bits t_offset t_band t_rule t_noise t_step t_draws t_heat t_hour t_seenCount, ic E (r_t 2) 12 t_off, ic E (r_t 1) 12 t_size, ic E (r_t 4) 12 t_stuck, ic E (r_t 3) 12 t_worth] H locs → lv_has ls 7 [(0, .ref h0), (2, .int a2), (3, .int x3), (4, .int x4), (5, .int x5)] → W p l e (hm_rr 1 21 0 0) s m args below meth c H locs 0 0 Q (F0 m 59 ls [.int x6]) := by
          intro x6 H locs ls hf w hl
          have hf := pf_j1 hJ59 hf
          refine lv_istore (lv' := [(6, .int x6), (0, .ref h0), (2, .int a2), (3, .int x3), (4, .int x4), (5, .int x5)]) hx hb dX2_paperSum_59 hl (by decide) rfl (fun ls hl => ?_)
          refine lv_iload hx hb dX2_paperSum_61 (lv_at hl 5 rfl) ?_
          refine lv_iload_n hx hb dX2_paperSum_63 rfl (lv_at hl 2 rfl) ?_
          obtain ⟨J73, hJ73, hf⟩ := pf_jn hf
          have kJ73 : ∀ (x7 : Int32) (H : Heap) (locs : List Loc) (ls : Array Slot), J73 x7 = some R → hm_W E A s.heap [oc2 h0 r_t d_t t_bits t_offset t_band t_rule t_noise t_step t_draws t_heat t_hour t_seenCount, ic E (r_t 2) 12 t_off, ic E (r_t 1) 12 t_size, ic E (r_t 4) 12 t_stuck, ic E (r_t 3) 12 t_worth] H locs → lv_has ls 7 [(0, .ref h0), (2, .int a2), (3, .int x3), (4, .int x4), (5, .int x5), (6, .int x7)] → W p l e (hm_rr 1 21 0 0) s m args below meth c H locs 0 0 Q (F0 m 73 ls []) := by
            intro x7 H locs ls hf w hl
            have hf := pf_j1 hJ73 hf
            refine lv_iload hx hb dX2_paperSum_73 (lv_at hl 5 rfl) ?_
            refine lv_iconst (v := 1) hx hb dX2_paperSum_75 (by decide) ?_
            refine lv_icmp_ne (tgt := 100) hx hb dX2_paperSum_76 (by decide) (fun c76 => ?_) (fun c76 => ?_)
            · have hf := pf_e c76 hf
              obtain ⟨x8, ex8⟩ : ∃ y : Int32, y = (x5 + (-1)) := ⟨_, rfl⟩
              have hf := pf_nm ex8 hf
              refine lv_iinc (v := x8) (lv' := [(5, .int x8), (0, .ref h0), (2, .int a2), (3, .int x3), (4, .int x4), (6, .int x7)]) hx hb dX2_paperSum_100 hl (k := 4) rfl (by rw [ex8]; rfl) (by decide) rfl (fun ls hl => ?_)
              refine lv_goto (tgt := 18) hx hb dX2_paperSum_103 (by decide) ?_
              exact ih18 _ _ _ _ _ _ hf w (lv_sub hl [1, 2, 3, 4, 0] rfl)
            · have hf := pf_t c76 hf
              refine lv_iload_n hx hb dX2_paperSum_79 rfl (lv_at hl 2 rfl) ?_
              refine lv_aload_n hx hb dX2_paperSum_80 rfl (lv_at hl 0 rfl) ?_
              refine lv_iload hx hb dX2_paperSum_81 (lv_at hl 4 rfl) ?_
              obtain ⟨r9, hc83, hf⟩ := pf_bi_0 hf
              refine hm_aft_i (ws' := fun _ => [oc2 h0 r_t d_t t_bits t_offset t_band t_rule t_noise t_step t_draws t_heat t_hour t_seenCount, ic E (r_t 2) 12 t_off, ic E (r_t 1) 12 t_size, ic E (r_t 4) 12 t_stuck, ic E (r_t 3) 12 t_worth]) (hm_runV (rest := [.int x3]) hx hb hml hown X hA Y w 0 (ci := 2) (T := TX2) (N := 17) rfl rfl mw_X2_weight ml_X2_82 dX2_paperSum_83 hm_ac0 [.int x5] rfl [0, 1, 2] rfl rfl (ct_X2_weight l E H.size h0 r_t d_t t_bits t_offset t_band t_rule t_noise t_step t_draws t_heat t_hour t_seenCount t_off t_size x5 (r9, ()) hc83) rfl hl.1 ⟨⟨rfl, rfl⟩, ⟨Nat.le_of_ble_eq_true rfl, Nat.le_of_ble_eq_true rfl⟩, ⟨Nat.le_of_ble_eq_true rfl, Nat.le_of_ble_eq_true rfl⟩, Nat.le_of_ble_eq_true rfl⟩) hA w [0, 1, 2] [3, 4] [2, 3, 4, 0, 1] rfl rfl (by decide) (fun _ => rfl) (fun _ H locs w => ?_)
              refine lv_isub hx hb dX2_paperSum_86 ?_
              refine lv_topi (fun x10 ex10 => ?_)
              have hf := pf_nm ex10 hf
              refine lv_istore_n (lv' := [(3, .int x10), (0, .ref h0), (2, .int a2), (4, .int x4), (5, .int x5), (6, .int x7)]) hx hb dX2_paperSum_87 rfl hl (by decide) rfl (fun ls hl => ?_)
              refine lv_iload hx hb dX2_paperSum_88 (lv_at hl 3 rfl) ?_
              refine lv_aload_n hx hb dX2_paperSum_90 rfl (lv_at hl 1 rfl) ?_
              refine hm_get cb_X2 hx hb hown X w 0 3 fl_X2_22 dX2_paperSum_91 rfl (by decide) rfl ?_
              refine lv_iload hx hb dX2_paperSum_94 (lv_at hl 4 rfl) ?_
              obtain ⟨g96, hf⟩ := pf_ckI hf
              refine hm_iald hx hb X w 4 dX2_paperSum_96 rfl g96 ?_
              refine lv_iadd hx hb dX2_paperSum_97 ?_
              refine lv_topi (fun x11 ex11 => ?_)
              have hf := pf_nm ex11 hf
              refine lv_istore (lv' := [(4, .int x11), (3, .int x10), (0, .ref h0), (2, .int a2), (5, .int x5), (6, .int x7)]) hx hb dX2_paperSum_98 hl (by decide) rfl (fun ls hl => ?_)
              obtain ⟨x12, ex12⟩ : ∃ y : Int32, y = (x5 + (-1)) := ⟨_, rfl⟩
              have hf := pf_nm ex12 hf
              refine lv_iinc (v := x12) (lv' := [(5, .int x12), (4, .int x11), (3, .int x10), (0, .ref h0), (2, .int a2), (6, .int x7)]) hx hb dX2_paperSum_100 hl (k := 4) rfl (by rw [ex12]; rfl) (by decide) rfl (fun ls hl => ?_)
              refine lv_goto (tgt := 18) hx hb dX2_paperSum_103 (by decide) ?_
              exact ih18 _ _ _ _ _ _ hf w (lv_sub hl [3, 4, 2, 1, 0] rfl)
          refine lv_icmp_ne (tgt := 73) hx hb dX2_paperSum_64 (by decide) (fun c64 => ?_) (fun c64 => ?_)
          · have hf := pf_e c64 hf
            exact kJ73 _ _ _ _ hf w (lv_sub hl [1, 2, 3, 4, 5, 0] rfl)
          · have hf := pf_t c64 hf
            refine lv_iconst (v := 1) hx hb dX2_paperSum_67 (by decide) ?_
            refine lv_iload hx hb dX2_paperSum_68 (lv_at hl 0 rfl) ?_
            refine lv_isub hx hb dX2_paperSum_70 ?_
            refine lv_topi (fun x13 ex13 => ?_)
            have hf := pf_nm ex13 hf
            refine lv_istore (lv' := [(6, .int x13), (0, .ref h0), (2, .int a2), (3, .int x3), (4, .int x4), (5, .int x5)]) hx hb dX2_paperSum_71 hl (by decide) rfl (fun ls hl => ?_)
            exact kJ73 _ _ _ _ hf w (lv_sub hl [1, 2, 3, 4, 5, 0] rfl)
        refine lv_icmp_eq (tgt := 44) hx hb dX2_paperSum_31 (by decide) (fun c31 => ?_) (fun c31 => ?_)
        · have hf := pf_t c31 hf
          refine lv_iload_n hx hb dX2_paperSum_44 rfl (lv_at hl 2 rfl) ?_
          refine lv_aload_n hx hb dX2_paperSum_45 rfl (lv_at hl 0 rfl) ?_
          refine lv_iload hx hb dX2_paperSum_46 (lv_at hl 4 rfl) ?_
          obtain ⟨r14, hc48, hf⟩ := pf_bi_0 hf
          refine hm_aft_i (ws' := fun _ => [oc2 h0 r_t d_t t_bits t_offset t_band t_rule t_noise t_step t_draws t_heat t_hour t_seenCount, ic E (r_t 2) 12 t_off, ic E (r_t 1) 12 t_size, ic E (r_t 4) 12 t_stuck, ic E (r_t 3) 12 t_worth]) (hm_runV (rest := [.int x3]) hx hb hml hown X hA Y w 0 (ci := 2) (T := TX2) (N := 17) rfl rfl mw_X2_weight ml_X2_82 dX2_paperSum_48 hm_ac0 [.int x5] rfl [0, 1, 2] rfl rfl (ct_X2_weight l E H.size h0 r_t d_t t_bits t_offset t_band t_rule t_noise t_step t_draws t_heat t_hour t_seenCount t_off t_size x5 (r14, ()) hc48) rfl hl.1 ⟨⟨rfl, rfl⟩, ⟨Nat.le_of_ble_eq_true rfl, Nat.le_of_ble_eq_true rfl⟩, ⟨Nat.le_of_ble_eq_true rfl, Nat.le_of_ble_eq_true rfl⟩, Nat.le_of_ble_eq_true rfl⟩) hA w [0, 1, 2] [3, 4] [2, 3, 4, 0, 1] rfl rfl (by decide) (fun _ => rfl) (fun _ H locs w => ?_)
          refine lv_icmp_lt (tgt := 58) hx hb dX2_paperSum_51 (by decide) (fun c51 => ?_) (fun c51 => ?_)
          · have hf := pf_t c51 hf
            refine lv_iconst (v := 0) hx hb dX2_paperSum_58 (by decide) ?_
            exact kJ59 _ _ _ _ hf w (lv_sub hl [0, 1, 2, 3, 4] rfl)
          · have hf := pf_e c51 hf
            refine lv_iconst (v := 1) hx hb dX2_paperSum_54 (by decide) ?_
            refine lv_goto (tgt := 59) hx hb dX2_paperSum_55 (by decide) ?_
            exact kJ59 _ _ _ _ hf w (lv_sub hl [0, 1, 2, 3, 4] rfl)
        · have hf := pf_e c31 hf
          refine lv_aload_n hx hb dX2_paperSum_34 rfl (lv_at hl 0 rfl) ?_
          refine hm_get cb_X2 hx hb hown X w 0 4 fl_X2_25 dX2_paperSum_35 rfl (by decide) rfl ?_
          refine lv_iload hx hb dX2_paperSum_38 (lv_at hl 4 rfl) ?_
          obtain ⟨g40, hf⟩ := pf_ckI hf
          refine hm_iald hx hb X w 3 dX2_paperSum_40 rfl g40 ?_
          refine lv_goto (tgt := 59) hx hb dX2_paperSum_41 (by decide) ?_
          exact kJ59 _ _ _ _ hf w (lv_sub hl [0, 1, 2, 3, 4] rfl)
  exact klp_X2_paperSum_18 FU _ _ _ _ _ _ hf w (lv_sub hl [3, 5, 2, 1, 0] rfl)
set_option maxHeartbeats 8000000 in
set_option maxRecDepth 100000 in
theorem ct_X2_paperCode (l : Launch) (E : hm_E) (sz : Nat) (h0 : Nat) (r_t : Nat → Nat) (d_t : Nat) (t_bits t_offset t_band t_rule t_noise t_step t_draws t_heat t_hour t_seenCount : Int32) (t_off : Nat → Int32) (t_size : Nat → Int32) (t_stuck : Nat → Int32) (t_worth : Nat → Int32) (a1 : Int32) (R : Int32 × Unit) (hf : pf_X2_paperCode a1 t_bits t_size t_off t_worth t_stuck t_offset t_step = some R) : hm_Mi l E yX2_paperCode cX2_paperCode 2 .int [] (hm_rr 2 47 0 0) [.ref h0, .int a1] sz [oc2 h0 r_t d_t t_bits t_offset t_band t_rule t_noise t_step t_draws t_heat t_hour t_seenCount, ic E (r_t 2) 12 t_off, ic E (r_t 1) 12 t_size, ic E (r_t 4) 12 t_stuck, ic E (r_t 3) 12 t_worth] R.1 (fun _ => [oc2 h0 r_t d_t t_bits t_offset t_band t_rule t_noise t_step t_draws t_heat t_hour t_seenCount, ic E (r_t 2) 12 t_off, ic E (r_t 1) 12 t_size, ic E (r_t 4) 12 t_stuck, ic E (r_t 3) 12 t_worth]) := by
  refine hm_ct_i R (fun u qs => [oc2 h0 r_t d_t t_bits t_offset t_band t_rule t_noise t_step t_draws t_heat t_hour t_seenCount, ic E (r_t 2) 12 t_off, ic E (r_t 1) 12 t_size, ic E (r_t 4) 12 t_stuck, ic E (r_t 3) 12 t_worth]) (by decide) (Nat.le_of_ble_eq_true rfl) (Or.inl rfl) ?_
  intro p e s m args below meth c A Q ls H locs hx hb hml hown X hA Y hex w hl hQ
  have hl : lv_has ls 2 [(0, .ref h0), (1, .int a1)] := hl
  unfold pf_X2_paperCode at hf
  refine lv_aload_n hx hb dX2_paperCode_0 rfl (lv_at hl 0 rfl) ?_
  refine lv_aload_n hx hb dX2_paperCode_1 rfl (lv_at hl 0 rfl) ?_
  refine lv_iload_n hx hb dX2_paperCode_2 rfl (lv_at hl 1 rfl) ?_
  refine lv_iconst (v := (-1)) hx hb dX2_paperCode_3 (by decide) ?_
  obtain ⟨r1, hc4, hf⟩ := pf_bi_0 hf
  refine hm_aft_i (ws' := fun _ => [oc2 h0 r_t d_t t_bits t_offset t_band t_rule t_noise t_step t_draws t_heat t_hour t_seenCount, ic E (r_t 2) 12 t_off, ic E (r_t 1) 12 t_size, ic E (r_t 4) 12 t_stuck, ic E (r_t 3) 12 t_worth]) (hm_runV (rest := [.ref h0]) hx hb hml hown X hA Y w 0 (ci := 2) (T := TX2) (N := 17) rfl rfl mw_X2_paperSum ml_X2_140 dX2_paperCode_4 hm_ac0 [.int a1, .int (-1)] rfl [0, 1, 2, 3, 4] rfl rfl (ct_X2_paperSum l E H.size h0 r_t d_t t_bits t_offset t_band t_rule t_noise t_step t_draws t_heat t_hour t_seenCount t_off t_size t_stuck t_worth a1 (-1) (r1, ()) hc4) rfl hl.1 ⟨⟨rfl, rfl⟩, ⟨Nat.le_of_ble_eq_true rfl, Nat.le_of_ble_eq_true rfl⟩, ⟨Nat.le_of_ble_eq_true rfl, Nat.le_of_ble_eq_true rfl⟩, Nat.le_of_ble_eq_true rfl⟩) hA w [0, 1, 2, 3, 4] [] [0, 1, 2, 3, 4] rfl rfl (by decide) (fun _ => rfl) (fun _ H locs w => ?_)
  obtain ⟨r2, hc7, hf⟩ := pf_bi_0 hf
  refine hm_aft_i (ws' := fun _ => [oc2 h0 r_t d_t t_bits t_offset t_band t_rule t_noise t_step t_draws t_heat t_hour t_seenCount, ic E (r_t 2) 12 t_off, ic E (r_t 1) 12 t_size, ic E (r_t 4) 12 t_stuck, ic E (r_t 3) 12 t_worth]) (hm_runV (rest := []) hx hb hml hown X hA Y w 0 (ci := 2) (T := TX2) (N := 17) rfl rfl mw_X2_codeOf ml_X2_134 dX2_paperCode_7 hm_ac0 [.int r1] rfl [0] rfl rfl (ct_X2_codeOf l E H.size h0 r_t d_t t_bits t_offset t_band t_rule t_noise t_step t_draws t_heat t_hour t_seenCount r1 (r2, ()) hc7) rfl hl.1 ⟨⟨rfl, rfl⟩, ⟨Nat.le_of_ble_eq_true rfl, Nat.le_of_ble_eq_true rfl⟩, ⟨Nat.le_of_ble_eq_true rfl, Nat.le_of_ble_eq_true rfl⟩, Nat.le_of_ble_eq_true rfl⟩) hA w [0] [1, 2, 3, 4] [4, 0, 1, 2, 3] rfl rfl (by decide) (fun _ => rfl) (fun _ H locs w => ?_)
  exact hQ _ _ _ _ _ () (fun _ => 0) hf rfl w dX2_paperCode_10
set_option maxHeartbeats 8000000 in
set_option maxRecDepth 100000 in
theorem ct_X2_forgives (l : Launch) (E : hm_E) (sz : Nat) (h0 : Nat) (r_t : Nat → Nat) (d_t : Nat) (t_bits t_offset t_band t_rule t_noise t_step t_draws t_heat t_hour t_seenCount : Int32) (t_off : Nat → Int32) (t_size : Nat → Int32) (t_stuck : Nat → Int32) (t_worth : Nat → Int32) (a1 : Int32) (a2 : Int32) (R : Int32 × Unit) (hf : pf_X2_forgives a1 a2 t_bits t_size t_off t_worth t_stuck t_offset t_step = some R) : hm_Mi l E yX2_forgives cX2_forgives 3 .boolean [] (hm_rr 3 68 0 0) [.ref h0, .int a1, .int a2] sz [oc2 h0 r_t d_t t_bits t_offset t_band t_rule t_noise t_step t_draws t_heat t_hour t_seenCount, ic E (r_t 2) 12 t_off, ic E (r_t 1) 12 t_size, ic E (r_t 4) 12 t_stuck, ic E (r_t 3) 12 t_worth] R.1 (fun _ => [oc2 h0 r_t d_t t_bits t_offset t_band t_rule t_noise t_step t_draws t_heat t_hour t_seenCount, ic E (r_t 2) 12 t_off, ic E (r_t 1) 12 t_size, ic E (r_t 4) 12 t_stuck, ic E (r_t 3) 12 t_worth]) := by
  refine hm_ct_i R (fun u qs => [oc2 h0 r_t d_t t_bits t_offset t_band t_rule t_noise t_step t_draws t_heat t_hour t_seenCount, ic E (r_t 2) 12 t_off, ic E (r_t 1) 12 t_size, ic E (r_t 4) 12 t_stuck, ic E (r_t 3) 12 t_worth]) (by decide) (Nat.le_of_ble_eq_true rfl) (Or.inr rfl) ?_
  intro p e s m args below meth c A Q ls H locs hx hb hml hown X hA Y hex w hl hQ
  have hl : lv_has ls 3 [(0, .ref h0), (1, .int a1), (2, .int a2)] := hl
  unfold pf_X2_forgives at hf
  refine lv_aload_n hx hb dX2_forgives_0 rfl (lv_at hl 0 rfl) ?_
  refine lv_aload_n hx hb dX2_forgives_1 rfl (lv_at hl 0 rfl) ?_
  refine lv_iload_n hx hb dX2_forgives_2 rfl (lv_at hl 1 rfl) ?_
  refine lv_iload_n hx hb dX2_forgives_3 rfl (lv_at hl 2 rfl) ?_
  obtain ⟨r1, hc4, hf⟩ := pf_bi_0 hf
  refine hm_aft_i (ws' := fun _ => [oc2 h0 r_t d_t t_bits t_offset t_band t_rule t_noise t_step t_draws t_heat t_hour t_seenCount, ic E (r_t 2) 12 t_off, ic E (r_t 1) 12 t_size, ic E (r_t 4) 12 t_stuck, ic E (r_t 3) 12 t_worth]) (hm_runV (rest := [.ref h0]) hx hb hml hown X hA Y w 0 (ci := 2) (T := TX2) (N := 17) rfl rfl mw_X2_paperSum ml_X2_140 dX2_forgives_4 hm_ac0 [.int a1, .int a2] rfl [0, 1, 2, 3, 4] rfl rfl (ct_X2_paperSum l E H.size h0 r_t d_t t_bits t_offset t_band t_rule t_noise t_step t_draws t_heat t_hour t_seenCount t_off t_size t_stuck t_worth a1 a2 (r1, ()) hc4) rfl hl.1 ⟨⟨rfl, rfl⟩, ⟨Nat.le_of_ble_eq_true rfl, Nat.le_of_ble_eq_true rfl⟩, ⟨Nat.le_of_ble_eq_true rfl, Nat.le_of_ble_eq_true rfl⟩, Nat.le_of_ble_eq_true rfl⟩) hA w [0, 1, 2, 3, 4] [] [0, 1, 2, 3, 4] rfl rfl (by decide) (fun _ => rfl) (fun _ H locs w => ?_)
  obtain ⟨r2, hc7, hf⟩ := pf_bi_0 hf
  refine hm_aft_i (ws' := fun _ => [oc2 h0 r_t d_t t_bits t_offset t_band t_rule t_noise t_step t_draws t_heat t_hour t_seenCount, ic E (r_t 2) 12 t_off, ic E (r_t 1) 12 t_size, ic E (r_t 4) 12 t_stuck, ic E (r_t 3) 12 t_worth]) (hm_runV (rest := []) hx hb hml hown X hA Y w 0 (ci := 2) (T := TX2) (N := 17) rfl rfl mw_X2_codeOf ml_X2_134 dX2_forgives_7 hm_ac0 [.int r1] rfl [0] rfl rfl (ct_X2_codeOf l E H.size h0 r_t d_t t_bits t_offset t_band t_rule t_noise t_step t_draws t_heat t_hour t_seenCount r1 (r2, ()) hc7) rfl hl.1 ⟨⟨rfl, rfl⟩, ⟨Nat.le_of_ble_eq_true rfl, Nat.le_of_ble_eq_true rfl⟩, ⟨Nat.le_of_ble_eq_true rfl, Nat.le_of_ble_eq_true rfl⟩, Nat.le_of_ble_eq_true rfl⟩) hA w [0] [1, 2, 3, 4] [4, 0, 1, 2, 3] rfl rfl (by decide) (fun _ => rfl) (fun _ H locs w => ?_)
  refine lv_aload_n hx hb dX2_forgives_10 rfl (lv_at hl 0 rfl) ?_
  refine lv_iload_n hx hb dX2_forgives_11 rfl (lv_at hl 1 rfl) ?_
  obtain ⟨r3, hc12, hf⟩ := pf_bi_0 hf
  refine hm_aft_i (ws' := fun _ => [oc2 h0 r_t d_t t_bits t_offset t_band t_rule t_noise t_step t_draws t_heat t_hour t_seenCount, ic E (r_t 2) 12 t_off, ic E (r_t 1) 12 t_size, ic E (r_t 4) 12 t_stuck, ic E (r_t 3) 12 t_worth]) (hm_runV (rest := [.int r2]) hx hb hml hown X hA Y w 0 (ci := 2) (T := TX2) (N := 17) rfl rfl mw_X2_paperCode ml_X2_144 dX2_forgives_12 hm_ac0 [.int a1] rfl [0, 1, 2, 3, 4] rfl rfl (ct_X2_paperCode l E H.size h0 r_t d_t t_bits t_offset t_band t_rule t_noise t_step t_draws t_heat t_hour t_seenCount t_off t_size t_stuck t_worth a1 (r3, ()) hc12) rfl hl.1 ⟨⟨rfl, rfl⟩, ⟨Nat.le_of_ble_eq_true rfl, Nat.le_of_ble_eq_true rfl⟩, ⟨Nat.le_of_ble_eq_true rfl, Nat.le_of_ble_eq_true rfl⟩, Nat.le_of_ble_eq_true rfl⟩) hA w [0, 1, 2, 3, 4] [] [0, 1, 2, 3, 4] rfl rfl (by decide) (fun _ => rfl) (fun _ H locs w => ?_)
  refine lv_icmp_ne (tgt := 22) hx hb dX2_forgives_15 (by decide) (fun c15 => ?_) (fun c15 => ?_)
  · have hf := pf_e c15 hf
    refine lv_iconst (v := 0) hx hb dX2_forgives_22 (by decide) ?_
    exact hQ _ _ _ _ _ () (fun _ => 0) hf rfl w dX2_forgives_23
  · have hf := pf_t c15 hf
    refine lv_iconst (v := 1) hx hb dX2_forgives_18 (by decide) ?_
    refine lv_goto (tgt := 23) hx hb dX2_forgives_19 (by decide) ?_
    exact hQ _ _ _ _ _ () (fun _ => 0) hf rfl w dX2_forgives_23
set_option maxHeartbeats 8000000 in
set_option maxRecDepth 100000 in
theorem ct_X2_slackOf (l : Launch) (E : hm_E) (sz : Nat) (h0 : Nat) (r_t : Nat → Nat) (d_t : Nat) (t_bits t_offset t_band t_rule t_noise t_step t_draws t_heat t_hour t_seenCount : Int32) (t_off : Nat → Int32) (t_size : Nat → Int32) (t_stuck : Nat → Int32) (t_worth : Nat → Int32) (a1 : Int32) (R : Int32 × Unit) (hf : pf_X2_slackOf a1 t_bits t_size t_off t_worth t_stuck t_offset t_step = some R) : hm_Mi l E yX2_slackOf cX2_slackOf 4 .int [] (hm_rr 4 90 0 0) [.ref h0, .int a1] sz [oc2 h0 r_t d_t t_bits t_offset t_band t_rule t_noise t_step t_draws t_heat t_hour t_seenCount, ic E (r_t 2) 12 t_off, ic E (r_t 1) 12 t_size, ic E (r_t 4) 12 t_stuck, ic E (r_t 3) 12 t_worth] R.1 (fun _ => [oc2 h0 r_t d_t t_bits t_offset t_band t_rule t_noise t_step t_draws t_heat t_hour t_seenCount, ic E (r_t 2) 12 t_off, ic E (r_t 1) 12 t_size, ic E (r_t 4) 12 t_stuck, ic E (r_t 3) 12 t_worth]) := by
  refine hm_ct_i R (fun u qs => [oc2 h0 r_t d_t t_bits t_offset t_band t_rule t_noise t_step t_draws t_heat t_hour t_seenCount, ic E (r_t 2) 12 t_off, ic E (r_t 1) 12 t_size, ic E (r_t 4) 12 t_stuck, ic E (r_t 3) 12 t_worth]) (by decide) (Nat.le_of_ble_eq_true rfl) (Or.inl rfl) ?_
  intro p e s m args below meth c A Q ls H locs hx hb hml hown X hA Y hex w hl hQ
  have hl : lv_has ls 4 [(0, .ref h0), (1, .int a1)] := hl
  unfold pf_X2_slackOf at hf
  refine lv_aload_n hx hb dX2_slackOf_0 rfl (lv_at hl 0 rfl) ?_
  refine lv_iload_n hx hb dX2_slackOf_1 rfl (lv_at hl 1 rfl) ?_
  obtain ⟨r1, hc2, hf⟩ := pf_bi_0 hf
  refine hm_aft_i (ws' := fun _ => [oc2 h0 r_t d_t t_bits t_offset t_band t_rule t_noise t_step t_draws t_heat t_hour t_seenCount, ic E (r_t 2) 12 t_off, ic E (r_t 1) 12 t_size, ic E (r_t 4) 12 t_stuck, ic E (r_t 3) 12 t_worth]) (hm_runV (rest := []) hx hb hml hown X hA Y w 0 (ci := 2) (T := TX2) (N := 17) rfl rfl mw_X2_weight ml_X2_82 dX2_slackOf_2 hm_ac0 [.int a1] rfl [0, 1, 2] rfl rfl (ct_X2_weight l E H.size h0 r_t d_t t_bits t_offset t_band t_rule t_noise t_step t_draws t_heat t_hour t_seenCount t_off t_size a1 (r1, ()) hc2) rfl hl.1 ⟨⟨rfl, rfl⟩, ⟨Nat.le_of_ble_eq_true rfl, Nat.le_of_ble_eq_true rfl⟩, ⟨Nat.le_of_ble_eq_true rfl, Nat.le_of_ble_eq_true rfl⟩, Nat.le_of_ble_eq_true rfl⟩) hA w [0, 1, 2] [3, 4] [2, 3, 4, 0, 1] rfl rfl (by decide) (fun _ => rfl) (fun _ H locs w => ?_)
  refine lv_aload_n hx hb dX2_slackOf_5 rfl (lv_at hl 0 rfl) ?_
  refine hm_get cb_X2 hx hb hown X w 0 5 fl_X2_28 dX2_slackOf_6 rfl (by decide) rfl ?_
  refine lv_isub hx hb dX2_slackOf_9 ?_
  refine lv_topi (fun x2 ex2 => ?_)
  have hf := pf_nm ex2 hf
  refine lv_istore_n (lv' := [(2, .int x2), (0, .ref h0), (1, .int a1)]) hx hb dX2_slackOf_10 rfl hl (by decide) rfl (fun ls hl => ?_)
  refine lv_iconst (v := 0) hx hb dX2_slackOf_11 (by decide) ?_
  refine lv_istore_n (lv' := [(3, .int 0), (2, .int x2), (0, .ref h0), (1, .int a1)]) hx hb dX2_slackOf_12 rfl hl (by decide) rfl (fun ls hl => ?_)
  have klp_X2_slackOf_13 : ∀ (n : Nat) (x3 : Int32) (H : Heap) (locs : List Loc) (ls : Array Slot), lp_X2_slackOf_13 a1 t_bits t_offset t_step t_off t_size t_stuck t_worth x2 n x3 = some R → hm_W E A s.heap [oc2 h0 r_t d_t t_bits t_offset t_band t_rule t_noise t_step t_draws t_heat t_hour t_seenCount, ic E (r_t 2) 12 t_off, ic E (r_t 1) 12 t_size, ic E (r_t 4) 12 t_stuck, ic E (r_t 3) 12 t_worth] H locs → lv_has ls 4 [(0, .ref h0), (1, .int a1), (2, .int x2), (3, .int x3)] → W p l e (hm_rr 4 90 0 0) s m args below meth c H locs 0 0 Q (F0 m 13 ls []) := by
    intro n
    induction n with
    | zero =>
      intro x3 H locs ls hf w hl
      exact pf_no hf
    | succ n ih13 =>
      intro x3 H locs ls hf w hl
      rw [lp_X2_slackOf_13] at hf
      refine lv_iload_n hx hb dX2_slackOf_13 rfl (lv_at hl 3 rfl) ?_
      refine lv_sipush (v := 2000) hx hb dX2_slackOf_14 (by decide) ?_
      refine lv_icmp_gt (tgt := 52) hx hb dX2_slackOf_17 (by decide) (fun c17 => ?_) (fun c17 => ?_)
      · have hf := pf_t c17 hf
        refine lv_sipush (v := 2000) hx hb dX2_slackOf_52 (by decide) ?_
        exact hQ _ _ _ _ _ () (fun _ => 0) hf rfl w dX2_slackOf_55
      · have hf := pf_e c17 hf
        refine lv_aload_n hx hb dX2_slackOf_20 rfl (lv_at hl 0 rfl) ?_
        refine lv_iload_n hx hb dX2_slackOf_21 rfl (lv_at hl 2 rfl) ?_
        refine lv_iload_n hx hb dX2_slackOf_22 rfl (lv_at hl 3 rfl) ?_
        refine lv_isub hx hb dX2_slackOf_23 ?_
        refine lv_iload_n hx hb dX2_slackOf_24 rfl (lv_at hl 1 rfl) ?_
        obtain ⟨r4, hc25, hf⟩ := pf_bi_0 hf
        refine hm_aft_i (ws' := fun _ => [oc2 h0 r_t d_t t_bits t_offset t_band t_rule t_noise t_step t_draws t_heat t_hour t_seenCount, ic E (r_t 2) 12 t_off, ic E (r_t 1) 12 t_size, ic E (r_t 4) 12 t_stuck, ic E (r_t 3) 12 t_worth]) (hm_runV (rest := []) hx hb hml hown X hA Y w 0 (ci := 2) (T := TX2) (N := 17) rfl rfl mw_X2_forgives ml_X2_147 dX2_slackOf_25 hm_ac0 [.int (x2 - x3), .int a1] rfl [0, 1, 2, 3, 4] rfl rfl (ct_X2_forgives l E H.size h0 r_t d_t t_bits t_offset t_band t_rule t_noise t_step t_draws t_heat t_hour t_seenCount t_off t_size t_stuck t_worth (x2 - x3) a1 (r4, ()) hc25) rfl hl.1 ⟨⟨rfl, rfl⟩, ⟨Nat.le_of_ble_eq_true rfl, Nat.le_of_ble_eq_true rfl⟩, ⟨Nat.le_of_ble_eq_true rfl, Nat.le_of_ble_eq_true rfl⟩, Nat.le_of_ble_eq_true rfl⟩) hA w [0, 1, 2, 3, 4] [] [0, 1, 2, 3, 4] rfl rfl (by decide) (fun _ => rfl) (fun _ H locs w => ?_)
        refine lv_if_eq (tgt := 42) hx hb dX2_slackOf_28 (by decide) (fun c28 => ?_) (fun c28 => ?_)
        · have hf := pf_t c28 hf
          refine lv_iload_n hx hb dX2_slackOf_42 rfl (lv_at hl 3 rfl) ?_
          refine lv_iconst (v := 1) hx hb dX2_slackOf_43 (by decide) ?_
          refine lv_isub hx hb dX2_slackOf_44 ?_
          exact hQ _ _ _ _ _ () (fun _ => 0) hf rfl w dX2_slackOf_45
        · have hf := pf_e c28 hf
          refine lv_aload_n hx hb dX2_slackOf_31 rfl (lv_at hl 0 rfl) ?_
          refine lv_iload_n hx hb dX2_slackOf_32 rfl (lv_at hl 2 rfl) ?_
          refine lv_iload_n hx hb dX2_slackOf_33 rfl (lv_at hl 3 rfl) ?_
          refine lv_iadd hx hb dX2_slackOf_34 ?_
          refine lv_iload_n hx hb dX2_slackOf_35 rfl (lv_at hl 1 rfl) ?_
          obtain ⟨r5, hc36, hf⟩ := pf_bi_0 hf
          refine hm_aft_i (ws' := fun _ => [oc2 h0 r_t d_t t_bits t_offset t_band t_rule t_noise t_step t_draws t_heat t_hour t_seenCount, ic E (r_t 2) 12 t_off, ic E (r_t 1) 12 t_size, ic E (r_t 4) 12 t_stuck, ic E (r_t 3) 12 t_worth]) (hm_runV (rest := []) hx hb hml hown X hA Y w 0 (ci := 2) (T := TX2) (N := 17) rfl rfl mw_X2_forgives ml_X2_147 dX2_slackOf_36 hm_ac0 [.int (x2 + x3), .int a1] rfl [0, 1, 2, 3, 4] rfl rfl (ct_X2_forgives l E H.size h0 r_t d_t t_bits t_offset t_band t_rule t_noise t_step t_draws t_heat t_hour t_seenCount t_off t_size t_stuck t_worth (x2 + x3) a1 (r5, ()) hc36) rfl hl.1 ⟨⟨rfl, rfl⟩, ⟨Nat.le_of_ble_eq_true rfl, Nat.le_of_ble_eq_true rfl⟩, ⟨Nat.le_of_ble_eq_true rfl, Nat.le_of_ble_eq_true rfl⟩, Nat.le_of_ble_eq_true rfl⟩) hA w [0, 1, 2, 3, 4] [] [0, 1, 2, 3, 4] rfl rfl (by decide) (fun _ => rfl) (fun _ H locs w => ?_)
          refine lv_if_ne (tgt := 46) hx hb dX2_slackOf_39 (by decide) (fun c39 => ?_) (fun c39 => ?_)
          · have hf := pf_e c39 hf
            obtain ⟨x6, ex6⟩ : ∃ y : Int32, y = (x3 + 1) := ⟨_, rfl⟩
            have hf := pf_nm ex6 hf
            refine lv_iinc (v := x6) (lv' := [(3, .int x6), (0, .ref h0), (1, .int a1), (2, .int x2)]) hx hb dX2_slackOf_46 hl (k := 3) rfl (by rw [ex6]; rfl) (by decide) rfl (fun ls hl => ?_)
            refine lv_goto (tgt := 13) hx hb dX2_slackOf_49 (by decide) ?_
            exact ih13 _ _ _ _ hf w (lv_sub hl [1, 2, 3, 0] rfl)
          · have hf := pf_t c39 hf
            refine lv_iload_n hx hb dX2_slackOf_42 rfl (lv_at hl 3 rfl) ?_
            refine lv_iconst (v := 1) hx hb dX2_slackOf_43 (by decide) ?_
            refine lv_isub hx hb dX2_slackOf_44 ?_
            exact hQ _ _ _ _ _ () (fun _ => 0) hf rfl w dX2_slackOf_45
  exact klp_X2_slackOf_13 FU _ _ _ _ hf w (lv_sub hl [2, 3, 1, 0] rfl)
set_option maxHeartbeats 8000000 in
set_option maxRecDepth 100000 in
theorem ct_X7_nearest (l : Launch) (E : hm_E) (sz : Nat) (a0 : Int64) (a2 : Int32) (R : Int32 × Unit) (hf : pf_X7_nearest a0 a2 = some R) : hm_Mi l E yX7_nearest cX7_nearest 3 .int [] (hm_rr 0 0 0 0) [.long a0, .int a2] sz [] R.1 (fun _ => []) := by
  refine hm_ct_i R (fun u qs => []) (by decide) (Nat.le_of_ble_eq_true rfl) (Or.inl rfl) ?_
  intro p e s m args below meth c A Q ls H locs hx hb hml hown X hA Y hex w hl hQ
  have hl : lv_has ls 3 [(0, .long a0), (2, .int a2)] := hl
  unfold pf_X7_nearest at hf
  refine lv_iload_n hx hb dX7_nearest_0 rfl (lv_at hl 1 rfl) ?_
  refine lv_iconst (v := 1) hx hb dX7_nearest_1 (by decide) ?_
  refine lv_icmp_ge (tgt := 9) hx hb dX7_nearest_2 (by decide) (fun c2 => ?_) (fun c2 => ?_)
  · have hf := pf_t c2 hf
    refine lv_lload_n hx hb dX7_nearest_9 rfl (lv_at hl 0 rfl) ?_
    refine lv_ldc2 (v := 2) hx hb hown (X.use ck_X7_386 rfl) dX7_nearest_10 ?_
    refine lv_lmul hx hb dX7_nearest_13 ?_
    refine lv_iload_n hx hb dX7_nearest_14 rfl (lv_at hl 1 rfl) ?_
    refine lv_i2l hx hb dX7_nearest_15 rfl ?_
    refine lv_ladd hx hb dX7_nearest_16 ?_
    refine lv_iload_n hx hb dX7_nearest_17 rfl (lv_at hl 1 rfl) ?_
    refine lv_i2l hx hb dX7_nearest_18 rfl ?_
    refine lv_ldc2 (v := 2) hx hb hown (X.use ck_X7_386 rfl) dX7_nearest_19 ?_
    refine lv_lmul hx hb dX7_nearest_22 ?_
    obtain ⟨g23, hf⟩ := pf_ckL hf
    refine lv_ldiv hx hb dX7_nearest_23 g23 ?_
    refine lv_l2i hx hb dX7_nearest_24 rfl ?_
    exact hQ _ _ _ _ _ () (fun _ => 0) hf rfl w dX7_nearest_25
  · have hf := pf_e c2 hf
    refine lv_iconst (v := 0) hx hb dX7_nearest_5 (by decide) ?_
    refine lv_goto (tgt := 25) hx hb dX7_nearest_6 (by decide) ?_
    exact hQ _ _ _ _ _ () (fun _ => 0) hf rfl w dX7_nearest_25
set_option maxHeartbeats 8000000 in
set_option maxRecDepth 100000 in
theorem ct_X2_learnFrom (l : Launch) (E : hm_E) (sz : Nat) (h0 : Nat) (h3 : Nat) (r_t : Nat → Nat) (d_t : Nat) (r_p3 : Nat → Nat) (t_bits t_offset t_band t_rule t_noise t_step t_draws t_heat t_hour t_seenCount p3_bits p3_sum p3_heldAtEnd p3_left p3_lates p3_ones p3_code : Int32) (t_off : Nat → Int32) (t_size : Nat → Int32) (t_stuck : Nat → Int32) (t_worth : Nat → Int32) (p3_apart : Nat → Int32) (p3_held : Nat → Int32) (p3_late : Nat → Int32) (p3_one : Nat → Int32) (a1 : Int32) (a2 : Int32) (R : (Nat → Int32) × Int32 × Int32 × (Nat → Int32) × (Nat → Int32) × (Nat → Int32) × (Nat → Int32) × Int32 × Int32 × Int32 × Int32 × Int32 × Int32) (hf : pf_X2_learnFrom a1 a2 t_bits t_size t_off t_worth t_stuck t_offset t_band t_rule t_noise t_step t_draws p3_bits p3_one p3_late p3_apart p3_held p3_sum p3_heldAtEnd p3_left p3_lates p3_ones p3_code = some R) : hm_Mv l E yX2_learnFrom cX2_learnFrom 8 [] (hm_rr 3 70 0 0) [.ref h0, .int a1, .int a2, .ref h3] sz [oc2 h0 r_t d_t t_bits t_offset t_band t_rule t_noise t_step t_draws t_heat t_hour t_seenCount, oc1 h3 r_p3 p3_bits p3_sum p3_heldAtEnd p3_left p3_lates p3_ones p3_code, ic E (r_t 2) 12 t_off, ic E (r_t 1) 12 t_size, ic E (r_t 4) 12 t_stuck, ic E (r_t 3) 12 t_worth, ic E (r_p3 3) 12 p3_apart, ic E (r_p3 4) 12 p3_held, ic E (r_p3 2) 12 p3_late, ic E (r_p3 1) 12 p3_one] (fun _ => [oc2 h0 r_t d_t t_bits t_offset t_band t_rule t_noise t_step (R.2.1) t_heat t_hour t_seenCount, oc1 h3 r_p3 (R.2.2.1) (R.2.2.2.2.2.2.2.1) (R.2.2.2.2.2.2.2.2.1) (R.2.2.2.2.2.2.2.2.2.1) (R.2.2.2.2.2.2.2.2.2.2.1) (R.2.2.2.2.2.2.2.2.2.2.2.1) (R.2.2.2.2.2.2.2.2.2.2.2.2), ic E (r_t 2) 12 t_off, ic E (r_t 1) 12 t_size, ic E (r_t 4) 12 t_stuck, ic E (r_t 3) 12 (R.1), ic E (r_p3 3) 12 (R.2.2.2.2.2.1), ic E (r_p3 4) 12 (R.2.2.2.2.2.2.1), ic E (r_p3 2) 12 (R.2.2.2.2.1), ic E (r_p3 1) 12 (R.2.2.2.1)]) := by
  refine hm_ct_v R (fun u _ => [oc2 h0 r_t d_t t_bits t_offset t_band t_rule t_noise t_step (u.2.1) t_heat t_hour t_seenCount, oc1 h3 r_p3 (u.2.2.1) (u.2.2.2.2.2.2.2.1) (u.2.2.2.2.2.2.2.2.1) (u.2.2.2.2.2.2.2.2.2.1) (u.2.2.2.2.2.2.2.2.2.2.1) (u.2.2.2.2.2.2.2.2.2.2.2.1) (u.2.2.2.2.2.2.2.2.2.2.2.2), ic E (r_t 2) 12 t_off, ic E (r_t 1) 12 t_size, ic E (r_t 4) 12 t_stuck, ic E (r_t 3) 12 (u.1), ic E (r_p3 3) 12 (u.2.2.2.2.2.1), ic E (r_p3 4) 12 (u.2.2.2.2.2.2.1), ic E (r_p3 2) 12 (u.2.2.2.2.1), ic E (r_p3 1) 12 (u.2.2.2.1)]) (by decide) (Nat.le_of_ble_eq_true rfl) ?_
  intro p e s m args below meth c A Q ls H locs hx hb hml hown X hA Y hex hin w hl hQ
  have hl : lv_has ls 8 [(0, .ref h0), (1, .int a1), (2, .int a2), (3, .ref h3)] := hl
  unfold pf_X2_learnFrom at hf
  refine lv_iconst (v := 0) hx hb dX2_learnFrom_0 (by decide) ?_
  refine lv_istore (lv' := [(4, .int 0), (0, .ref h0), (1, .int a1), (2, .int a2), (3, .ref h3)]) hx hb dX2_learnFrom_1 hl (by decide) rfl (fun ls hl => ?_)
  obtain ⟨J38, hJ38, hf⟩ := pf_jn hf
  have kJ38 : ∀ (f1 : Nat → Int32) (H : Heap) (locs : List Loc) (ls : Array Slot), J38 f1 = some R → hm_W E A s.heap [oc2 h0 r_t d_t t_bits t_offset t_band t_rule t_noise t_step t_draws t_heat t_hour t_seenCount, oc1 h3 r_p3 p3_bits p3_sum p3_heldAtEnd p3_left p3_lates p3_ones p3_code, ic E (r_t 2) 12 t_off, ic E (r_t 1) 12 t_size, ic E (r_t 4) 12 t_stuck, ic E (r_t 3) 12 f1, ic E (r_p3 3) 12 p3_apart, ic E (r_p3 4) 12 p3_held, ic E (r_p3 2) 12 p3_late, ic E (r_p3 1) 12 p3_one] H locs → lv_has ls 8 [(0, .ref h0), (1, .int a1), (2, .int a2), (3, .ref h3)] → W p l e (hm_rr 3 70 0 0) s m args below meth c H locs 0 0 Q (F0 m 38 ls []) := by
    intro f1 H locs ls hf w hl
    have hf := pf_j1 hJ38 hf
    refine lv_iload_n hx hb dX2_learnFrom_38 rfl (lv_at hl 1 rfl) ?_
    refine lv_istore (lv' := [(4, .int a1), (0, .ref h0), (1, .int a1), (2, .int a2), (3, .ref h3)]) hx hb dX2_learnFrom_39 hl (by decide) rfl (fun ls hl => ?_)
    have klp_X2_learnFrom_41 : ∀ (n : Nat) (x2 : Int32) (f3 : Nat → Int32) (x4 : Int32) (x5 : Int32) (f6 : Nat → Int32) (f7 : Nat → Int32) (f8 : Nat → Int32) (f9 : Nat → Int32) (x10 : Int32) (x11 : Int32) (x12 : Int32) (x13 : Int32) (x14 : Int32) (x15 : Int32) (H : Heap) (locs : List Loc) (ls : Array Slot), lp_X2_learnFrom_41 a2 t_bits t_offset t_band t_rule t_noise t_step t_off t_size t_stuck n x2 f3 x4 x5 f6 f7 f8 f9 x10 x11 x12 x13 x14 x15 = some R → hm_W E A s.heap [oc2 h0 r_t d_t t_bits t_offset t_band t_rule t_noise t_step x4 t_heat t_hour t_seenCount, oc1 h3 r_p3 x5 x10 x11 x12 x13 x14 x15, ic E (r_t 2) 12 t_off, ic E (r_t 1) 12 t_size, ic E (r_t 4) 12 t_stuck, ic E (r_t 3) 12 f3, ic E (r_p3 3) 12 f8, ic E (r_p3 4) 12 f9, ic E (r_p3 2) 12 f7, ic E (r_p3 1) 12 f6] H locs → lv_has ls 8 [(0, .ref h0), (2, .int a2), (3, .ref h3), (4, .int x2)] → W p l e (hm_rr 3 70 0 0) s m args below meth c H locs 0 0 Q (F0 m 41 ls []) := by
      intro n
      induction n with
      | zero =>
        intro x2 f3 x4 x5 f6 f7 f8 f9 x10 x11 x12 x13 x14 x15 H locs ls hf w hl
        exact pf_no hf
      | succ n ih41 =>
        intro x2 f3 x4 x5 f6 f7 f8 f9 x10 x11 x12 x13 x14 x15 H locs ls hf w hl
        rw [lp_X2_learnFrom_41] at hf
        refine lv_iload hx hb dX2_learnFrom_41 (lv_at hl 3 rfl) ?_
        refine lv_aload_n hx hb dX2_learnFrom_43 rfl (lv_at hl 0 rfl) ?_
        refine hm_get cb_X2 hx hb hown X w 0 0 fl_X2_9 dX2_learnFrom_44 rfl (by decide) rfl ?_
        refine lv_icmp_ge (tgt := 144) hx hb dX2_learnFrom_47 (by decide) (fun c47 => ?_) (fun c47 => ?_)
        · have hf := pf_t c47 hf
          exact hQ _ _ _ _ (f3, x4, x5, f6, f7, f8, f9, x10, x11, x12, x13, x14, x15) (fun _ => 0) hf w dX2_learnFrom_144
        · have hf := pf_e c47 hf
          refine lv_lconst (v := 0) hx hb dX2_learnFrom_50 (by decide) ?_
          refine lv_lstore (lv' := [(5, .long 0), (0, .ref h0), (2, .int a2), (3, .ref h3), (4, .int x2)]) hx hb dX2_learnFrom_51 hl (by decide) rfl (fun ls hl => ?_)
          refine lv_iconst (v := 0) hx hb dX2_learnFrom_53 (by decide) ?_
          refine lv_istore (lv' := [(7, .int 0), (5, .long 0), (0, .ref h0), (2, .int a2), (3, .ref h3), (4, .int x2)]) hx hb dX2_learnFrom_54 hl (by decide) rfl (fun ls hl => ?_)
          obtain ⟨J123, hJ123, hf⟩ := pf_jn hf
          have kJ123 : ∀ (x16 : Int64) (x17 : Int32) (x18 : Int32) (f19 : Nat → Int32) (f20 : Nat → Int32) (f21 : Nat → Int32) (f22 : Nat → Int32) (x23 : Int32) (x24 : Int32) (x25 : Int32) (x26 : Int32) (x27 : Int32) (x28 : Int32) (H : Heap) (locs : List Loc) (ls : Array Slot), J123 x16 x17 x18 f19 f20 f21 f22 x23 x24 x25 x26 x27 x28 = some R → hm_W E A s.heap [oc2 h0 r_t d_t t_bits t_offset t_band t_rule t_noise t_step x17 t_heat t_hour t_seenCount, oc1 h3 r_p3 x18 x23 x24 x25 x26 x27 x28, ic E (r_t 2) 12 t_off, ic E (r_t 1) 12 t_size, ic E (r_t 4) 12 t_stuck, ic E (r_t 3) 12 f3, ic E (r_p3 3) 12 f21, ic E (r_p3 4) 12 f22, ic E (r_p3 2) 12 f20, ic E (r_p3 1) 12 f19] H locs → lv_has ls 8 [(0, .ref h0), (2, .int a2), (3, .ref h3), (4, .int x2), (5, .long x16)] → W p l e (hm_rr 3 70 0 0) s m args below meth c H locs 0 0 Q (F0 m 123 ls []) := by
            intro x16 x17 x18 f19 f20 f21 f22 x23 x24 x25 x26 x27 x28 H locs ls hf w hl
            have hf := pf_j13 hJ123 hf
            refine lv_aload_n hx hb dX2_learnFrom_123 rfl (lv_at hl 0 rfl) ?_
            refine hm_get cb_X2 hx hb hown X w 0 3 fl_X2_22 dX2_learnFrom_124 rfl (by decide) rfl ?_
            refine lv_iload hx hb dX2_learnFrom_127 (lv_at hl 3 rfl) ?_
            refine lv_lload hx hb dX2_learnFrom_129 (lv_at hl 4 rfl) ?_
            refine lv_iload_n hx hb dX2_learnFrom_131 rfl (lv_at hl 1 rfl) ?_
            refine lv_iconst (v := 2) hx hb dX2_learnFrom_132 (by decide) ?_
            refine lv_imul hx hb dX2_learnFrom_133 ?_
            obtain ⟨r29, hc134, hf⟩ := pf_bi_0 hf
            refine hm_aft_i (ws' := fun _ => [oc2 h0 r_t d_t t_bits t_offset t_band t_rule t_noise t_step x17 t_heat t_hour t_seenCount, oc1 h3 r_p3 x18 x23 x24 x25 x26 x27 x28, ic E (r_t 2) 12 t_off, ic E (r_t 1) 12 t_size, ic E (r_t 4) 12 t_stuck, ic E (r_t 3) 12 f3, ic E (r_p3 3) 12 f21, ic E (r_p3 4) 12 f22, ic E (r_p3 2) 12 f20, ic E (r_p3 1) 12 f19]) (hm_runSN (rest := [.int x2, .ref (r_t 3)]) hx hb hml hown X hA Y w mw_X7_nearest ml_X2_154 dX2_learnFrom_134 hm_ac0 [.long x16, .int (a2 * 2)] rfl [] rfl rfl (ct_X7_nearest l E H.size x16 (a2 * 2) (r29, ()) hc134) rfl hl.1 ⟨⟨rfl, rfl⟩, ⟨Nat.le_of_ble_eq_true rfl, Nat.le_of_ble_eq_true rfl⟩, ⟨Nat.le_of_ble_eq_true rfl, Nat.le_of_ble_eq_true rfl⟩, Nat.le_of_ble_eq_true rfl⟩) hA w [] [0, 1, 2, 3, 4, 5, 6, 7, 8, 9] [0, 1, 2, 3, 4, 5, 6, 7, 8, 9] rfl rfl (by decide) (fun _ => rfl) (fun _ H locs w => ?_)
            obtain ⟨g137, hf⟩ := pf_ckI hf
            refine hm_iast (ws' := [oc2 h0 r_t d_t t_bits t_offset t_band t_rule t_noise t_step x17 t_heat t_hour t_seenCount, oc1 h3 r_p3 x18 x23 x24 x25 x26 x27 x28, ic E (r_t 2) 12 t_off, ic E (r_t 1) 12 t_size, ic E (r_t 4) 12 t_stuck, ic E (r_t 3) 12 (upd f3 x2.toNatClampNeg r29), ic E (r_p3 3) 12 f21, ic E (r_p3 4) 12 f22, ic E (r_p3 2) 12 f20, ic E (r_p3 1) 12 f19]) hx hb X w 5 dX2_learnFrom_137 rfl g137 rfl (fun H locs w => ?_)
            obtain ⟨x30, ex30⟩ : ∃ y : Int32, y = (x2 + 1) := ⟨_, rfl⟩
            have hf := pf_nm ex30 hf
            refine lv_iinc (v := x30) (lv' := [(4, .int x30), (0, .ref h0), (2, .int a2), (3, .ref h3), (5, .long x16)]) hx hb dX2_learnFrom_138 hl (k := 3) rfl (by rw [ex30]; rfl) (by decide) rfl (fun ls hl => ?_)
            refine lv_goto (tgt := 41) hx hb dX2_learnFrom_141 (by decide) ?_
            exact ih41 _ _ _ _ _ _ _ _ _ _ _ _ _ _ _ _ _ hf w (lv_sub hl [1, 2, 3, 0] rfl)
          have klp_X2_learnFrom_56 : ∀ (n : Nat) (x31 : Int64) (x32 : Int32) (x33 : Int32) (x34 : Int32) (f35 : Nat → Int32) (f36 : Nat → Int32) (f37 : Nat → Int32) (f38 : Nat → Int32) (x39 : Int32) (x40 : Int32) (x41 : Int32) (x42 : Int32) (x43 : Int32) (x44 : Int32) (H : Heap) (locs : List Loc) (ls : Array Slot), lp_X2_learnFrom_56 a2 t_offset t_band t_rule t_noise t_step t_off t_size t_stuck x2 f3 J123 n x31 x32 x33 x34 f35 f36 f37 f38 x39 x40 x41 x42 x43 x44 = some R → hm_W E A s.heap [oc2 h0 r_t d_t t_bits t_offset t_band t_rule t_noise t_step x33 t_heat t_hour t_seenCount, oc1 h3 r_p3 x34 x39 x40 x41 x42 x43 x44, ic E (r_t 2) 12 t_off, ic E (r_t 1) 12 t_size, ic E (r_t 4) 12 t_stuck, ic E (r_t 3) 12 f3, ic E (r_p3 3) 12 f37, ic E (r_p3 4) 12 f38, ic E (r_p3 2) 12 f36, ic E (r_p3 1) 12 f35] H locs → lv_has ls 8 [(0, .ref h0), (2, .int a2), (3, .ref h3), (4, .int x2), (5, .long x31), (7, .int x32)] → W p l e (hm_rr 3 70 0 0) s m args below meth c H locs 0 0 Q (F0 m 56 ls []) := by
            intro n
            induction n with
            | zero =>
              intro x31 x32 x33 x34 f35 f36 f37 f38 x39 x40 x41 x42 x43 x44 H locs ls hf w hl
              exact pf_no hf
            | succ n ih56 =>
              intro x31 x32 x33 x34 f35 f36 f37 f38 x39 x40 x41 x42 x43 x44 H locs ls hf w hl
              rw [lp_X2_learnFrom_56] at hf
              refine lv_iload hx hb dX2_learnFrom_56 (lv_at hl 5 rfl) ?_
              refine lv_iload_n hx hb dX2_learnFrom_58 rfl (lv_at hl 1 rfl) ?_
              refine lv_icmp_ge (tgt := 123) hx hb dX2_learnFrom_59 (by decide) (fun c59 => ?_) (fun c59 => ?_)
              · have hf := pf_t c59 hf
                exact kJ123 _ _ _ _ _ _ _ _ _ _ _ _ _ _ _ _ hf w (lv_sub hl [0, 1, 2, 3, 4] rfl)
              · have hf := pf_e c59 hf
                refine lv_aload_n hx hb dX2_learnFrom_62 rfl (lv_at hl 0 rfl) ?_
                refine lv_aload_n hx hb dX2_learnFrom_63 rfl (lv_at hl 0 rfl) ?_
                refine lv_iload hx hb dX2_learnFrom_64 (lv_at hl 3 rfl) ?_
                obtain ⟨r45, hc66, hf⟩ := pf_bi_0 hf
                refine hm_aft_i (ws' := fun _ => [oc2 h0 r_t d_t t_bits t_offset t_band t_rule t_noise t_step x33 t_heat t_hour t_seenCount, oc1 h3 r_p3 x34 x39 x40 x41 x42 x43 x44, ic E (r_t 2) 12 t_off, ic E (r_t 1) 12 t_size, ic E (r_t 4) 12 t_stuck, ic E (r_t 3) 12 f3, ic E (r_p3 3) 12 f37, ic E (r_p3 4) 12 f38, ic E (r_p3 2) 12 f36, ic E (r_p3 1) 12 f35]) (hm_runV (rest := [.ref h0]) hx hb hml hown X hA Y w 0 (ci := 2) (T := TX2) (N := 17) rfl rfl mw_X2_weight ml_X2_82 dX2_learnFrom_66 hm_ac0 [.int x2] rfl [0, 2, 3] rfl rfl (ct_X2_weight l E H.size h0 r_t d_t t_bits t_offset t_band t_rule t_noise t_step x33 t_heat t_hour t_seenCount t_off t_size x2 (r45, ()) hc66) rfl hl.1 ⟨⟨rfl, rfl⟩, ⟨Nat.le_of_ble_eq_true rfl, Nat.le_of_ble_eq_true rfl⟩, ⟨Nat.le_of_ble_eq_true rfl, Nat.le_of_ble_eq_true rfl⟩, Nat.le_of_ble_eq_true rfl⟩) hA w [0, 2, 3] [1, 4, 5, 6, 7, 8, 9] [7, 0, 8, 9, 1, 2, 3, 4, 5, 6] rfl rfl (by decide) (fun _ => rfl) (fun _ H locs w => ?_)
                refine lv_aload_n hx hb dX2_learnFrom_69 rfl (lv_at hl 0 rfl) ?_
                refine hm_get cb_X2 hx hb hown X w 0 5 fl_X2_28 dX2_learnFrom_70 rfl (by decide) rfl ?_
                refine lv_iload hx hb dX2_learnFrom_73 (lv_at hl 3 rfl) ?_
                refine lv_aload_n hx hb dX2_learnFrom_75 rfl (lv_at hl 2 rfl) ?_
                obtain ⟨x46, x47, f48, f49, f50, f51, x52, x53, x54, x55, x56, x57, hc76, hf⟩ := pf_bv_12 hf
                refine hm_aft_v (ws' := fun _ => [oc2 h0 r_t d_t t_bits t_offset t_band t_rule t_noise t_step x46 t_heat t_hour t_seenCount, oc1 h3 r_p3 x47 x52 x53 x54 x55 x56 x57, ic E (r_t 2) 12 t_off, ic E (r_t 1) 12 t_size, ic E (r_t 4) 12 t_stuck, ic E (r_t 3) 12 f3, ic E (r_p3 3) 12 f50, ic E (r_p3 4) 12 f51, ic E (r_p3 2) 12 f49, ic E (r_p3 1) 12 f48]) (hm_runV (rest := []) hx hb hml hown X hA Y w 0 (ci := 2) (T := TX2) (N := 17) rfl rfl mw_X2_run ml_X2_150 dX2_learnFrom_76 hm_ac0 [.int r45, .int t_offset, .int x2, .ref h3] rfl [0, 1, 2, 3, 4, 5, 6, 7, 8, 9] rfl rfl (ct_X2_run l E H.size h0 h3 r_t d_t r_p3 t_bits t_offset t_band t_rule t_noise t_step x33 t_heat t_hour t_seenCount x34 x39 x40 x41 x42 x43 x44 t_off t_size t_stuck f3 f37 f38 f36 f35 r45 t_offset x2 (x46, x47, f48, f49, f50, f51, x52, x53, x54, x55, x56, x57) hc76) rfl hl.1 ⟨⟨rfl, rfl⟩, ⟨Nat.le_of_ble_eq_true rfl, Nat.le_of_ble_eq_true rfl⟩, ⟨Nat.le_of_ble_eq_true rfl, Nat.le_of_ble_eq_true rfl⟩, Nat.le_of_ble_eq_true rfl⟩) hA w [0, 1, 2, 3, 4, 5, 6, 7, 8, 9] [] [0, 1, 2, 3, 4, 5, 6, 7, 8, 9] rfl rfl (by decide) (fun _ => rfl) (fun _ H locs w => ?_)
                refine lv_lload hx hb dX2_learnFrom_79 (lv_at hl 4 rfl) ?_
                refine lv_aload_n hx hb dX2_learnFrom_81 rfl (lv_at hl 2 rfl) ?_
                refine hm_get cb_X1 hx hb hown X w 1 5 fl_X2_119 dX2_learnFrom_82 rfl (by decide) rfl ?_
                refine lv_i2l hx hb dX2_learnFrom_85 rfl ?_
                refine lv_ladd hx hb dX2_learnFrom_86 ?_
                refine lv_topl (fun x58 ex58 => ?_)
                have hf := pf_nm ex58 hf
                refine lv_lstore (lv' := [(5, .long x58), (0, .ref h0), (2, .int a2), (3, .ref h3), (4, .int x2), (7, .int x32)]) hx hb dX2_learnFrom_87 hl (by decide) rfl (fun ls hl => ?_)
                refine lv_aload_n hx hb dX2_learnFrom_89 rfl (lv_at hl 1 rfl) ?_
                refine lv_aload_n hx hb dX2_learnFrom_90 rfl (lv_at hl 1 rfl) ?_
                refine lv_iload hx hb dX2_learnFrom_91 (lv_at hl 4 rfl) ?_
                obtain ⟨r59, hc93, hf⟩ := pf_bi_0 hf
                refine hm_aft_i (ws' := fun _ => [oc2 h0 r_t d_t t_bits t_offset t_band t_rule t_noise t_step x46 t_heat t_hour t_seenCount, oc1 h3 r_p3 x47 x52 x53 x54 x55 x56 x57, ic E (r_t 2) 12 t_off, ic E (r_t 1) 12 t_size, ic E (r_t 4) 12 t_stuck, ic E (r_t 3) 12 f3, ic E (r_p3 3) 12 f50, ic E (r_p3 4) 12 f51, ic E (r_p3 2) 12 f49, ic E (r_p3 1) 12 f48]) (hm_runV (rest := [.ref h0]) hx hb hml hown X hA Y w 0 (ci := 2) (T := TX2) (N := 17) rfl rfl mw_X2_weight ml_X2_82 dX2_learnFrom_93 hm_ac0 [.int x2] rfl [0, 2, 3] rfl rfl (ct_X2_weight l E H.size h0 r_t d_t t_bits t_offset t_band t_rule t_noise t_step x46 t_heat t_hour t_seenCount t_off t_size x2 (r59, ()) hc93) rfl hl.1 ⟨⟨rfl, rfl⟩, ⟨Nat.le_of_ble_eq_true rfl, Nat.le_of_ble_eq_true rfl⟩, ⟨Nat.le_of_ble_eq_true rfl, Nat.le_of_ble_eq_true rfl⟩, Nat.le_of_ble_eq_true rfl⟩) hA w [0, 2, 3] [1, 4, 5, 6, 7, 8, 9] [7, 0, 8, 9, 1, 2, 3, 4, 5, 6] rfl rfl (by decide) (fun _ => rfl) (fun _ H locs w => ?_)
                refine lv_aload_n hx hb dX2_learnFrom_96 rfl (lv_at hl 1 rfl) ?_
                refine hm_get cb_X2 hx hb hown X w 0 5 fl_X2_28 dX2_learnFrom_97 rfl (by decide) rfl ?_
                refine lv_ineg hx hb dX2_learnFrom_100 ?_
                refine lv_iload hx hb dX2_learnFrom_101 (lv_at hl 4 rfl) ?_
                refine lv_aload_n hx hb dX2_learnFrom_103 rfl (lv_at hl 3 rfl) ?_
                obtain ⟨x60, x61, f62, f63, f64, f65, x66, x67, x68, x69, x70, x71, hc104, hf⟩ := pf_bv_12 hf
                refine hm_aft_v (ws' := fun _ => [oc2 h0 r_t d_t t_bits t_offset t_band t_rule t_noise t_step x60 t_heat t_hour t_seenCount, oc1 h3 r_p3 x61 x66 x67 x68 x69 x70 x71, ic E (r_t 2) 12 t_off, ic E (r_t 1) 12 t_size, ic E (r_t 4) 12 t_stuck, ic E (r_t 3) 12 f3, ic E (r_p3 3) 12 f64, ic E (r_p3 4) 12 f65, ic E (r_p3 2) 12 f63, ic E (r_p3 1) 12 f62]) (hm_runV (rest := []) hx hb hml hown X hA Y w 0 (ci := 2) (T := TX2) (N := 17) rfl rfl mw_X2_run ml_X2_150 dX2_learnFrom_104 hm_ac0 [.int r59, .int (-t_offset), .int x2, .ref h3] rfl [0, 1, 2, 3, 4, 5, 6, 7, 8, 9] rfl rfl (ct_X2_run l E H.size h0 h3 r_t d_t r_p3 t_bits t_offset t_band t_rule t_noise t_step x46 t_heat t_hour t_seenCount x47 x52 x53 x54 x55 x56 x57 t_off t_size t_stuck f3 f50 f51 f49 f48 r59 (-t_offset) x2 (x60, x61, f62, f63, f64, f65, x66, x67, x68, x69, x70, x71) hc104) rfl hl.1 ⟨⟨rfl, rfl⟩, ⟨Nat.le_of_ble_eq_true rfl, Nat.le_of_ble_eq_true rfl⟩, ⟨Nat.le_of_ble_eq_true rfl, Nat.le_of_ble_eq_true rfl⟩, Nat.le_of_ble_eq_true rfl⟩) hA w [0, 1, 2, 3, 4, 5, 6, 7, 8, 9] [] [0, 1, 2, 3, 4, 5, 6, 7, 8, 9] rfl rfl (by decide) (fun _ => rfl) (fun _ H locs w => ?_)
                refine lv_lload hx hb dX2_learnFrom_107 (lv_at hl 0 rfl) ?_
                refine lv_aload_n hx hb dX2_learnFrom_109 rfl (lv_at hl 3 rfl) ?_
                refine hm_get cb_X1 hx hb hown X w 1 5 fl_X2_119 dX2_learnFrom_110 rfl (by decide) rfl ?_
                refine lv_i2l hx hb dX2_learnFrom_113 rfl ?_
                refine lv_ladd hx hb dX2_learnFrom_114 ?_
                refine lv_topl (fun x72 ex72 => ?_)
                have hf := pf_nm ex72 hf
                refine lv_lstore (lv' := [(5, .long x72), (0, .ref h0), (2, .int a2), (3, .ref h3), (4, .int x2), (7, .int x32)]) hx hb dX2_learnFrom_115 hl (by decide) rfl (fun ls hl => ?_)
                obtain ⟨x73, ex73⟩ : ∃ y : Int32, y = (x32 + 1) := ⟨_, rfl⟩
                have hf := pf_nm ex73 hf
                refine lv_iinc (v := x73) (lv' := [(7, .int x73), (5, .long x72), (0, .ref h0), (2, .int a2), (3, .ref h3), (4, .int x2)]) hx hb dX2_learnFrom_117 hl (k := 5) rfl (by rw [ex73]; rfl) (by decide) rfl (fun ls hl => ?_)
                refine lv_goto (tgt := 56) hx hb dX2_learnFrom_120 (by decide) ?_
                exact ih56 _ _ _ _ _ _ _ _ _ _ _ _ _ _ _ _ _ hf w (lv_sub hl [2, 3, 4, 5, 1, 0] rfl)
          exact klp_X2_learnFrom_56 FU _ _ _ _ _ _ _ _ _ _ _ _ _ _ _ _ _ hf w (lv_sub hl [2, 3, 4, 5, 1, 0] rfl)
    exact klp_X2_learnFrom_41 FU _ _ _ _ _ _ _ _ _ _ _ _ _ _ _ _ _ hf w (lv_sub hl [1, 3, 4, 0] rfl)
  have klp_X2_learnFrom_3 : ∀ (n : Nat) (x74 : Int32) (f75 : Nat → Int32) (H : Heap) (locs : List Loc) (ls : Array Slot), lp_X2_learnFrom_3 a1 t_bits t_size J38 n x74 f75 = some R → hm_W E A s.heap [oc2 h0 r_t d_t t_bits t_offset t_band t_rule t_noise t_step t_draws t_heat t_hour t_seenCount, oc1 h3 r_p3 p3_bits p3_sum p3_heldAtEnd p3_left p3_lates p3_ones p3_code, ic E (r_t 2) 12 t_off, ic E (r_t 1) 12 t_size, ic E (r_t 4) 12 t_stuck, ic E (r_t 3) 12 f75, ic E (r_p3 3) 12 p3_apart, ic E (r_p3 4) 12 p3_held, ic E (r_p3 2) 12 p3_late, ic E (r_p3 1) 12 p3_one] H locs → lv_has ls 8 [(0, .ref h0), (1, .int a1), (2, .int a2), (3, .ref h3), (4, .int x74)] → W p l e (hm_rr 3 70 0 0) s m args below meth c H locs 0 0 Q (F0 m 3 ls []) := by
    intro n
    induction n with
    | zero =>
      intro x74 f75 H locs ls hf w hl
      exact pf_no hf
    | succ n ih3 =>
      intro x74 f75 H locs ls hf w hl
      rw [lp_X2_learnFrom_3] at hf
      refine lv_iload hx hb dX2_learnFrom_3 (lv_at hl 4 rfl) ?_
      refine lv_iload_n hx hb dX2_learnFrom_5 rfl (lv_at hl 1 rfl) ?_
      refine lv_icmp_ge (tgt := 38) hx hb dX2_learnFrom_6 (by decide) (fun c6 => ?_) (fun c6 => ?_)
      · have hf := pf_t c6 hf
        exact kJ38 _ _ _ _ hf w (lv_sub hl [0, 1, 2, 3] rfl)
      · have hf := pf_e c6 hf
        refine lv_iload hx hb dX2_learnFrom_9 (lv_at hl 4 rfl) ?_
        refine lv_aload_n hx hb dX2_learnFrom_11 rfl (lv_at hl 0 rfl) ?_
        refine hm_get cb_X2 hx hb hown X w 0 0 fl_X2_9 dX2_learnFrom_12 rfl (by decide) rfl ?_
        refine lv_icmp_ge (tgt := 38) hx hb dX2_learnFrom_15 (by decide) (fun c15 => ?_) (fun c15 => ?_)
        · have hf := pf_t c15 hf
          exact kJ38 _ _ _ _ hf w (lv_sub hl [0, 1, 2, 3] rfl)
        · have hf := pf_e c15 hf
          refine lv_aload_n hx hb dX2_learnFrom_18 rfl (lv_at hl 0 rfl) ?_
          refine hm_get cb_X2 hx hb hown X w 0 3 fl_X2_22 dX2_learnFrom_19 rfl (by decide) rfl ?_
          refine lv_iload hx hb dX2_learnFrom_22 (lv_at hl 4 rfl) ?_
          refine lv_aload_n hx hb dX2_learnFrom_24 rfl (lv_at hl 0 rfl) ?_
          refine hm_get cb_X2 hx hb hown X w 0 1 fl_X2_15 dX2_learnFrom_25 rfl (by decide) rfl ?_
          refine lv_iload hx hb dX2_learnFrom_28 (lv_at hl 4 rfl) ?_
          obtain ⟨g30, hf⟩ := pf_ckI hf
          refine hm_iald hx hb X w 3 dX2_learnFrom_30 rfl g30 ?_
          refine lv_topi (fun x76 ex76 => ?_)
          have hf := pf_nm ex76 hf
          obtain ⟨g31, hf⟩ := pf_ckI hf
          refine hm_iast (ws' := [oc2 h0 r_t d_t t_bits t_offset t_band t_rule t_noise t_step t_draws t_heat t_hour t_seenCount, oc1 h3 r_p3 p3_bits p3_sum p3_heldAtEnd p3_left p3_lates p3_ones p3_code, ic E (r_t 2) 12 t_off, ic E (r_t 1) 12 t_size, ic E (r_t 4) 12 t_stuck, ic E (r_t 3) 12 (upd f75 x74.toNatClampNeg x76), ic E (r_p3 3) 12 p3_apart, ic E (r_p3 4) 12 p3_held, ic E (r_p3 2) 12 p3_late, ic E (r_p3 1) 12 p3_one]) hx hb X w 5 dX2_learnFrom_31 rfl g31 rfl (fun H locs w => ?_)
          obtain ⟨x77, ex77⟩ : ∃ y : Int32, y = (x74 + 1) := ⟨_, rfl⟩
          have hf := pf_nm ex77 hf
          refine lv_iinc (v := x77) (lv' := [(4, .int x77), (0, .ref h0), (1, .int a1), (2, .int a2), (3, .ref h3)]) hx hb dX2_learnFrom_32 hl (k := 4) rfl (by rw [ex77]; rfl) (by decide) rfl (fun ls hl => ?_)
          refine lv_goto (tgt := 3) hx hb dX2_learnFrom_35 (by decide) ?_
          exact ih3 _ _ _ _ _ hf w (lv_sub hl [1, 2, 3, 4, 0] rfl)
  exact klp_X2_learnFrom_3 FU _ _ _ _ _ hf w (lv_sub hl [1, 2, 3, 4, 0] rfl)
set_option maxHeartbeats 8000000 in
set_option maxRecDepth 100000 in
theorem ct_X3_isLeaf (l : Launch) (E : hm_E) (sz : Nat) (a0 : Int32) (R : Int32 × Unit) (hf : pf_X3_isLeaf a0 = some R) : hm_Mi l E yX3_isLeaf cX3_isLeaf 1 .boolean [] (hm_rr 0 0 0 0) [.int a0] sz [] R.1 (fun _ => []) := by
  refine hm_ct_i R (fun u qs => []) (by decide) (Nat.le_of_ble_eq_true rfl) (Or.inr rfl) ?_
  intro p e s m args below meth c A Q ls H locs hx hb hml hown X hA Y hex w hl hQ
  have hl : lv_has ls 1 [(0, .int a0)] := hl
  unfold pf_X3_isLeaf at hf
  refine lv_iload_n hx hb dX3_isLeaf_0 rfl (lv_at hl 0 rfl) ?_
  refine lv_bipush (v := 48) hx hb dX3_isLeaf_1 (by decide) ?_
  refine lv_icmp_eq (tgt := 36) hx hb dX3_isLeaf_3 (by decide) (fun c3 => ?_) (fun c3 => ?_)
  · have hf := pf_t c3 hf
    refine lv_iconst (v := 1) hx hb dX3_isLeaf_36 (by decide) ?_
    refine lv_goto (tgt := 41) hx hb dX3_isLeaf_37 (by decide) ?_
    exact hQ _ _ _ _ _ () (fun _ => 0) hf rfl w dX3_isLeaf_41
  · have hf := pf_e c3 hf
    refine lv_iload_n hx hb dX3_isLeaf_6 rfl (lv_at hl 0 rfl) ?_
    refine lv_bipush (v := 105) hx hb dX3_isLeaf_7 (by decide) ?_
    refine lv_icmp_eq (tgt := 36) hx hb dX3_isLeaf_9 (by decide) (fun c9 => ?_) (fun c9 => ?_)
    · have hf := pf_t c9 hf
      refine lv_iconst (v := 1) hx hb dX3_isLeaf_36 (by decide) ?_
      refine lv_goto (tgt := 41) hx hb dX3_isLeaf_37 (by decide) ?_
      exact hQ _ _ _ _ _ () (fun _ => 0) hf rfl w dX3_isLeaf_41
    · have hf := pf_e c9 hf
      refine lv_iload_n hx hb dX3_isLeaf_12 rfl (lv_at hl 0 rfl) ?_
      refine lv_bipush (v := 115) hx hb dX3_isLeaf_13 (by decide) ?_
      refine lv_icmp_eq (tgt := 36) hx hb dX3_isLeaf_15 (by decide) (fun c15 => ?_) (fun c15 => ?_)
      · have hf := pf_t c15 hf
        refine lv_iconst (v := 1) hx hb dX3_isLeaf_36 (by decide) ?_
        refine lv_goto (tgt := 41) hx hb dX3_isLeaf_37 (by decide) ?_
        exact hQ _ _ _ _ _ () (fun _ => 0) hf rfl w dX3_isLeaf_41
      · have hf := pf_e c15 hf
        refine lv_iload_n hx hb dX3_isLeaf_18 rfl (lv_at hl 0 rfl) ?_
        refine lv_bipush (v := 119) hx hb dX3_isLeaf_19 (by decide) ?_
        refine lv_icmp_eq (tgt := 36) hx hb dX3_isLeaf_21 (by decide) (fun c21 => ?_) (fun c21 => ?_)
        · have hf := pf_t c21 hf
          refine lv_iconst (v := 1) hx hb dX3_isLeaf_36 (by decide) ?_
          refine lv_goto (tgt := 41) hx hb dX3_isLeaf_37 (by decide) ?_
          exact hQ _ _ _ _ _ () (fun _ => 0) hf rfl w dX3_isLeaf_41
        · have hf := pf_e c21 hf
          refine lv_iload_n hx hb dX3_isLeaf_24 rfl (lv_at hl 0 rfl) ?_
          refine lv_bipush (v := 104) hx hb dX3_isLeaf_25 (by decide) ?_
          refine lv_icmp_eq (tgt := 36) hx hb dX3_isLeaf_27 (by decide) (fun c27 => ?_) (fun c27 => ?_)
          · have hf := pf_t c27 hf
            refine lv_iconst (v := 1) hx hb dX3_isLeaf_36 (by decide) ?_
            refine lv_goto (tgt := 41) hx hb dX3_isLeaf_37 (by decide) ?_
            exact hQ _ _ _ _ _ () (fun _ => 0) hf rfl w dX3_isLeaf_41
          · have hf := pf_e c27 hf
            refine lv_iload_n hx hb dX3_isLeaf_30 rfl (lv_at hl 0 rfl) ?_
            refine lv_bipush (v := 116) hx hb dX3_isLeaf_31 (by decide) ?_
            refine lv_icmp_ne (tgt := 40) hx hb dX3_isLeaf_33 (by decide) (fun c33 => ?_) (fun c33 => ?_)
            · have hf := pf_e c33 hf
              refine lv_iconst (v := 0) hx hb dX3_isLeaf_40 (by decide) ?_
              exact hQ _ _ _ _ _ () (fun _ => 0) hf rfl w dX3_isLeaf_41
            · have hf := pf_t c33 hf
              refine lv_iconst (v := 1) hx hb dX3_isLeaf_36 (by decide) ?_
              refine lv_goto (tgt := 41) hx hb dX3_isLeaf_37 (by decide) ?_
              exact hQ _ _ _ _ _ () (fun _ => 0) hf rfl w dX3_isLeaf_41
set_option maxHeartbeats 8000000 in
set_option maxRecDepth 100000 in
theorem ct_X3_leaf (l : Launch) (E : hm_E) (sz : Nat) (h2 : Nat) (r_p2 : Nat → Nat) (d_p2 : Nat) (p2_bits p2_offset p2_band p2_rule p2_noise p2_step p2_draws p2_heat p2_hour p2_seenCount : Int32) (p2_off : Nat → Int32) (p2_size : Nat → Int32) (a0 : Int32) (a1 : Int32) (a3 : Int32) (R : Int32 × Unit) (hf : pf_X3_leaf a0 a1 a3 p2_size p2_off p2_heat p2_hour = some R) : hm_Mi l E yX3_leaf cX3_leaf 4 .int [] (hm_rr 1 21 0 0) [.int a0, .int a1, .ref h2, .int a3] sz [oc2 h2 r_p2 d_p2 p2_bits p2_offset p2_band p2_rule p2_noise p2_step p2_draws p2_heat p2_hour p2_seenCount, ic E (r_p2 2) 12 p2_off, ic E (r_p2 1) 12 p2_size] R.1 (fun _ => [oc2 h2 r_p2 d_p2 p2_bits p2_offset p2_band p2_rule p2_noise p2_step p2_draws p2_heat p2_hour p2_seenCount, ic E (r_p2 2) 12 p2_off, ic E (r_p2 1) 12 p2_size]) := by
  refine hm_ct_i R (fun u qs => [oc2 h2 r_p2 d_p2 p2_bits p2_offset p2_band p2_rule p2_noise p2_step p2_draws p2_heat p2_hour p2_seenCount, ic E (r_p2 2) 12 p2_off, ic E (r_p2 1) 12 p2_size]) (by decide) (Nat.le_of_ble_eq_true rfl) (Or.inl rfl) ?_
  intro p e s m args below meth c A Q ls H locs hx hb hml hown X hA Y hex w hl hQ
  have hl : lv_has ls 4 [(0, .int a0), (1, .int a1), (2, .ref h2), (3, .int a3)] := hl
  unfold pf_X3_leaf at hf
  refine lv_iload_n hx hb dX3_leaf_0 rfl (lv_at hl 0 rfl) ?_
  by_cases c1_104 : a0 = 104
  · have hf := pf_t c1_104 hf
    refine lv_lookup (off := 66) (tgt := 67) hx hb dX3_leaf_1 (by decide) (by rw [c1_104]; rfl) (by decide) ?_
    refine lv_aload_n hx hb dX3_leaf_67 rfl (lv_at hl 2 rfl) ?_
    refine hm_get cb_X2 hx hb hown X w 0 11 fl_X3_109 dX3_leaf_68 rfl (by decide) rfl ?_
    exact hQ _ _ _ _ _ () (fun _ => 0) hf rfl w dX3_leaf_71
  · have hf := pf_e c1_104 hf
    by_cases c1_105 : a0 = 105
    · have hf := pf_t c1_105 hf
      refine lv_lookup (off := 51) (tgt := 52) hx hb dX3_leaf_1 (by decide) (by rw [c1_105]; rfl) (by decide) ?_
      refine lv_iload_n hx hb dX3_leaf_52 rfl (lv_at hl 3 rfl) ?_
      exact hQ _ _ _ _ _ () (fun _ => 0) hf rfl w dX3_leaf_53
    · have hf := pf_e c1_105 hf
      by_cases c1_115 : a0 = 115
      · have hf := pf_t c1_115 hf
        refine lv_lookup (off := 53) (tgt := 54) hx hb dX3_leaf_1 (by decide) (by rw [c1_115]; rfl) (by decide) ?_
        refine lv_aload_n hx hb dX3_leaf_54 rfl (lv_at hl 2 rfl) ?_
        refine hm_get cb_X2 hx hb hown X w 0 1 fl_X3_100 dX3_leaf_55 rfl (by decide) rfl ?_
        refine lv_iload_n hx hb dX3_leaf_58 rfl (lv_at hl 3 rfl) ?_
        obtain ⟨g59, hf⟩ := pf_ckI hf
        refine hm_iald hx hb X w 2 dX3_leaf_59 rfl g59 ?_
        exact hQ _ _ _ _ _ () (fun _ => 0) hf rfl w dX3_leaf_60
      · have hf := pf_e c1_115 hf
        by_cases c1_116 : a0 = 116
        · have hf := pf_t c1_116 hf
          refine lv_lookup (off := 71) (tgt := 72) hx hb dX3_leaf_1 (by decide) (by rw [c1_116]; rfl) (by decide) ?_
          refine lv_aload_n hx hb dX3_leaf_72 rfl (lv_at hl 2 rfl) ?_
          refine hm_get cb_X2 hx hb hown X w 0 12 fl_X3_112 dX3_leaf_73 rfl (by decide) rfl ?_
          exact hQ _ _ _ _ _ () (fun _ => 0) hf rfl w dX3_leaf_76
        · have hf := pf_e c1_116 hf
          by_cases c1_119 : a0 = 119
          · have hf := pf_t c1_119 hf
            refine lv_lookup (off := 60) (tgt := 61) hx hb dX3_leaf_1 (by decide) (by rw [c1_119]; rfl) (by decide) ?_
            refine lv_aload_n hx hb dX3_leaf_61 rfl (lv_at hl 2 rfl) ?_
            refine lv_iload_n hx hb dX3_leaf_62 rfl (lv_at hl 3 rfl) ?_
            obtain ⟨r1, hc63, hf⟩ := pf_bi_0 hf
            refine hm_aft_i (ws' := fun _ => [oc2 h2 r_p2 d_p2 p2_bits p2_offset p2_band p2_rule p2_noise p2_step p2_draws p2_heat p2_hour p2_seenCount, ic E (r_p2 2) 12 p2_off, ic E (r_p2 1) 12 p2_size]) (hm_runV (rest := []) hx hb hml hown X hA Y w 0 (ci := 2) (T := TX2) (N := 17) rfl rfl mw_X2_weight ml_X3_105 dX3_leaf_63 hm_ac0 [.int a3] rfl [0, 1, 2] rfl rfl (ct_X2_weight l E H.size h2 r_p2 d_p2 p2_bits p2_offset p2_band p2_rule p2_noise p2_step p2_draws p2_heat p2_hour p2_seenCount p2_off p2_size a3 (r1, ()) hc63) rfl hl.1 ⟨⟨rfl, rfl⟩, ⟨Nat.le_of_ble_eq_true rfl, Nat.le_of_ble_eq_true rfl⟩, ⟨Nat.le_of_ble_eq_true rfl, Nat.le_of_ble_eq_true rfl⟩, Nat.le_of_ble_eq_true rfl⟩) hA w [0, 1, 2] [] [0, 1, 2] rfl rfl (by decide) (fun _ => rfl) (fun _ H locs w => ?_)
            exact hQ _ _ _ _ _ () (fun _ => 0) hf rfl w dX3_leaf_66
          · have hf := pf_e c1_119 hf
            refine lv_lookup (off := 76) (tgt := 77) hx hb dX3_leaf_1 (by decide) (by rw [lv_osw c1_104 (by decide), lv_osw c1_105 (by decide), lv_osw c1_115 (by decide), lv_osw c1_116 (by decide), lv_osw c1_119 (by decide)]; rfl) (by decide) ?_
            refine lv_iload_n hx hb dX3_leaf_77 rfl (lv_at hl 1 rfl) ?_
            exact hQ _ _ _ _ _ () (fun _ => 0) hf rfl w dX3_leaf_78
set_option maxHeartbeats 8000000 in
set_option maxRecDepth 100000 in
theorem ct_X3_push (l : Launch) (E : hm_E) (sz : Nat) (h0 : Nat) (r_t : Nat → Nat) (t_steps t_height t_things : Int32) (t_stack : Nat → Int32) (a1 : Int32) (R : (Nat → Int32) × Int32) (hf : pf_X3_push a1 t_stack t_height = some R) : hm_Mv l E yX3_push cX3_push 2 [] (hm_rr 0 0 0 0) [.ref h0, .int a1] sz [oc3 h0 r_t t_steps t_height t_things, ic E (r_t 2) 40 t_stack] (fun _ => [oc3 h0 r_t t_steps (R.2) t_things, ic E (r_t 2) 40 (R.1)]) := by
  refine hm_ct_v R (fun u _ => [oc3 h0 r_t t_steps (u.2) t_things, ic E (r_t 2) 40 (u.1)]) (by decide) (Nat.le_of_ble_eq_true rfl) ?_
  intro p e s m args below meth c A Q ls H locs hx hb hml hown X hA Y hex hin w hl hQ
  have hl : lv_has ls 2 [(0, .ref h0), (1, .int a1)] := hl
  unfold pf_X3_push at hf
  refine lv_aload_n hx hb dX3_push_0 rfl (lv_at hl 0 rfl) ?_
  refine hm_get cb_X3 hx hb hown X w 0 4 fl_X3_25 dX3_push_1 rfl (by decide) rfl ?_
  refine lv_bipush (v := 40) hx hb dX3_push_4 (by decide) ?_
  refine lv_icmp_ge (tgt := 29) hx hb dX3_push_6 (by decide) (fun c6 => ?_) (fun c6 => ?_)
  · have hf := pf_t c6 hf
    exact hQ _ _ _ _ (t_stack, t_height) (fun _ => 0) hf w dX3_push_29
  · have hf := pf_e c6 hf
    refine lv_aload_n hx hb dX3_push_9 rfl (lv_at hl 0 rfl) ?_
    refine hm_get cb_X3 hx hb hown X w 0 2 fl_X3_18 dX3_push_10 rfl (by decide) rfl ?_
    refine lv_aload_n hx hb dX3_push_13 rfl (lv_at hl 0 rfl) ?_
    refine hm_get cb_X3 hx hb hown X w 0 4 fl_X3_25 dX3_push_14 rfl (by decide) rfl ?_
    refine lv_iload_n hx hb dX3_push_17 rfl (lv_at hl 1 rfl) ?_
    obtain ⟨g18, hf⟩ := pf_ckI hf
    refine hm_iast (ws' := [oc3 h0 r_t t_steps t_height t_things, ic E (r_t 2) 40 (upd t_stack t_height.toNatClampNeg a1)]) hx hb X w 1 dX3_push_18 rfl g18 rfl (fun H locs w => ?_)
    refine lv_aload_n hx hb dX3_push_19 rfl (lv_at hl 0 rfl) ?_
    refine lv_dup hx hb dX3_push_20 rfl ?_
    refine hm_get cb_X3 hx hb hown X w 0 4 fl_X3_25 dX3_push_21 rfl (by decide) rfl ?_
    refine lv_iconst (v := 1) hx hb dX3_push_24 (by decide) ?_
    refine lv_iadd hx hb dX3_push_25 ?_
    refine lv_topi (fun x1 ex1 => ?_)
    have hf := pf_nm ex1 hf
    refine hm_put (ws' := [oc3 h0 r_t t_steps x1 t_things, ic E (r_t 2) 40 (upd t_stack t_height.toNatClampNeg a1)]) cb_X3 hx hb hown X w 0 4 fl_X3_25 dX3_push_26 rfl (by decide) (Nat.le_of_ble_eq_true rfl) rfl rfl rfl rfl (fun H locs w => ?_)
    exact hQ _ _ _ _ ((upd t_stack t_height.toNatClampNeg a1), x1) (fun _ => 0) hf w dX3_push_29
set_option maxHeartbeats 8000000 in
set_option maxRecDepth 100000 in
theorem ct_X3_pop (l : Launch) (E : hm_E) (sz : Nat) (h0 : Nat) (r_t : Nat → Nat) (t_steps t_height t_things : Int32) (t_stack : Nat → Int32) (R : Int32 × Int32) (hf : pf_X3_pop t_stack t_height = some R) : hm_Mi l E yX3_pop cX3_pop 1 .int [] (hm_rr 0 0 0 0) [.ref h0] sz [oc3 h0 r_t t_steps t_height t_things, ic E (r_t 2) 40 t_stack] R.1 (fun _ => [oc3 h0 r_t t_steps R.2 t_things, ic E (r_t 2) 40 t_stack]) := by
  refine hm_ct_i R (fun u qs => [oc3 h0 r_t t_steps u t_things, ic E (r_t 2) 40 t_stack]) (by decide) (Nat.le_of_ble_eq_true rfl) (Or.inl rfl) ?_
  intro p e s m args below meth c A Q ls H locs hx hb hml hown X hA Y hex w hl hQ
  have hl : lv_has ls 1 [(0, .ref h0)] := hl
  unfold pf_X3_pop at hf
  refine lv_aload_n hx hb dX3_pop_0 rfl (lv_at hl 0 rfl) ?_
  refine hm_get cb_X3 hx hb hown X w 0 4 fl_X3_25 dX3_pop_1 rfl (by decide) rfl ?_
  refine lv_iconst (v := 1) hx hb dX3_pop_4 (by decide) ?_
  refine lv_icmp_ge (tgt := 10) hx hb dX3_pop_5 (by decide) (fun c5 => ?_) (fun c5 => ?_)
  · have hf := pf_t c5 hf
    refine lv_aload_n hx hb dX3_pop_10 rfl (lv_at hl 0 rfl) ?_
    refine lv_dup hx hb dX3_pop_11 rfl ?_
    refine hm_get cb_X3 hx hb hown X w 0 4 fl_X3_25 dX3_pop_12 rfl (by decide) rfl ?_
    refine lv_iconst (v := 1) hx hb dX3_pop_15 (by decide) ?_
    refine lv_isub hx hb dX3_pop_16 ?_
    refine lv_topi (fun x1 ex1 => ?_)
    have hf := pf_nm ex1 hf
    refine hm_put (ws' := [oc3 h0 r_t t_steps x1 t_things, ic E (r_t 2) 40 t_stack]) cb_X3 hx hb hown X w 0 4 fl_X3_25 dX3_pop_17 rfl (by decide) (Nat.le_of_ble_eq_true rfl) rfl rfl rfl rfl (fun H locs w => ?_)
    refine lv_aload_n hx hb dX3_pop_20 rfl (lv_at hl 0 rfl) ?_
    refine hm_get cb_X3 hx hb hown X w 0 2 fl_X3_18 dX3_pop_21 rfl (by decide) rfl ?_
    refine lv_aload_n hx hb dX3_pop_24 rfl (lv_at hl 0 rfl) ?_
    refine hm_get cb_X3 hx hb hown X w 0 4 fl_X3_25 dX3_pop_25 rfl (by decide) rfl ?_
    obtain ⟨g28, hf⟩ := pf_ckI hf
    refine hm_iald hx hb X w 1 dX3_pop_28 rfl g28 ?_
    exact hQ _ _ _ _ _ x1 (fun _ => 0) hf rfl w dX3_pop_29
  · have hf := pf_e c5 hf
    refine lv_iconst (v := 0) hx hb dX3_pop_8 (by decide) ?_
    exact hQ _ _ _ _ _ t_height (fun _ => 0) hf rfl w dX3_pop_9
set_option maxHeartbeats 8000000 in
set_option maxRecDepth 100000 in
theorem ct_X3_joined (l : Launch) (E : hm_E) (sz : Nat) (a0 : Int32) (a1 : Int32) (a2 : Int32) (R : Int32 × Unit) (hf : pf_X3_joined a0 a1 a2 = some R) : hm_Mi l E yX3_joined cX3_joined 3 .int [] (hm_rr 0 0 0 0) [.int a0, .int a1, .int a2] sz [] R.1 (fun _ => []) := by
  refine hm_ct_i R (fun u qs => []) (by decide) (Nat.le_of_ble_eq_true rfl) (Or.inl rfl) ?_
  intro p e s m args below meth c A Q ls H locs hx hb hml hown X hA Y hex w hl hQ
  have hl : lv_has ls 3 [(0, .int a0), (1, .int a1), (2, .int a2)] := hl
  unfold pf_X3_joined at hf
  refine lv_iload_n hx hb dX3_joined_0 rfl (lv_at hl 0 rfl) ?_
  by_cases c1_37 : a0 = 37
  · have hf := pf_t c1_37 hf
    refine lv_tableIn (off := 83) (tgt := 84) hx hb dX3_joined_1 (by rw [c1_37]; decide) (by rw [c1_37]; decide) (by rw [c1_37]; rfl) (by decide) ?_
    refine lv_iload_n hx hb dX3_joined_84 rfl (lv_at hl 2 rfl) ?_
    refine lv_if_ne (tgt := 92) hx hb dX3_joined_85 (by decide) (fun c85 => ?_) (fun c85 => ?_)
    · have hf := pf_e c85 hf
      refine lv_iload_n hx hb dX3_joined_92 rfl (lv_at hl 1 rfl) ?_
      refine lv_iload_n hx hb dX3_joined_93 rfl (lv_at hl 2 rfl) ?_
      obtain ⟨g94, hf⟩ := pf_ckD hf
      refine lv_irem hx hb dX3_joined_94 g94 ?_
      exact hQ _ _ _ _ _ () (fun _ => 0) hf rfl w dX3_joined_95
    · have hf := pf_t c85 hf
      refine lv_iconst (v := 0) hx hb dX3_joined_88 (by decide) ?_
      refine lv_goto (tgt := 95) hx hb dX3_joined_89 (by decide) ?_
      exact hQ _ _ _ _ _ () (fun _ => 0) hf rfl w dX3_joined_95
  · have hf := pf_e c1_37 hf
    by_cases c1_38 : a0 = 38
    · have hf := pf_t c1_38 hf
      refine lv_tableIn (off := 95) (tgt := 96) hx hb dX3_joined_1 (by rw [c1_38]; decide) (by rw [c1_38]; decide) (by rw [c1_38]; rfl) (by decide) ?_
      refine lv_iconst (v := 0) hx hb dX3_joined_96 (by decide) ?_
      exact hQ _ _ _ _ _ () (fun _ => 0) hf rfl w dX3_joined_97
    · have hf := pf_e c1_38 hf
      by_cases c1_39 : a0 = 39
      · have hf := pf_t c1_39 hf
        refine lv_tableIn (off := 95) (tgt := 96) hx hb dX3_joined_1 (by rw [c1_39]; decide) (by rw [c1_39]; decide) (by rw [c1_39]; rfl) (by decide) ?_
        refine lv_iconst (v := 0) hx hb dX3_joined_96 (by decide) ?_
        exact hQ _ _ _ _ _ () (fun _ => 0) hf rfl w dX3_joined_97
      · have hf := pf_e c1_39 hf
        by_cases c1_40 : a0 = 40
        · have hf := pf_t c1_40 hf
          refine lv_tableIn (off := 95) (tgt := 96) hx hb dX3_joined_1 (by rw [c1_40]; decide) (by rw [c1_40]; decide) (by rw [c1_40]; rfl) (by decide) ?_
          refine lv_iconst (v := 0) hx hb dX3_joined_96 (by decide) ?_
          exact hQ _ _ _ _ _ () (fun _ => 0) hf rfl w dX3_joined_97
        · have hf := pf_e c1_40 hf
          by_cases c1_41 : a0 = 41
          · have hf := pf_t c1_41 hf
            refine lv_tableIn (off := 95) (tgt := 96) hx hb dX3_joined_1 (by rw [c1_41]; decide) (by rw [c1_41]; decide) (by rw [c1_41]; rfl) (by decide) ?_
            refine lv_iconst (v := 0) hx hb dX3_joined_96 (by decide) ?_
            exact hQ _ _ _ _ _ () (fun _ => 0) hf rfl w dX3_joined_97
          · have hf := pf_e c1_41 hf
            by_cases c1_42 : a0 = 42
            · have hf := pf_t c1_42 hf
              refine lv_tableIn (off := 67) (tgt := 68) hx hb dX3_joined_1 (by rw [c1_42]; decide) (by rw [c1_42]; decide) (by rw [c1_42]; rfl) (by decide) ?_
              refine lv_iload_n hx hb dX3_joined_68 rfl (lv_at hl 1 rfl) ?_
              refine lv_iload_n hx hb dX3_joined_69 rfl (lv_at hl 2 rfl) ?_
              refine lv_imul hx hb dX3_joined_70 ?_
              exact hQ _ _ _ _ _ () (fun _ => 0) hf rfl w dX3_joined_71
            · have hf := pf_e c1_42 hf
              by_cases c1_43 : a0 = 43
              · have hf := pf_t c1_43 hf
                refine lv_tableIn (off := 59) (tgt := 60) hx hb dX3_joined_1 (by rw [c1_43]; decide) (by rw [c1_43]; decide) (by rw [c1_43]; rfl) (by decide) ?_
                refine lv_iload_n hx hb dX3_joined_60 rfl (lv_at hl 1 rfl) ?_
                refine lv_iload_n hx hb dX3_joined_61 rfl (lv_at hl 2 rfl) ?_
                refine lv_iadd hx hb dX3_joined_62 ?_
                exact hQ _ _ _ _ _ () (fun _ => 0) hf rfl w dX3_joined_63
              · have hf := pf_e c1_43 hf
                by_cases c1_44 : a0 = 44
                · have hf := pf_t c1_44 hf
                  refine lv_tableIn (off := 95) (tgt := 96) hx hb dX3_joined_1 (by rw [c1_44]; decide) (by rw [c1_44]; decide) (by rw [c1_44]; rfl) (by decide) ?_
                  refine lv_iconst (v := 0) hx hb dX3_joined_96 (by decide) ?_
                  exact hQ _ _ _ _ _ () (fun _ => 0) hf rfl w dX3_joined_97
                · have hf := pf_e c1_44 hf
                  by_cases c1_45 : a0 = 45
                  · have hf := pf_t c1_45 hf
                    refine lv_tableIn (off := 63) (tgt := 64) hx hb dX3_joined_1 (by rw [c1_45]; decide) (by rw [c1_45]; decide) (by rw [c1_45]; rfl) (by decide) ?_
                    refine lv_iload_n hx hb dX3_joined_64 rfl (lv_at hl 1 rfl) ?_
                    refine lv_iload_n hx hb dX3_joined_65 rfl (lv_at hl 2 rfl) ?_
                    refine lv_isub hx hb dX3_joined_66 ?_
                    exact hQ _ _ _ _ _ () (fun _ => 0) hf rfl w dX3_joined_67
                  · have hf := pf_e c1_45 hf
                    by_cases c1_46 : a0 = 46
                    · have hf := pf_t c1_46 hf
                      refine lv_tableIn (off := 95) (tgt := 96) hx hb dX3_joined_1 (by rw [c1_46]; decide) (by rw [c1_46]; decide) (by rw [c1_46]; rfl) (by decide) ?_
                      refine lv_iconst (v := 0) hx hb dX3_joined_96 (by decide) ?_
                      exact hQ _ _ _ _ _ () (fun _ => 0) hf rfl w dX3_joined_97
                    · have hf := pf_e c1_46 hf
                      by_cases c1_47 : a0 = 47
                      · have hf := pf_t c1_47 hf
                        refine lv_tableIn (off := 71) (tgt := 72) hx hb dX3_joined_1 (by rw [c1_47]; decide) (by rw [c1_47]; decide) (by rw [c1_47]; rfl) (by decide) ?_
                        refine lv_iload_n hx hb dX3_joined_72 rfl (lv_at hl 2 rfl) ?_
                        refine lv_if_ne (tgt := 80) hx hb dX3_joined_73 (by decide) (fun c73 => ?_) (fun c73 => ?_)
                        · have hf := pf_e c73 hf
                          refine lv_iload_n hx hb dX3_joined_80 rfl (lv_at hl 1 rfl) ?_
                          refine lv_iload_n hx hb dX3_joined_81 rfl (lv_at hl 2 rfl) ?_
                          obtain ⟨g82, hf⟩ := pf_ckD hf
                          refine lv_idiv hx hb dX3_joined_82 g82 ?_
                          exact hQ _ _ _ _ _ () (fun _ => 0) hf rfl w dX3_joined_83
                        · have hf := pf_t c73 hf
                          refine lv_iconst (v := 0) hx hb dX3_joined_76 (by decide) ?_
                          refine lv_goto (tgt := 83) hx hb dX3_joined_77 (by decide) ?_
                          exact hQ _ _ _ _ _ () (fun _ => 0) hf rfl w dX3_joined_83
                      · have hf := pf_e c1_47 hf
                        refine lv_tableOut (tgt := 96) hx hb dX3_joined_1 (hm_out (fun k h1 h2 => by have u := And.intro h1 h2; have v37 := hm_ti c1_37; rw [show (37 : Int32).toInt = 37 from by decide] at v37; have v38 := hm_ti c1_38; rw [show (38 : Int32).toInt = 38 from by decide] at v38; have v39 := hm_ti c1_39; rw [show (39 : Int32).toInt = 39 from by decide] at v39; have v40 := hm_ti c1_40; rw [show (40 : Int32).toInt = 40 from by decide] at v40; have v41 := hm_ti c1_41; rw [show (41 : Int32).toInt = 41 from by decide] at v41; have v42 := hm_ti c1_42; rw [show (42 : Int32).toInt = 42 from by decide] at v42; have v43 := hm_ti c1_43; rw [show (43 : Int32).toInt = 43 from by decide] at v43; have v44 := hm_ti c1_44; rw [show (44 : Int32).toInt = 44 from by decide] at v44; have v45 := hm_ti c1_45; rw [show (45 : Int32).toInt = 45 from by decide] at v45; have v46 := hm_ti c1_46; rw [show (46 : Int32).toInt = 46 from by decide] at v46; have v47 := hm_ti c1_47; rw [show (47 : Int32).toInt = 47 from by decide] at v47; omega)) (by decide) ?_
                        refine lv_iconst (v := 0) hx hb dX3_joined_96 (by decide) ?_
                        exact hQ _ _ _ _ _ () (fun _ => 0) hf rfl w dX3_joined_97
set_option maxHeartbeats 8000000 in
set_option maxRecDepth 100000 in
theorem ct_X3_reckon (l : Launch) (E : hm_E) (sz : Nat) (h0 : Nat) (r_t : Nat → Nat) (t_steps t_height t_things : Int32) (t_stack : Nat → Int32) (a1 : Int32) (R : (Nat → Int32) × Int32) (hf : pf_X3_reckon a1 t_stack t_height = some R) : hm_Mv l E yX3_reckon cX3_reckon 6 [] (hm_rr 1 22 0 0) [.ref h0, .int a1] sz [oc3 h0 r_t t_steps t_height t_things, ic E (r_t 2) 40 t_stack] (fun _ => [oc3 h0 r_t t_steps (R.2) t_things, ic E (r_t 2) 40 (R.1)]) := by
  refine hm_ct_v R (fun u _ => [oc3 h0 r_t t_steps (u.2) t_things, ic E (r_t 2) 40 (u.1)]) (by decide) (Nat.le_of_ble_eq_true rfl) ?_
  intro p e s m args below meth c A Q ls H locs hx hb hml hown X hA Y hex hin w hl hQ
  have hl : lv_has ls 6 [(0, .ref h0), (1, .int a1)] := hl
  unfold pf_X3_reckon at hf
  refine lv_aload_n hx hb dX3_reckon_0 rfl (lv_at hl 0 rfl) ?_
  obtain ⟨r1, x2, hc1, hf⟩ := pf_bi_1 hf
  refine hm_aft_i (ws' := fun _ => [oc3 h0 r_t t_steps x2 t_things, ic E (r_t 2) 40 t_stack]) (hm_runV (rest := []) hx hb hml hown X hA Y w 0 (ci := 3) (T := TX3) (N := 6) rfl rfl mw_X3_pop ml_X3_97 dX3_reckon_1 hm_ac0 [] rfl [0, 1] rfl rfl (ct_X3_pop l E H.size h0 r_t t_steps t_height t_things t_stack (r1, x2) hc1) rfl hl.1 ⟨⟨rfl, rfl⟩, ⟨Nat.le_of_ble_eq_true rfl, Nat.le_of_ble_eq_true rfl⟩, ⟨Nat.le_of_ble_eq_true rfl, Nat.le_of_ble_eq_true rfl⟩, Nat.le_of_ble_eq_true rfl⟩) hA w [0, 1] [] [0, 1] rfl rfl (by decide) (fun _ => rfl) (fun _ H locs w => ?_)
  refine lv_istore_n (lv' := [(2, .int r1), (0, .ref h0), (1, .int a1)]) hx hb dX3_reckon_4 rfl hl (by decide) rfl (fun ls hl => ?_)
  refine lv_iload_n hx hb dX3_reckon_5 rfl (lv_at hl 2 rfl) ?_
  refine lv_bipush (v := 110) hx hb dX3_reckon_6 (by decide) ?_
  refine lv_icmp_ne (tgt := 18) hx hb dX3_reckon_8 (by decide) (fun c8 => ?_) (fun c8 => ?_)
  · have hf := pf_e c8 hf
    refine lv_aload_n hx hb dX3_reckon_18 rfl (lv_at hl 1 rfl) ?_
    obtain ⟨r3, x4, hc19, hf⟩ := pf_bi_1 hf
    refine hm_aft_i (ws' := fun _ => [oc3 h0 r_t t_steps x4 t_things, ic E (r_t 2) 40 t_stack]) (hm_runV (rest := []) hx hb hml hown X hA Y w 0 (ci := 3) (T := TX3) (N := 6) rfl rfl mw_X3_pop ml_X3_97 dX3_reckon_19 hm_ac0 [] rfl [0, 1] rfl rfl (ct_X3_pop l E H.size h0 r_t t_steps x2 t_things t_stack (r3, x4) hc19) rfl hl.1 ⟨⟨rfl, rfl⟩, ⟨Nat.le_of_ble_eq_true rfl, Nat.le_of_ble_eq_true rfl⟩, ⟨Nat.le_of_ble_eq_true rfl, Nat.le_of_ble_eq_true rfl⟩, Nat.le_of_ble_eq_true rfl⟩) hA w [0, 1] [] [0, 1] rfl rfl (by decide) (fun _ => rfl) (fun _ H locs w => ?_)
    refine lv_istore_n (lv' := [(3, .int r3), (2, .int r1), (0, .ref h0), (1, .int a1)]) hx hb dX3_reckon_22 rfl hl (by decide) rfl (fun ls hl => ?_)
    refine lv_iload_n hx hb dX3_reckon_23 rfl (lv_at hl 3 rfl) ?_
    refine lv_bipush (v := 60) hx hb dX3_reckon_24 (by decide) ?_
    obtain ⟨J35, hJ35, hf⟩ := pf_jn hf
    have kJ35 : ∀ (H : Heap) (locs : List Loc) (ls : Array Slot), J35 = some R → hm_W E A s.heap [oc3 h0 r_t t_steps x4 t_things, ic E (r_t 2) 40 t_stack] H locs → lv_has ls 6 [(0, .ref h0), (1, .int a1), (2, .int r1), (3, .int r3)] → W p l e (hm_rr 1 22 0 0) s m args below meth c H locs 0 0 Q (F0 m 35 ls []) := by
      intro H locs ls hf w hl
      have hf := pf_j0 hJ35 hf
      refine lv_aload_n hx hb dX3_reckon_35 rfl (lv_at hl 0 rfl) ?_
      obtain ⟨r5, x6, hc36, hf⟩ := pf_bi_1 hf
      refine hm_aft_i (ws' := fun _ => [oc3 h0 r_t t_steps x6 t_things, ic E (r_t 2) 40 t_stack]) (hm_runV (rest := []) hx hb hml hown X hA Y w 0 (ci := 3) (T := TX3) (N := 6) rfl rfl mw_X3_pop ml_X3_97 dX3_reckon_36 hm_ac0 [] rfl [0, 1] rfl rfl (ct_X3_pop l E H.size h0 r_t t_steps x4 t_things t_stack (r5, x6) hc36) rfl hl.1 ⟨⟨rfl, rfl⟩, ⟨Nat.le_of_ble_eq_true rfl, Nat.le_of_ble_eq_true rfl⟩, ⟨Nat.le_of_ble_eq_true rfl, Nat.le_of_ble_eq_true rfl⟩, Nat.le_of_ble_eq_true rfl⟩) hA w [0, 1] [] [0, 1] rfl rfl (by decide) (fun _ => rfl) (fun _ H locs w => ?_)
      refine lv_istore (lv' := [(4, .int r5), (0, .ref h0), (1, .int a1), (2, .int r1), (3, .int r3)]) hx hb dX3_reckon_39 hl (by decide) rfl (fun ls hl => ?_)
      refine lv_aload_n hx hb dX3_reckon_41 rfl (lv_at hl 1 rfl) ?_
      obtain ⟨r7, x8, hc42, hf⟩ := pf_bi_1 hf
      refine hm_aft_i (ws' := fun _ => [oc3 h0 r_t t_steps x8 t_things, ic E (r_t 2) 40 t_stack]) (hm_runV (rest := []) hx hb hml hown X hA Y w 0 (ci := 3) (T := TX3) (N := 6) rfl rfl mw_X3_pop ml_X3_97 dX3_reckon_42 hm_ac0 [] rfl [0, 1] rfl rfl (ct_X3_pop l E H.size h0 r_t t_steps x6 t_things t_stack (r7, x8) hc42) rfl hl.1 ⟨⟨rfl, rfl⟩, ⟨Nat.le_of_ble_eq_true rfl, Nat.le_of_ble_eq_true rfl⟩, ⟨Nat.le_of_ble_eq_true rfl, Nat.le_of_ble_eq_true rfl⟩, Nat.le_of_ble_eq_true rfl⟩) hA w [0, 1] [] [0, 1] rfl rfl (by decide) (fun _ => rfl) (fun _ H locs w => ?_)
      refine lv_istore (lv' := [(5, .int r7), (4, .int r5), (0, .ref h0), (1, .int a1), (2, .int r1), (3, .int r3)]) hx hb dX3_reckon_45 hl (by decide) rfl (fun ls hl => ?_)
      refine lv_aload_n hx hb dX3_reckon_47 rfl (lv_at hl 2 rfl) ?_
      refine lv_iload_n hx hb dX3_reckon_48 rfl (lv_at hl 3 rfl) ?_
      refine lv_bipush (v := 60) hx hb dX3_reckon_49 (by decide) ?_
      refine lv_icmp_ne (tgt := 64) hx hb dX3_reckon_51 (by decide) (fun c51 => ?_) (fun c51 => ?_)
      · have hf := pf_e c51 hf
        refine lv_iload hx hb dX3_reckon_64 (lv_at hl 0 rfl) ?_
        refine lv_iload hx hb dX3_reckon_66 (lv_at hl 1 rfl) ?_
        refine lv_icmp_ne (tgt := 75) hx hb dX3_reckon_68 (by decide) (fun c68 => ?_) (fun c68 => ?_)
        · have hf := pf_e c68 hf
          refine lv_iload_n hx hb dX3_reckon_75 rfl (lv_at hl 4 rfl) ?_
          obtain ⟨f9, x10, hc76, hf⟩ := pf_bv_2 hf
          refine hm_aft_v (ws' := fun _ => [oc3 h0 r_t t_steps x10 t_things, ic E (r_t 2) 40 f9]) (hm_runV (rest := []) hx hb hml hown X hA Y w 0 (ci := 3) (T := TX3) (N := 6) rfl rfl mw_X3_push ml_X3_91 dX3_reckon_76 hm_ac0 [.int r1] rfl [0, 1] rfl rfl (ct_X3_push l E H.size h0 r_t t_steps x8 t_things t_stack r1 (f9, x10) hc76) rfl hl.1 ⟨⟨rfl, rfl⟩, ⟨Nat.le_of_ble_eq_true rfl, Nat.le_of_ble_eq_true rfl⟩, ⟨Nat.le_of_ble_eq_true rfl, Nat.le_of_ble_eq_true rfl⟩, Nat.le_of_ble_eq_true rfl⟩) hA w [0, 1] [] [0, 1] rfl rfl (by decide) (fun _ => rfl) (fun _ H locs w => ?_)
          exact hQ _ _ _ _ (f9, x10) (fun _ => 0) hf w dX3_reckon_79
        · have hf := pf_t c68 hf
          refine lv_iload_n hx hb dX3_reckon_71 rfl (lv_at hl 5 rfl) ?_
          refine lv_goto (tgt := 76) hx hb dX3_reckon_72 (by decide) ?_
          obtain ⟨f11, x12, hc76, hf⟩ := pf_bv_2 hf
          refine hm_aft_v (ws' := fun _ => [oc3 h0 r_t t_steps x12 t_things, ic E (r_t 2) 40 f11]) (hm_runV (rest := []) hx hb hml hown X hA Y w 0 (ci := 3) (T := TX3) (N := 6) rfl rfl mw_X3_push ml_X3_91 dX3_reckon_76 hm_ac0 [.int r3] rfl [0, 1] rfl rfl (ct_X3_push l E H.size h0 r_t t_steps x8 t_things t_stack r3 (f11, x12) hc76) rfl hl.1 ⟨⟨rfl, rfl⟩, ⟨Nat.le_of_ble_eq_true rfl, Nat.le_of_ble_eq_true rfl⟩, ⟨Nat.le_of_ble_eq_true rfl, Nat.le_of_ble_eq_true rfl⟩, Nat.le_of_ble_eq_true rfl⟩) hA w [0, 1] [] [0, 1] rfl rfl (by decide) (fun _ => rfl) (fun _ H locs w => ?_)
          exact hQ _ _ _ _ (f11, x12) (fun _ => 0) hf w dX3_reckon_79
      · have hf := pf_t c51 hf
        refine lv_iload hx hb dX3_reckon_54 (lv_at hl 0 rfl) ?_
        refine lv_iload hx hb dX3_reckon_56 (lv_at hl 1 rfl) ?_
        refine lv_icmp_ge (tgt := 75) hx hb dX3_reckon_58 (by decide) (fun c58 => ?_) (fun c58 => ?_)
        · have hf := pf_t c58 hf
          refine lv_iload_n hx hb dX3_reckon_75 rfl (lv_at hl 4 rfl) ?_
          obtain ⟨f13, x14, hc76, hf⟩ := pf_bv_2 hf
          refine hm_aft_v (ws' := fun _ => [oc3 h0 r_t t_steps x14 t_things, ic E (r_t 2) 40 f13]) (hm_runV (rest := []) hx hb hml hown X hA Y w 0 (ci := 3) (T := TX3) (N := 6) rfl rfl mw_X3_push ml_X3_91 dX3_reckon_76 hm_ac0 [.int r1] rfl [0, 1] rfl rfl (ct_X3_push l E H.size h0 r_t t_steps x8 t_things t_stack r1 (f13, x14) hc76) rfl hl.1 ⟨⟨rfl, rfl⟩, ⟨Nat.le_of_ble_eq_true rfl, Nat.le_of_ble_eq_true rfl⟩, ⟨Nat.le_of_ble_eq_true rfl, Nat.le_of_ble_eq_true rfl⟩, Nat.le_of_ble_eq_true rfl⟩) hA w [0, 1] [] [0, 1] rfl rfl (by decide) (fun _ => rfl) (fun _ H locs w => ?_)
          exact hQ _ _ _ _ (f13, x14) (fun _ => 0) hf w dX3_reckon_79
        · have hf := pf_e c58 hf
          refine lv_goto (tgt := 71) hx hb dX3_reckon_61 (by decide) ?_
          refine lv_iload_n hx hb dX3_reckon_71 rfl (lv_at hl 5 rfl) ?_
          refine lv_goto (tgt := 76) hx hb dX3_reckon_72 (by decide) ?_
          obtain ⟨f15, x16, hc76, hf⟩ := pf_bv_2 hf
          refine hm_aft_v (ws' := fun _ => [oc3 h0 r_t t_steps x16 t_things, ic E (r_t 2) 40 f15]) (hm_runV (rest := []) hx hb hml hown X hA Y w 0 (ci := 3) (T := TX3) (N := 6) rfl rfl mw_X3_push ml_X3_91 dX3_reckon_76 hm_ac0 [.int r3] rfl [0, 1] rfl rfl (ct_X3_push l E H.size h0 r_t t_steps x8 t_things t_stack r3 (f15, x16) hc76) rfl hl.1 ⟨⟨rfl, rfl⟩, ⟨Nat.le_of_ble_eq_true rfl, Nat.le_of_ble_eq_true rfl⟩, ⟨Nat.le_of_ble_eq_true rfl, Nat.le_of_ble_eq_true rfl⟩, Nat.le_of_ble_eq_true rfl⟩) hA w [0, 1] [] [0, 1] rfl rfl (by decide) (fun _ => rfl) (fun _ H locs w => ?_)
          exact hQ _ _ _ _ (f15, x16) (fun _ => 0) hf w dX3_reckon_79
    refine lv_icmp_eq (tgt := 35) hx hb dX3_reckon_26 (by decide) (fun c26 => ?_) (fun c26 => ?_)
    · have hf := pf_t c26 hf
      exact kJ35 _ _ _ hf w (lv_sub hl [2, 3, 1, 0] rfl)
    · have hf := pf_e c26 hf
      refine lv_iload_n hx hb dX3_reckon_29 rfl (lv_at hl 3 rfl) ?_
      refine lv_bipush (v := 61) hx hb dX3_reckon_30 (by decide) ?_
      refine lv_icmp_ne (tgt := 80) hx hb dX3_reckon_32 (by decide) (fun c32 => ?_) (fun c32 => ?_)
      · have hf := pf_e c32 hf
        refine lv_aload_n hx hb dX3_reckon_80 rfl (lv_at hl 2 rfl) ?_
        refine lv_iload_n hx hb dX3_reckon_81 rfl (lv_at hl 3 rfl) ?_
        refine lv_iload_n hx hb dX3_reckon_82 rfl (lv_at hl 0 rfl) ?_
        refine lv_iload_n hx hb dX3_reckon_83 rfl (lv_at hl 1 rfl) ?_
        obtain ⟨r17, hc84, hf⟩ := pf_bi_0 hf
        refine hm_aft_i (ws' := fun _ => [oc3 h0 r_t t_steps x4 t_things, ic E (r_t 2) 40 t_stack]) (hm_runS (rest := [.ref h0]) hx hb hml hown X hA Y w mw_X3_joined ml_X3_115 dX3_reckon_84 hm_ac0 [.int a1, .int r3, .int r1] rfl [] rfl rfl (ct_X3_joined l E H.size a1 r3 r1 (r17, ()) hc84) rfl hl.1 ⟨⟨rfl, rfl⟩, ⟨Nat.le_of_ble_eq_true rfl, Nat.le_of_ble_eq_true rfl⟩, ⟨Nat.le_of_ble_eq_true rfl, Nat.le_of_ble_eq_true rfl⟩, Nat.le_of_ble_eq_true rfl⟩) hA w [] [0, 1] [0, 1] rfl rfl (by decide) (fun _ => rfl) (fun _ H locs w => ?_)
        obtain ⟨f18, x19, hc87, hf⟩ := pf_bv_2 hf
        refine hm_aft_v (ws' := fun _ => [oc3 h0 r_t t_steps x19 t_things, ic E (r_t 2) 40 f18]) (hm_runV (rest := []) hx hb hml hown X hA Y w 0 (ci := 3) (T := TX3) (N := 6) rfl rfl mw_X3_push ml_X3_91 dX3_reckon_87 hm_ac0 [.int r17] rfl [0, 1] rfl rfl (ct_X3_push l E H.size h0 r_t t_steps x4 t_things t_stack r17 (f18, x19) hc87) rfl hl.1 ⟨⟨rfl, rfl⟩, ⟨Nat.le_of_ble_eq_true rfl, Nat.le_of_ble_eq_true rfl⟩, ⟨Nat.le_of_ble_eq_true rfl, Nat.le_of_ble_eq_true rfl⟩, Nat.le_of_ble_eq_true rfl⟩) hA w [0, 1] [] [0, 1] rfl rfl (by decide) (fun _ => rfl) (fun _ H locs w => ?_)
        exact hQ _ _ _ _ (f18, x19) (fun _ => 0) hf w dX3_reckon_90
      · have hf := pf_t c32 hf
        exact kJ35 _ _ _ hf w (lv_sub hl [2, 3, 1, 0] rfl)
  · have hf := pf_t c8 hf
    refine lv_aload_n hx hb dX3_reckon_11 rfl (lv_at hl 1 rfl) ?_
    refine lv_iload_n hx hb dX3_reckon_12 rfl (lv_at hl 0 rfl) ?_
    refine lv_ineg hx hb dX3_reckon_13 ?_
    obtain ⟨f20, x21, hc14, hf⟩ := pf_bv_2 hf
    refine hm_aft_v (ws' := fun _ => [oc3 h0 r_t t_steps x21 t_things, ic E (r_t 2) 40 f20]) (hm_runV (rest := []) hx hb hml hown X hA Y w 0 (ci := 3) (T := TX3) (N := 6) rfl rfl mw_X3_push ml_X3_91 dX3_reckon_14 hm_ac0 [.int (-r1)] rfl [0, 1] rfl rfl (ct_X3_push l E H.size h0 r_t t_steps x2 t_things t_stack (-r1) (f20, x21) hc14) rfl hl.1 ⟨⟨rfl, rfl⟩, ⟨Nat.le_of_ble_eq_true rfl, Nat.le_of_ble_eq_true rfl⟩, ⟨Nat.le_of_ble_eq_true rfl, Nat.le_of_ble_eq_true rfl⟩, Nat.le_of_ble_eq_true rfl⟩) hA w [0, 1] [] [0, 1] rfl rfl (by decide) (fun _ => rfl) (fun _ H locs w => ?_)
    exact hQ _ _ _ _ (f20, x21) (fun _ => 0) hf w dX3_reckon_17
set_option maxHeartbeats 8000000 in
set_option maxRecDepth 100000 in
theorem ct_X3_ask (l : Launch) (E : hm_E) (sz : Nat) (h0 : Nat) (h1 : Nat) (r_t : Nat → Nat) (r_p1 : Nat → Nat) (d_p1 : Nat) (t_steps t_height t_things p1_bits p1_offset p1_band p1_rule p1_noise p1_step p1_draws p1_heat p1_hour p1_seenCount : Int32) (t_kind : Nat → Int32) (t_stack : Nat → Int32) (t_value : Nat → Int32) (p1_off : Nat → Int32) (p1_size : Nat → Int32) (a2 : Int32) (R : Int32 × (Nat → Int32) × Int32) (hf : pf_X3_ask a2 t_kind t_value t_stack t_steps p1_size p1_off p1_heat p1_hour = some R) : hm_Mi l E yX3_ask cX3_ask 4 .int [] (hm_rr 2 47 0 0) [.ref h0, .ref h1, .int a2] sz [oc3 h0 r_t t_steps t_height t_things, oc2 h1 r_p1 d_p1 p1_bits p1_offset p1_band p1_rule p1_noise p1_step p1_draws p1_heat p1_hour p1_seenCount, ic E (r_t 0) 80 t_kind, ic E (r_t 2) 40 t_stack, ic E (r_t 1) 80 t_value, ic E (r_p1 2) 12 p1_off, ic E (r_p1 1) 12 p1_size] R.1 (fun _ => [oc3 h0 r_t t_steps (R.2.2) t_things, oc2 h1 r_p1 d_p1 p1_bits p1_offset p1_band p1_rule p1_noise p1_step p1_draws p1_heat p1_hour p1_seenCount, ic E (r_t 0) 80 t_kind, ic E (r_t 2) 40 (R.2.1), ic E (r_t 1) 80 t_value, ic E (r_p1 2) 12 p1_off, ic E (r_p1 1) 12 p1_size]) := by
  refine hm_ct_i R (fun u qs => [oc3 h0 r_t t_steps (u.2) t_things, oc2 h1 r_p1 d_p1 p1_bits p1_offset p1_band p1_rule p1_noise p1_step p1_draws p1_heat p1_hour p1_seenCount, ic E (r_t 0) 80 t_kind, ic E (r_t 2) 40 (u.1), ic E (r_t 1) 80 t_value, ic E (r_p1 2) 12 p1_off, ic E (r_p1 1) 12 p1_size]) (by decide) (Nat.le_of_ble_eq_true rfl) (Or.inl rfl) ?_
  intro p e s m args below meth c A Q ls H locs hx hb hml hown X hA Y hex w hl hQ
  have hl : lv_has ls 4 [(0, .ref h0), (1, .ref h1), (2, .int a2)] := hl
  unfold pf_X3_ask at hf
  refine lv_aload_n hx hb dX3_ask_0 rfl (lv_at hl 0 rfl) ?_
  refine lv_iconst (v := 0) hx hb dX3_ask_1 (by decide) ?_
  refine hm_put (ws' := [oc3 h0 r_t t_steps 0 t_things, oc2 h1 r_p1 d_p1 p1_bits p1_offset p1_band p1_rule p1_noise p1_step p1_draws p1_heat p1_hour p1_seenCount, ic E (r_t 0) 80 t_kind, ic E (r_t 2) 40 t_stack, ic E (r_t 1) 80 t_value, ic E (r_p1 2) 12 p1_off, ic E (r_p1 1) 12 p1_size]) cb_X3 hx hb hown X w 0 4 fl_X3_25 dX3_ask_2 rfl (by decide) (Nat.le_of_ble_eq_true rfl) rfl rfl rfl rfl (fun H locs w => ?_)
  refine lv_iconst (v := 0) hx hb dX3_ask_5 (by decide) ?_
  refine lv_istore_n (lv' := [(3, .int 0), (0, .ref h0), (1, .ref h1), (2, .int a2)]) hx hb dX3_ask_6 rfl hl (by decide) rfl (fun ls hl => ?_)
  have klp_X3_ask_7 : ∀ (n : Nat) (x1 : Int32) (f2 : Nat → Int32) (x3 : Int32) (H : Heap) (locs : List Loc) (ls : Array Slot), lp_X3_ask_7 a2 t_steps p1_heat p1_hour t_kind t_value p1_off p1_size n x1 f2 x3 = some R → hm_W E A s.heap [oc3 h0 r_t t_steps x3 t_things, oc2 h1 r_p1 d_p1 p1_bits p1_offset p1_band p1_rule p1_noise p1_step p1_draws p1_heat p1_hour p1_seenCount, ic E (r_t 0) 80 t_kind, ic E (r_t 2) 40 f2, ic E (r_t 1) 80 t_value, ic E (r_p1 2) 12 p1_off, ic E (r_p1 1) 12 p1_size] H locs → lv_has ls 4 [(0, .ref h0), (1, .ref h1), (2, .int a2), (3, .int x1)] → W p l e (hm_rr 2 47 0 0) s m args below meth c H locs 0 0 Q (F0 m 7 ls []) := by
    intro n
    induction n with
    | zero =>
      intro x1 f2 x3 H locs ls hf w hl
      exact pf_no hf
    | succ n ih7 =>
      intro x1 f2 x3 H locs ls hf w hl
      rw [lp_X3_ask_7] at hf
      refine lv_iload_n hx hb dX3_ask_7 rfl (lv_at hl 3 rfl) ?_
      refine lv_aload_n hx hb dX3_ask_8 rfl (lv_at hl 0 rfl) ?_
      refine hm_get cb_X3 hx hb hown X w 0 3 fl_X3_21 dX3_ask_9 rfl (by decide) rfl ?_
      refine lv_icmp_ge (tgt := 67) hx hb dX3_ask_12 (by decide) (fun c12 => ?_) (fun c12 => ?_)
      · have hf := pf_t c12 hf
        refine lv_aload_n hx hb dX3_ask_67 rfl (lv_at hl 0 rfl) ?_
        obtain ⟨r4, x5, hc68, hf⟩ := pf_bi_1 hf
        refine hm_aft_i (ws' := fun _ => [oc3 h0 r_t t_steps x5 t_things, oc2 h1 r_p1 d_p1 p1_bits p1_offset p1_band p1_rule p1_noise p1_step p1_draws p1_heat p1_hour p1_seenCount, ic E (r_t 0) 80 t_kind, ic E (r_t 2) 40 f2, ic E (r_t 1) 80 t_value, ic E (r_p1 2) 12 p1_off, ic E (r_p1 1) 12 p1_size]) (hm_runV (rest := []) hx hb hml hown X hA Y w 0 (ci := 3) (T := TX3) (N := 6) rfl rfl mw_X3_pop ml_X3_97 dX3_ask_68 hm_ac0 [] rfl [0, 3] rfl rfl (ct_X3_pop l E H.size h0 r_t t_steps x3 t_things f2 (r4, x5) hc68) rfl hl.1 ⟨⟨rfl, rfl⟩, ⟨Nat.le_of_ble_eq_true rfl, Nat.le_of_ble_eq_true rfl⟩, ⟨Nat.le_of_ble_eq_true rfl, Nat.le_of_ble_eq_true rfl⟩, Nat.le_of_ble_eq_true rfl⟩) hA w [0, 3] [1, 2, 4, 5, 6] [5, 0, 1, 6, 2, 3, 4] rfl rfl (by decide) (fun _ => rfl) (fun _ H locs w => ?_)
        exact hQ _ _ _ _ _ (f2, x5) (fun _ => 0) hf rfl w dX3_ask_71
      · have hf := pf_e c12 hf
        refine lv_aload_n hx hb dX3_ask_15 rfl (lv_at hl 0 rfl) ?_
        refine hm_get cb_X3 hx hb hown X w 0 0 fl_X3_11 dX3_ask_16 rfl (by decide) rfl ?_
        refine lv_iload_n hx hb dX3_ask_19 rfl (lv_at hl 3 rfl) ?_
        obtain ⟨g20, hf⟩ := pf_ckI hf
        refine hm_iald hx hb X w 2 dX3_ask_20 rfl g20 ?_
        obtain ⟨r6, hc21, hf⟩ := pf_bi_0 hf
        refine hm_aft_i (ws' := fun _ => [oc3 h0 r_t t_steps x3 t_things, oc2 h1 r_p1 d_p1 p1_bits p1_offset p1_band p1_rule p1_noise p1_step p1_draws p1_heat p1_hour p1_seenCount, ic E (r_t 0) 80 t_kind, ic E (r_t 2) 40 f2, ic E (r_t 1) 80 t_value, ic E (r_p1 2) 12 p1_off, ic E (r_p1 1) 12 p1_size]) (hm_runS (rest := []) hx hb hml hown X hA Y w mw_X3_isLeaf ml_X3_84 dX3_ask_21 hm_ac0 [.int (t_kind x1.toNatClampNeg)] rfl [] rfl rfl (ct_X3_isLeaf l E H.size (t_kind x1.toNatClampNeg) (r6, ()) hc21) rfl hl.1 ⟨⟨rfl, rfl⟩, ⟨Nat.le_of_ble_eq_true rfl, Nat.le_of_ble_eq_true rfl⟩, ⟨Nat.le_of_ble_eq_true rfl, Nat.le_of_ble_eq_true rfl⟩, Nat.le_of_ble_eq_true rfl⟩) hA w [] [0, 1, 2, 3, 4, 5, 6] [0, 1, 2, 3, 4, 5, 6] rfl rfl (by decide) (fun _ => rfl) (fun _ H locs w => ?_)
        refine lv_if_eq (tgt := 51) hx hb dX3_ask_24 (by decide) (fun c24 => ?_) (fun c24 => ?_)
        · have hf := pf_t c24 hf
          refine lv_aload_n hx hb dX3_ask_51 rfl (lv_at hl 0 rfl) ?_
          refine lv_aload_n hx hb dX3_ask_52 rfl (lv_at hl 0 rfl) ?_
          refine hm_get cb_X3 hx hb hown X w 0 0 fl_X3_11 dX3_ask_53 rfl (by decide) rfl ?_
          refine lv_iload_n hx hb dX3_ask_56 rfl (lv_at hl 3 rfl) ?_
          obtain ⟨g57, hf⟩ := pf_ckI hf
          refine hm_iald hx hb X w 2 dX3_ask_57 rfl g57 ?_
          obtain ⟨f7, x8, hc58, hf⟩ := pf_bv_2 hf
          refine hm_aft_v (ws' := fun _ => [oc3 h0 r_t t_steps x8 t_things, oc2 h1 r_p1 d_p1 p1_bits p1_offset p1_band p1_rule p1_noise p1_step p1_draws p1_heat p1_hour p1_seenCount, ic E (r_t 0) 80 t_kind, ic E (r_t 2) 40 f7, ic E (r_t 1) 80 t_value, ic E (r_p1 2) 12 p1_off, ic E (r_p1 1) 12 p1_size]) (hm_runV (rest := []) hx hb hml hown X hA Y w 0 (ci := 3) (T := TX3) (N := 6) rfl rfl mw_X3_reckon ml_X3_94 dX3_ask_58 hm_ac0 [.int (t_kind x1.toNatClampNeg)] rfl [0, 3] rfl rfl (ct_X3_reckon l E H.size h0 r_t t_steps x3 t_things f2 (t_kind x1.toNatClampNeg) (f7, x8) hc58) rfl hl.1 ⟨⟨rfl, rfl⟩, ⟨Nat.le_of_ble_eq_true rfl, Nat.le_of_ble_eq_true rfl⟩, ⟨Nat.le_of_ble_eq_true rfl, Nat.le_of_ble_eq_true rfl⟩, Nat.le_of_ble_eq_true rfl⟩) hA w [0, 3] [1, 2, 4, 5, 6] [5, 0, 1, 6, 2, 3, 4] rfl rfl (by decide) (fun _ => rfl) (fun _ H locs w => ?_)
          obtain ⟨x9, ex9⟩ : ∃ y : Int32, y = (x1 + 1) := ⟨_, rfl⟩
          have hf := pf_nm ex9 hf
          refine lv_iinc (v := x9) (lv' := [(3, .int x9), (0, .ref h0), (1, .ref h1), (2, .int a2)]) hx hb dX3_ask_61 hl (k := 3) rfl (by rw [ex9]; rfl) (by decide) rfl (fun ls hl => ?_)
          refine lv_goto (tgt := 7) hx hb dX3_ask_64 (by decide) ?_
          exact ih7 _ _ _ _ _ _ hf w (lv_sub hl [1, 2, 3, 0] rfl)
        · have hf := pf_e c24 hf
          refine lv_aload_n hx hb dX3_ask_27 rfl (lv_at hl 0 rfl) ?_
          refine lv_aload_n hx hb dX3_ask_28 rfl (lv_at hl 0 rfl) ?_
          refine hm_get cb_X3 hx hb hown X w 0 0 fl_X3_11 dX3_ask_29 rfl (by decide) rfl ?_
          refine lv_iload_n hx hb dX3_ask_32 rfl (lv_at hl 3 rfl) ?_
          obtain ⟨g33, hf⟩ := pf_ckI hf
          refine hm_iald hx hb X w 2 dX3_ask_33 rfl g33 ?_
          refine lv_aload_n hx hb dX3_ask_34 rfl (lv_at hl 0 rfl) ?_
          refine hm_get cb_X3 hx hb hown X w 0 1 fl_X3_15 dX3_ask_35 rfl (by decide) rfl ?_
          refine lv_iload_n hx hb dX3_ask_38 rfl (lv_at hl 3 rfl) ?_
          obtain ⟨g39, hf⟩ := pf_ckI hf
          refine hm_iald hx hb X w 4 dX3_ask_39 rfl g39 ?_
          refine lv_aload_n hx hb dX3_ask_40 rfl (lv_at hl 1 rfl) ?_
          refine lv_iload_n hx hb dX3_ask_41 rfl (lv_at hl 2 rfl) ?_
          obtain ⟨r10, hc42, hf⟩ := pf_bi_0 hf
          refine hm_aft_i (ws' := fun _ => [oc3 h0 r_t t_steps x3 t_things, oc2 h1 r_p1 d_p1 p1_bits p1_offset p1_band p1_rule p1_noise p1_step p1_draws p1_heat p1_hour p1_seenCount, ic E (r_t 0) 80 t_kind, ic E (r_t 2) 40 f2, ic E (r_t 1) 80 t_value, ic E (r_p1 2) 12 p1_off, ic E (r_p1 1) 12 p1_size]) (hm_runS (rest := [.ref h0]) hx hb hml hown X hA Y w mw_X3_leaf ml_X3_87 dX3_ask_42 hm_ac0 [.int (t_kind x1.toNatClampNeg), .int (t_value x1.toNatClampNeg), .ref h1, .int a2] rfl [1, 5, 6] rfl rfl (ct_X3_leaf l E H.size h1 r_p1 d_p1 p1_bits p1_offset p1_band p1_rule p1_noise p1_step p1_draws p1_heat p1_hour p1_seenCount p1_off p1_size (t_kind x1.toNatClampNeg) (t_value x1.toNatClampNeg) a2 (r10, ()) hc42) rfl hl.1 ⟨⟨rfl, rfl⟩, ⟨Nat.le_of_ble_eq_true rfl, Nat.le_of_ble_eq_true rfl⟩, ⟨Nat.le_of_ble_eq_true rfl, Nat.le_of_ble_eq_true rfl⟩, Nat.le_of_ble_eq_true rfl⟩) hA w [1, 5, 6] [0, 2, 3, 4] [0, 4, 1, 2, 3, 5, 6] rfl rfl (by decide) (fun _ => rfl) (fun _ H locs w => ?_)
          obtain ⟨f11, x12, hc45, hf⟩ := pf_bv_2 hf
          refine hm_aft_v (ws' := fun _ => [oc3 h0 r_t t_steps x12 t_things, oc2 h1 r_p1 d_p1 p1_bits p1_offset p1_band p1_rule p1_noise p1_step p1_draws p1_heat p1_hour p1_seenCount, ic E (r_t 0) 80 t_kind, ic E (r_t 2) 40 f11, ic E (r_t 1) 80 t_value, ic E (r_p1 2) 12 p1_off, ic E (r_p1 1) 12 p1_size]) (hm_runV (rest := []) hx hb hml hown X hA Y w 0 (ci := 3) (T := TX3) (N := 6) rfl rfl mw_X3_push ml_X3_91 dX3_ask_45 hm_ac0 [.int r10] rfl [0, 3] rfl rfl (ct_X3_push l E H.size h0 r_t t_steps x3 t_things f2 r10 (f11, x12) hc45) rfl hl.1 ⟨⟨rfl, rfl⟩, ⟨Nat.le_of_ble_eq_true rfl, Nat.le_of_ble_eq_true rfl⟩, ⟨Nat.le_of_ble_eq_true rfl, Nat.le_of_ble_eq_true rfl⟩, Nat.le_of_ble_eq_true rfl⟩) hA w [0, 3] [1, 2, 4, 5, 6] [5, 0, 1, 6, 2, 3, 4] rfl rfl (by decide) (fun _ => rfl) (fun _ H locs w => ?_)
          refine lv_goto (tgt := 61) hx hb dX3_ask_48 (by decide) ?_
          obtain ⟨x13, ex13⟩ : ∃ y : Int32, y = (x1 + 1) := ⟨_, rfl⟩
          have hf := pf_nm ex13 hf
          refine lv_iinc (v := x13) (lv' := [(3, .int x13), (0, .ref h0), (1, .ref h1), (2, .int a2)]) hx hb dX3_ask_61 hl (k := 3) rfl (by rw [ex13]; rfl) (by decide) rfl (fun ls hl => ?_)
          refine lv_goto (tgt := 7) hx hb dX3_ask_64 (by decide) ?_
          exact ih7 _ _ _ _ _ _ hf w (lv_sub hl [1, 2, 3, 0] rfl)
  exact klp_X3_ask_7 FU _ _ _ _ _ _ hf w (lv_sub hl [1, 2, 3, 0] rfl)
set_option maxHeartbeats 8000000 in
set_option maxRecDepth 100000 in
theorem ct_X2_passHour (l : Launch) (E : hm_E) (sz : Nat) (h0 : Nat) (r_t : Nat → Nat) (d_t : Nat) (r_t_drift : Nat → Nat) (t_bits t_offset t_band t_rule t_noise t_step t_draws t_heat t_hour t_seenCount t_drift_steps t_drift_height t_drift_things : Int32) (t_drift_kind : Nat → Int32) (t_drift_stack : Nat → Int32) (t_drift_value : Nat → Int32) (t_off : Nat → Int32) (t_size : Nat → Int32) (R : Int32 × (Nat → Int32) × Int32 × (Nat → Int32) × Int32) (hf : pf_X2_passHour t_bits t_size t_off t_heat t_hour t_drift_kind t_drift_value t_drift_stack t_drift_steps t_drift_height = some R) : hm_Mi l E yX2_passHour cX2_passHour 5 .int [] (hm_rr 3 70 0 0) [.ref h0] sz [oc2 h0 r_t d_t t_bits t_offset t_band t_rule t_noise t_step t_draws t_heat t_hour t_seenCount, oc3 d_t r_t_drift t_drift_steps t_drift_height t_drift_things, ic E (r_t_drift 0) 80 t_drift_kind, ic E (r_t_drift 2) 40 t_drift_stack, ic E (r_t_drift 1) 80 t_drift_value, ic E (r_t 2) 12 t_off, ic E (r_t 1) 12 t_size] R.1 (fun _ => [oc2 h0 r_t d_t t_bits t_offset t_band t_rule t_noise t_step t_draws t_heat (R.2.2.1) t_seenCount, oc3 d_t r_t_drift t_drift_steps (R.2.2.2.2) t_drift_things, ic E (r_t_drift 0) 80 t_drift_kind, ic E (r_t_drift 2) 40 (R.2.2.2.1), ic E (r_t_drift 1) 80 t_drift_value, ic E (r_t 2) 12 (R.2.1), ic E (r_t 1) 12 t_size]) := by
  refine hm_ct_i R (fun u qs => [oc2 h0 r_t d_t t_bits t_offset t_band t_rule t_noise t_step t_draws t_heat (u.2.1) t_seenCount, oc3 d_t r_t_drift t_drift_steps (u.2.2.2) t_drift_things, ic E (r_t_drift 0) 80 t_drift_kind, ic E (r_t_drift 2) 40 (u.2.2.1), ic E (r_t_drift 1) 80 t_drift_value, ic E (r_t 2) 12 (u.1), ic E (r_t 1) 12 t_size]) (by decide) (Nat.le_of_ble_eq_true rfl) (Or.inl rfl) ?_
  intro p e s m args below meth c A Q ls H locs hx hb hml hown X hA Y hex w hl hQ
  have hl : lv_has ls 5 [(0, .ref h0)] := hl
  unfold pf_X2_passHour at hf
  refine lv_iconst (v := 0) hx hb dX2_passHour_0 (by decide) ?_
  refine lv_istore_n (lv' := [(1, .int 0), (0, .ref h0)]) hx hb dX2_passHour_1 rfl hl (by decide) rfl (fun ls hl => ?_)
  refine lv_iconst (v := 0) hx hb dX2_passHour_2 (by decide) ?_
  refine lv_istore_n (lv' := [(2, .int 0), (1, .int 0), (0, .ref h0)]) hx hb dX2_passHour_3 rfl hl (by decide) rfl (fun ls hl => ?_)
  obtain ⟨J95, hJ95, hf⟩ := pf_jn hf
  have kJ95 : ∀ (x1 : Int32) (f2 : Nat → Int32) (f3 : Nat → Int32) (x4 : Int32) (H : Heap) (locs : List Loc) (ls : Array Slot), J95 x1 f2 f3 x4 = some R → hm_W E A s.heap [oc2 h0 r_t d_t t_bits t_offset t_band t_rule t_noise t_step t_draws t_heat t_hour t_seenCount, oc3 d_t r_t_drift t_drift_steps x4 t_drift_things, ic E (r_t_drift 0) 80 t_drift_kind, ic E (r_t_drift 2) 40 f3, ic E (r_t_drift 1) 80 t_drift_value, ic E (r_t 2) 12 f2, ic E (r_t 1) 12 t_size] H locs → lv_has ls 5 [(0, .ref h0), (1, .int x1)] → W p l e (hm_rr 3 70 0 0) s m args below meth c H locs 0 0 Q (F0 m 95 ls []) := by
    intro x1 f2 f3 x4 H locs ls hf w hl
    have hf := pf_j4 hJ95 hf
    refine lv_aload_n hx hb dX2_passHour_95 rfl (lv_at hl 0 rfl) ?_
    refine lv_dup hx hb dX2_passHour_96 rfl ?_
    refine hm_get cb_X2 hx hb hown X w 0 12 fl_X2_49 dX2_passHour_97 rfl (by decide) rfl ?_
    refine lv_iconst (v := 1) hx hb dX2_passHour_100 (by decide) ?_
    refine lv_iadd hx hb dX2_passHour_101 ?_
    refine lv_topi (fun x5 ex5 => ?_)
    have hf := pf_nm ex5 hf
    refine hm_put (ws' := [oc2 h0 r_t d_t t_bits t_offset t_band t_rule t_noise t_step t_draws t_heat x5 t_seenCount, oc3 d_t r_t_drift t_drift_steps x4 t_drift_things, ic E (r_t_drift 0) 80 t_drift_kind, ic E (r_t_drift 2) 40 f3, ic E (r_t_drift 1) 80 t_drift_value, ic E (r_t 2) 12 f2, ic E (r_t 1) 12 t_size]) cb_X2 hx hb hown X w 0 12 fl_X2_49 dX2_passHour_102 rfl (by decide) (Nat.le_of_ble_eq_true rfl) rfl rfl rfl rfl (fun H locs w => ?_)
    refine lv_iload_n hx hb dX2_passHour_105 rfl (lv_at hl 1 rfl) ?_
    exact hQ _ _ _ _ _ (f2, x5, f3, x4) (fun _ => 0) hf rfl w dX2_passHour_106
  have klp_X2_passHour_4 : ∀ (n : Nat) (x6 : Int32) (x7 : Int32) (f8 : Nat → Int32) (f9 : Nat → Int32) (x10 : Int32) (H : Heap) (locs : List Loc) (ls : Array Slot), lp_X2_passHour_4 t_bits t_heat t_hour t_drift_steps t_drift_kind t_drift_value t_size J95 n x6 x7 f8 f9 x10 = some R → hm_W E A s.heap [oc2 h0 r_t d_t t_bits t_offset t_band t_rule t_noise t_step t_draws t_heat t_hour t_seenCount, oc3 d_t r_t_drift t_drift_steps x10 t_drift_things, ic E (r_t_drift 0) 80 t_drift_kind, ic E (r_t_drift 2) 40 f9, ic E (r_t_drift 1) 80 t_drift_value, ic E (r_t 2) 12 f8, ic E (r_t 1) 12 t_size] H locs → lv_has ls 5 [(0, .ref h0), (1, .int x6), (2, .int x7)] → W p l e (hm_rr 3 70 0 0) s m args below meth c H locs 0 0 Q (F0 m 4 ls []) := by
    intro n
    induction n with
    | zero =>
      intro x6 x7 f8 f9 x10 H locs ls hf w hl
      exact pf_no hf
    | succ n ih4 =>
      intro x6 x7 f8 f9 x10 H locs ls hf w hl
      rw [lp_X2_passHour_4] at hf
      refine lv_iload_n hx hb dX2_passHour_4 rfl (lv_at hl 2 rfl) ?_
      refine lv_aload_n hx hb dX2_passHour_5 rfl (lv_at hl 0 rfl) ?_
      refine hm_get cb_X2 hx hb hown X w 0 0 fl_X2_9 dX2_passHour_6 rfl (by decide) rfl ?_
      refine lv_icmp_ge (tgt := 95) hx hb dX2_passHour_9 (by decide) (fun c9 => ?_) (fun c9 => ?_)
      · have hf := pf_t c9 hf
        exact kJ95 _ _ _ _ _ _ _ hf w (lv_sub hl [0, 1] rfl)
      · have hf := pf_e c9 hf
        refine lv_bipush (v := (-9)) hx hb dX2_passHour_12 (by decide) ?_
        refine lv_bipush (v := 9) hx hb dX2_passHour_14 (by decide) ?_
        refine lv_aload_n hx hb dX2_passHour_16 rfl (lv_at hl 0 rfl) ?_
        refine hm_get cb_X2 hx hb hown X w 0 13 fl_X2_55 dX2_passHour_17 rfl (by decide) rfl ?_
        refine lv_aload_n hx hb dX2_passHour_20 rfl (lv_at hl 0 rfl) ?_
        refine lv_iload_n hx hb dX2_passHour_21 rfl (lv_at hl 2 rfl) ?_
        obtain ⟨r11, f12, x13, hc22, hf⟩ := pf_bi_2 hf
        refine hm_aft_i (ws' := fun _ => [oc2 h0 r_t d_t t_bits t_offset t_band t_rule t_noise t_step t_draws t_heat t_hour t_seenCount, oc3 d_t r_t_drift t_drift_steps x13 t_drift_things, ic E (r_t_drift 0) 80 t_drift_kind, ic E (r_t_drift 2) 40 f12, ic E (r_t_drift 1) 80 t_drift_value, ic E (r_t 2) 12 f8, ic E (r_t 1) 12 t_size]) (hm_runV (rest := [.int 9, .int (-9)]) hx hb hml hown X hA Y w 1 (ci := 3) (T := TX3) (N := 6) rfl rfl mw_X3_ask ml_X2_158 dX2_passHour_22 hm_ac0 [.ref h0, .int x7] rfl [1, 0, 2, 3, 4, 5, 6] rfl rfl (ct_X3_ask l E H.size d_t h0 r_t_drift r_t d_t t_drift_steps x10 t_drift_things t_bits t_offset t_band t_rule t_noise t_step t_draws t_heat t_hour t_seenCount t_drift_kind f9 t_drift_value f8 t_size x7 (r11, f12, x13) hc22) rfl hl.1 ⟨⟨rfl, rfl⟩, ⟨Nat.le_of_ble_eq_true rfl, Nat.le_of_ble_eq_true rfl⟩, ⟨Nat.le_of_ble_eq_true rfl, Nat.le_of_ble_eq_true rfl⟩, Nat.le_of_ble_eq_true rfl⟩) hA w [1, 0, 2, 3, 4, 5, 6] [] [1, 0, 2, 3, 4, 5, 6] rfl rfl (by decide) (fun _ => rfl) (fun _ H locs w => ?_)
        refine va_mmin hx hb (hml.trans hl.1.symm) hown (X.use ml_X2_162 rfl) (X.use mt_min_s rfl) (X.use mt_i rfl) (X.use mt_min_c rfl) (Nat.le_of_ble_eq_true rfl) (Nat.le_of_ble_eq_true rfl) (Nat.le_of_ble_eq_true rfl) (Nat.le_of_ble_eq_true rfl) dX2_passHour_25 ?_
        refine lv_topi (fun x14 ex14 => ?_)
        have hf := pf_nm ex14 hf
        refine va_mmax hx hb (hml.trans hl.1.symm) hown (X.use ml_X2_167 rfl) (X.use mt_max_s rfl) (X.use mt_i rfl) (X.use mt_max_c rfl) (Nat.le_of_ble_eq_true rfl) (Nat.le_of_ble_eq_true rfl) (Nat.le_of_ble_eq_true rfl) (Nat.le_of_ble_eq_true rfl) dX2_passHour_28 ?_
        refine lv_topi (fun x15 ex15 => ?_)
        have hf := pf_nm ex15 hf
        refine lv_istore_n (lv' := [(3, .int x15), (0, .ref h0), (1, .int x6), (2, .int x7)]) hx hb dX2_passHour_31 rfl hl (by decide) rfl (fun ls hl => ?_)
        refine lv_bipush (v := (-99)) hx hb dX2_passHour_32 (by decide) ?_
        refine lv_bipush (v := 99) hx hb dX2_passHour_34 (by decide) ?_
        refine lv_aload_n hx hb dX2_passHour_36 rfl (lv_at hl 1 rfl) ?_
        refine hm_get cb_X2 hx hb hown X w 0 2 fl_X2_19 dX2_passHour_37 rfl (by decide) rfl ?_
        refine lv_iload_n hx hb dX2_passHour_40 rfl (lv_at hl 3 rfl) ?_
        obtain ⟨g41, hf⟩ := pf_ckI hf
        refine hm_iald hx hb X w 5 dX2_passHour_41 rfl g41 ?_
        refine lv_iload_n hx hb dX2_passHour_42 rfl (lv_at hl 0 rfl) ?_
        refine lv_iadd hx hb dX2_passHour_43 ?_
        refine va_mmin hx hb (hml.trans hl.1.symm) hown (X.use ml_X2_162 rfl) (X.use mt_min_s rfl) (X.use mt_i rfl) (X.use mt_min_c rfl) (Nat.le_of_ble_eq_true rfl) (Nat.le_of_ble_eq_true rfl) (Nat.le_of_ble_eq_true rfl) (Nat.le_of_ble_eq_true rfl) dX2_passHour_44 ?_
        refine lv_topi (fun x16 ex16 => ?_)
        have hf := pf_nm ex16 hf
        refine va_mmax hx hb (hml.trans hl.1.symm) hown (X.use ml_X2_167 rfl) (X.use mt_max_s rfl) (X.use mt_i rfl) (X.use mt_max_c rfl) (Nat.le_of_ble_eq_true rfl) (Nat.le_of_ble_eq_true rfl) (Nat.le_of_ble_eq_true rfl) (Nat.le_of_ble_eq_true rfl) dX2_passHour_47 ?_
        refine lv_topi (fun x17 ex17 => ?_)
        have hf := pf_nm ex17 hf
        refine lv_istore (lv' := [(4, .int x17), (3, .int x15), (0, .ref h0), (1, .int x6), (2, .int x7)]) hx hb dX2_passHour_50 hl (by decide) rfl (fun ls hl => ?_)
        refine lv_iload hx hb dX2_passHour_52 (lv_at hl 0 rfl) ?_
        refine lv_iconst (v := 1) hx hb dX2_passHour_54 (by decide) ?_
        refine lv_aload_n hx hb dX2_passHour_55 rfl (lv_at hl 2 rfl) ?_
        refine hm_get cb_X2 hx hb hown X w 0 1 fl_X2_15 dX2_passHour_56 rfl (by decide) rfl ?_
        refine lv_iload_n hx hb dX2_passHour_59 rfl (lv_at hl 4 rfl) ?_
        obtain ⟨g60, hf⟩ := pf_ckI hf
        refine hm_iald hx hb X w 6 dX2_passHour_60 rfl g60 ?_
        refine lv_isub hx hb dX2_passHour_61 ?_
        refine va_mmax hx hb (hml.trans hl.1.symm) hown (X.use ml_X2_167 rfl) (X.use mt_max_s rfl) (X.use mt_i rfl) (X.use mt_max_c rfl) (Nat.le_of_ble_eq_true rfl) (Nat.le_of_ble_eq_true rfl) (Nat.le_of_ble_eq_true rfl) (Nat.le_of_ble_eq_true rfl) dX2_passHour_62 ?_
        refine lv_topi (fun x18 ex18 => ?_)
        have hf := pf_nm ex18 hf
        refine lv_istore (lv' := [(4, .int x18), (3, .int x15), (0, .ref h0), (1, .int x6), (2, .int x7)]) hx hb dX2_passHour_65 hl (by decide) rfl (fun ls hl => ?_)
        refine lv_iload hx hb dX2_passHour_67 (lv_at hl 0 rfl) ?_
        refine lv_aload_n hx hb dX2_passHour_69 rfl (lv_at hl 2 rfl) ?_
        refine hm_get cb_X2 hx hb hown X w 0 2 fl_X2_19 dX2_passHour_70 rfl (by decide) rfl ?_
        refine lv_iload_n hx hb dX2_passHour_73 rfl (lv_at hl 4 rfl) ?_
        obtain ⟨g74, hf⟩ := pf_ckI hf
        refine hm_iald hx hb X w 5 dX2_passHour_74 rfl g74 ?_
        obtain ⟨J81, hJ81, hf⟩ := pf_jn hf
        have kJ81 : ∀ (x19 : Int32) (H : Heap) (locs : List Loc) (ls : Array Slot), J81 x19 = some R → hm_W E A s.heap [oc2 h0 r_t d_t t_bits t_offset t_band t_rule t_noise t_step t_draws t_heat t_hour t_seenCount, oc3 d_t r_t_drift t_drift_steps x13 t_drift_things, ic E (r_t_drift 0) 80 t_drift_kind, ic E (r_t_drift 2) 40 f12, ic E (r_t_drift 1) 80 t_drift_value, ic E (r_t 2) 12 f8, ic E (r_t 1) 12 t_size] H locs → lv_has ls 5 [(0, .ref h0), (1, .int x19), (2, .int x7), (4, .int x18)] → W p l e (hm_rr 3 70 0 0) s m args below meth c H locs 0 0 Q (F0 m 81 ls []) := by
          intro x19 H locs ls hf w hl
          have hf := pf_j1 hJ81 hf
          refine lv_aload_n hx hb dX2_passHour_81 rfl (lv_at hl 0 rfl) ?_
          refine hm_get cb_X2 hx hb hown X w 0 2 fl_X2_19 dX2_passHour_82 rfl (by decide) rfl ?_
          refine lv_iload_n hx hb dX2_passHour_85 rfl (lv_at hl 2 rfl) ?_
          refine lv_iload hx hb dX2_passHour_86 (lv_at hl 3 rfl) ?_
          obtain ⟨g88, hf⟩ := pf_ckI hf
          refine hm_iast (ws' := [oc2 h0 r_t d_t t_bits t_offset t_band t_rule t_noise t_step t_draws t_heat t_hour t_seenCount, oc3 d_t r_t_drift t_drift_steps x13 t_drift_things, ic E (r_t_drift 0) 80 t_drift_kind, ic E (r_t_drift 2) 40 f12, ic E (r_t_drift 1) 80 t_drift_value, ic E (r_t 2) 12 (upd f8 x7.toNatClampNeg x18), ic E (r_t 1) 12 t_size]) hx hb X w 5 dX2_passHour_88 rfl g88 rfl (fun H locs w => ?_)
          obtain ⟨x20, ex20⟩ : ∃ y : Int32, y = (x7 + 1) := ⟨_, rfl⟩
          have hf := pf_nm ex20 hf
          refine lv_iinc (v := x20) (lv' := [(2, .int x20), (0, .ref h0), (1, .int x19), (4, .int x18)]) hx hb dX2_passHour_89 hl (k := 2) rfl (by rw [ex20]; rfl) (by decide) rfl (fun ls hl => ?_)
          refine lv_goto (tgt := 4) hx hb dX2_passHour_92 (by decide) ?_
          exact ih4 _ _ _ _ _ _ _ _ hf w (lv_sub hl [1, 2, 0] rfl)
        refine lv_icmp_eq (tgt := 81) hx hb dX2_passHour_75 (by decide) (fun c75 => ?_) (fun c75 => ?_)
        · have hf := pf_t c75 hf
          exact kJ81 _ _ _ _ hf w (lv_sub hl [2, 3, 4, 0] rfl)
        · have hf := pf_e c75 hf
          obtain ⟨x21, ex21⟩ : ∃ y : Int32, y = (x6 + 1) := ⟨_, rfl⟩
          have hf := pf_nm ex21 hf
          refine lv_iinc (v := x21) (lv' := [(1, .int x21), (4, .int x18), (3, .int x15), (0, .ref h0), (2, .int x7)]) hx hb dX2_passHour_78 hl (k := 3) rfl (by rw [ex21]; rfl) (by decide) rfl (fun ls hl => ?_)
          exact kJ81 _ _ _ _ hf w (lv_sub hl [3, 0, 4, 1] rfl)
  exact klp_X2_passHour_4 FU _ _ _ _ _ _ _ _ hf w (lv_sub hl [2, 1, 0] rfl)
set_option maxHeartbeats 8000000 in
set_option maxRecDepth 100000 in
theorem ct_X2_drawOffs (l : Launch) (E : hm_E) (sz : Nat) (h0 : Nat) (r_t : Nat → Nat) (d_t : Nat) (t_bits t_offset t_band t_rule t_noise t_step t_draws t_heat t_hour t_seenCount : Int32) (t_off : Nat → Int32) (t_size : Nat → Int32) (t_stuck : Nat → Int32) (t_worth : Nat → Int32) (a1 : Int32) (R : (Nat → Int32) × (Nat → Int32) × (Nat → Int32) × Int32) (hf : pf_X2_drawOffs a1 t_bits t_size t_off t_worth t_stuck t_draws = some R) : hm_Mv l E yX2_drawOffs cX2_drawOffs 3 [] (hm_rr 1 21 0 0) [.ref h0, .int a1] sz [oc2 h0 r_t d_t t_bits t_offset t_band t_rule t_noise t_step t_draws t_heat t_hour t_seenCount, ic E (r_t 2) 12 t_off, ic E (r_t 1) 12 t_size, ic E (r_t 4) 12 t_stuck, ic E (r_t 3) 12 t_worth] (fun _ => [oc2 h0 r_t d_t t_bits t_offset t_band t_rule t_noise t_step (R.2.2.2) t_heat t_hour t_seenCount, ic E (r_t 2) 12 (R.1), ic E (r_t 1) 12 t_size, ic E (r_t 4) 12 (R.2.2.1), ic E (r_t 3) 12 (R.2.1)]) := by
  refine hm_ct_v R (fun u _ => [oc2 h0 r_t d_t t_bits t_offset t_band t_rule t_noise t_step (u.2.2.2) t_heat t_hour t_seenCount, ic E (r_t 2) 12 (u.1), ic E (r_t 1) 12 t_size, ic E (r_t 4) 12 (u.2.2.1), ic E (r_t 3) 12 (u.2.1)]) (by decide) (Nat.le_of_ble_eq_true rfl) ?_
  intro p e s m args below meth c A Q ls H locs hx hb hml hown X hA Y hex hin w hl hQ
  have hl : lv_has ls 3 [(0, .ref h0), (1, .int a1)] := hl
  unfold pf_X2_drawOffs at hf
  refine lv_iconst (v := 0) hx hb dX2_drawOffs_0 (by decide) ?_
  refine lv_istore_n (lv' := [(2, .int 0), (0, .ref h0), (1, .int a1)]) hx hb dX2_drawOffs_1 rfl hl (by decide) rfl (fun ls hl => ?_)
  have klp_X2_drawOffs_2 : ∀ (n : Nat) (x1 : Int32) (f2 : Nat → Int32) (f3 : Nat → Int32) (f4 : Nat → Int32) (x5 : Int32) (H : Heap) (locs : List Loc) (ls : Array Slot), lp_X2_drawOffs_2 a1 t_bits t_size n x1 f2 f3 f4 x5 = some R → hm_W E A s.heap [oc2 h0 r_t d_t t_bits t_offset t_band t_rule t_noise t_step x5 t_heat t_hour t_seenCount, ic E (r_t 2) 12 f2, ic E (r_t 1) 12 t_size, ic E (r_t 4) 12 f4, ic E (r_t 3) 12 f3] H locs → lv_has ls 3 [(0, .ref h0), (1, .int a1), (2, .int x1)] → W p l e (hm_rr 1 21 0 0) s m args below meth c H locs 0 0 Q (F0 m 2 ls []) := by
    intro n
    induction n with
    | zero =>
      intro x1 f2 f3 f4 x5 H locs ls hf w hl
      exact pf_no hf
    | succ n ih2 =>
      intro x1 f2 f3 f4 x5 H locs ls hf w hl
      rw [lp_X2_drawOffs_2] at hf
      refine lv_iload_n hx hb dX2_drawOffs_2 rfl (lv_at hl 2 rfl) ?_
      refine lv_aload_n hx hb dX2_drawOffs_3 rfl (lv_at hl 0 rfl) ?_
      refine hm_get cb_X2 hx hb hown X w 0 0 fl_X2_9 dX2_drawOffs_4 rfl (by decide) rfl ?_
      refine lv_icmp_ge (tgt := 63) hx hb dX2_drawOffs_7 (by decide) (fun c7 => ?_) (fun c7 => ?_)
      · have hf := pf_t c7 hf
        exact hQ _ _ _ _ (f2, f3, f4, x5) (fun _ => 0) hf w dX2_drawOffs_63
      · have hf := pf_e c7 hf
        refine lv_aload_n hx hb dX2_drawOffs_10 rfl (lv_at hl 0 rfl) ?_
        refine hm_get cb_X2 hx hb hown X w 0 2 fl_X2_19 dX2_drawOffs_11 rfl (by decide) rfl ?_
        refine lv_iload_n hx hb dX2_drawOffs_14 rfl (lv_at hl 2 rfl) ?_
        refine lv_aload_n hx hb dX2_drawOffs_15 rfl (lv_at hl 0 rfl) ?_
        refine lv_iconst (v := 2) hx hb dX2_drawOffs_16 (by decide) ?_
        refine lv_iload_n hx hb dX2_drawOffs_17 rfl (lv_at hl 1 rfl) ?_
        refine lv_imul hx hb dX2_drawOffs_18 ?_
        refine lv_iconst (v := 1) hx hb dX2_drawOffs_19 (by decide) ?_
        refine lv_iadd hx hb dX2_drawOffs_20 ?_
        obtain ⟨r6, x7, hc21, hf⟩ := pf_bi_1 hf
        refine hm_aft_i (ws' := fun _ => [oc2 h0 r_t d_t t_bits t_offset t_band t_rule t_noise t_step x7 t_heat t_hour t_seenCount, ic E (r_t 2) 12 f2, ic E (r_t 1) 12 t_size, ic E (r_t 4) 12 f4, ic E (r_t 3) 12 f3]) (hm_runV (rest := [.int x1, .ref (r_t 2)]) hx hb hml hown X hA Y w 0 (ci := 2) (T := TX2) (N := 17) rfl rfl mw_X2_drawOf ml_X2_96 dX2_drawOffs_21 hm_ac0 [.int ((2 * a1) + 1)] rfl [0] rfl rfl (ct_X2_drawOf l E H.size h0 r_t d_t t_bits t_offset t_band t_rule t_noise t_step x5 t_heat t_hour t_seenCount ((2 * a1) + 1) (r6, x7) hc21) rfl hl.1 ⟨⟨rfl, rfl⟩, ⟨Nat.le_of_ble_eq_true rfl, Nat.le_of_ble_eq_true rfl⟩, ⟨Nat.le_of_ble_eq_true rfl, Nat.le_of_ble_eq_true rfl⟩, Nat.le_of_ble_eq_true rfl⟩) hA w [0] [1, 2, 3, 4] [4, 0, 1, 2, 3] rfl rfl (by decide) (fun _ => rfl) (fun _ H locs w => ?_)
        refine lv_iload_n hx hb dX2_drawOffs_24 rfl (lv_at hl 1 rfl) ?_
        refine lv_isub hx hb dX2_drawOffs_25 ?_
        refine lv_iconst (v := 1) hx hb dX2_drawOffs_26 (by decide) ?_
        refine lv_aload_n hx hb dX2_drawOffs_27 rfl (lv_at hl 0 rfl) ?_
        refine hm_get cb_X2 hx hb hown X w 0 1 fl_X2_15 dX2_drawOffs_28 rfl (by decide) rfl ?_
        refine lv_iload_n hx hb dX2_drawOffs_31 rfl (lv_at hl 2 rfl) ?_
        obtain ⟨g32, hf⟩ := pf_ckI hf
        refine hm_iald hx hb X w 2 dX2_drawOffs_32 rfl g32 ?_
        refine lv_isub hx hb dX2_drawOffs_33 ?_
        refine va_mmax hx hb (hml.trans hl.1.symm) hown (X.use ml_X2_167 rfl) (X.use mt_max_s rfl) (X.use mt_i rfl) (X.use mt_max_c rfl) (Nat.le_of_ble_eq_true rfl) (Nat.le_of_ble_eq_true rfl) (Nat.le_of_ble_eq_true rfl) (Nat.le_of_ble_eq_true rfl) dX2_drawOffs_34 ?_
        refine lv_topi (fun x8 ex8 => ?_)
        have hf := pf_nm ex8 hf
        obtain ⟨g37, hf⟩ := pf_ckI hf
        refine hm_iast (ws' := [oc2 h0 r_t d_t t_bits t_offset t_band t_rule t_noise t_step x7 t_heat t_hour t_seenCount, ic E (r_t 2) 12 (upd f2 x1.toNatClampNeg x8), ic E (r_t 1) 12 t_size, ic E (r_t 4) 12 f4, ic E (r_t 3) 12 f3]) hx hb X w 1 dX2_drawOffs_37 rfl g37 rfl (fun H locs w => ?_)
        refine lv_aload_n hx hb dX2_drawOffs_38 rfl (lv_at hl 0 rfl) ?_
        refine hm_get cb_X2 hx hb hown X w 0 4 fl_X2_25 dX2_drawOffs_39 rfl (by decide) rfl ?_
        refine lv_iload_n hx hb dX2_drawOffs_42 rfl (lv_at hl 2 rfl) ?_
        refine lv_iconst (v := (-1)) hx hb dX2_drawOffs_43 (by decide) ?_
        obtain ⟨g44, hf⟩ := pf_ckI hf
        refine hm_iast (ws' := [oc2 h0 r_t d_t t_bits t_offset t_band t_rule t_noise t_step x7 t_heat t_hour t_seenCount, ic E (r_t 2) 12 (upd f2 x1.toNatClampNeg x8), ic E (r_t 1) 12 t_size, ic E (r_t 4) 12 (upd f4 x1.toNatClampNeg (-1)), ic E (r_t 3) 12 f3]) hx hb X w 3 dX2_drawOffs_44 rfl g44 rfl (fun H locs w => ?_)
        refine lv_aload_n hx hb dX2_drawOffs_45 rfl (lv_at hl 0 rfl) ?_
        refine hm_get cb_X2 hx hb hown X w 0 3 fl_X2_22 dX2_drawOffs_46 rfl (by decide) rfl ?_
        refine lv_iload_n hx hb dX2_drawOffs_49 rfl (lv_at hl 2 rfl) ?_
        refine lv_aload_n hx hb dX2_drawOffs_50 rfl (lv_at hl 0 rfl) ?_
        refine hm_get cb_X2 hx hb hown X w 0 1 fl_X2_15 dX2_drawOffs_51 rfl (by decide) rfl ?_
        refine lv_iload_n hx hb dX2_drawOffs_54 rfl (lv_at hl 2 rfl) ?_
        obtain ⟨g55, hf⟩ := pf_ckI hf
        refine hm_iald hx hb X w 2 dX2_drawOffs_55 rfl g55 ?_
        refine lv_topi (fun x9 ex9 => ?_)
        have hf := pf_nm ex9 hf
        obtain ⟨g56, hf⟩ := pf_ckI hf
        refine hm_iast (ws' := [oc2 h0 r_t d_t t_bits t_offset t_band t_rule t_noise t_step x7 t_heat t_hour t_seenCount, ic E (r_t 2) 12 (upd f2 x1.toNatClampNeg x8), ic E (r_t 1) 12 t_size, ic E (r_t 4) 12 (upd f4 x1.toNatClampNeg (-1)), ic E (r_t 3) 12 (upd f3 x1.toNatClampNeg x9)]) hx hb X w 4 dX2_drawOffs_56 rfl g56 rfl (fun H locs w => ?_)
        obtain ⟨x10, ex10⟩ : ∃ y : Int32, y = (x1 + 1) := ⟨_, rfl⟩
        have hf := pf_nm ex10 hf
        refine lv_iinc (v := x10) (lv' := [(2, .int x10), (0, .ref h0), (1, .int a1)]) hx hb dX2_drawOffs_57 hl (k := 2) rfl (by rw [ex10]; rfl) (by decide) rfl (fun ls hl => ?_)
        refine lv_goto (tgt := 2) hx hb dX2_drawOffs_60 (by decide) ?_
        exact ih2 _ _ _ _ _ _ _ _ hf w (lv_sub hl [1, 2, 0] rfl)
  exact klp_X2_drawOffs_2 FU _ _ _ _ _ _ _ _ hf w (lv_sub hl [1, 2, 0] rfl)
set_option maxHeartbeats 8000000 in
set_option maxRecDepth 100000 in
theorem ct_X2_drawWeights (l : Launch) (E : hm_E) (sz : Nat) (h0 : Nat) (r_t : Nat → Nat) (d_t : Nat) (t_bits t_offset t_band t_rule t_noise t_step t_draws t_heat t_hour t_seenCount : Int32) (t_off : Nat → Int32) (t_size : Nat → Int32) (t_stuck : Nat → Int32) (t_worth : Nat → Int32) (a1 : Int32) (a2 : Int32) (R : Int32 × (Nat → Int32) × (Nat → Int32) × (Nat → Int32) × (Nat → Int32)) (hf : pf_X2_drawWeights a1 a2 t_size t_off t_worth t_stuck = some R) : hm_Mv l E yX2_drawWeights cX2_drawWeights 6 [] (hm_rr 1 22 0 0) [.ref h0, .int a1, .int a2] sz [oc2 h0 r_t d_t t_bits t_offset t_band t_rule t_noise t_step t_draws t_heat t_hour t_seenCount, ic E (r_t 2) 12 t_off, ic E (r_t 1) 12 t_size, ic E (r_t 4) 12 t_stuck, ic E (r_t 3) 12 t_worth] (fun _ => [oc2 h0 r_t d_t (R.1) t_offset t_band t_rule t_noise t_step t_draws t_heat t_hour t_seenCount, ic E (r_t 2) 12 (R.2.2.1), ic E (r_t 1) 12 (R.2.1), ic E (r_t 4) 12 (R.2.2.2.2), ic E (r_t 3) 12 (R.2.2.2.1)]) := by
  refine hm_ct_v R (fun u _ => [oc2 h0 r_t d_t (u.1) t_offset t_band t_rule t_noise t_step t_draws t_heat t_hour t_seenCount, ic E (r_t 2) 12 (u.2.2.1), ic E (r_t 1) 12 (u.2.1), ic E (r_t 4) 12 (u.2.2.2.2), ic E (r_t 3) 12 (u.2.2.2.1)]) (by decide) (Nat.le_of_ble_eq_true rfl) ?_
  intro p e s m args below meth c A Q ls H locs hx hb hml hown X hA Y hex hin w hl hQ
  have hl : lv_has ls 6 [(0, .ref h0), (1, .int a1), (2, .int a2)] := hl
  unfold pf_X2_drawWeights at hf
  refine lv_aload_n hx hb dX2_drawWeights_0 rfl (lv_at hl 0 rfl) ?_
  refine lv_iconst (v := 0) hx hb dX2_drawWeights_1 (by decide) ?_
  refine hm_put (ws' := [oc2 h0 r_t d_t 0 t_offset t_band t_rule t_noise t_step t_draws t_heat t_hour t_seenCount, ic E (r_t 2) 12 t_off, ic E (r_t 1) 12 t_size, ic E (r_t 4) 12 t_stuck, ic E (r_t 3) 12 t_worth]) cb_X2 hx hb hown X w 0 0 fl_X2_9 dX2_drawWeights_2 rfl (by decide) (Nat.le_of_ble_eq_true rfl) rfl rfl rfl rfl (fun H locs w => ?_)
  refine lv_iconst (v := 0) hx hb dX2_drawWeights_5 (by decide) ?_
  refine lv_istore_n (lv' := [(3, .int 0), (0, .ref h0), (1, .int a1), (2, .int a2)]) hx hb dX2_drawWeights_6 rfl hl (by decide) rfl (fun ls hl => ?_)
  refine lv_iconst (v := 0) hx hb dX2_drawWeights_7 (by decide) ?_
  refine lv_istore (lv' := [(4, .int 0), (3, .int 0), (0, .ref h0), (1, .int a1), (2, .int a2)]) hx hb dX2_drawWeights_8 hl (by decide) rfl (fun ls hl => ?_)
  have klp_X2_drawWeights_10 : ∀ (n : Nat) (x1 : Int32) (x2 : Int32) (x3 : Int32) (f4 : Nat → Int32) (f5 : Nat → Int32) (f6 : Nat → Int32) (f7 : Nat → Int32) (H : Heap) (locs : List Loc) (ls : Array Slot), lp_X2_drawWeights_10 a1 a2 n x1 x2 x3 f4 f5 f6 f7 = some R → hm_W E A s.heap [oc2 h0 r_t d_t x3 t_offset t_band t_rule t_noise t_step t_draws t_heat t_hour t_seenCount, ic E (r_t 2) 12 f5, ic E (r_t 1) 12 f4, ic E (r_t 4) 12 f7, ic E (r_t 3) 12 f6] H locs → lv_has ls 6 [(0, .ref h0), (1, .int a1), (2, .int a2), (3, .int x1), (4, .int x2)] → W p l e (hm_rr 1 22 0 0) s m args below meth c H locs 0 0 Q (F0 m 10 ls []) := by
    intro n
    induction n with
    | zero =>
      intro x1 x2 x3 f4 f5 f6 f7 H locs ls hf w hl
      exact pf_no hf
    | succ n ih10 =>
      intro x1 x2 x3 f4 f5 f6 f7 H locs ls hf w hl
      rw [lp_X2_drawWeights_10] at hf
      refine lv_iload hx hb dX2_drawWeights_10 (lv_at hl 4 rfl) ?_
      refine lv_iload_n hx hb dX2_drawWeights_12 rfl (lv_at hl 1 rfl) ?_
      refine lv_icmp_ge (tgt := 53) hx hb dX2_drawWeights_13 (by decide) (fun c13 => ?_) (fun c13 => ?_)
      · have hf := pf_t c13 hf
        exact hQ _ _ _ _ (x3, f4, f5, f6, f7) (fun _ => 0) hf w dX2_drawWeights_53
      · have hf := pf_e c13 hf
        refine lv_iload hx hb dX2_drawWeights_16 (lv_at hl 4 rfl) ?_
        obtain ⟨J33, hJ33, hf⟩ := pf_jn hf
        have kJ33 : ∀ (x8 : Int32) (H : Heap) (locs : List Loc) (ls : Array Slot), J33 x8 = some R → hm_W E A s.heap [oc2 h0 r_t d_t x3 t_offset t_band t_rule t_noise t_step t_draws t_heat t_hour t_seenCount, ic E (r_t 2) 12 f5, ic E (r_t 1) 12 f4, ic E (r_t 4) 12 f7, ic E (r_t 3) 12 f6] H locs → lv_has ls 6 [(0, .ref h0), (1, .int a1), (2, .int a2), (3, .int x1), (4, .int x2)] → W p l e (hm_rr 1 22 0 0) s m args below meth c H locs 0 0 Q (F0 m 33 ls [.int x8]) := by
          intro x8 H locs ls hf w hl
          have hf := pf_j1 hJ33 hf
          refine lv_istore (lv' := [(5, .int x8), (0, .ref h0), (1, .int a1), (2, .int a2), (3, .int x1), (4, .int x2)]) hx hb dX2_drawWeights_33 hl (by decide) rfl (fun ls hl => ?_)
          refine lv_aload_n hx hb dX2_drawWeights_35 rfl (lv_at hl 1 rfl) ?_
          refine lv_iload hx hb dX2_drawWeights_36 (lv_at hl 0 rfl) ?_
          refine lv_iconst (v := 0) hx hb dX2_drawWeights_38 (by decide) ?_
          obtain ⟨x9, f10, f11, f12, f13, hc39, hf⟩ := pf_bv_5 hf
          refine hm_aft_v (ws' := fun _ => [oc2 h0 r_t d_t x9 t_offset t_band t_rule t_noise t_step t_draws t_heat t_hour t_seenCount, ic E (r_t 2) 12 f11, ic E (r_t 1) 12 f10, ic E (r_t 4) 12 f13, ic E (r_t 3) 12 f12]) (hm_runV (rest := []) hx hb hml hown X hA Y w 0 (ci := 2) (T := TX2) (N := 17) rfl rfl mw_X2_addBit ml_X2_170 dX2_drawWeights_39 hm_ac0 [.int x8, .int 0] rfl [0, 1, 2, 3, 4] rfl rfl (ct_X2_addBit l E H.size h0 r_t d_t x3 t_offset t_band t_rule t_noise t_step t_draws t_heat t_hour t_seenCount f5 f4 f7 f6 x8 0 (x9, f10, f11, f12, f13) hc39) rfl hl.1 ⟨⟨rfl, rfl⟩, ⟨Nat.le_of_ble_eq_true rfl, Nat.le_of_ble_eq_true rfl⟩, ⟨Nat.le_of_ble_eq_true rfl, Nat.le_of_ble_eq_true rfl⟩, Nat.le_of_ble_eq_true rfl⟩) hA w [0, 1, 2, 3, 4] [] [0, 1, 2, 3, 4] rfl rfl (by decide) (fun _ => rfl) (fun _ H locs w => ?_)
          refine lv_iload_n hx hb dX2_drawWeights_42 rfl (lv_at hl 4 rfl) ?_
          refine lv_iload hx hb dX2_drawWeights_43 (lv_at hl 0 rfl) ?_
          refine lv_iadd hx hb dX2_drawWeights_45 ?_
          refine lv_topi (fun x14 ex14 => ?_)
          have hf := pf_nm ex14 hf
          refine lv_istore_n (lv' := [(3, .int x14), (5, .int x8), (0, .ref h0), (1, .int a1), (2, .int a2), (4, .int x2)]) hx hb dX2_drawWeights_46 rfl hl (by decide) rfl (fun ls hl => ?_)
          obtain ⟨x15, ex15⟩ : ∃ y : Int32, y = (x2 + 1) := ⟨_, rfl⟩
          have hf := pf_nm ex15 hf
          refine lv_iinc (v := x15) (lv' := [(4, .int x15), (3, .int x14), (5, .int x8), (0, .ref h0), (1, .int a1), (2, .int a2)]) hx hb dX2_drawWeights_47 hl (k := 5) rfl (by rw [ex15]; rfl) (by decide) rfl (fun ls hl => ?_)
          refine lv_goto (tgt := 10) hx hb dX2_drawWeights_50 (by decide) ?_
          exact ih10 _ _ _ _ _ _ _ _ _ _ hf w (lv_sub hl [3, 4, 5, 1, 0] rfl)
        refine lv_if_ne (tgt := 25) hx hb dX2_drawWeights_18 (by decide) (fun c18 => ?_) (fun c18 => ?_)
        · have hf := pf_e c18 hf
          refine lv_iconst (v := 1) hx hb dX2_drawWeights_25 (by decide) ?_
          refine lv_iload_n hx hb dX2_drawWeights_26 rfl (lv_at hl 2 rfl) ?_
          refine lv_iload_n hx hb dX2_drawWeights_27 rfl (lv_at hl 3 rfl) ?_
          refine lv_imul hx hb dX2_drawWeights_28 ?_
          refine lv_bipush (v := 100) hx hb dX2_drawWeights_29 (by decide) ?_
          refine lv_idiv hx hb dX2_drawWeights_31 (by decide) ?_
          refine lv_iadd hx hb dX2_drawWeights_32 ?_
          exact kJ33 _ _ _ _ hf w (lv_sub hl [0, 1, 2, 3, 4] rfl)
        · have hf := pf_t c18 hf
          refine lv_iconst (v := 1) hx hb dX2_drawWeights_21 (by decide) ?_
          refine lv_goto (tgt := 33) hx hb dX2_drawWeights_22 (by decide) ?_
          exact kJ33 _ _ _ _ hf w (lv_sub hl [0, 1, 2, 3, 4] rfl)
  exact klp_X2_drawWeights_10 FU _ _ _ _ _ _ _ _ _ _ hf w (lv_sub hl [2, 3, 4, 1, 0] rfl)
set_option maxHeartbeats 8000000 in
set_option maxRecDepth 100000 in
theorem ct_X2_agreesWithSeen (l : Launch) (E : hm_E) (sz : Nat) (h0 : Nat) (r_t : Nat → Nat) (d_t : Nat) (t_bits t_offset t_band t_rule t_noise t_step t_draws t_heat t_hour t_seenCount : Int32) (t_off : Nat → Int32) (t_seenCode : Nat → Int32) (t_seenX : Nat → Int32) (t_size : Nat → Int32) (t_stuck : Nat → Int32) (t_worth : Nat → Int32) (R : Int32 × Unit) (hf : pf_X2_agreesWithSeen t_bits t_size t_off t_worth t_stuck t_offset t_step t_seenX t_seenCode t_seenCount = some R) : hm_Mi l E yX2_agreesWithSeen cX2_agreesWithSeen 2 .boolean [] (hm_rr 3 68 0 0) [.ref h0] sz [oc2 h0 r_t d_t t_bits t_offset t_band t_rule t_noise t_step t_draws t_heat t_hour t_seenCount, ic E (r_t 2) 12 t_off, ic E (r_t 15) 8 t_seenCode, ic E (r_t 14) 8 t_seenX, ic E (r_t 1) 12 t_size, ic E (r_t 4) 12 t_stuck, ic E (r_t 3) 12 t_worth] R.1 (fun _ => [oc2 h0 r_t d_t t_bits t_offset t_band t_rule t_noise t_step t_draws t_heat t_hour t_seenCount, ic E (r_t 2) 12 t_off, ic E (r_t 15) 8 t_seenCode, ic E (r_t 14) 8 t_seenX, ic E (r_t 1) 12 t_size, ic E (r_t 4) 12 t_stuck, ic E (r_t 3) 12 t_worth]) := by
  refine hm_ct_i R (fun u qs => [oc2 h0 r_t d_t t_bits t_offset t_band t_rule t_noise t_step t_draws t_heat t_hour t_seenCount, ic E (r_t 2) 12 t_off, ic E (r_t 15) 8 t_seenCode, ic E (r_t 14) 8 t_seenX, ic E (r_t 1) 12 t_size, ic E (r_t 4) 12 t_stuck, ic E (r_t 3) 12 t_worth]) (by decide) (Nat.le_of_ble_eq_true rfl) (Or.inr rfl) ?_
  intro p e s m args below meth c A Q ls H locs hx hb hml hown X hA Y hex w hl hQ
  have hl : lv_has ls 2 [(0, .ref h0)] := hl
  unfold pf_X2_agreesWithSeen at hf
  refine lv_iconst (v := 0) hx hb dX2_agreesWithSeen_0 (by decide) ?_
  refine lv_istore_n (lv' := [(1, .int 0), (0, .ref h0)]) hx hb dX2_agreesWithSeen_1 rfl hl (by decide) rfl (fun ls hl => ?_)
  have klp_X2_agreesWithSeen_2 : ∀ (n : Nat) (x1 : Int32) (H : Heap) (locs : List Loc) (ls : Array Slot), lp_X2_agreesWithSeen_2 t_bits t_offset t_step t_seenCount t_off t_seenCode t_seenX t_size t_stuck t_worth n x1 = some R → hm_W E A s.heap [oc2 h0 r_t d_t t_bits t_offset t_band t_rule t_noise t_step t_draws t_heat t_hour t_seenCount, ic E (r_t 2) 12 t_off, ic E (r_t 15) 8 t_seenCode, ic E (r_t 14) 8 t_seenX, ic E (r_t 1) 12 t_size, ic E (r_t 4) 12 t_stuck, ic E (r_t 3) 12 t_worth] H locs → lv_has ls 2 [(0, .ref h0), (1, .int x1)] → W p l e (hm_rr 3 68 0 0) s m args below meth c H locs 0 0 Q (F0 m 2 ls []) := by
    intro n
    induction n with
    | zero =>
      intro x1 H locs ls hf w hl
      exact pf_no hf
    | succ n ih2 =>
      intro x1 H locs ls hf w hl
      rw [lp_X2_agreesWithSeen_2] at hf
      refine lv_iload_n hx hb dX2_agreesWithSeen_2 rfl (lv_at hl 1 rfl) ?_
      refine lv_aload_n hx hb dX2_agreesWithSeen_3 rfl (lv_at hl 0 rfl) ?_
      refine hm_get cb_X2 hx hb hown X w 0 16 fl_X2_65 dX2_agreesWithSeen_4 rfl (by decide) rfl ?_
      refine lv_icmp_ge (tgt := 37) hx hb dX2_agreesWithSeen_7 (by decide) (fun c7 => ?_) (fun c7 => ?_)
      · have hf := pf_t c7 hf
        refine lv_iconst (v := 1) hx hb dX2_agreesWithSeen_37 (by decide) ?_
        exact hQ _ _ _ _ _ () (fun _ => 0) hf rfl w dX2_agreesWithSeen_38
      · have hf := pf_e c7 hf
        refine lv_aload_n hx hb dX2_agreesWithSeen_10 rfl (lv_at hl 0 rfl) ?_
        refine lv_aload_n hx hb dX2_agreesWithSeen_11 rfl (lv_at hl 0 rfl) ?_
        refine hm_get cb_X2 hx hb hown X w 0 14 fl_X2_59 dX2_agreesWithSeen_12 rfl (by decide) rfl ?_
        refine lv_iload_n hx hb dX2_agreesWithSeen_15 rfl (lv_at hl 1 rfl) ?_
        obtain ⟨g16, hf⟩ := pf_ckI hf
        refine hm_iald hx hb X w 3 dX2_agreesWithSeen_16 rfl g16 ?_
        obtain ⟨r2, hc17, hf⟩ := pf_bi_0 hf
        refine hm_aft_i (ws' := fun _ => [oc2 h0 r_t d_t t_bits t_offset t_band t_rule t_noise t_step t_draws t_heat t_hour t_seenCount, ic E (r_t 2) 12 t_off, ic E (r_t 15) 8 t_seenCode, ic E (r_t 14) 8 t_seenX, ic E (r_t 1) 12 t_size, ic E (r_t 4) 12 t_stuck, ic E (r_t 3) 12 t_worth]) (hm_runV (rest := []) hx hb hml hown X hA Y w 0 (ci := 2) (T := TX2) (N := 17) rfl rfl mw_X2_paperCode ml_X2_144 dX2_agreesWithSeen_17 hm_ac0 [.int (t_seenX x1.toNatClampNeg)] rfl [0, 1, 4, 5, 6] rfl rfl (ct_X2_paperCode l E H.size h0 r_t d_t t_bits t_offset t_band t_rule t_noise t_step t_draws t_heat t_hour t_seenCount t_off t_size t_stuck t_worth (t_seenX x1.toNatClampNeg) (r2, ()) hc17) rfl hl.1 ⟨⟨rfl, rfl⟩, ⟨Nat.le_of_ble_eq_true rfl, Nat.le_of_ble_eq_true rfl⟩, ⟨Nat.le_of_ble_eq_true rfl, Nat.le_of_ble_eq_true rfl⟩, Nat.le_of_ble_eq_true rfl⟩) hA w [0, 1, 4, 5, 6] [2, 3] [2, 3, 0, 1, 4, 5, 6] rfl rfl (by decide) (fun _ => rfl) (fun _ H locs w => ?_)
        refine lv_aload_n hx hb dX2_agreesWithSeen_20 rfl (lv_at hl 0 rfl) ?_
        refine hm_get cb_X2 hx hb hown X w 0 15 fl_X2_62 dX2_agreesWithSeen_21 rfl (by decide) rfl ?_
        refine lv_iload_n hx hb dX2_agreesWithSeen_24 rfl (lv_at hl 1 rfl) ?_
        obtain ⟨g25, hf⟩ := pf_ckI hf
        refine hm_iald hx hb X w 2 dX2_agreesWithSeen_25 rfl g25 ?_
        refine lv_icmp_eq (tgt := 31) hx hb dX2_agreesWithSeen_26 (by decide) (fun c26 => ?_) (fun c26 => ?_)
        · have hf := pf_t c26 hf
          obtain ⟨x3, ex3⟩ : ∃ y : Int32, y = (x1 + 1) := ⟨_, rfl⟩
          have hf := pf_nm ex3 hf
          refine lv_iinc (v := x3) (lv' := [(1, .int x3), (0, .ref h0)]) hx hb dX2_agreesWithSeen_31 hl (k := 1) rfl (by rw [ex3]; rfl) (by decide) rfl (fun ls hl => ?_)
          refine lv_goto (tgt := 2) hx hb dX2_agreesWithSeen_34 (by decide) ?_
          exact ih2 _ _ _ _ hf w (lv_sub hl [1, 0] rfl)
        · have hf := pf_e c26 hf
          refine lv_iconst (v := 0) hx hb dX2_agreesWithSeen_29 (by decide) ?_
          exact hQ _ _ _ _ _ () (fun _ => 0) hf rfl w dX2_agreesWithSeen_30
  exact klp_X2_agreesWithSeen_2 FU _ _ _ _ hf w (lv_sub hl [1, 0] rfl)
set_option maxHeartbeats 8000000 in
set_option maxRecDepth 100000 in
theorem ct_X4_measure (l : Launch) (E : hm_E) (sz : Nat) (h0 : Nat) (h1 : Nat) (r_t : Nat → Nat) (r_p1 : Nat → Nat) (d_p1 : Nat) (t_count t_falls t_offBy t_offAt t_unlike t_most t_mostCome t_least t_greatest t_missing t_firstMissing p1_bits p1_offset p1_band p1_rule p1_noise p1_step p1_draws p1_heat p1_hour p1_seenCount : Int32) (t_entry : Nat → Int32) (p1_off : Nat → Int32) (p1_size : Nat → Int32) (p1_stuck : Nat → Int32) (p1_worth : Nat → Int32) (a2 : Int32) (a3 : Int32) (a4 : Int32) (R : (Nat → Int32) × Int32 × Int32 × Int32 × Int32) (hf : pf_X4_measure a2 a3 a4 t_entry p1_bits p1_size p1_off p1_worth p1_stuck p1_offset p1_step = some R) : hm_Mv l E yX4_measure cX4_measure 10 [] (hm_rr 3 68 0 0) [.ref h0, .ref h1, .int a2, .int a3, .int a4] sz [oc4 h0 r_t t_count t_falls t_offBy t_offAt t_unlike t_most t_mostCome t_least t_greatest t_missing t_firstMissing, oc2 h1 r_p1 d_p1 p1_bits p1_offset p1_band p1_rule p1_noise p1_step p1_draws p1_heat p1_hour p1_seenCount, ic E (r_t 0) 4096 t_entry, ic E (r_p1 2) 12 p1_off, ic E (r_p1 1) 12 p1_size, ic E (r_p1 4) 12 p1_stuck, ic E (r_p1 3) 12 p1_worth] (fun _ => [oc4 h0 r_t (R.2.1) (R.2.2.1) (R.2.2.2.1) (R.2.2.2.2) t_unlike t_most t_mostCome t_least t_greatest t_missing t_firstMissing, oc2 h1 r_p1 d_p1 p1_bits p1_offset p1_band p1_rule p1_noise p1_step p1_draws p1_heat p1_hour p1_seenCount, ic E (r_t 0) 4096 (R.1), ic E (r_p1 2) 12 p1_off, ic E (r_p1 1) 12 p1_size, ic E (r_p1 4) 12 p1_stuck, ic E (r_p1 3) 12 p1_worth]) := by
  refine hm_ct_v R (fun u _ => [oc4 h0 r_t (u.2.1) (u.2.2.1) (u.2.2.2.1) (u.2.2.2.2) t_unlike t_most t_mostCome t_least t_greatest t_missing t_firstMissing, oc2 h1 r_p1 d_p1 p1_bits p1_offset p1_band p1_rule p1_noise p1_step p1_draws p1_heat p1_hour p1_seenCount, ic E (r_t 0) 4096 (u.1), ic E (r_p1 2) 12 p1_off, ic E (r_p1 1) 12 p1_size, ic E (r_p1 4) 12 p1_stuck, ic E (r_p1 3) 12 p1_worth]) (by decide) (Nat.le_of_ble_eq_true rfl) ?_
  intro p e s m args below meth c A Q ls H locs hx hb hml hown X hA Y hex hin w hl hQ
  have hl : lv_has ls 10 [(0, .ref h0), (1, .ref h1), (2, .int a2), (3, .int a3), (4, .int a4)] := hl
  unfold pf_X4_measure at hf
  refine lv_aload_n hx hb dX4_measure_0 rfl (lv_at hl 0 rfl) ?_
  refine lv_iconst (v := 0) hx hb dX4_measure_1 (by decide) ?_
  refine hm_put (ws' := [oc4 h0 r_t 0 t_falls t_offBy t_offAt t_unlike t_most t_mostCome t_least t_greatest t_missing t_firstMissing, oc2 h1 r_p1 d_p1 p1_bits p1_offset p1_band p1_rule p1_noise p1_step p1_draws p1_heat p1_hour p1_seenCount, ic E (r_t 0) 4096 t_entry, ic E (r_p1 2) 12 p1_off, ic E (r_p1 1) 12 p1_size, ic E (r_p1 4) 12 p1_stuck, ic E (r_p1 3) 12 p1_worth]) cb_X4 hx hb hown X w 0 1 fl_X4_15 dX4_measure_2 rfl (by decide) (Nat.le_of_ble_eq_true rfl) rfl rfl rfl rfl (fun H locs w => ?_)
  refine lv_aload_n hx hb dX4_measure_5 rfl (lv_at hl 0 rfl) ?_
  refine lv_iconst (v := 0) hx hb dX4_measure_6 (by decide) ?_
  refine hm_put (ws' := [oc4 h0 r_t 0 0 t_offBy t_offAt t_unlike t_most t_mostCome t_least t_greatest t_missing t_firstMissing, oc2 h1 r_p1 d_p1 p1_bits p1_offset p1_band p1_rule p1_noise p1_step p1_draws p1_heat p1_hour p1_seenCount, ic E (r_t 0) 4096 t_entry, ic E (r_p1 2) 12 p1_off, ic E (r_p1 1) 12 p1_size, ic E (r_p1 4) 12 p1_stuck, ic E (r_p1 3) 12 p1_worth]) cb_X4 hx hb hown X w 0 2 fl_X4_19 dX4_measure_7 rfl (by decide) (Nat.le_of_ble_eq_true rfl) rfl rfl rfl rfl (fun H locs w => ?_)
  refine lv_aload_n hx hb dX4_measure_10 rfl (lv_at hl 0 rfl) ?_
  refine lv_iconst (v := (-1)) hx hb dX4_measure_11 (by decide) ?_
  refine hm_put (ws' := [oc4 h0 r_t 0 0 (-1) t_offAt t_unlike t_most t_mostCome t_least t_greatest t_missing t_firstMissing, oc2 h1 r_p1 d_p1 p1_bits p1_offset p1_band p1_rule p1_noise p1_step p1_draws p1_heat p1_hour p1_seenCount, ic E (r_t 0) 4096 t_entry, ic E (r_p1 2) 12 p1_off, ic E (r_p1 1) 12 p1_size, ic E (r_p1 4) 12 p1_stuck, ic E (r_p1 3) 12 p1_worth]) cb_X4 hx hb hown X w 0 3 fl_X4_22 dX4_measure_12 rfl (by decide) (Nat.le_of_ble_eq_true rfl) rfl rfl rfl rfl (fun H locs w => ?_)
  refine lv_aload_n hx hb dX4_measure_15 rfl (lv_at hl 0 rfl) ?_
  refine lv_iload_n hx hb dX4_measure_16 rfl (lv_at hl 2 rfl) ?_
  refine hm_put (ws' := [oc4 h0 r_t 0 0 (-1) a2 t_unlike t_most t_mostCome t_least t_greatest t_missing t_firstMissing, oc2 h1 r_p1 d_p1 p1_bits p1_offset p1_band p1_rule p1_noise p1_step p1_draws p1_heat p1_hour p1_seenCount, ic E (r_t 0) 4096 t_entry, ic E (r_p1 2) 12 p1_off, ic E (r_p1 1) 12 p1_size, ic E (r_p1 4) 12 p1_stuck, ic E (r_p1 3) 12 p1_worth]) cb_X4 hx hb hown X w 0 4 fl_X4_25 dX4_measure_17 rfl (by decide) (Nat.le_of_ble_eq_true rfl) rfl rfl rfl rfl (fun H locs w => ?_)
  refine lv_iload hx hb dX4_measure_20 (lv_at hl 4 rfl) ?_
  refine lv_iconst (v := 1) hx hb dX4_measure_22 (by decide) ?_
  obtain ⟨J38, hJ38, hf⟩ := pf_jn hf
  have kJ38 : ∀ (x1 : Int32) (H : Heap) (locs : List Loc) (ls : Array Slot), J38 x1 = some R → hm_W E A s.heap [oc4 h0 r_t 0 0 (-1) a2 t_unlike t_most t_mostCome t_least t_greatest t_missing t_firstMissing, oc2 h1 r_p1 d_p1 p1_bits p1_offset p1_band p1_rule p1_noise p1_step p1_draws p1_heat p1_hour p1_seenCount, ic E (r_t 0) 4096 t_entry, ic E (r_p1 2) 12 p1_off, ic E (r_p1 1) 12 p1_size, ic E (r_p1 4) 12 p1_stuck, ic E (r_p1 3) 12 p1_worth] H locs → lv_has ls 10 [(0, .ref h0), (1, .ref h1), (2, .int a2), (4, .int a4)] → W p l e (hm_rr 3 68 0 0) s m args below meth c H locs 0 0 Q (F0 m 38 ls [.int x1]) := by
    intro x1 H locs ls hf w hl
    have hf := pf_j1 hJ38 hf
    refine lv_istore (lv' := [(5, .int x1), (0, .ref h0), (1, .ref h1), (2, .int a2), (4, .int a4)]) hx hb dX4_measure_38 hl (by decide) rfl (fun ls hl => ?_)
    refine lv_iconst (v := 0) hx hb dX4_measure_40 (by decide) ?_
    refine lv_istore (lv' := [(6, .int 0), (5, .int x1), (0, .ref h0), (1, .ref h1), (2, .int a2), (4, .int a4)]) hx hb dX4_measure_41 hl (by decide) rfl (fun ls hl => ?_)
    have klp_X4_measure_43 : ∀ (n : Nat) (x2 : Int32) (f3 : Nat → Int32) (x4 : Int32) (x5 : Int32) (x6 : Int32) (x7 : Int32) (H : Heap) (locs : List Loc) (ls : Array Slot), lp_X4_measure_43 a2 a4 p1_bits p1_offset p1_step p1_off p1_size p1_stuck p1_worth x1 n x2 f3 x4 x5 x6 x7 = some R → hm_W E A s.heap [oc4 h0 r_t x4 x5 x6 x7 t_unlike t_most t_mostCome t_least t_greatest t_missing t_firstMissing, oc2 h1 r_p1 d_p1 p1_bits p1_offset p1_band p1_rule p1_noise p1_step p1_draws p1_heat p1_hour p1_seenCount, ic E (r_t 0) 4096 f3, ic E (r_p1 2) 12 p1_off, ic E (r_p1 1) 12 p1_size, ic E (r_p1 4) 12 p1_stuck, ic E (r_p1 3) 12 p1_worth] H locs → lv_has ls 10 [(0, .ref h0), (1, .ref h1), (2, .int a2), (4, .int a4), (5, .int x1), (6, .int x2)] → W p l e (hm_rr 3 68 0 0) s m args below meth c H locs 0 0 Q (F0 m 43 ls []) := by
      intro n
      induction n with
      | zero =>
        intro x2 f3 x4 x5 x6 x7 H locs ls hf w hl
        exact pf_no hf
      | succ n ih43 =>
        intro x2 f3 x4 x5 x6 x7 H locs ls hf w hl
        rw [lp_X4_measure_43] at hf
        refine lv_iload hx hb dX4_measure_43 (lv_at hl 5 rfl) ?_
        refine lv_iload hx hb dX4_measure_45 (lv_at hl 4 rfl) ?_
        refine lv_icmp_ge (tgt := 165) hx hb dX4_measure_47 (by decide) (fun c47 => ?_) (fun c47 => ?_)
        · have hf := pf_t c47 hf
          exact hQ _ _ _ _ (f3, x4, x5, x6, x7) (fun _ => 0) hf w dX4_measure_165
        · have hf := pf_e c47 hf
          refine lv_iload hx hb dX4_measure_50 (lv_at hl 5 rfl) ?_
          refine lv_sipush (v := 4096) hx hb dX4_measure_52 (by decide) ?_
          refine lv_icmp_ge (tgt := 165) hx hb dX4_measure_55 (by decide) (fun c55 => ?_) (fun c55 => ?_)
          · have hf := pf_t c55 hf
            exact hQ _ _ _ _ (f3, x4, x5, x6, x7) (fun _ => 0) hf w dX4_measure_165
          · have hf := pf_e c55 hf
            refine lv_iload_n hx hb dX4_measure_58 rfl (lv_at hl 2 rfl) ?_
            refine lv_iload hx hb dX4_measure_59 (lv_at hl 5 rfl) ?_
            refine lv_iload hx hb dX4_measure_61 (lv_at hl 3 rfl) ?_
            refine lv_imul hx hb dX4_measure_63 ?_
            refine lv_iadd hx hb dX4_measure_64 ?_
            refine lv_topi (fun x8 ex8 => ?_)
            have hf := pf_nm ex8 hf
            refine lv_istore (lv' := [(7, .int x8), (0, .ref h0), (1, .ref h1), (2, .int a2), (4, .int a4), (5, .int x1), (6, .int x2)]) hx hb dX4_measure_65 hl (by decide) rfl (fun ls hl => ?_)
            refine lv_aload_n hx hb dX4_measure_67 rfl (lv_at hl 2 rfl) ?_
            refine lv_iload hx hb dX4_measure_68 (lv_at hl 0 rfl) ?_
            obtain ⟨r9, hc70, hf⟩ := pf_bi_0 hf
            refine hm_aft_i (ws' := fun _ => [oc4 h0 r_t x4 x5 x6 x7 t_unlike t_most t_mostCome t_least t_greatest t_missing t_firstMissing, oc2 h1 r_p1 d_p1 p1_bits p1_offset p1_band p1_rule p1_noise p1_step p1_draws p1_heat p1_hour p1_seenCount, ic E (r_t 0) 4096 f3, ic E (r_p1 2) 12 p1_off, ic E (r_p1 1) 12 p1_size, ic E (r_p1 4) 12 p1_stuck, ic E (r_p1 3) 12 p1_worth]) (hm_runV (rest := []) hx hb hml hown X hA Y w 1 (ci := 2) (T := TX2) (N := 17) rfl rfl mw_X2_paperCode ml_X4_49 dX4_measure_70 hm_ac0 [.int x8] rfl [1, 3, 4, 5, 6] rfl rfl (ct_X2_paperCode l E H.size h1 r_p1 d_p1 p1_bits p1_offset p1_band p1_rule p1_noise p1_step p1_draws p1_heat p1_hour p1_seenCount p1_off p1_size p1_stuck p1_worth x8 (r9, ()) hc70) rfl hl.1 ⟨⟨rfl, rfl⟩, ⟨Nat.le_of_ble_eq_true rfl, Nat.le_of_ble_eq_true rfl⟩, ⟨Nat.le_of_ble_eq_true rfl, Nat.le_of_ble_eq_true rfl⟩, Nat.le_of_ble_eq_true rfl⟩) hA w [1, 3, 4, 5, 6] [0, 2] [0, 2, 1, 3, 4, 5, 6] rfl rfl (by decide) (fun _ => rfl) (fun _ H locs w => ?_)
            refine lv_istore (lv' := [(8, .int r9), (7, .int x8), (0, .ref h0), (1, .ref h1), (2, .int a2), (4, .int a4), (5, .int x1), (6, .int x2)]) hx hb dX4_measure_73 hl (by decide) rfl (fun ls hl => ?_)
            refine lv_iload hx hb dX4_measure_75 (lv_at hl 7 rfl) ?_
            obtain ⟨J104, hJ104, hf⟩ := pf_jn hf
            have kJ104 : ∀ (x10 : Int32) (H : Heap) (locs : List Loc) (ls : Array Slot), J104 x10 = some R → hm_W E A s.heap [oc4 h0 r_t x4 x10 x6 x7 t_unlike t_most t_mostCome t_least t_greatest t_missing t_firstMissing, oc2 h1 r_p1 d_p1 p1_bits p1_offset p1_band p1_rule p1_noise p1_step p1_draws p1_heat p1_hour p1_seenCount, ic E (r_t 0) 4096 f3, ic E (r_p1 2) 12 p1_off, ic E (r_p1 1) 12 p1_size, ic E (r_p1 4) 12 p1_stuck, ic E (r_p1 3) 12 p1_worth] H locs → lv_has ls 10 [(0, .ref h0), (1, .ref h1), (2, .int a2), (4, .int a4), (5, .int x1), (6, .int x2), (7, .int x8), (8, .int r9)] → W p l e (hm_rr 3 68 0 0) s m args below meth c H locs 0 0 Q (F0 m 104 ls []) := by
              intro x10 H locs ls hf w hl
              have hf := pf_j1 hJ104 hf
              refine lv_iload hx hb dX4_measure_104 (lv_at hl 7 rfl) ?_
              refine lv_aload_n hx hb dX4_measure_106 rfl (lv_at hl 1 rfl) ?_
              refine hm_get cb_X2 hx hb hown X w 1 9 fl_X4_55 dX4_measure_107 rfl (by decide) rfl ?_
              refine lv_imul hx hb dX4_measure_110 ?_
              refine lv_iload hx hb dX4_measure_111 (lv_at hl 6 rfl) ?_
              refine lv_isub hx hb dX4_measure_113 ?_
              refine va_mabs hx hb (hml.trans hl.1.symm) hown (X.use ml_X4_58 rfl) (X.use mt_abs_s rfl) (X.use mt_i rfl) (X.use mt_abs_c rfl) (Nat.le_of_ble_eq_true rfl) (Nat.le_of_ble_eq_true rfl) (Nat.le_of_ble_eq_true rfl) (Nat.le_of_ble_eq_true rfl) dX4_measure_114 ?_
              refine lv_topi (fun x11 ex11 => ?_)
              have hf := pf_nm ex11 hf
              refine lv_istore (lv' := [(9, .int x11), (0, .ref h0), (1, .ref h1), (2, .int a2), (4, .int a4), (5, .int x1), (6, .int x2), (7, .int x8), (8, .int r9)]) hx hb dX4_measure_117 hl (by decide) rfl (fun ls hl => ?_)
              refine lv_iload hx hb dX4_measure_119 (lv_at hl 0 rfl) ?_
              refine lv_aload_n hx hb dX4_measure_121 rfl (lv_at hl 1 rfl) ?_
              refine hm_get cb_X4 hx hb hown X w 0 3 fl_X4_22 dX4_measure_122 rfl (by decide) rfl ?_
              obtain ⟨J140, hJ140, hf⟩ := pf_jn hf
              have kJ140 : ∀ (x12 : Int32) (x13 : Int32) (H : Heap) (locs : List Loc) (ls : Array Slot), J140 x12 x13 = some R → hm_W E A s.heap [oc4 h0 r_t x4 x10 x12 x13 t_unlike t_most t_mostCome t_least t_greatest t_missing t_firstMissing, oc2 h1 r_p1 d_p1 p1_bits p1_offset p1_band p1_rule p1_noise p1_step p1_draws p1_heat p1_hour p1_seenCount, ic E (r_t 0) 4096 f3, ic E (r_p1 2) 12 p1_off, ic E (r_p1 1) 12 p1_size, ic E (r_p1 4) 12 p1_stuck, ic E (r_p1 3) 12 p1_worth] H locs → lv_has ls 10 [(0, .ref h0), (1, .ref h1), (2, .int a2), (4, .int a4), (5, .int x1), (6, .int x2), (8, .int r9)] → W p l e (hm_rr 3 68 0 0) s m args below meth c H locs 0 0 Q (F0 m 140 ls []) := by
                intro x12 x13 H locs ls hf w hl
                have hf := pf_j2 hJ140 hf
                refine lv_aload_n hx hb dX4_measure_140 rfl (lv_at hl 0 rfl) ?_
                refine hm_get cb_X4 hx hb hown X w 0 0 fl_X4_11 dX4_measure_141 rfl (by decide) rfl ?_
                refine lv_iload hx hb dX4_measure_144 (lv_at hl 5 rfl) ?_
                refine lv_iload hx hb dX4_measure_146 (lv_at hl 6 rfl) ?_
                obtain ⟨g148, hf⟩ := pf_ckI hf
                refine hm_iast (ws' := [oc4 h0 r_t x4 x10 x12 x13 t_unlike t_most t_mostCome t_least t_greatest t_missing t_firstMissing, oc2 h1 r_p1 d_p1 p1_bits p1_offset p1_band p1_rule p1_noise p1_step p1_draws p1_heat p1_hour p1_seenCount, ic E (r_t 0) 4096 (upd f3 x2.toNatClampNeg r9), ic E (r_p1 2) 12 p1_off, ic E (r_p1 1) 12 p1_size, ic E (r_p1 4) 12 p1_stuck, ic E (r_p1 3) 12 p1_worth]) hx hb X w 2 dX4_measure_148 rfl g148 rfl (fun H locs w => ?_)
                refine lv_aload_n hx hb dX4_measure_149 rfl (lv_at hl 0 rfl) ?_
                refine lv_dup hx hb dX4_measure_150 rfl ?_
                refine hm_get cb_X4 hx hb hown X w 0 1 fl_X4_15 dX4_measure_151 rfl (by decide) rfl ?_
                refine lv_iconst (v := 1) hx hb dX4_measure_154 (by decide) ?_
                refine lv_iadd hx hb dX4_measure_155 ?_
                refine lv_topi (fun x14 ex14 => ?_)
                have hf := pf_nm ex14 hf
                refine hm_put (ws' := [oc4 h0 r_t x14 x10 x12 x13 t_unlike t_most t_mostCome t_least t_greatest t_missing t_firstMissing, oc2 h1 r_p1 d_p1 p1_bits p1_offset p1_band p1_rule p1_noise p1_step p1_draws p1_heat p1_hour p1_seenCount, ic E (r_t 0) 4096 (upd f3 x2.toNatClampNeg r9), ic E (r_p1 2) 12 p1_off, ic E (r_p1 1) 12 p1_size, ic E (r_p1 4) 12 p1_stuck, ic E (r_p1 3) 12 p1_worth]) cb_X4 hx hb hown X w 0 1 fl_X4_15 dX4_measure_156 rfl (by decide) (Nat.le_of_ble_eq_true rfl) rfl rfl rfl rfl (fun H locs w => ?_)
                obtain ⟨x15, ex15⟩ : ∃ y : Int32, y = (x2 + 1) := ⟨_, rfl⟩
                have hf := pf_nm ex15 hf
                refine lv_iinc (v := x15) (lv' := [(6, .int x15), (0, .ref h0), (1, .ref h1), (2, .int a2), (4, .int a4), (5, .int x1), (8, .int r9)]) hx hb dX4_measure_159 hl (k := 5) rfl (by rw [ex15]; rfl) (by decide) rfl (fun ls hl => ?_)
                refine lv_goto (tgt := 43) hx hb dX4_measure_162 (by decide) ?_
                exact ih43 _ _ _ _ _ _ _ _ _ hf w (lv_sub hl [1, 2, 3, 4, 5, 0] rfl)
              refine lv_icmp_le (tgt := 140) hx hb dX4_measure_125 (by decide) (fun c125 => ?_) (fun c125 => ?_)
              · have hf := pf_t c125 hf
                exact kJ140 _ _ _ _ _ hf w (lv_sub hl [1, 2, 3, 4, 5, 6, 8] rfl)
              · have hf := pf_e c125 hf
                refine lv_aload_n hx hb dX4_measure_128 rfl (lv_at hl 1 rfl) ?_
                refine lv_iload hx hb dX4_measure_129 (lv_at hl 0 rfl) ?_
                refine hm_put (ws' := [oc4 h0 r_t x4 x10 x11 x7 t_unlike t_most t_mostCome t_least t_greatest t_missing t_firstMissing, oc2 h1 r_p1 d_p1 p1_bits p1_offset p1_band p1_rule p1_noise p1_step p1_draws p1_heat p1_hour p1_seenCount, ic E (r_t 0) 4096 f3, ic E (r_p1 2) 12 p1_off, ic E (r_p1 1) 12 p1_size, ic E (r_p1 4) 12 p1_stuck, ic E (r_p1 3) 12 p1_worth]) cb_X4 hx hb hown X w 0 3 fl_X4_22 dX4_measure_131 rfl (by decide) (Nat.le_of_ble_eq_true rfl) rfl rfl rfl rfl (fun H locs w => ?_)
                refine lv_aload_n hx hb dX4_measure_134 rfl (lv_at hl 1 rfl) ?_
                refine lv_iload hx hb dX4_measure_135 (lv_at hl 7 rfl) ?_
                refine hm_put (ws' := [oc4 h0 r_t x4 x10 x11 x8 t_unlike t_most t_mostCome t_least t_greatest t_missing t_firstMissing, oc2 h1 r_p1 d_p1 p1_bits p1_offset p1_band p1_rule p1_noise p1_step p1_draws p1_heat p1_hour p1_seenCount, ic E (r_t 0) 4096 f3, ic E (r_p1 2) 12 p1_off, ic E (r_p1 1) 12 p1_size, ic E (r_p1 4) 12 p1_stuck, ic E (r_p1 3) 12 p1_worth]) cb_X4 hx hb hown X w 0 4 fl_X4_25 dX4_measure_137 rfl (by decide) (Nat.le_of_ble_eq_true rfl) rfl rfl rfl rfl (fun H locs w => ?_)
                exact kJ140 _ _ _ _ _ hf w (lv_sub hl [1, 2, 3, 4, 5, 6, 8] rfl)
            refine lv_if_le (tgt := 104) hx hb dX4_measure_77 (by decide) (fun c77 => ?_) (fun c77 => ?_)
            · have hf := pf_t c77 hf
              exact kJ104 _ _ _ _ hf w (lv_sub hl [2, 3, 4, 5, 6, 7, 1, 0] rfl)
            · have hf := pf_e c77 hf
              refine lv_iload hx hb dX4_measure_80 (lv_at hl 0 rfl) ?_
              refine lv_aload_n hx hb dX4_measure_82 rfl (lv_at hl 2 rfl) ?_
              refine hm_get cb_X4 hx hb hown X w 0 0 fl_X4_11 dX4_measure_83 rfl (by decide) rfl ?_
              refine lv_iload hx hb dX4_measure_86 (lv_at hl 7 rfl) ?_
              refine lv_iconst (v := 1) hx hb dX4_measure_88 (by decide) ?_
              refine lv_isub hx hb dX4_measure_89 ?_
              obtain ⟨g90, hf⟩ := pf_ckI hf
              refine hm_iald hx hb X w 2 dX4_measure_90 rfl g90 ?_
              refine lv_icmp_ge (tgt := 104) hx hb dX4_measure_91 (by decide) (fun c91 => ?_) (fun c91 => ?_)
              · have hf := pf_t c91 hf
                exact kJ104 _ _ _ _ hf w (lv_sub hl [2, 3, 4, 5, 6, 7, 1, 0] rfl)
              · have hf := pf_e c91 hf
                refine lv_aload_n hx hb dX4_measure_94 rfl (lv_at hl 2 rfl) ?_
                refine lv_dup hx hb dX4_measure_95 rfl ?_
                refine hm_get cb_X4 hx hb hown X w 0 2 fl_X4_19 dX4_measure_96 rfl (by decide) rfl ?_
                refine lv_iconst (v := 1) hx hb dX4_measure_99 (by decide) ?_
                refine lv_iadd hx hb dX4_measure_100 ?_
                refine lv_topi (fun x16 ex16 => ?_)
                have hf := pf_nm ex16 hf
                refine hm_put (ws' := [oc4 h0 r_t x4 x16 x6 x7 t_unlike t_most t_mostCome t_least t_greatest t_missing t_firstMissing, oc2 h1 r_p1 d_p1 p1_bits p1_offset p1_band p1_rule p1_noise p1_step p1_draws p1_heat p1_hour p1_seenCount, ic E (r_t 0) 4096 f3, ic E (r_p1 2) 12 p1_off, ic E (r_p1 1) 12 p1_size, ic E (r_p1 4) 12 p1_stuck, ic E (r_p1 3) 12 p1_worth]) cb_X4 hx hb hown X w 0 2 fl_X4_19 dX4_measure_101 rfl (by decide) (Nat.le_of_ble_eq_true rfl) rfl rfl rfl rfl (fun H locs w => ?_)
                exact kJ104 _ _ _ _ hf w (lv_sub hl [2, 3, 4, 5, 6, 7, 1, 0] rfl)
    exact klp_X4_measure_43 FU _ _ _ _ _ _ _ _ _ hf w (lv_sub hl [2, 3, 4, 5, 1, 0] rfl)
  refine lv_icmp_ge (tgt := 30) hx hb dX4_measure_23 (by decide) (fun c23 => ?_) (fun c23 => ?_)
  · have hf := pf_t c23 hf
    refine lv_iload_n hx hb dX4_measure_30 rfl (lv_at hl 3 rfl) ?_
    refine lv_iload_n hx hb dX4_measure_31 rfl (lv_at hl 2 rfl) ?_
    refine lv_isub hx hb dX4_measure_32 ?_
    refine lv_iload hx hb dX4_measure_33 (lv_at hl 4 rfl) ?_
    obtain ⟨g35, hf⟩ := pf_ckD hf
    refine lv_idiv hx hb dX4_measure_35 g35 ?_
    refine lv_iconst (v := 1) hx hb dX4_measure_36 (by decide) ?_
    refine lv_iadd hx hb dX4_measure_37 ?_
    exact kJ38 _ _ _ _ hf w (lv_sub hl [0, 1, 2, 4] rfl)
  · have hf := pf_e c23 hf
    refine lv_iconst (v := 0) hx hb dX4_measure_26 (by decide) ?_
    refine lv_goto (tgt := 38) hx hb dX4_measure_27 (by decide) ?_
    exact kJ38 _ _ _ _ hf w (lv_sub hl [0, 1, 2, 4] rfl)