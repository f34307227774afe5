set_option maxHeartbeats 8000000 in
set_option maxRecDepth 100000 in
theorem ct_X7_isKept (l : Launch) (E : hm_E) (sz : Nat) (h0 : Nat) (r_t : Nat → Nat) (t_writtenCount t_faultPlace : Int32) (t_kept : Nat → Option Nat) (a1 : Int32) (R : Int32 × Unit) (hf : pf_X7_isKept a1 t_kept = some R) : hm_Mi l E yX7_isKept cX7_isKept 2 .boolean [] (hm_rr 1 22 0 0) [.ref h0, .int a1] sz [oc7 h0 r_t t_writtenCount t_faultPlace, qc E (r_t 3) 3 t_kept] R.1 (fun _ => [oc7 h0 r_t t_writtenCount t_faultPlace, qc E (r_t 3) 3 t_kept]) := by
  refine hm_ct_i R (fun u _ => [oc7 h0 r_t t_writtenCount t_faultPlace, qc E (r_t 3) 3 t_kept]) (by decide) (Nat.le_of_ble_eq_true rfl) (Or.inr rfl) ?_
  intro p e s m args below meth c A Q ls H locs hx hb hml hown X hA Y hex w hl hQ
  have hl : lv_has ls 2 [(0, .ref h0), (1, .int a1)] := hl
  unfold pf_X7_isKept at hf
  refine lv_iload_n hx hb dX7_isKept_0 rfl (lv_at hl 1 rfl) ?_
  refine lv_iconst (v := 0) hx hb dX7_isKept_1 (by decide) ?_
  refine lv_iconst (v := 2) hx hb dX7_isKept_2 (by decide) ?_
  obtain ⟨r1, hc3, hf⟩ := pf_bi_0 hf
  refine hm_aft_i (ws' := fun _ => [oc7 h0 r_t t_writtenCount t_faultPlace, qc E (r_t 3) 3 t_kept]) (hm_runS (rest := []) hx hb hml hown X hA Y w mw_X7_within ml_X7_225 dX7_isKept_3 hm_ac0 [.int a1, .int 0, .int 2] rfl [] rfl rfl (ct_X7_within l E H.size a1 0 2 (r1, ()) hc3) rfl hl.1 ⟨⟨rfl, rfl⟩, ⟨Nat.le_of_ble_eq_true rfl, Nat.le_of_ble_eq_true rfl⟩, ⟨Nat.le_of_ble_eq_true rfl, Nat.le_of_ble_eq_true rfl⟩, Nat.le_of_ble_eq_true rfl⟩) hA w [] [0, 1] [0, 1] rfl rfl (by decide) (fun _ => rfl) (fun _ H locs w => ?_)
  refine lv_if_eq (tgt := 22) hx hb dX7_isKept_6 (by decide) (fun c6 => ?_) (fun c6 => ?_)
  · have hf := pf_t c6 hf
    refine lv_iconst (v := 0) hx hb dX7_isKept_22 (by decide) ?_
    exact hQ _ _ _ _ _ () (fun _ => 0) hf rfl w dX7_isKept_23
  · have hf := pf_e c6 hf
    refine lv_aload_n hx hb dX7_isKept_9 rfl (lv_at hl 0 rfl) ?_
    refine hm_get cb_X7 hx hb hown X w 0 3 fl_X7_26 dX7_isKept_10 rfl (by decide) rfl ?_
    refine lv_iload_n hx hb dX7_isKept_13 rfl (lv_at hl 1 rfl) ?_
    obtain ⟨g14, hf⟩ := pf_ckI hf
    refine hm_qald hx hb X w 1 dX7_isKept_14 rfl g14 ?_
    by_cases c15 : (t_kept a1.toNatClampNeg) = none
    · have hf := pf_t c15 hf
      rw [c15]
      refine lv_ifnullN (tgt := 22) hx hb dX7_isKept_15 (by decide) ?_
      refine lv_iconst (v := 0) hx hb dX7_isKept_22 (by decide) ?_
      exact hQ _ _ _ _ _ () (fun _ => 0) hf rfl w dX7_isKept_23
    · have hf := pf_e c15 hf
      obtain ⟨k15, hk15⟩ : ∃ k, (t_kept a1.toNatClampNeg) = some k := by
        cases h : (t_kept a1.toNatClampNeg) with
        | none => exact absurd h c15
        | some k => exact ⟨k, rfl⟩
      rw [hk15]
      refine lv_ifnull hx hb dX7_isKept_15 ?_
      refine lv_iconst (v := 1) hx hb dX7_isKept_18 (by decide) ?_
      refine lv_goto (tgt := 23) hx hb dX7_isKept_19 (by decide) ?_
      exact hQ _ _ _ _ _ () (fun _ => 0) hf rfl w dX7_isKept_23
set_option maxHeartbeats 8000000 in
set_option maxRecDepth 100000 in
theorem ct_X7_back_x (l : Launch) (E : hm_E) (sz : Nat) (h0 : Nat) (r_t : Nat → Nat) (t_writtenCount t_faultPlace : Int32) (t_kept : Nat → Option Nat) (a1 : Int32) (R : Int32 × Unit) (hf : pf_X7_back_x a1 t_kept = some R) : hm_Mi l E yX7_back cX7_back 2 .boolean [] (hm_rr 2 43 0 0) [.ref h0, .int a1] sz [oc7 h0 r_t t_writtenCount t_faultPlace, qc E (r_t 3) 3 t_kept] R.1 (fun _ => [oc7 h0 r_t t_writtenCount t_faultPlace, qc E (r_t 3) 3 t_kept]) := by
  refine hm_ct_i R (fun u _ => [oc7 h0 r_t t_writtenCount t_faultPlace, qc E (r_t 3) 3 t_kept]) (by decide) (Nat.le_of_ble_eq_true rfl) (Or.inr rfl) ?_
  intro p e s m args below meth c A Q ls H locs hx hb hml hown X hA Y hex w hl hQ
  have hl : lv_has ls 2 [(0, .ref h0), (1, .int a1)] := hl
  unfold pf_X7_back_x at hf
  refine lv_aload_n hx hb dX7_back_0 rfl (lv_at hl 0 rfl) ?_
  refine lv_iload_n hx hb dX7_back_1 rfl (lv_at hl 1 rfl) ?_
  obtain ⟨r1, hc2, hf⟩ := pf_bi_0 hf
  refine hm_aft_i (ws' := fun _ => [oc7 h0 r_t t_writtenCount t_faultPlace, qc E (r_t 3) 3 t_kept]) (hm_runV (rest := []) hx hb hml hown X hA Y w 0 (ci := 6) (T := TX7) (N := 11) rfl rfl mw_X7_isKept ml_X7_325 dX7_back_2 hm_ac0 [.int a1] rfl [0, 1] rfl rfl (ct_X7_isKept l E H.size h0 r_t t_writtenCount t_faultPlace t_kept a1 (r1, ()) hc2) rfl hl.1 ⟨⟨rfl, rfl⟩, ⟨Nat.le_of_ble_eq_true rfl, Nat.le_of_ble_eq_true rfl⟩, ⟨Nat.le_of_ble_eq_true rfl, Nat.le_of_ble_eq_true rfl⟩, Nat.le_of_ble_eq_true rfl⟩) hA w [0, 1] [] [0, 1] rfl rfl (by decide) (fun _ => rfl) (fun _ H locs w => ?_)
  refine lv_if_ne (tgt := 10) hx hb dX7_back_5 (by decide) (fun c5 => ?_) (fun c5 => ?_)
  · have hf := pf_e c5 hf
    exact pf_no hf
  · have hf := pf_t c5 hf
    refine lv_iconst (v := 0) hx hb dX7_back_8 (by decide) ?_
    exact hQ _ _ _ _ _ () (fun _ => 0) hf rfl w dX7_back_9
set_option maxHeartbeats 8000000 in
set_option maxRecDepth 100000 in
theorem ct_X7_back_k (l : Launch) (E : hm_E) (sz : Nat) (h0 : Nat) (r_t : Nat → Nat) (r_t_latest : Nat → Nat) (r_t_now : Nat → Nat) (d_t_now : Nat) (kx : Nat) (r_t_kept_k : Nat → Nat) (d_t_kept_k : Nat) (t_writtenCount t_faultPlace t_latest_bits t_latest_sum t_latest_heldAtEnd t_latest_left t_latest_lates t_latest_ones t_latest_code t_now_bits t_now_offset t_now_band t_now_rule t_now_noise t_now_step t_now_draws t_now_heat t_now_hour t_now_seenCount t_kept_k_bits t_kept_k_offset t_kept_k_band t_kept_k_rule t_kept_k_noise t_kept_k_step t_kept_k_draws t_kept_k_heat t_kept_k_hour t_kept_k_seenCount : Int32) (t_kept : Nat → Option Nat) (t_kept_k_off : Nat → Int32) (t_kept_k_seenCode : Nat → Int32) (t_kept_k_seenX : Nat → Int32) (t_kept_k_size : Nat → Int32) (t_kept_k_stuck : Nat → Int32) (t_kept_k_worth : Nat → Int32) (t_now_off : Nat → Int32) (t_now_seenCode : Nat → Int32) (t_now_seenX : Nat → Int32) (t_now_size : Nat → Int32) (t_now_stuck : Nat → Int32) (t_now_worth : Nat → Int32) (a1 : Int32) (hk : t_kept a1.toNatClampNeg = some kx) (R : Int32 × Int32 × Int32 × (Nat → Int32) × (Nat → Int32) × (Nat → Int32) × (Nat → Int32) × Int32 × Int32 × Int32 × Int32 × Int32 × Int32 × Int32 × Int32 × (Nat → Int32) × (Nat → Int32) × Int32) (hf : pf_X7_back_k a1 t_kept t_kept_k_bits t_kept_k_size t_kept_k_off t_kept_k_worth t_kept_k_stuck t_kept_k_offset t_kept_k_band t_kept_k_rule t_kept_k_noise t_kept_k_step t_kept_k_draws t_kept_k_heat t_kept_k_hour t_kept_k_seenX t_kept_k_seenCode t_kept_k_seenCount t_now_size t_now_off t_now_worth t_now_stuck t_now_seenX t_now_seenCode = some R) : hm_Mi l E yX7_back cX7_back 2 .boolean [] (hm_rr 3 90 0 0) [.ref h0, .int a1] sz [oc7 h0 r_t t_writtenCount t_faultPlace, oc1 (r_t 4) r_t_latest t_latest_bits t_latest_sum t_latest_heldAtEnd t_latest_left t_latest_lates t_latest_ones t_latest_code, oc2 (r_t 1) r_t_now d_t_now t_now_bits t_now_offset t_now_band t_now_rule t_now_noise t_now_step t_now_draws t_now_heat t_now_hour t_now_seenCount, oc2 kx r_t_kept_k d_t_kept_k t_kept_k_bits t_kept_k_offset t_kept_k_band t_kept_k_rule t_kept_k_noise t_kept_k_step t_kept_k_draws t_kept_k_heat t_kept_k_hour t_kept_k_seenCount, qc E (r_t 3) 3 t_kept, ic E (r_t_kept_k 2) 12 t_kept_k_off, ic E (r_t_kept_k 15) 8 t_kept_k_seenCode, ic E (r_t_kept_k 14) 8 t_kept_k_seenX, ic E (r_t_kept_k 1) 12 t_kept_k_size, ic E (r_t_kept_k 4) 12 t_kept_k_stuck, ic E (r_t_kept_k 3) 12 t_kept_k_worth, ic E (r_t_now 2) 12 t_now_off, ic E (r_t_now 15) 8 t_now_seenCode, ic E (r_t_now 14) 8 t_now_seenX, ic E (r_t_now 1) 12 t_now_size, ic E (r_t_now 4) 12 t_now_stuck, ic E (r_t_now 3) 12 t_now_worth] R.1 (fun qs => [oc7 h0 r_t t_writtenCount t_faultPlace, oc1 (r_t 4) r_t_latest (R.2.1) t_latest_sum t_latest_heldAtEnd t_latest_left t_latest_lates t_latest_ones t_latest_code, oc2 (r_t 1) r_t_now d_t_kept_k (R.2.2.1) (R.2.2.2.2.2.2.2.1) (R.2.2.2.2.2.2.2.2.1) (R.2.2.2.2.2.2.2.2.2.1) (R.2.2.2.2.2.2.2.2.2.2.1) (R.2.2.2.2.2.2.2.2.2.2.2.1) (R.2.2.2.2.2.2.2.2.2.2.2.2.1) (R.2.2.2.2.2.2.2.2.2.2.2.2.2.1) (R.2.2.2.2.2.2.2.2.2.2.2.2.2.2.1) (R.2.2.2.2.2.2.2.2.2.2.2.2.2.2.2.2.2), oc2 kx r_t_kept_k d_t_kept_k t_kept_k_bits t_kept_k_offset t_kept_k_band t_kept_k_rule t_kept_k_noise t_kept_k_step t_kept_k_draws t_kept_k_heat t_kept_k_hour t_kept_k_seenCount, qc E (r_t 3) 3 t_kept, ic E (r_t_kept_k 2) 12 t_kept_k_off, ic E (r_t_kept_k 15) 8 t_kept_k_seenCode, ic E (r_t_kept_k 14) 8 t_kept_k_seenX, ic E (r_t_kept_k 1) 12 t_kept_k_size, ic E (r_t_kept_k 4) 12 t_kept_k_stuck, ic E (r_t_kept_k 3) 12 t_kept_k_worth, ic E (r_t_now 2) 12 (R.2.2.2.2.1), ic E (r_t_now 15) 8 (R.2.2.2.2.2.2.2.2.2.2.2.2.2.2.2.2.1), ic E (r_t_now 14) 8 (R.2.2.2.2.2.2.2.2.2.2.2.2.2.2.2.1), ic E (r_t_now 1) 12 (R.2.2.2.1), ic E (r_t_now 4) 12 (R.2.2.2.2.2.2.1), ic E (r_t_now 3) 12 (R.2.2.2.2.2.1)]) := by
  refine hm_ct_i R (fun u qs => [oc7 h0 r_t t_writtenCount t_faultPlace, oc1 (r_t 4) r_t_latest (u.1) t_latest_sum t_latest_heldAtEnd t_latest_left t_latest_lates t_latest_ones t_latest_code, oc2 (r_t 1) r_t_now d_t_kept_k (u.2.1) (u.2.2.2.2.2.2.1) (u.2.2.2.2.2.2.2.1) (u.2.2.2.2.2.2.2.2.1) (u.2.2.2.2.2.2.2.2.2.1) (u.2.2.2.2.2.2.2.2.2.2.1) (u.2.2.2.2.2.2.2.2.2.2.2.1) (u.2.2.2.2.2.2.2.2.2.2.2.2.1) (u.2.2.2.2.2.2.2.2.2.2.2.2.2.1) (u.2.2.2.2.2.2.2.2.2.2.2.2.2.2.2.2), oc2 kx r_t_kept_k d_t_kept_k t_kept_k_bits t_kept_k_offset t_kept_k_band t_kept_k_rule t_kept_k_noise t_kept_k_step t_kept_k_draws t_kept_k_heat t_kept_k_hour t_kept_k_seenCount, qc E (r_t 3) 3 t_kept, ic E (r_t_kept_k 2) 12 t_kept_k_off, ic E (r_t_kept_k 15) 8 t_kept_k_seenCode, ic E (r_t_kept_k 14) 8 t_kept_k_seenX, ic E (r_t_kept_k 1) 12 t_kept_k_size, ic E (r_t_kept_k 4) 12 t_kept_k_stuck, ic E (r_t_kept_k 3) 12 t_kept_k_worth, ic E (r_t_now 2) 12 (u.2.2.2.1), ic E (r_t_now 15) 8 (u.2.2.2.2.2.2.2.2.2.2.2.2.2.2.2.1), ic E (r_t_now 14) 8 (u.2.2.2.2.2.2.2.2.2.2.2.2.2.2.1), ic E (r_t_now 1) 12 (u.2.2.1), ic E (r_t_now 4) 12 (u.2.2.2.2.2.1), ic E (r_t_now 3) 12 (u.2.2.2.2.1)]) (by decide) (Nat.le_of_ble_eq_true rfl) (Or.inr rfl) ?_
  intro p e s m args below meth c A Q ls H locs hx hb hml hown X hA Y hex w hl hQ
  have hl : lv_has ls 2 [(0, .ref h0), (1, .int a1)] := hl
  unfold pf_X7_back_k at hf
  refine lv_aload_n hx hb dX7_back_0 rfl (lv_at hl 0 rfl) ?_
  refine lv_iload_n hx hb dX7_back_1 rfl (lv_at hl 1 rfl) ?_
  obtain ⟨r1, hc2, hf⟩ := pf_bi_0 hf
  refine hm_aft_i (ws' := fun _ => [oc7 h0 r_t t_writtenCount t_faultPlace, oc1 (r_t 4) r_t_latest t_latest_bits t_latest_sum t_latest_heldAtEnd t_latest_left t_latest_lates t_latest_ones t_latest_code, oc2 (r_t 1) r_t_now d_t_now t_now_bits t_now_offset t_now_band t_now_rule t_now_noise t_now_step t_now_draws t_now_heat t_now_hour t_now_seenCount, oc2 kx r_t_kept_k d_t_kept_k t_kept_k_bits t_kept_k_offset t_kept_k_band t_kept_k_rule t_kept_k_noise t_kept_k_step t_kept_k_draws t_kept_k_heat t_kept_k_hour t_kept_k_seenCount, qc E (r_t 3) 3 t_kept, ic E (r_t_kept_k 2) 12 t_kept_k_off, ic E (r_t_kept_k 15) 8 t_kept_k_seenCode, ic E (r_t_kept_k 14) 8 t_kept_k_seenX, ic E (r_t_kept_k 1) 12 t_kept_k_size, ic E (r_t_kept_k 4) 12 t_kept_k_stuck, ic E (r_t_kept_k 3) 12 t_kept_k_worth, ic E (r_t_now 2) 12 t_now_off, ic E (r_t_now 15) 8 t_now_seenCode, ic E (r_t_now 14) 8 t_now_seenX, ic E (r_t_now 1) 12 t_now_size, ic E (r_t_now 4) 12 t_now_stuck, ic E (r_t_now 3) 12 t_now_worth]) (hm_runV (rest := []) hx hb hml hown X hA Y w 0 (ci := 6) (T := TX7) (N := 11) rfl rfl mw_X7_isKept ml_X7_325 dX7_back_2 hm_ac0 [.int a1] rfl [0, 4] rfl rfl (ct_X7_isKept l E H.size h0 r_t t_writtenCount t_faultPlace t_kept a1 (r1, ()) hc2) rfl hl.1 ⟨⟨rfl, rfl⟩, ⟨Nat.le_of_ble_eq_true rfl, Nat.le_of_ble_eq_true rfl⟩, ⟨Nat.le_of_ble_eq_true rfl, Nat.le_of_ble_eq_true rfl⟩, Nat.le_of_ble_eq_true rfl⟩) hA w [0, 4] [1, 2, 3, 5, 6, 7, 8, 9, 10, 11, 12, 13, 14, 15, 16] [15, 0, 1, 2, 16, 3, 4, 5, 6, 7, 8, 9, 10, 11, 12, 13, 14] rfl rfl (by decide) (fun _ => rfl) (fun _ H locs w => ?_)
  refine lv_if_ne (tgt := 10) hx hb dX7_back_5 (by decide) (fun c5 => ?_) (fun c5 => ?_)
  · have hf := pf_e c5 hf
    refine lv_aload_n hx hb dX7_back_10 rfl (lv_at hl 0 rfl) ?_
    refine hm_get cb_X7 hx hb hown X w 0 1 fl_X7_19 dX7_back_11 rfl (by decide) rfl ?_
    refine lv_aload_n hx hb dX7_back_14 rfl (lv_at hl 0 rfl) ?_
    refine hm_get cb_X7 hx hb hown X w 0 3 fl_X7_26 dX7_back_15 rfl (by decide) rfl ?_
    refine lv_iload_n hx hb dX7_back_18 rfl (lv_at hl 1 rfl) ?_
    obtain ⟨g19, hf⟩ := pf_ckI hf
    refine hm_qald hx hb X w 4 dX7_back_19 rfl g19 ?_
    rw [hk]
    obtain ⟨x2, f3, f4, f5, f6, x7, x8, x9, x10, x11, x12, x13, x14, f15, f16, x17, hc20, hf⟩ := pf_bv_16 hf
    refine hm_aft_v (ws' := fun _ => [oc7 h0 r_t t_writtenCount t_faultPlace, oc1 (r_t 4) r_t_latest t_latest_bits t_latest_sum t_latest_heldAtEnd t_latest_left t_latest_lates t_latest_ones t_latest_code, oc2 (r_t 1) r_t_now d_t_kept_k x2 x7 x8 x9 x10 x11 x12 x13 x14 x17, oc2 kx r_t_kept_k d_t_kept_k t_kept_k_bits t_kept_k_offset t_kept_k_band t_kept_k_rule t_kept_k_noise t_kept_k_step t_kept_k_draws t_kept_k_heat t_kept_k_hour t_kept_k_seenCount, qc E (r_t 3) 3 t_kept, ic E (r_t_kept_k 2) 12 t_kept_k_off, ic E (r_t_kept_k 15) 8 t_kept_k_seenCode, ic E (r_t_kept_k 14) 8 t_kept_k_seenX, ic E (r_t_kept_k 1) 12 t_kept_k_size, ic E (r_t_kept_k 4) 12 t_kept_k_stuck, ic E (r_t_kept_k 3) 12 t_kept_k_worth, ic E (r_t_now 2) 12 f4, ic E (r_t_now 15) 8 f16, ic E (r_t_now 14) 8 f15, ic E (r_t_now 1) 12 f3, ic E (r_t_now 4) 12 f6, ic E (r_t_now 3) 12 f5]) (hm_runV (rest := []) hx hb hml hown X hA Y w 2 (ci := 2) (T := TX2) (N := 17) rfl rfl mw_X2_copyFrom ml_X7_352 dX7_back_20 hm_ac0 [.ref kx] rfl [2, 3, 11, 12, 13, 14, 15, 16, 5, 6, 7, 8, 9, 10] rfl rfl (ct_X2_copyFrom l E H.size (r_t 1) kx r_t_now d_t_now r_t_kept_k d_t_kept_k t_now_bits t_now_offset t_now_band t_now_rule t_now_noise t_now_step t_now_draws t_now_heat t_now_hour t_now_seenCount t_kept_k_bits t_kept_k_offset t_kept_k_band t_kept_k_rule t_kept_k_noise t_kept_k_step t_kept_k_draws t_kept_k_heat t_kept_k_hour t_kept_k_seenCount t_now_off t_now_seenCode t_now_seenX t_now_size t_now_stuck t_now_worth t_kept_k_off t_kept_k_seenCode t_kept_k_seenX t_kept_k_size t_kept_k_stuck t_kept_k_worth (x2, f3, f4, f5, f6, x7, x8, x9, x10, x11, x12, x13, x14, f15, f16, x17) hc20) rfl hl.1 ⟨⟨rfl, rfl⟩, ⟨Nat.le_of_ble_eq_true rfl, Nat.le_of_ble_eq_true rfl⟩, ⟨Nat.le_of_ble_eq_true rfl, Nat.le_of_ble_eq_true rfl⟩, Nat.le_of_ble_eq_true rfl⟩) hA w [2, 3, 11, 12, 13, 14, 15, 16, 5, 6, 7, 8, 9, 10] [0, 1, 4] [0, 1, 3, 4, 2, 11, 12, 13, 14, 15, 16, 5, 6, 7, 8, 9, 10] rfl rfl (by decide) (fun _ => rfl) (fun _ H locs w => ?_)
    refine lv_aload_n hx hb dX7_back_23 rfl (lv_at hl 0 rfl) ?_
    refine hm_get cb_X7 hx hb hown X w 0 4 fl_X7_33 dX7_back_24 rfl (by decide) rfl ?_
    refine lv_iconst (v := 0) hx hb dX7_back_27 (by decide) ?_
    refine hm_put (ws' := [oc7 h0 r_t t_writtenCount t_faultPlace, oc1 (r_t 4) r_t_latest 0 t_latest_sum t_latest_heldAtEnd t_latest_left t_latest_lates t_latest_ones t_latest_code, oc2 (r_t 1) r_t_now d_t_kept_k x2 x7 x8 x9 x10 x11 x12 x13 x14 x17, oc2 kx r_t_kept_k d_t_kept_k t_kept_k_bits t_kept_k_offset t_kept_k_band t_kept_k_rule t_kept_k_noise t_kept_k_step t_kept_k_draws t_kept_k_heat t_kept_k_hour t_kept_k_seenCount, qc E (r_t 3) 3 t_kept, ic E (r_t_kept_k 2) 12 t_kept_k_off, ic E (r_t_kept_k 15) 8 t_kept_k_seenCode, ic E (r_t_kept_k 14) 8 t_kept_k_seenX, ic E (r_t_kept_k 1) 12 t_kept_k_size, ic E (r_t_kept_k 4) 12 t_kept_k_stuck, ic E (r_t_kept_k 3) 12 t_kept_k_worth, ic E (r_t_now 2) 12 f4, ic E (r_t_now 15) 8 f16, ic E (r_t_now 14) 8 f15, ic E (r_t_now 1) 12 f3, ic E (r_t_now 4) 12 f6, ic E (r_t_now 3) 12 f5]) cb_X1 hx hb hown X w 1 0 fl_X7_92 dX7_back_28 rfl (by decide) (Nat.le_of_ble_eq_true rfl) rfl rfl rfl rfl (fun H locs w => ?_)
    refine lv_iconst (v := 1) hx hb dX7_back_31 (by decide) ?_
    have w := w.sub (ws' := [oc7 h0 r_t t_writtenCount t_faultPlace, oc1 (r_t 4) r_t_latest 0 t_latest_sum t_latest_heldAtEnd t_latest_left t_latest_lates t_latest_ones t_latest_code, oc2 (r_t 1) r_t_now d_t_kept_k x2 x7 x8 x9 x10 x11 x12 x13 x14 x17, oc2 kx r_t_kept_k d_t_kept_k t_kept_k_bits t_kept_k_offset t_kept_k_band t_kept_k_rule t_kept_k_noise t_kept_k_step t_kept_k_draws t_kept_k_heat t_kept_k_hour t_kept_k_seenCount, qc E (r_t 3) 3 t_kept, ic E (r_t_kept_k 2) 12 t_kept_k_off, ic E (r_t_kept_k 15) 8 t_kept_k_seenCode, ic E (r_t_kept_k 14) 8 t_kept_k_seenX, ic E (r_t_kept_k 1) 12 t_kept_k_size, ic E (r_t_kept_k 4) 12 t_kept_k_stuck, ic E (r_t_kept_k 3) 12 t_kept_k_worth, ic E (r_t_now 2) 12 f4, ic E (r_t_now 15) 8 f16, ic E (r_t_now 14) 8 f15, ic E (r_t_now 1) 12 f3, ic E (r_t_now 4) 12 f6, ic E (r_t_now 3) 12 f5]) [0, 1, 2, 3, 4, 5, 6, 7, 8, 9, 10, 11, 12, 13, 14, 15, 16] (by decide) rfl
    exact hQ _ _ _ _ _ (0, x2, f3, f4, f5, f6, x7, x8, x9, x10, x11, x12, x13, x14, f15, f16, x17) (fun j => 0) hf rfl w dX7_back_32
  · have hf := pf_t c5 hf
    exact pf_no hf
set_option maxHeartbeats 8000000 in
set_option maxRecDepth 100000 in
theorem ct_X7_apart_x (l : Launch) (E : hm_E) (sz : Nat) (h0 : Nat) (r_t : Nat → Nat) (r_t_now : Nat → Nat) (d_t_now : Nat) (t_writtenCount t_faultPlace t_now_bits t_now_offset t_now_band t_now_rule t_now_noise t_now_step t_now_draws t_now_heat t_now_hour t_now_seenCount : Int32) (t_kept : Nat → Option Nat) (a1 : Int32) (a2 : Int32) (a3 : Int32) (a4 : Int32) (R : Int32 × Unit) (hf : pf_X7_apart_x a1 a2 a3 a4 t_kept t_now_bits = some R) : hm_Mi l E yX7_apart cX7_apart 10 .int [] (hm_rr 2 43 0 0) [.ref h0, .int a1, .int a2, .int a3, .int a4] sz [oc7 h0 r_t t_writtenCount t_faultPlace, oc2 (r_t 1) r_t_now d_t_now t_now_bits t_now_offset t_now_band t_now_rule t_now_noise t_now_step t_now_draws t_now_heat t_now_hour t_now_seenCount, qc E (r_t 3) 3 t_kept] R.1 (fun _ => [oc7 h0 r_t t_writtenCount t_faultPlace, oc2 (r_t 1) r_t_now d_t_now t_now_bits t_now_offset t_now_band t_now_rule t_now_noise t_now_step t_now_draws t_now_heat t_now_hour t_now_seenCount, qc E (r_t 3) 3 t_kept]) := by
  refine hm_ct_i R (fun u _ => [oc7 h0 r_t t_writtenCount t_faultPlace, oc2 (r_t 1) r_t_now d_t_now t_now_bits t_now_offset t_now_band t_now_rule t_now_noise t_now_step t_now_draws t_now_heat t_now_hour t_now_seenCount, qc E (r_t 3) 3 t_kept]) (by decide) (Nat.le_of_ble_eq_true rfl) (Or.inl rfl) ?_
  intro p e s m args below meth c A Q ls H locs hx hb hml hown X hA Y hex w hl hQ
  have hl : lv_has ls 10 [(0, .ref h0), (1, .int a1), (2, .int a2), (3, .int a3), (4, .int a4)] := hl
  unfold pf_X7_apart_x at hf
  refine lv_aload_n hx hb dX7_apart_0 rfl (lv_at hl 0 rfl) ?_
  refine hm_get cb_X7 hx hb hown X w 0 1 fl_X7_19 dX7_apart_1 rfl (by decide) rfl ?_
  refine hm_get cb_X2 hx hb hown X w 1 0 fl_X7_95 dX7_apart_4 rfl (by decide) rfl ?_
  refine lv_if_eq (tgt := 29) hx hb dX7_apart_7 (by decide) (fun c7 => ?_) (fun c7 => ?_)
  · have hf := pf_t c7 hf
    refine lv_ldc (v := (-1000000)) hx hb hown (X.use ck_X7_143 rfl) dX7_apart_29 ?_
    exact hQ _ _ _ _ _ () (fun _ => 0) hf rfl w dX7_apart_31
  · have hf := pf_e c7 hf
    refine lv_iload_n hx hb dX7_apart_10 rfl (lv_at hl 2 rfl) ?_
    refine lv_iload_n hx hb dX7_apart_11 rfl (lv_at hl 3 rfl) ?_
    refine lv_iconst (v := 1) hx hb dX7_apart_12 (by decide) ?_
    obtain ⟨r1, hc13, hf⟩ := pf_bi_0 hf
    refine hm_aft_i (ws' := fun _ => [oc7 h0 r_t t_writtenCount t_faultPlace, oc2 (r_t 1) r_t_now d_t_now t_now_bits t_now_offset t_now_band t_now_rule t_now_noise t_now_step t_now_draws t_now_heat t_now_hour t_now_seenCount, qc E (r_t 3) 3 t_kept]) (hm_runS (rest := []) hx hb hml hown X hA Y w mw_X7_isSpan ml_X7_291 dX7_apart_13 hm_ac0 [.int a2, .int a3, .int 1] rfl [] rfl rfl (ct_X7_isSpan l E H.size a2 a3 1 (r1, ()) hc13) rfl hl.1 ⟨⟨rfl, rfl⟩, ⟨Nat.le_of_ble_eq_true rfl, Nat.le_of_ble_eq_true rfl⟩, ⟨Nat.le_of_ble_eq_true rfl, Nat.le_of_ble_eq_true rfl⟩, Nat.le_of_ble_eq_true rfl⟩) hA w [] [0, 1, 2] [0, 1, 2] rfl rfl (by decide) (fun _ => rfl) (fun _ H locs w => ?_)
    refine lv_if_eq (tgt := 29) hx hb dX7_apart_16 (by decide) (fun c16 => ?_) (fun c16 => ?_)
    · have hf := pf_t c16 hf
      refine lv_ldc (v := (-1000000)) hx hb hown (X.use ck_X7_143 rfl) dX7_apart_29 ?_
      exact hQ _ _ _ _ _ () (fun _ => 0) hf rfl w dX7_apart_31
    · have hf := pf_e c16 hf
      refine lv_iload hx hb dX7_apart_19 (lv_at hl 4 rfl) ?_
      refine lv_iconst (v := 0) hx hb dX7_apart_21 (by decide) ?_
      refine lv_iconst (v := 2) hx hb dX7_apart_22 (by decide) ?_
      obtain ⟨r2, hc23, hf⟩ := pf_bi_0 hf
      refine hm_aft_i (ws' := fun _ => [oc7 h0 r_t t_writtenCount t_faultPlace, oc2 (r_t 1) r_t_now d_t_now t_now_bits t_now_offset t_now_band t_now_rule t_now_noise t_now_step t_now_draws t_now_heat t_now_hour t_now_seenCount, qc E (r_t 3) 3 t_kept]) (hm_runS (rest := []) hx hb hml hown X hA Y w mw_X7_within ml_X7_225 dX7_apart_23 hm_ac0 [.int a4, .int 0, .int 2] rfl [] rfl rfl (ct_X7_within l E H.size a4 0 2 (r2, ()) hc23) rfl hl.1 ⟨⟨rfl, rfl⟩, ⟨Nat.le_of_ble_eq_true rfl, Nat.le_of_ble_eq_true rfl⟩, ⟨Nat.le_of_ble_eq_true rfl, Nat.le_of_ble_eq_true rfl⟩, Nat.le_of_ble_eq_true rfl⟩) hA w [] [0, 1, 2] [0, 1, 2] rfl rfl (by decide) (fun _ => rfl) (fun _ H locs w => ?_)
      refine lv_if_ne (tgt := 32) hx hb dX7_apart_26 (by decide) (fun c26 => ?_) (fun c26 => ?_)
      · have hf := pf_e c26 hf
        refine lv_aload_n hx hb dX7_apart_32 rfl (lv_at hl 0 rfl) ?_
        refine lv_iload_n hx hb dX7_apart_33 rfl (lv_at hl 1 rfl) ?_
        obtain ⟨r3, hc34, hf⟩ := pf_bi_0 hf
        refine hm_aft_i (ws' := fun _ => [oc7 h0 r_t t_writtenCount t_faultPlace, oc2 (r_t 1) r_t_now d_t_now t_now_bits t_now_offset t_now_band t_now_rule t_now_noise t_now_step t_now_draws t_now_heat t_now_hour t_now_seenCount, qc E (r_t 3) 3 t_kept]) (hm_runV (rest := []) hx hb hml hown X hA Y w 0 (ci := 6) (T := TX7) (N := 11) rfl rfl mw_X7_isKept ml_X7_325 dX7_apart_34 hm_ac0 [.int a1] rfl [0, 2] rfl rfl (ct_X7_isKept l E H.size h0 r_t t_writtenCount t_faultPlace t_kept a1 (r3, ()) hc34) rfl hl.1 ⟨⟨rfl, rfl⟩, ⟨Nat.le_of_ble_eq_true rfl, Nat.le_of_ble_eq_true rfl⟩, ⟨Nat.le_of_ble_eq_true rfl, Nat.le_of_ble_eq_true rfl⟩, Nat.le_of_ble_eq_true rfl⟩) hA w [0, 2] [1] [1, 0, 2] rfl rfl (by decide) (fun _ => rfl) (fun _ H locs w => ?_)
        refine lv_if_eq (tgt := 52) hx hb dX7_apart_37 (by decide) (fun c37 => ?_) (fun c37 => ?_)
        · have hf := pf_t c37 hf
          refine lv_ldc (v := (-1000000)) hx hb hown (X.use ck_X7_143 rfl) dX7_apart_52 ?_
          exact hQ _ _ _ _ _ () (fun _ => 0) hf rfl w dX7_apart_54
        · have hf := pf_e c37 hf
          exact pf_no hf
      · have hf := pf_t c26 hf
        refine lv_ldc (v := (-1000000)) hx hb hown (X.use ck_X7_143 rfl) dX7_apart_29 ?_
        exact hQ _ _ _ _ _ () (fun _ => 0) hf rfl w dX7_apart_31
set_option maxHeartbeats 8000000 in
set_option maxRecDepth 100000 in
theorem ct_X7_apart_k (l : Launch) (E : hm_E) (sz : Nat) (h0 : Nat) (r_t : Nat → Nat) (r_t_now : Nat → Nat) (d_t_now : Nat) (kx : Nat) (r_t_kept_k : Nat → Nat) (d_t_kept_k : Nat) (t_writtenCount t_faultPlace t_now_bits t_now_offset t_now_band t_now_rule t_now_noise t_now_step t_now_draws t_now_heat t_now_hour t_now_seenCount t_kept_k_bits t_kept_k_offset t_kept_k_band t_kept_k_rule t_kept_k_noise t_kept_k_step t_kept_k_draws t_kept_k_heat t_kept_k_hour t_kept_k_seenCount : Int32) (t_kept : Nat → Option Nat) (t_kept_k_off : Nat → Int32) (t_kept_k_size : Nat → Int32) (t_kept_k_stuck : Nat → Int32) (t_kept_k_worth : Nat → Int32) (t_now_off : Nat → Int32) (t_now_size : Nat → Int32) (t_now_stuck : Nat → Int32) (t_now_worth : Nat → Int32) (a1 : Int32) (a2 : Int32) (a3 : Int32) (a4 : Int32) (hk : t_kept a1.toNatClampNeg = some kx) (R : Int32 × Unit) (hf : pf_X7_apart_k a1 a2 a3 a4 t_kept t_kept_k_bits t_kept_k_size t_kept_k_off t_kept_k_worth t_kept_k_stuck t_kept_k_offset t_kept_k_step t_now_bits t_now_size t_now_off t_now_worth t_now_stuck t_now_offset t_now_step = some R) : hm_Mi l E yX7_apart cX7_apart 10 .int [] (hm_rr 3 68 0 0) [.ref h0, .int a1, .int a2, .int a3, .int a4] sz [oc7 h0 r_t t_writtenCount t_faultPlace, oc2 (r_t 1) r_t_now d_t_now t_now_bits t_now_offset t_now_band t_now_rule t_now_noise t_now_step t_now_draws t_now_heat t_now_hour t_now_seenCount, oc2 kx r_t_kept_k d_t_kept_k t_kept_k_bits t_kept_k_offset t_kept_k_band t_kept_k_rule t_kept_k_noise t_kept_k_step t_kept_k_draws t_kept_k_heat t_kept_k_hour t_kept_k_seenCount, qc E (r_t 3) 3 t_kept, ic E (r_t_kept_k 2) 12 t_kept_k_off, ic E (r_t_kept_k 1) 12 t_kept_k_size, ic E (r_t_kept_k 4) 12 t_kept_k_stuck, ic E (r_t_kept_k 3) 12 t_kept_k_worth, ic E (r_t_now 2) 12 t_now_off, ic E (r_t_now 1) 12 t_now_size, ic E (r_t_now 4) 12 t_now_stuck, ic E (r_t_now 3) 12 t_now_worth] R.1 (fun _ => [oc7 h0 r_t t_writtenCount t_faultPlace, oc2 (r_t 1) r_t_now d_t_now t_now_bits t_now_offset t_now_band t_now_rule t_now_noise t_now_step t_now_draws t_now_heat t_now_hour t_now_seenCount, oc2 kx r_t_kept_k d_t_kept_k t_kept_k_bits t_kept_k_offset t_kept_k_band t_kept_k_rule t_kept_k_noise t_kept_k_step t_kept_k_draws t_kept_k_heat t_kept_k_hour t_kept_k_seenCount, qc E (r_t 3) 3 t_kept, ic E (r_t_kept_k 2) 12 t_kept_k_off, ic E (r_t_kept_k 1) 12 t_kept_k_size, ic E (r_t_kept_k 4) 12 t_kept_k_stuck, ic E (r_t_kept_k 3) 12 t_kept_k_worth, ic E (r_t_now 2) 12 t_now_off, ic E (r_t_now 1) 12 t_now_size, ic E (r_t_now 4) 12 t_now_stuck, ic E (r_t_now 3) 12 t_now_worth]) := by
  refine hm_ct_i R (fun u _ => [oc7 h0 r_t t_writtenCount t_faultPlace, oc2 (r_t 1) r_t_now d_t_now t_now_bits t_now_offset t_now_band t_now_rule t_now_noise t_now_step t_now_draws t_now_heat t_now_hour t_now_seenCount, oc2 kx r_t_kept_k d_t_kept_k t_kept_k_bits t_kept_k_offset t_kept_k_band t_kept_k_rule t_kept_k_noise t_kept_k_step t_kept_k_draws t_kept_k_heat t_kept_k_hour t_kept_k_seenCount, qc E (r_t 3) 3 t_kept, ic E (r_t_kept_k 2) 12 t_kept_k_off, ic E (r_t_kept_k 1) 12 t_kept_k_size, ic E (r_t_kept_k 4) 12 t_kept_k_stuck, ic E (r_t_kept_k 3) 12 t_kept_k_worth, ic E (r_t_now 2) 12 t_now_off, ic E (r_t_now 1) 12 t_now_size, ic E (r_t_now 4) 12 t_now_stuck, ic E (r_t_now 3) 12 t_now_worth]) (by decide) (Nat.le_of_ble_eq_true rfl) (Or.inl rfl) ?_
  intro p e s m args below meth c A Q ls H locs hx hb hml hown X hA Y hex w hl hQ
  have hl : lv_has ls 10 [(0, .ref h0), (1, .int a1), (2, .int a2), (3, .int a3), (4, .int a4)] := hl
  unfold pf_X7_apart_k at hf
  refine lv_aload_n hx hb dX7_apart_0 rfl (lv_at hl 0 rfl) ?_
  refine hm_get cb_X7 hx hb hown X w 0 1 fl_X7_19 dX7_apart_1 rfl (by decide) rfl ?_
  refine hm_get cb_X2 hx hb hown X w 1 0 fl_X7_95 dX7_apart_4 rfl (by decide) rfl ?_
  refine lv_if_eq (tgt := 29) hx hb dX7_apart_7 (by decide) (fun c7 => ?_) (fun c7 => ?_)
  · have hf := pf_t c7 hf
    refine lv_ldc (v := (-1000000)) hx hb hown (X.use ck_X7_143 rfl) dX7_apart_29 ?_
    exact hQ _ _ _ _ _ () (fun _ => 0) hf rfl w dX7_apart_31
  · have hf := pf_e c7 hf
    refine lv_iload_n hx hb dX7_apart_10 rfl (lv_at hl 2 rfl) ?_
    refine lv_iload_n hx hb dX7_apart_11 rfl (lv_at hl 3 rfl) ?_
    refine lv_iconst (v := 1) hx hb dX7_apart_12 (by decide) ?_
    obtain ⟨r1, hc13, hf⟩ := pf_bi_0 hf
    refine hm_aft_i (ws' := fun _ => [oc7 h0 r_t t_writtenCount t_faultPlace, oc2 (r_t 1) r_t_now d_t_now t_now_bits t_now_offset t_now_band t_now_rule t_now_noise t_now_step t_now_draws t_now_heat t_now_hour t_now_seenCount, oc2 kx r_t_kept_k d_t_kept_k t_kept_k_bits t_kept_k_offset t_kept_k_band t_kept_k_rule t_kept_k_noise t_kept_k_step t_kept_k_draws t_kept_k_heat t_kept_k_hour t_kept_k_seenCount, qc E (r_t 3) 3 t_kept, ic E (r_t_kept_k 2) 12 t_kept_k_off, ic E (r_t_kept_k 1) 12 t_kept_k_size, ic E (r_t_kept_k 4) 12 t_kept_k_stuck, ic E (r_t_kept_k 3) 12 t_kept_k_worth, ic E (r_t_now 2) 12 t_now_off, ic E (r_t_now 1) 12 t_now_size, ic E (r_t_now 4) 12 t_now_stuck, ic E (r_t_now 3) 12 t_now_worth]) (hm_runS (rest := []) hx hb hml hown X hA Y w mw_X7_isSpan ml_X7_291 dX7_apart_13 hm_ac0 [.int a2, .int a3, .int 1] rfl [] rfl rfl (ct_X7_isSpan l E H.size a2 a3 1 (r1, ()) hc13) rfl hl.1 ⟨⟨rfl, rfl⟩, ⟨Nat.le_of_ble_eq_true rfl, Nat.le_of_ble_eq_true rfl⟩, ⟨Nat.le_of_ble_eq_true rfl, Nat.le_of_ble_eq_true rfl⟩, Nat.le_of_ble_eq_true rfl⟩) hA w [] [0, 1, 2, 3, 4, 5, 6, 7, 8, 9, 10, 11] [0, 1, 2, 3, 4, 5, 6, 7, 8, 9, 10, 11] rfl rfl (by decide) (fun _ => rfl) (fun _ H locs w => ?_)
    refine lv_if_eq (tgt := 29) hx hb dX7_apart_16 (by decide) (fun c16 => ?_) (fun c16 => ?_)
    · have hf := pf_t c16 hf
      refine lv_ldc (v := (-1000000)) hx hb hown (X.use ck_X7_143 rfl) dX7_apart_29 ?_
      exact hQ _ _ _ _ _ () (fun _ => 0) hf rfl w dX7_apart_31
    · have hf := pf_e c16 hf
      refine lv_iload hx hb dX7_apart_19 (lv_at hl 4 rfl) ?_
      refine lv_iconst (v := 0) hx hb dX7_apart_21 (by decide) ?_
      refine lv_iconst (v := 2) hx hb dX7_apart_22 (by decide) ?_
      obtain ⟨r2, hc23, hf⟩ := pf_bi_0 hf
      refine hm_aft_i (ws' := fun _ => [oc7 h0 r_t t_writtenCount t_faultPlace, oc2 (r_t 1) r_t_now d_t_now t_now_bits t_now_offset t_now_band t_now_rule t_now_noise t_now_step t_now_draws t_now_heat t_now_hour t_now_seenCount, oc2 kx r_t_kept_k d_t_kept_k t_kept_k_bits t_kept_k_offset t_kept_k_band t_kept_k_rule t_kept_k_noise t_kept_k_step t_kept_k_draws t_kept_k_heat t_kept_k_hour t_kept_k_seenCount, qc E (r_t 3) 3 t_kept, ic E (r_t_kept_k 2) 12 t_kept_k_off, ic E (r_t_kept_k 1) 12 t_kept_k_size, ic E (r_t_kept_k 4) 12 t_kept_k_stuck, ic E (r_t_kept_k 3) 12 t_kept_k_worth, ic E (r_t_now 2) 12 t_now_off, ic E (r_t_now 1) 12 t_now_size, ic E (r_t_now 4) 12 t_now_stuck, ic E (r_t_now 3) 12 t_now_worth]) (hm_runS (rest := []) hx hb hml hown X hA Y w mw_X7_within ml_X7_225 dX7_apart_23 hm_ac0 [.int a4, .int 0, .int 2] rfl [] rfl rfl (ct_X7_within l E H.size a4 0 2 (r2, ()) hc23) rfl hl.1 ⟨⟨rfl, rfl⟩, ⟨Nat.le_of_ble_eq_true rfl, Nat.le_of_ble_eq_true rfl⟩, ⟨Nat.le_of_ble_eq_true rfl, Nat.le_of_ble_eq_true rfl⟩, Nat.le_of_ble_eq_true rfl⟩) hA w [] [0, 1, 2, 3, 4, 5, 6, 7, 8, 9, 10, 11] [0, 1, 2, 3, 4, 5, 6, 7, 8, 9, 10, 11] rfl rfl (by decide) (fun _ => rfl) (fun _ H locs w => ?_)
      refine lv_if_ne (tgt := 32) hx hb dX7_apart_26 (by decide) (fun c26 => ?_) (fun c26 => ?_)
      · have hf := pf_e c26 hf
        refine lv_aload_n hx hb dX7_apart_32 rfl (lv_at hl 0 rfl) ?_
        refine lv_iload_n hx hb dX7_apart_33 rfl (lv_at hl 1 rfl) ?_
        obtain ⟨r3, hc34, hf⟩ := pf_bi_0 hf
        refine hm_aft_i (ws' := fun _ => [oc7 h0 r_t t_writtenCount t_faultPlace, oc2 (r_t 1) r_t_now d_t_now t_now_bits t_now_offset t_now_band t_now_rule t_now_noise t_now_step t_now_draws t_now_heat t_now_hour t_now_seenCount, oc2 kx r_t_kept_k d_t_kept_k t_kept_k_bits t_kept_k_offset t_kept_k_band t_kept_k_rule t_kept_k_noise t_kept_k_step t_kept_k_draws t_kept_k_heat t_kept_k_hour t_kept_k_seenCount, qc E (r_t 3) 3 t_kept, ic E (r_t_kept_k 2) 12 t_kept_k_off, ic E (r_t_kept_k 1) 12 t_kept_k_size, ic E (r_t_kept_k 4) 12 t_kept_k_stuck, ic E (r_t_kept_k 3) 12 t_kept_k_worth, ic E (r_t_now 2) 12 t_now_off, ic E (r_t_now 1) 12 t_now_size, ic E (r_t_now 4) 12 t_now_stuck, ic E (r_t_now 3) 12 t_now_worth]) (hm_runV (rest := []) hx hb hml hown X hA Y w 0 (ci := 6) (T := TX7) (N := 11) rfl rfl mw_X7_isKept ml_X7_325 dX7_apart_34 hm_ac0 [.int a1] rfl [0, 3] rfl rfl (ct_X7_isKept l E H.size h0 r_t t_writtenCount t_faultPlace t_kept a1 (r3, ()) hc34) rfl hl.1 ⟨⟨rfl, rfl⟩, ⟨Nat.le_of_ble_eq_true rfl, Nat.le_of_ble_eq_true rfl⟩, ⟨Nat.le_of_ble_eq_true rfl, Nat.le_of_ble_eq_true rfl⟩, Nat.le_of_ble_eq_true rfl⟩) hA w [0, 3] [1, 2, 4, 5, 6, 7, 8, 9, 10, 11] [10, 0, 1, 11, 2, 3, 4, 5, 6, 7, 8, 9] rfl rfl (by decide) (fun _ => rfl) (fun _ H locs w => ?_)
        refine lv_if_eq (tgt := 52) hx hb dX7_apart_37 (by decide) (fun c37 => ?_) (fun c37 => ?_)
        · have hf := pf_t c37 hf
          refine lv_ldc (v := (-1000000)) hx hb hown (X.use ck_X7_143 rfl) dX7_apart_52 ?_
          exact hQ _ _ _ _ _ () (fun _ => 0) hf rfl w dX7_apart_54
        · have hf := pf_e c37 hf
          refine lv_aload_n hx hb dX7_apart_40 rfl (lv_at hl 0 rfl) ?_
          refine hm_get cb_X7 hx hb hown X w 0 3 fl_X7_26 dX7_apart_41 rfl (by decide) rfl ?_
          refine lv_iload_n hx hb dX7_apart_44 rfl (lv_at hl 1 rfl) ?_
          obtain ⟨g45, hf⟩ := pf_ckI hf
          refine hm_qald hx hb X w 3 dX7_apart_45 rfl g45 ?_
          rw [hk]
          refine hm_get cb_X2 hx hb hown X w 2 0 fl_X7_95 dX7_apart_46 rfl (by decide) rfl ?_
          refine lv_if_ne (tgt := 55) hx hb dX7_apart_49 (by decide) (fun c49 => ?_) (fun c49 => ?_)
          · have hf := pf_e c49 hf
            refine lv_iconst (v := 0) hx hb dX7_apart_55 (by decide) ?_
            refine lv_istore (lv' := [(5, .int 0), (0, .ref h0), (1, .int a1), (2, .int a2), (3, .int a3), (4, .int a4)]) hx hb dX7_apart_56 hl (by decide) rfl (fun ls hl => ?_)
            refine lv_ldc (v := (-1000000)) hx hb hown (X.use ck_X7_143 rfl) dX7_apart_58 ?_
            refine lv_istore (lv' := [(6, .int (-1000000)), (5, .int 0), (0, .ref h0), (1, .int a1), (2, .int a2), (3, .int a3), (4, .int a4)]) hx hb dX7_apart_60 hl (by decide) rfl (fun ls hl => ?_)
            refine lv_iconst (v := 0) hx hb dX7_apart_62 (by decide) ?_
            refine lv_istore (lv' := [(7, .int 0), (6, .int (-1000000)), (5, .int 0), (0, .ref h0), (1, .int a1), (2, .int a2), (3, .int a3), (4, .int a4)]) hx hb dX7_apart_63 hl (by decide) rfl (fun ls hl => ?_)
            refine lv_iload_n hx hb dX7_apart_65 rfl (lv_at hl 5 rfl) ?_
            refine lv_istore (lv' := [(8, .int a2), (7, .int 0), (6, .int (-1000000)), (5, .int 0), (0, .ref h0), (1, .int a1), (2, .int a2), (3, .int a3), (4, .int a4)]) hx hb dX7_apart_66 hl (by decide) rfl (fun ls hl => ?_)
            obtain ⟨J137, hJ137, hf⟩ := pf_jn hf
            have kJ137 : ∀ (x4 : Int32) (x5 : Int32) (x6 : Int32) (H : Heap) (locs : List Loc) (ls : Array Slot), J137 x4 x5 x6 = some R → hm_W E A s.heap [oc7 h0 r_t t_writtenCount t_faultPlace, oc2 (r_t 1) r_t_now d_t_now t_now_bits t_now_offset t_now_band t_now_rule t_now_noise t_now_step t_now_draws t_now_heat t_now_hour t_now_seenCount, oc2 kx r_t_kept_k d_t_kept_k t_kept_k_bits t_kept_k_offset t_kept_k_band t_kept_k_rule t_kept_k_noise t_kept_k_step t_kept_k_draws t_kept_k_heat t_kept_k_hour t_kept_k_seenCount, qc E (r_t 3) 3 t_kept, ic E (r_t_kept_k 2) 12 t_kept_k_off, ic E (r_t_kept_k 1) 12 t_kept_k_size, ic E (r_t_kept_k 4) 12 t_kept_k_stuck, ic E (r_t_kept_k 3) 12 t_kept_k_worth, ic E (r_t_now 2) 12 t_now_off, ic E (r_t_now 1) 12 t_now_size, ic E (r_t_now 4) 12 t_now_stuck, ic E (r_t_now 3) 12 t_now_worth] H locs → lv_has ls 10 [(4, .int a4), (5, .int x4), (6, .int x5), (7, .int x6)] → W p l e (hm_rr 3 68 0 0) s m args below meth c H locs 0 0 Q (F0 m 137 ls []) := by
              intro x4 x5 x6 H locs ls hf w hl
              have hf := pf_j3 hJ137 hf
              refine lv_iload hx hb dX7_apart_137 (lv_at hl 0 rfl) ?_
              refine lv_if_ne (tgt := 147) hx hb dX7_apart_139 (by decide) (fun c139 => ?_) (fun c139 => ?_)
              · have hf := pf_e c139 hf
                refine lv_iload hx hb dX7_apart_147 (lv_at hl 0 rfl) ?_
                refine lv_iconst (v := 1) hx hb dX7_apart_149 (by decide) ?_
                refine lv_icmp_ne (tgt := 158) hx hb dX7_apart_150 (by decide) (fun c150 => ?_) (fun c150 => ?_)
                · have hf := pf_e c150 hf
                  refine lv_iload hx hb dX7_apart_158 (lv_at hl 3 rfl) ?_
                  exact hQ _ _ _ _ _ () (fun _ => 0) hf rfl w dX7_apart_160
                · have hf := pf_t c150 hf
                  refine lv_iload hx hb dX7_apart_153 (lv_at hl 2 rfl) ?_
                  refine lv_goto (tgt := 160) hx hb dX7_apart_155 (by decide) ?_
                  exact hQ _ _ _ _ _ () (fun _ => 0) hf rfl w dX7_apart_160
              · have hf := pf_t c139 hf
                refine lv_iload hx hb dX7_apart_142 (lv_at hl 1 rfl) ?_
                refine lv_goto (tgt := 160) hx hb dX7_apart_144 (by decide) ?_
                exact hQ _ _ _ _ _ () (fun _ => 0) hf rfl w dX7_apart_160
            have klp_X7_apart_k_68 : ∀ (n : Nat) (x7 : Int32) (x8 : Int32) (x9 : Int32) (x10 : Int32) (H : Heap) (locs : List Loc) (ls : Array Slot), lp_X7_apart_k_68 a1 a3 t_now_bits t_now_offset t_now_step t_kept_k_bits t_kept_k_offset t_kept_k_step t_kept_k_off t_kept_k_size t_kept_k_stuck t_kept_k_worth t_now_off t_now_size t_now_stuck t_now_worth J137 n x7 x8 x9 x10 = some R → hm_W E A s.heap [oc7 h0 r_t t_writtenCount t_faultPlace, oc2 (r_t 1) r_t_now d_t_now t_now_bits t_now_offset t_now_band t_now_rule t_now_noise t_now_step t_now_draws t_now_heat t_now_hour t_now_seenCount, oc2 kx r_t_kept_k d_t_kept_k t_kept_k_bits t_kept_k_offset t_kept_k_band t_kept_k_rule t_kept_k_noise t_kept_k_step t_kept_k_draws t_kept_k_heat t_kept_k_hour t_kept_k_seenCount, qc E (r_t 3) 3 t_kept, ic E (r_t_kept_k 2) 12 t_kept_k_off, ic E (r_t_kept_k 1) 12 t_kept_k_size, ic E (r_t_kept_k 4) 12 t_kept_k_stuck, ic E (r_t_kept_k 3) 12 t_kept_k_worth, ic E (r_t_now 2) 12 t_now_off, ic E (r_t_now 1) 12 t_now_size, ic E (r_t_now 4) 12 t_now_stuck, ic E (r_t_now 3) 12 t_now_worth] H locs → lv_has ls 10 [(0, .ref h0), (1, .int a1), (3, .int a3), (4, .int a4), (5, .int x7), (6, .int x8), (7, .int x9), (8, .int x10)] → W p l e (hm_rr 3 68 0 0) s m args below meth c H locs 0 0 Q (F0 m 68 ls []) := by
              intro n
              induction n with
              | zero =>
                intro x7 x8 x9 x10 H locs ls hf w hl
                exact pf_no hf
              | succ n ih68 =>
                intro x7 x8 x9 x10 H locs ls hf w hl
                rw [lp_X7_apart_k_68] at hf
                refine lv_iload hx hb dX7_apart_68 (lv_at hl 7 rfl) ?_
                refine lv_iload_n hx hb dX7_apart_70 rfl (lv_at hl 2 rfl) ?_
                refine lv_icmp_gt (tgt := 137) hx hb dX7_apart_71 (by decide) (fun c71 => ?_) (fun c71 => ?_)
                · have hf := pf_t c71 hf
                  exact kJ137 _ _ _ _ _ _ hf w (lv_sub hl [3, 4, 5, 6] rfl)
                · have hf := pf_e c71 hf
                  refine lv_aload_n hx hb dX7_apart_74 rfl (lv_at hl 0 rfl) ?_
                  refine hm_get cb_X7 hx hb hown X w 0 1 fl_X7_19 dX7_apart_75 rfl (by decide) rfl ?_
                  refine lv_iload hx hb dX7_apart_78 (lv_at hl 7 rfl) ?_
                  obtain ⟨r11, hc80, hf⟩ := pf_bi_0 hf
                  refine hm_aft_i (ws' := fun _ => [oc7 h0 r_t t_writtenCount t_faultPlace, oc2 (r_t 1) r_t_now d_t_now t_now_bits t_now_offset t_now_band t_now_rule t_now_noise t_now_step t_now_draws t_now_heat t_now_hour t_now_seenCount, oc2 kx r_t_kept_k d_t_kept_k t_kept_k_bits t_kept_k_offset t_kept_k_band t_kept_k_rule t_kept_k_noise t_kept_k_step t_kept_k_draws t_kept_k_heat t_kept_k_hour t_kept_k_seenCount, qc E (r_t 3) 3 t_kept, ic E (r_t_kept_k 2) 12 t_kept_k_off, ic E (r_t_kept_k 1) 12 t_kept_k_size, ic E (r_t_kept_k 4) 12 t_kept_k_stuck, ic E (r_t_kept_k 3) 12 t_kept_k_worth, ic E (r_t_now 2) 12 t_now_off, ic E (r_t_now 1) 12 t_now_size, ic E (r_t_now 4) 12 t_now_stuck, ic E (r_t_now 3) 12 t_now_worth]) (hm_runV (rest := []) hx hb hml hown X hA Y w 1 (ci := 2) (T := TX2) (N := 17) rfl rfl mw_X2_paperCode ml_X7_282 dX7_apart_80 hm_ac0 [.int x10] rfl [1, 8, 9, 10, 11] rfl rfl (ct_X2_paperCode l E H.size (r_t 1) r_t_now d_t_now t_now_bits t_now_offset t_now_band t_now_rule t_now_noise t_now_step t_now_draws t_now_heat t_now_hour t_now_seenCount t_now_off t_now_size t_now_stuck t_now_worth x10 (r11, ()) hc80) rfl hl.1 ⟨⟨rfl, rfl⟩, ⟨Nat.le_of_ble_eq_true rfl, Nat.le_of_ble_eq_true rfl⟩, ⟨Nat.le_of_ble_eq_true rfl, Nat.le_of_ble_eq_true rfl⟩, Nat.le_of_ble_eq_true rfl⟩) hA w [1, 8, 9, 10, 11] [0, 2, 3, 4, 5, 6, 7] [0, 7, 1, 2, 3, 4, 5, 6, 8, 9, 10, 11] rfl rfl (by decide) (fun _ => rfl) (fun _ H locs w => ?_)
                  refine lv_aload_n hx hb dX7_apart_83 rfl (lv_at hl 0 rfl) ?_
                  refine hm_get cb_X7 hx hb hown X w 0 3 fl_X7_26 dX7_apart_84 rfl (by decide) rfl ?_
                  refine lv_iload_n hx hb dX7_apart_87 rfl (lv_at hl 1 rfl) ?_
                  obtain ⟨g88, hf⟩ := pf_ckI hf
                  refine hm_qald hx hb X w 3 dX7_apart_88 rfl g88 ?_
                  rw [hk]
                  refine lv_iload hx hb dX7_apart_89 (lv_at hl 7 rfl) ?_
                  obtain ⟨r12, hc91, hf⟩ := pf_bi_0 hf
                  refine hm_aft_i (ws' := fun _ => [oc7 h0 r_t t_writtenCount t_faultPlace, oc2 (r_t 1) r_t_now d_t_now t_now_bits t_now_offset t_now_band t_now_rule t_now_noise t_now_step t_now_draws t_now_heat t_now_hour t_now_seenCount, oc2 kx r_t_kept_k d_t_kept_k t_kept_k_bits t_kept_k_offset t_kept_k_band t_kept_k_rule t_kept_k_noise t_kept_k_step t_kept_k_draws t_kept_k_heat t_kept_k_hour t_kept_k_seenCount, qc E (r_t 3) 3 t_kept, ic E (r_t_kept_k 2) 12 t_kept_k_off, ic E (r_t_kept_k 1) 12 t_kept_k_size, ic E (r_t_kept_k 4) 12 t_kept_k_stuck, ic E (r_t_kept_k 3) 12 t_kept_k_worth, ic E (r_t_now 2) 12 t_now_off, ic E (r_t_now 1) 12 t_now_size, ic E (r_t_now 4) 12 t_now_stuck, ic E (r_t_now 3) 12 t_now_worth]) (hm_runV (rest := [.int r11]) hx hb hml hown X hA Y w 2 (ci := 2) (T := TX2) (N := 17) rfl rfl mw_X2_paperCode ml_X7_282 dX7_apart_91 hm_ac0 [.int x10] rfl [2, 4, 5, 6, 7] rfl rfl (ct_X2_paperCode l E H.size kx r_t_kept_k d_t_kept_k t_kept_k_bits t_kept_k_offset t_kept_k_band t_kept_k_rule t_kept_k_noise t_kept_k_step t_kept_k_draws t_kept_k_heat t_kept_k_hour t_kept_k_seenCount t_kept_k_off t_kept_k_size t_kept_k_stuck t_kept_k_worth x10 (r12, ()) hc91) rfl hl.1 ⟨⟨rfl, rfl⟩, ⟨Nat.le_of_ble_eq_true rfl, Nat.le_of_ble_eq_true rfl⟩, ⟨Nat.le_of_ble_eq_true rfl, Nat.le_of_ble_eq_true rfl⟩, Nat.le_of_ble_eq_true rfl⟩) hA w [2, 4, 5, 6, 7] [0, 1, 3, 8, 9, 10, 11] [0, 1, 7, 2, 8, 9, 10, 11, 3, 4, 5, 6] rfl rfl (by decide) (fun _ => rfl) (fun _ H locs w => ?_)
                  refine lv_isub hx hb dX7_apart_94 ?_
                  refine va_mabs hx hb (hml.trans hl.1.symm) hown (X.use ml_X7_328 rfl) (X.use mt_abs_s rfl) (X.use mt_i rfl) (X.use mt_abs_c rfl) (Nat.le_of_ble_eq_true rfl) (Nat.le_of_ble_eq_true rfl) (Nat.le_of_ble_eq_true rfl) (Nat.le_of_ble_eq_true rfl) dX7_apart_95 ?_
                  refine lv_topi (fun x13 ex13 => ?_)
                  have hf := pf_nm ex13 hf
                  refine lv_istore (lv' := [(9, .int x13), (0, .ref h0), (1, .int a1), (3, .int a3), (4, .int a4), (5, .int x7), (6, .int x8), (7, .int x9), (8, .int x10)]) hx hb dX7_apart_98 hl (by decide) rfl (fun ls hl => ?_)
                  refine lv_iload hx hb dX7_apart_100 (lv_at hl 0 rfl) ?_
                  obtain ⟨J114, hJ114, hf⟩ := pf_jn hf
                  have kJ114 : ∀ (x14 : Int32) (H : Heap) (locs : List Loc) (ls : Array Slot), J114 x14 = some R → hm_W E A s.heap [oc7 h0 r_t t_writtenCount t_faultPlace, oc2 (r_t 1) r_t_now d_t_now t_now_bits t_now_offset t_now_band t_now_rule t_now_noise t_now_step t_now_draws t_now_heat t_now_hour t_now_seenCount, oc2 kx r_t_kept_k d_t_kept_k t_kept_k_bits t_kept_k_offset t_kept_k_band t_kept_k_rule t_kept_k_noise t_kept_k_step t_kept_k_draws t_kept_k_heat t_kept_k_hour t_kept_k_seenCount, qc E (r_t 3) 3 t_kept, ic E (r_t_kept_k 2) 12 t_kept_k_off, ic E (r_t_kept_k 1) 12 t_kept_k_size, ic E (r_t_kept_k 4) 12 t_kept_k_stuck, ic E (r_t_kept_k 3) 12 t_kept_k_worth, ic E (r_t_now 2) 12 t_now_off, ic E (r_t_now 1) 12 t_now_size, ic E (r_t_now 4) 12 t_now_stuck, ic E (r_t_now 3) 12 t_now_worth] H locs → lv_has ls 10 [(0, .ref h0), (1, .int a1), (3, .int a3), (4, .int a4), (5, .int x7), (6, .int x14), (7, .int x9), (8, .int x10), (9, .int x13)] → W p l e (hm_rr 3 68 0 0) s m args below meth c H locs 0 0 Q (F0 m 114 ls []) := by
                    intro x14 H locs ls hf w hl
                    have hf := pf_j1 hJ114 hf
                    refine lv_iload hx hb dX7_apart_114 (lv_at hl 8 rfl) ?_
                    obtain ⟨J122, hJ122, hf⟩ := pf_jn hf
                    have kJ122 : ∀ (x15 : Int32) (H : Heap) (locs : List Loc) (ls : Array Slot), J122 x15 = some R → hm_W E A s.heap [oc7 h0 r_t t_writtenCount t_faultPlace, oc2 (r_t 1) r_t_now d_t_now t_now_bits t_now_offset t_now_band t_now_rule t_now_noise t_now_step t_now_draws t_now_heat t_now_hour t_now_seenCount, oc2 kx r_t_kept_k d_t_kept_k t_kept_k_bits t_kept_k_offset t_kept_k_band t_kept_k_rule t_kept_k_noise t_kept_k_step t_kept_k_draws t_kept_k_heat t_kept_k_hour t_kept_k_seenCount, qc E (r_t 3) 3 t_kept, ic E (r_t_kept_k 2) 12 t_kept_k_off, ic E (r_t_kept_k 1) 12 t_kept_k_size, ic E (r_t_kept_k 4) 12 t_kept_k_stuck, ic E (r_t_kept_k 3) 12 t_kept_k_worth, ic E (r_t_now 2) 12 t_now_off, ic E (r_t_now 1) 12 t_now_size, ic E (r_t_now 4) 12 t_now_stuck, ic E (r_t_now 3) 12 t_now_worth] H locs → lv_has ls 10 [(8, .int x17), (7, .int x16), (0, .ref h0), (1, .int a1), (3, .int a3), (4, .int a4), (5, .int x15), (6, .int x14), (9, .int x13)] → W p l e (hm_rr 3 68 0 0) s m args below meth c H locs 0 0 Q (F0 m 122 ls []) := by
                      intro x15 H locs ls hf w hl
                      have hf := pf_j1 hJ122 hf
                      refine lv_iload hx hb dX7_apart_122 (lv_at hl 6 rfl) ?_
                      refine lv_iload hx hb dX7_apart_124 (lv_at hl 8 rfl) ?_
                      refine va_mmax hx hb (hml.trans hl.1.symm) hown (X.use ml_X7_333 rfl) (X.use mt_max_s rfl) (X.use mt_i rfl) (X.use mt_max_c rfl) (Nat.le_of_ble_eq_true rfl) (Nat.le_of_ble_eq_true rfl) (Nat.le_of_ble_eq_true rfl) (Nat.le_of_ble_eq_true rfl) dX7_apart_126 ?_
                      refine lv_topi (fun x16 ex16 => ?_)
                      have hf := pf_nm ex16 hf
                      refine lv_istore (lv' := [(7, .int x16), (0, .ref h0), (1, .int a1), (3, .int a3), (4, .int a4), (5, .int x15), (6, .int x14), (8, .int x10), (9, .int x13)]) hx hb dX7_apart_129 hl (by decide) rfl (fun ls hl => ?_)
                      obtain ⟨x17, ex17⟩ : ∃ y : Int32, y = (x10 + 1) := ⟨_, rfl⟩
                      have hf := pf_nm ex17 hf
                      refine lv_iinc (v := x17) (lv' := [(8, .int x17), (7, .int x16), (0, .ref h0), (1, .int a1), (3, .int a3), (4, .int a4), (5, .int x15), (6, .int x14), (9, .int x13)]) hx hb dX7_apart_131 hl (k := 7) rfl (by rw [ex17]; rfl) (by decide) rfl (fun ls hl => ?_)
                      refine lv_goto (tgt := 68) hx hb dX7_apart_134 (by decide) ?_
                      exact ih68 _ _ _ _ _ _ _ hf w (lv_sub hl [2, 3, 4, 5, 6, 7, 1, 0] rfl)
                    refine lv_if_eq (tgt := 122) hx hb dX7_apart_116 (by decide) (fun c116 => ?_) (fun c116 => ?_)
                    · have hf := pf_t c116 hf
                      exact kJ122 _ _ _ _ hf w (lv_sub hl [0, 1, 2, 3, 4, 5, 6, 7, 8] rfl)
                    · have hf := pf_e c116 hf
                      obtain ⟨x18, ex18⟩ : ∃ y : Int32, y = (x7 + 1) := ⟨_, rfl⟩
                      have hf := pf_nm ex18 hf
                      refine lv_iinc (v := x18) (lv' := [(5, .int x18), (0, .ref h0), (1, .int a1), (3, .int a3), (4, .int a4), (6, .int x14), (7, .int x9), (8, .int x10), (9, .int x13)]) hx hb dX7_apart_119 hl (k := 4) rfl (by rw [ex18]; rfl) (by decide) rfl (fun ls hl => ?_)
                      exact kJ122 _ _ _ _ hf w (lv_sub hl [1, 2, 3, 4, 0, 5, 6, 7, 8] rfl)
                  refine lv_if_eq (tgt := 114) hx hb dX7_apart_102 (by decide) (fun c102 => ?_) (fun c102 => ?_)
                  · have hf := pf_t c102 hf
                    exact kJ114 _ _ _ _ hf w (lv_sub hl [1, 2, 3, 4, 5, 6, 7, 8, 0] rfl)
                  · have hf := pf_e c102 hf
                    refine lv_iload hx hb dX7_apart_105 (lv_at hl 5 rfl) ?_
                    refine lv_if_ne (tgt := 114) hx hb dX7_apart_107 (by decide) (fun c107 => ?_) (fun c107 => ?_)
                    · have hf := pf_e c107 hf
                      exact kJ114 _ _ _ _ hf w (lv_sub hl [1, 2, 3, 4, 5, 6, 7, 8, 0] rfl)
                    · have hf := pf_t c107 hf
                      refine lv_iload hx hb dX7_apart_110 (lv_at hl 8 rfl) ?_
                      refine lv_istore (lv' := [(6, .int x10), (9, .int x13), (0, .ref h0), (1, .int a1), (3, .int a3), (4, .int a4), (5, .int x7), (7, .int x9), (8, .int x10)]) hx hb dX7_apart_112 hl (by decide) rfl (fun ls hl => ?_)
                      exact kJ114 _ _ _ _ hf w (lv_sub hl [2, 3, 4, 5, 6, 0, 7, 8, 1] rfl)
            exact klp_X7_apart_k_68 FU _ _ _ _ _ _ _ hf w (lv_sub hl [4, 5, 7, 8, 3, 2, 1, 0] rfl)
          · have hf := pf_t c49 hf
            refine lv_ldc (v := (-1000000)) hx hb hown (X.use ck_X7_143 rfl) dX7_apart_52 ?_
            exact hQ _ _ _ _ _ () (fun _ => 0) hf rfl w dX7_apart_54
      · have hf := pf_t c26 hf
        refine lv_ldc (v := (-1000000)) hx hb hown (X.use ck_X7_143 rfl) dX7_apart_29 ?_
        exact hQ _ _ _ _ _ () (fun _ => 0) hf rfl w dX7_apart_31
set_option maxHeartbeats 8000000 in
set_option maxRecDepth 100000 in
theorem ct_X7_keep_x (l : Launch) (E : hm_E) (sz : Nat) (h0 : Nat) (r_t : Nat → Nat) (t_writtenCount t_faultPlace : Int32) (a1 : Int32) (R : Int32 × Unit) (hf : pf_X7_keep_x a1 = some R) : hm_Mi l E yX7_keep cX7_keep 2 .boolean [] (hm_rr 1 22 0 0) [.ref h0, .int a1] sz [oc7 h0 r_t t_writtenCount t_faultPlace] R.1 (fun _ => [oc7 h0 r_t t_writtenCount t_faultPlace]) := by
  refine hm_ct_i R (fun u _ => [oc7 h0 r_t t_writtenCount t_faultPlace]) (by decide) (Nat.le_of_ble_eq_true rfl) (Or.inr rfl) ?_
  intro p e s m args below meth c A Q ls H locs hx hb hml hown X hA Y hex w hl hQ
  have hl : lv_has ls 2 [(0, .ref h0), (1, .int a1)] := hl
  unfold pf_X7_keep_x at hf
  refine lv_iload_n hx hb dX7_keep_0 rfl (lv_at hl 1 rfl) ?_
  refine lv_iconst (v := 0) hx hb dX7_keep_1 (by decide) ?_
  refine lv_iconst (v := 2) hx hb dX7_keep_2 (by decide) ?_
  obtain ⟨r1, hc3, hf⟩ := pf_bi_0 hf
  refine hm_aft_i (ws' := fun _ => [oc7 h0 r_t t_writtenCount t_faultPlace]) (hm_runS (rest := []) hx hb hml hown X hA Y w mw_X7_within ml_X7_225 dX7_keep_3 hm_ac0 [.int a1, .int 0, .int 2] rfl [] rfl rfl (ct_X7_within l E H.size a1 0 2 (r1, ()) hc3) rfl hl.1 ⟨⟨rfl, rfl⟩, ⟨Nat.le_of_ble_eq_true rfl, Nat.le_of_ble_eq_true rfl⟩, ⟨Nat.le_of_ble_eq_true rfl, Nat.le_of_ble_eq_true rfl⟩, Nat.le_of_ble_eq_true rfl⟩) hA w [] [0] [0] rfl rfl (by decide) (fun _ => rfl) (fun _ H locs w => ?_)
  refine lv_if_ne (tgt := 11) hx hb dX7_keep_6 (by decide) (fun c6 => ?_) (fun c6 => ?_)
  · have hf := pf_e c6 hf
    exact pf_no hf
  · have hf := pf_t c6 hf
    refine lv_iconst (v := 0) hx hb dX7_keep_9 (by decide) ?_
    exact hQ _ _ _ _ _ () (fun _ => 0) hf rfl w dX7_keep_10
set_option maxHeartbeats 8000000 in
set_option maxRecDepth 100000 in
theorem ct_X7_keep_k (l : Launch) (E : hm_E) (sz : Nat) (h0 : Nat) (r_t : Nat → Nat) (r_t_now : Nat → Nat) (d_t_now : Nat) (kx : Nat) (r_t_kept_k : Nat → Nat) (d_t_kept_k : Nat) (t_writtenCount t_faultPlace t_now_bits t_now_offset t_now_band t_now_rule t_now_noise t_now_step t_now_draws t_now_heat t_now_hour t_now_seenCount t_kept_k_bits t_kept_k_offset t_kept_k_band t_kept_k_rule t_kept_k_noise t_kept_k_step t_kept_k_draws t_kept_k_heat t_kept_k_hour t_kept_k_seenCount : Int32) (t_kept : Nat → Option Nat) (t_kept_k_off : Nat → Int32) (t_kept_k_seenCode : Nat → Int32) (t_kept_k_seenX : Nat → Int32) (t_kept_k_size : Nat → Int32) (t_kept_k_stuck : Nat → Int32) (t_kept_k_worth : Nat → Int32) (t_now_off : Nat → Int32) (t_now_seenCode : Nat → Int32) (t_now_seenX : Nat → Int32) (t_now_size : Nat → Int32) (t_now_stuck : Nat → Int32) (t_now_worth : Nat → Int32) (a1 : Int32) (hk : t_kept a1.toNatClampNeg = some kx) (R : Int32 × Int32 × (Nat → Int32) × (Nat → Int32) × (Nat → Int32) × (Nat → Int32) × Int32 × Int32 × Int32 × Int32 × Int32 × Int32 × Int32 × Int32 × (Nat → Int32) × (Nat → Int32) × Int32) (hf : pf_X7_keep_k a1 t_kept_k_size t_kept_k_off t_kept_k_worth t_kept_k_stuck t_kept_k_seenX t_kept_k_seenCode t_now_bits t_now_size t_now_off t_now_worth t_now_stuck t_now_offset t_now_band t_now_rule t_now_noise t_now_step t_now_draws t_now_heat t_now_hour t_now_seenX t_now_seenCode t_now_seenCount = some R) : hm_Mi l E yX7_keep cX7_keep 2 .boolean [] (hm_rr 3 90 0 0) [.ref h0, .int a1] sz [oc7 h0 r_t t_writtenCount t_faultPlace, oc2 (r_t 1) r_t_now d_t_now t_now_bits t_now_offset t_now_band t_now_rule t_now_noise t_now_step t_now_draws t_now_heat t_now_hour t_now_seenCount, oc2 kx r_t_kept_k d_t_kept_k t_kept_k_bits t_kept_k_offset t_kept_k_band t_kept_k_rule t_kept_k_noise t_kept_k_step t_kept_k_draws t_kept_k_heat t_kept_k_hour t_kept_k_seenCount, qc E (r_t 3) 3 t_kept, ic E (r_t_kept_k 2) 12 t_kept_k_off, ic E (r_t_kept_k 15) 8 t_kept_k_seenCode, ic E (r_t_kept_k 14) 8 t_kept_k_seenX, ic E (r_t_kept_k 1) 12 t_kept_k_size, ic E (r_t_kept_k 4) 12 t_kept_k_stuck, ic E (r_t_kept_k 3) 12 t_kept_k_worth, ic E (r_t_now 2) 12 t_now_off, ic E (r_t_now 15) 8 t_now_seenCode, ic E (r_t_now 14) 8 t_now_seenX, ic E (r_t_now 1) 12 t_now_size, ic E (r_t_now 4) 12 t_now_stuck, ic E (r_t_now 3) 12 t_now_worth] R.1 (fun qs => [oc7 h0 r_t t_writtenCount t_faultPlace, oc2 (r_t 1) r_t_now d_t_now t_now_bits t_now_offset t_now_band t_now_rule t_now_noise t_now_step t_now_draws t_now_heat t_now_hour t_now_seenCount, oc2 kx r_t_kept_k d_t_now (R.2.1) (R.2.2.2.2.2.2.1) (R.2.2.2.2.2.2.2.1) (R.2.2.2.2.2.2.2.2.1) (R.2.2.2.2.2.2.2.2.2.1) (R.2.2.2.2.2.2.2.2.2.2.1) (R.2.2.2.2.2.2.2.2.2.2.2.1) (R.2.2.2.2.2.2.2.2.2.2.2.2.1) (R.2.2.2.2.2.2.2.2.2.2.2.2.2.1) (R.2.2.2.2.2.2.2.2.2.2.2.2.2.2.2.2), qc E (r_t 3) 3 t_kept, ic E (r_t_kept_k 2) 12 (R.2.2.2.1), ic E (r_t_kept_k 15) 8 (R.2.2.2.2.2.2.2.2.2.2.2.2.2.2.2.1), ic E (r_t_kept_k 14) 8 (R.2.2.2.2.2.2.2.2.2.2.2.2.2.2.1), ic E (r_t_kept_k 1) 12 (R.2.2.1), ic E (r_t_kept_k 4) 12 (R.2.2.2.2.2.1), ic E (r_t_kept_k 3) 12 (R.2.2.2.2.1), ic E (r_t_now 2) 12 t_now_off, ic E (r_t_now 15) 8 t_now_seenCode, ic E (r_t_now 14) 8 t_now_seenX, ic E (r_t_now 1) 12 t_now_size, ic E (r_t_now 4) 12 t_now_stuck, ic E (r_t_now 3) 12 t_now_worth]) := by
  refine hm_ct_i R (fun u qs => [oc7 h0 r_t t_writtenCount t_faultPlace, oc2 (r_t 1) r_t_now d_t_now t_now_bits t_now_offset t_now_band t_now_rule t_now_noise t_now_step t_now_draws t_now_heat t_now_hour t_now_seenCount, oc2 kx r_t_kept_k d_t_now (u.1) (u.2.2.2.2.2.1) (u.2.2.2.2.2.2.1) (u.2.2.2.2.2.2.2.1) (u.2.2.2.2.2.2.2.2.1) (u.2.2.2.2.2.2.2.2.2.1) (u.2.2.2.2.2.2.2.2.2.2.1) (u.2.2.2.2.2.2.2.2.2.2.2.1) (u.2.2.2.2.2.2.2.2.2.2.2.2.1) (u.2.2.2.2.2.2.2.2.2.2.2.2.2.2.2), qc E (r_t 3) 3 t_kept, ic E (r_t_kept_k 2) 12 (u.2.2.1), ic E (r_t_kept_k 15) 8 (u.2.2.2.2.2.2.2.2.2.2.2.2.2.2.1), ic E (r_t_kept_k 14) 8 (u.2.2.2.2.2.2.2.2.2.2.2.2.2.1), ic E (r_t_kept_k 1) 12 (u.2.1), ic E (r_t_kept_k 4) 12 (u.2.2.2.2.1), ic E (r_t_kept_k 3) 12 (u.2.2.2.1), ic E (r_t_now 2) 12 t_now_off, ic E (r_t_now 15) 8 t_now_seenCode, ic E (r_t_now 14) 8 t_now_seenX, ic E (r_t_now 1) 12 t_now_size, ic E (r_t_now 4) 12 t_now_stuck, ic E (r_t_now 3) 12 t_now_worth]) (by decide) (Nat.le_of_ble_eq_true rfl) (Or.inr rfl) ?_
  intro p e s m args below meth c A Q ls H locs hx hb hml hown X hA Y hex w hl hQ
  have hl : lv_has ls 2 [(0, .ref h0), (1, .int a1)] := hl
  unfold pf_X7_keep_k at hf
  refine lv_iload_n hx hb dX7_keep_0 rfl (lv_at hl 1 rfl) ?_
  refine lv_iconst (v := 0) hx hb dX7_keep_1 (by decide) ?_
  refine lv_iconst (v := 2) hx hb dX7_keep_2 (by decide) ?_
  obtain ⟨r1, hc3, hf⟩ := pf_bi_0 hf
  refine hm_aft_i (ws' := fun _ => [oc7 h0 r_t t_writtenCount t_faultPlace, oc2 (r_t 1) r_t_now d_t_now t_now_bits t_now_offset t_now_band t_now_rule t_now_noise t_now_step t_now_draws t_now_heat t_now_hour t_now_seenCount, oc2 kx r_t_kept_k d_t_kept_k t_kept_k_bits t_kept_k_offset t_kept_k_band t_kept_k_rule t_kept_k_noise t_kept_k_step t_kept_k_draws t_kept_k_heat t_kept_k_hour t_kept_k_seenCount, qc E (r_t 3) 3 t_kept, ic E (r_t_kept_k 2) 12 t_kept_k_off, ic E (r_t_kept_k 15) 8 t_kept_k_seenCode, ic E (r_t_kept_k 14) 8 t_kept_k_seenX, ic E (r_t_kept_k 1) 12 t_kept_k_size, ic E (r_t_kept_k 4) 12 t_kept_k_stuck, ic E (r_t_kept_k 3) 12 t_kept_k_worth, ic E (r_t_now 2) 12 t_now_off, ic E (r_t_now 15) 8 t_now_seenCode, ic E (r_t_now 14) 8 t_now_seenX, ic E (r_t_now 1) 12 t_now_size, ic E (r_t_now 4) 12 t_now_stuck, ic E (r_t_now 3) 12 t_now_worth]) (hm_runS (rest := []) hx hb hml hown X hA Y w mw_X7_within ml_X7_225 dX7_keep_3 hm_ac0 [.int a1, .int 0, .int 2] rfl [] rfl rfl (ct_X7_within l E H.size a1 0 2 (r1, ()) hc3) rfl hl.1 ⟨⟨rfl, rfl⟩, ⟨Nat.le_of_ble_eq_true rfl, Nat.le_of_ble_eq_true rfl⟩, ⟨Nat.le_of_ble_eq_true rfl, Nat.le_of_ble_eq_true rfl⟩, Nat.le_of_ble_eq_true rfl⟩) hA w [] [0, 1, 2, 3, 4, 5, 6, 7, 8, 9, 10, 11, 12, 13, 14, 15] [0, 1, 2, 3, 4, 5, 6, 7, 8, 9, 10, 11, 12, 13, 14, 15] rfl rfl (by decide) (fun _ => rfl) (fun _ H locs w => ?_)
  refine lv_if_ne (tgt := 11) hx hb dX7_keep_6 (by decide) (fun c6 => ?_) (fun c6 => ?_)
  · have hf := pf_e c6 hf
    refine lv_aload_n hx hb dX7_keep_11 rfl (lv_at hl 0 rfl) ?_
    refine hm_get cb_X7 hx hb hown X w 0 3 fl_X7_26 dX7_keep_12 rfl (by decide) rfl ?_
    refine lv_iload_n hx hb dX7_keep_15 rfl (lv_at hl 1 rfl) ?_
    obtain ⟨g16, hf⟩ := pf_ckI hf
    refine hm_qald hx hb X w 3 dX7_keep_16 rfl g16 ?_
    rw [hk]
    refine lv_ifnonnull (tgt := 33) hx hb dX7_keep_17 (by decide) ?_
    refine lv_aload_n hx hb dX7_keep_33 rfl (lv_at hl 0 rfl) ?_
    refine hm_get cb_X7 hx hb hown X w 0 3 fl_X7_26 dX7_keep_34 rfl (by decide) rfl ?_
    refine lv_iload_n hx hb dX7_keep_37 rfl (lv_at hl 1 rfl) ?_
    obtain ⟨g38, hf⟩ := pf_ckI hf
    refine hm_qald hx hb X w 3 dX7_keep_38 rfl g38 ?_
    rw [hk]
    refine lv_aload_n hx hb dX7_keep_39 rfl (lv_at hl 0 rfl) ?_
    refine hm_get cb_X7 hx hb hown X w 0 1 fl_X7_19 dX7_keep_40 rfl (by decide) rfl ?_
    obtain ⟨x2, f3, f4, f5, f6, x7, x8, x9, x10, x11, x12, x13, x14, f15, f16, x17, hc43, hf⟩ := pf_bv_16 hf
    refine hm_aft_v (ws' := fun _ => [oc7 h0 r_t t_writtenCount t_faultPlace, oc2 (r_t 1) r_t_now d_t_now t_now_bits t_now_offset t_now_band t_now_rule t_now_noise t_now_step t_now_draws t_now_heat t_now_hour t_now_seenCount, oc2 kx r_t_kept_k d_t_now x2 x7 x8 x9 x10 x11 x12 x13 x14 x17, qc E (r_t 3) 3 t_kept, ic E (r_t_kept_k 2) 12 f4, ic E (r_t_kept_k 15) 8 f16, ic E (r_t_kept_k 14) 8 f15, ic E (r_t_kept_k 1) 12 f3, ic E (r_t_kept_k 4) 12 f6, ic E (r_t_kept_k 3) 12 f5, ic E (r_t_now 2) 12 t_now_off, ic E (r_t_now 15) 8 t_now_seenCode, ic E (r_t_now 14) 8 t_now_seenX, ic E (r_t_now 1) 12 t_now_size, ic E (r_t_now 4) 12 t_now_stuck, ic E (r_t_now 3) 12 t_now_worth]) (hm_runV (rest := []) hx hb hml hown X hA Y w 2 (ci := 2) (T := TX2) (N := 17) rfl rfl mw_X2_copyFrom ml_X7_352 dX7_keep_43 hm_ac0 [.ref (r_t 1)] rfl [2, 1, 4, 5, 6, 7, 8, 9, 10, 11, 12, 13, 14, 15] rfl rfl (ct_X2_copyFrom l E H.size kx (r_t 1) r_t_kept_k d_t_kept_k r_t_now d_t_now t_kept_k_bits t_kept_k_offset t_kept_k_band t_kept_k_rule t_kept_k_noise t_kept_k_step t_kept_k_draws t_kept_k_heat t_kept_k_hour t_kept_k_seenCount t_now_bits t_now_offset t_now_band t_now_rule t_now_noise t_now_step t_now_draws t_now_heat t_now_hour t_now_seenCount t_kept_k_off t_kept_k_seenCode t_kept_k_seenX t_kept_k_size t_kept_k_stuck t_kept_k_worth t_now_off t_now_seenCode t_now_seenX t_now_size t_now_stuck t_now_worth (x2, f3, f4, f5, f6, x7, x8, x9, x10, x11, x12, x13, x14, f15, f16, x17) hc43) rfl hl.1 ⟨⟨rfl, rfl⟩, ⟨Nat.le_of_ble_eq_true rfl, Nat.le_of_ble_eq_true rfl⟩, ⟨Nat.le_of_ble_eq_true rfl, Nat.le_of_ble_eq_true rfl⟩, Nat.le_of_ble_eq_true rfl⟩) hA w [2, 1, 4, 5, 6, 7, 8, 9, 10, 11, 12, 13, 14, 15] [0, 3] [0, 3, 2, 1, 4, 5, 6, 7, 8, 9, 10, 11, 12, 13, 14, 15] rfl rfl (by decide) (fun _ => rfl) (fun _ H locs w => ?_)
    refine lv_iconst (v := 1) hx hb dX7_keep_46 (by decide) ?_
    have w := w.sub (ws' := [oc7 h0 r_t t_writtenCount t_faultPlace, oc2 (r_t 1) r_t_now d_t_now t_now_bits t_now_offset t_now_band t_now_rule t_now_noise t_now_step t_now_draws t_now_heat t_now_hour t_now_seenCount, oc2 kx r_t_kept_k d_t_now x2 x7 x8 x9 x10 x11 x12 x13 x14 x17, qc E (r_t 3) 3 t_kept, ic E (r_t_kept_k 2) 12 f4, ic E (r_t_kept_k 15) 8 f16, ic E (r_t_kept_k 14) 8 f15, ic E (r_t_kept_k 1) 12 f3, ic E (r_t_kept_k 4) 12 f6, ic E (r_t_kept_k 3) 12 f5, ic E (r_t_now 2) 12 t_now_off, ic E (r_t_now 15) 8 t_now_seenCode, ic E (r_t_now 14) 8 t_now_seenX, ic E (r_t_now 1) 12 t_now_size, ic E (r_t_now 4) 12 t_now_stuck, ic E (r_t_now 3) 12 t_now_worth]) [0, 1, 2, 3, 4, 5, 6, 7, 8, 9, 10, 11, 12, 13, 14, 15] (by decide) rfl
    exact hQ _ _ _ _ _ (x2, f3, f4, f5, f6, x7, x8, x9, x10, x11, x12, x13, x14, f15, f16, x17) (fun j => 0) hf rfl w dX7_keep_47
  · have hf := pf_t c6 hf
    exact pf_no hf
set_option maxHeartbeats 8000000 in
set_option maxRecDepth 100000 in
theorem ct_X7_keep_n (l : Launch) (E : hm_E) (sz : Nat) (h0 : Nat) (r_t : Nat → Nat) (r_t_now : Nat → Nat) (d_t_now : Nat) (t_writtenCount t_faultPlace t_now_bits t_now_offset t_now_band t_now_rule t_now_noise t_now_step t_now_draws t_now_heat t_now_hour t_now_seenCount : Int32) (t_kept : Nat → Option Nat) (t_now_off : Nat → Int32) (t_now_seenCode : Nat → Int32) (t_now_seenX : Nat → Int32) (t_now_size : Nat → Int32) (t_now_stuck : Nat → Int32) (t_now_worth : Nat → Int32) (a1 : Int32) (hk : t_kept a1.toNatClampNeg = none) (R : Int32 × Int32 × (Nat → Int32) × (Nat → Int32) × (Nat → Int32) × (Nat → Int32) × Int32 × Int32 × Int32 × Int32 × Int32 × Int32 × Int32 × Int32 × (Nat → Int32) × (Nat → Int32) × Int32) (hf : pf_X7_keep_n a1 t_now_bits t_now_size t_now_off t_now_worth t_now_stuck t_now_offset t_now_band t_now_rule t_now_noise t_now_step t_now_draws t_now_heat t_now_hour t_now_seenX t_now_seenCode t_now_seenCount = some R) : hm_Mi l E yX7_keep cX7_keep 2 .boolean [] (hm_rr 3 90 11 287) [.ref h0, .int a1] sz [oc7 h0 r_t t_writtenCount t_faultPlace, oc2 (r_t 1) r_t_now d_t_now t_now_bits t_now_offset t_now_band t_now_rule t_now_noise t_now_step t_now_draws t_now_heat t_now_hour t_now_seenCount, qc E (r_t 3) 3 t_kept, ic E (r_t_now 2) 12 t_now_off, ic E (r_t_now 15) 8 t_now_seenCode, ic E (r_t_now 14) 8 t_now_seenX, ic E (r_t_now 1) 12 t_now_size, ic E (r_t_now 4) 12 t_now_stuck, ic E (r_t_now 3) 12 t_now_worth] R.1 (fun qs => [oc7 h0 r_t t_writtenCount t_faultPlace, oc2 (r_t 1) r_t_now d_t_now t_now_bits t_now_offset t_now_band t_now_rule t_now_noise t_now_step t_now_draws t_now_heat t_now_hour t_now_seenCount, qc E (r_t 3) 3 (va_up t_kept a1.toNatClampNeg (some (qs 1))), ic E (r_t_now 2) 12 t_now_off, ic E (r_t_now 15) 8 t_now_seenCode, ic E (r_t_now 14) 8 t_now_seenX, ic E (r_t_now 1) 12 t_now_size, ic E (r_t_now 4) 12 t_now_stuck, ic E (r_t_now 3) 12 t_now_worth, oc2 (qs 1) (fun j => qs (100 + j + 1)) d_t_now (R.2.1) (R.2.2.2.2.2.2.1) (R.2.2.2.2.2.2.2.1) (R.2.2.2.2.2.2.2.2.1) (R.2.2.2.2.2.2.2.2.2.1) (R.2.2.2.2.2.2.2.2.2.2.1) (R.2.2.2.2.2.2.2.2.2.2.2.1) (R.2.2.2.2.2.2.2.2.2.2.2.2.1) (R.2.2.2.2.2.2.2.2.2.2.2.2.2.1) (R.2.2.2.2.2.2.2.2.2.2.2.2.2.2.2.2), ic E (qs 102) 12 (R.2.2.1), ic E (qs 103) 12 (R.2.2.2.1), ic E (qs 104) 12 (R.2.2.2.2.1), ic E (qs 105) 12 (R.2.2.2.2.2.1), ic E (qs 115) 8 (R.2.2.2.2.2.2.2.2.2.2.2.2.2.2.1), ic E (qs 116) 8 (R.2.2.2.2.2.2.2.2.2.2.2.2.2.2.2.1)]) := by
  refine hm_ct_i R (fun u qs => [oc7 h0 r_t t_writtenCount t_faultPlace, oc2 (r_t 1) r_t_now d_t_now t_now_bits t_now_offset t_now_band t_now_rule t_now_noise t_now_step t_now_draws t_now_heat t_now_hour t_now_seenCount, qc E (r_t 3) 3 (va_up t_kept a1.toNatClampNeg (some (qs 1))), ic E (r_t_now 2) 12 t_now_off, ic E (r_t_now 15) 8 t_now_seenCode, ic E (r_t_now 14) 8 t_now_seenX, ic E (r_t_now 1) 12 t_now_size, ic E (r_t_now 4) 12 t_now_stuck, ic E (r_t_now 3) 12 t_now_worth, oc2 (qs 1) (fun j => qs (100 + j + 1)) d_t_now (u.1) (u.2.2.2.2.2.1) (u.2.2.2.2.2.2.1) (u.2.2.2.2.2.2.2.1) (u.2.2.2.2.2.2.2.2.1) (u.2.2.2.2.2.2.2.2.2.1) (u.2.2.2.2.2.2.2.2.2.2.1) (u.2.2.2.2.2.2.2.2.2.2.2.1) (u.2.2.2.2.2.2.2.2.2.2.2.2.1) (u.2.2.2.2.2.2.2.2.2.2.2.2.2.2.2), ic E (qs 102) 12 (u.2.1), ic E (qs 103) 12 (u.2.2.1), ic E (qs 104) 12 (u.2.2.2.1), ic E (qs 105) 12 (u.2.2.2.2.1), ic E (qs 115) 8 (u.2.2.2.2.2.2.2.2.2.2.2.2.2.1), ic E (qs 116) 8 (u.2.2.2.2.2.2.2.2.2.2.2.2.2.2.1)]) (by decide) (Nat.le_of_ble_eq_true rfl) (Or.inr rfl) ?_
  intro p e s m args below meth c A Q ls H locs hx hb hml hown X hA Y hex w hl hQ
  have hl : lv_has ls 2 [(0, .ref h0), (1, .int a1)] := hl
  unfold pf_X7_keep_n at hf
  refine lv_iload_n hx hb dX7_keep_0 rfl (lv_at hl 1 rfl) ?_
  refine lv_iconst (v := 0) hx hb dX7_keep_1 (by decide) ?_
  refine lv_iconst (v := 2) hx hb dX7_keep_2 (by decide) ?_
  obtain ⟨r1, hc3, hf⟩ := pf_bi_0 hf
  refine hm_aft_i (ws' := fun _ => [oc7 h0 r_t t_writtenCount t_faultPlace, oc2 (r_t 1) r_t_now d_t_now t_now_bits t_now_offset t_now_band t_now_rule t_now_noise t_now_step t_now_draws t_now_heat t_now_hour t_now_seenCount, qc E (r_t 3) 3 t_kept, ic E (r_t_now 2) 12 t_now_off, ic E (r_t_now 15) 8 t_now_seenCode, ic E (r_t_now 14) 8 t_now_seenX, ic E (r_t_now 1) 12 t_now_size, ic E (r_t_now 4) 12 t_now_stuck, ic E (r_t_now 3) 12 t_now_worth]) (hm_runS (rest := []) hx hb hml hown X hA Y w mw_X7_within ml_X7_225 dX7_keep_3 hm_ac0 [.int a1, .int 0, .int 2] rfl [] rfl rfl (ct_X7_within l E H.size a1 0 2 (r1, ()) hc3) rfl hl.1 ⟨⟨rfl, rfl⟩, ⟨Nat.le_of_ble_eq_true rfl, Nat.le_of_ble_eq_true rfl⟩, ⟨Nat.le_of_ble_eq_true rfl, Nat.le_of_ble_eq_true rfl⟩, Nat.le_of_ble_eq_true rfl⟩) hA w [] [0, 1, 2, 3, 4, 5, 6, 7, 8] [0, 1, 2, 3, 4, 5, 6, 7, 8] rfl rfl (by decide) (fun _ => rfl) (fun _ H locs w => ?_)
  refine lv_if_ne (tgt := 11) hx hb dX7_keep_6 (by decide) (fun c6 => ?_) (fun c6 => ?_)
  · have hf := pf_e c6 hf
    refine lv_aload_n hx hb dX7_keep_11 rfl (lv_at hl 0 rfl) ?_
    refine hm_get cb_X7 hx hb hown X w 0 3 fl_X7_26 dX7_keep_12 rfl (by decide) rfl ?_
    refine lv_iload_n hx hb dX7_keep_15 rfl (lv_at hl 1 rfl) ?_
    obtain ⟨g16, hf⟩ := pf_ckI hf
    refine hm_qald hx hb X w 2 dX7_keep_16 rfl g16 ?_
    rw [hk]
    refine lv_ifnonnullN hx hb dX7_keep_17 ?_
    refine lv_aload_n hx hb dX7_keep_20 rfl (lv_at hl 0 rfl) ?_
    refine hm_get cb_X7 hx hb hown X w 0 3 fl_X7_26 dX7_keep_21 rfl (by decide) rfl ?_
    refine lv_iload_n hx hb dX7_keep_24 rfl (lv_at hl 1 rfl) ?_
    refine hm_new (fs := [.int 0, .null, .null, .null, .null, .int 0, .int 0, .int 0, .int 0, .int 0, .int 0, .int 0, .int 0, .null, .null, .null, .int 0]) cb_X2 hx hb hown X hA w cl_X7_16 is_X2 in_X2 dX7_keep_25 df_X2 (Nat.le_of_ble_eq_true rfl) (Nat.le_of_ble_eq_true rfl) (fun q2 H w => ?_)
    have w : hm_W E A s.heap [oc7 h0 r_t t_writtenCount t_faultPlace, oc2 (r_t 1) r_t_now d_t_now t_now_bits t_now_offset t_now_band t_now_rule t_now_noise t_now_step t_now_draws t_now_heat t_now_hour t_now_seenCount, qc E (r_t 3) 3 t_kept, ic E (r_t_now 2) 12 t_now_off, ic E (r_t_now 15) 8 t_now_seenCode, ic E (r_t_now 14) 8 t_now_seenX, ic E (r_t_now 1) 12 t_now_size, ic E (r_t_now 4) 12 t_now_stuck, ic E (r_t_now 3) 12 t_now_worth, (q2, .inr (2, [.int 0, .null, .null, .null, .null, .int 0, .int 0, .int 0, .int 0, .int 0, .int 0, .int 0, .int 0, .null, .null, .null, .int 0]))] H locs := w
    refine lv_dup hx hb dX7_keep_28 rfl ?_
    obtain ⟨hc29, hf⟩ := pf_bv_0 hf
    refine hm_aft_v (ws' := fun qs29 => [oc7 h0 r_t t_writtenCount t_faultPlace, oc2 (r_t 1) r_t_now d_t_now t_now_bits t_now_offset t_now_band t_now_rule t_now_noise t_now_step t_now_draws t_now_heat t_now_hour t_now_seenCount, qc E (r_t 3) 3 t_kept, ic E (r_t_now 2) 12 t_now_off, ic E (r_t_now 15) 8 t_now_seenCode, ic E (r_t_now 14) 8 t_now_seenX, ic E (r_t_now 1) 12 t_now_size, ic E (r_t_now 4) 12 t_now_stuck, ic E (r_t_now 3) 12 t_now_worth, oc2 q2 (fun j => qs29 (j + 1)) (qs29 14) 0 0 0 3 0 1 1 0 0 0, ic E (qs29 2) 12 (fun _ => (0 : Int32)), ic E (qs29 3) 12 (fun _ => (0 : Int32)), ic E (qs29 4) 12 (fun _ => (0 : Int32)), ic E (qs29 5) 12 (fun _ => (0 : Int32)), oc3 (qs29 14) (fun j => qs29 (1400 + j + 1)) 0 0 0, ic E (qs29 1401) 80 (fun _ => (0 : Int32)), ic E (qs29 1402) 80 (fun _ => (0 : Int32)), ic E (qs29 1403) 40 (fun _ => (0 : Int32)), ic E (qs29 15) 8 (fun _ => (0 : Int32)), ic E (qs29 16) 8 (fun _ => (0 : Int32))]) (hm_runIN (rest := [.ref q2, .int a1, .ref (r_t 3)]) hx hb hml hown X hA Y w mw_X2_init ml_X7_18 dX7_keep_29 hm_ac0 [] rfl [9] rfl rfl (ct_X2_init l E H.size q2 () hc29) rfl hl.1 ⟨⟨rfl, rfl⟩, ⟨Nat.le_of_ble_eq_true rfl, Nat.le_of_ble_eq_true rfl⟩, ⟨Nat.le_of_ble_eq_true rfl, Nat.le_of_ble_eq_true rfl⟩, Nat.le_of_ble_eq_true rfl⟩) hA w [9] [0, 1, 2, 3, 4, 5, 6, 7, 8] [0, 1, 2, 3, 4, 5, 6, 7, 8, 9, 10, 11, 12, 13, 14, 15, 16, 17, 18, 19] rfl rfl (by decide) (fun _ => rfl) (fun qs29 H locs w => ?_)
    obtain ⟨g32, hf⟩ := pf_ckI hf
    refine hm_qast (ws' := [oc7 h0 r_t t_writtenCount t_faultPlace, oc2 (r_t 1) r_t_now d_t_now t_now_bits t_now_offset t_now_band t_now_rule t_now_noise t_now_step t_now_draws t_now_heat t_now_hour t_now_seenCount, qc E (r_t 3) 3 (va_up t_kept a1.toNatClampNeg (some q2)), ic E (r_t_now 2) 12 t_now_off, ic E (r_t_now 15) 8 t_now_seenCode, ic E (r_t_now 14) 8 t_now_seenX, ic E (r_t_now 1) 12 t_now_size, ic E (r_t_now 4) 12 t_now_stuck, ic E (r_t_now 3) 12 t_now_worth, oc2 q2 (fun j => qs29 (j + 1)) (qs29 14) 0 0 0 3 0 1 1 0 0 0, ic E (qs29 2) 12 (fun _ => (0 : Int32)), ic E (qs29 3) 12 (fun _ => (0 : Int32)), ic E (qs29 4) 12 (fun _ => (0 : Int32)), ic E (qs29 5) 12 (fun _ => (0 : Int32)), oc3 (qs29 14) (fun j => qs29 (1400 + j + 1)) 0 0 0, ic E (qs29 1401) 80 (fun _ => (0 : Int32)), ic E (qs29 1402) 80 (fun _ => (0 : Int32)), ic E (qs29 1403) 40 (fun _ => (0 : Int32)), ic E (qs29 15) 8 (fun _ => (0 : Int32)), ic E (qs29 16) 8 (fun _ => (0 : Int32))]) hx hb X w 2 9 dX7_keep_32 rfl rfl g32 rfl (fun H locs w => ?_)
    refine lv_aload_n hx hb dX7_keep_33 rfl (lv_at hl 0 rfl) ?_
    refine hm_get cb_X7 hx hb hown X w 0 3 fl_X7_26 dX7_keep_34 rfl (by decide) rfl ?_
    refine lv_iload_n hx hb dX7_keep_37 rfl (lv_at hl 1 rfl) ?_
    obtain ⟨g38, hf⟩ := pf_ckI hf
    refine hm_qald hx hb X w 2 dX7_keep_38 rfl g38 ?_
    rw [show ((va_up t_kept a1.toNatClampNeg (some q2)) a1.toNatClampNeg) = some q2 from if_pos rfl]
    refine lv_aload_n hx hb dX7_keep_39 rfl (lv_at hl 0 rfl) ?_
    refine hm_get cb_X7 hx hb hown X w 0 1 fl_X7_19 dX7_keep_40 rfl (by decide) rfl ?_
    obtain ⟨x3, f4, f5, f6, f7, x8, x9, x10, x11, x12, x13, x14, x15, f16, f17, x18, hc43, hf⟩ := pf_bv_16 hf
    refine hm_aft_v (ws' := fun _ => [oc7 h0 r_t t_writtenCount t_faultPlace, oc2 (r_t 1) r_t_now d_t_now t_now_bits t_now_offset t_now_band t_now_rule t_now_noise t_now_step t_now_draws t_now_heat t_now_hour t_now_seenCount, qc E (r_t 3) 3 (va_up t_kept a1.toNatClampNeg (some q2)), ic E (r_t_now 2) 12 t_now_off, ic E (r_t_now 15) 8 t_now_seenCode, ic E (r_t_now 14) 8 t_now_seenX, ic E (r_t_now 1) 12 t_now_size, ic E (r_t_now 4) 12 t_now_stuck, ic E (r_t_now 3) 12 t_now_worth, oc2 q2 (fun j => qs29 (j + 1)) d_t_now x3 x8 x9 x10 x11 x12 x13 x14 x15 x18, ic E (qs29 2) 12 f4, ic E (qs29 3) 12 f5, ic E (qs29 4) 12 f6, ic E (qs29 5) 12 f7, oc3 (qs29 14) (fun j => qs29 (1400 + j + 1)) 0 0 0, ic E (qs29 1401) 80 (fun _ => (0 : Int32)), ic E (qs29 1402) 80 (fun _ => (0 : Int32)), ic E (qs29 1403) 40 (fun _ => (0 : Int32)), ic E (qs29 15) 8 f16, ic E (qs29 16) 8 f17]) (hm_runV (rest := []) hx hb hml hown X hA Y w 9 (ci := 2) (T := TX2) (N := 17) rfl rfl mw_X2_copyFrom ml_X7_352 dX7_keep_43 hm_ac0 [.ref (r_t 1)] rfl [9, 1, 11, 19, 18, 10, 13, 12, 3, 4, 5, 6, 7, 8] rfl rfl (ct_X2_copyFrom l E H.size q2 (r_t 1) (fun j => qs29 (j + 1)) (qs29 14) r_t_now d_t_now 0 0 0 3 0 1 1 0 0 0 t_now_bits t_now_offset t_now_band t_now_rule t_now_noise t_now_step t_now_draws t_now_heat t_now_hour t_now_seenCount (fun _ => (0 : Int32)) (fun _ => (0 : Int32)) (fun _ => (0 : Int32)) (fun _ => (0 : Int32)) (fun _ => (0 : Int32)) (fun _ => (0 : Int32)) t_now_off t_now_seenCode t_now_seenX t_now_size t_now_stuck t_now_worth (x3, f4, f5, f6, f7, x8, x9, x10, x11, x12, x13, x14, x15, f16, f17, x18) hc43) rfl hl.1 ⟨⟨rfl, rfl⟩, ⟨Nat.le_of_ble_eq_true rfl, Nat.le_of_ble_eq_true rfl⟩, ⟨Nat.le_of_ble_eq_true rfl, Nat.le_of_ble_eq_true rfl⟩, Nat.le_of_ble_eq_true rfl⟩) hA w [9, 1, 11, 19, 18, 10, 13, 12, 3, 4, 5, 6, 7, 8] [0, 2, 14, 15, 16, 17] [0, 7, 1, 14, 15, 16, 17, 18, 19, 6, 11, 8, 13, 12, 2, 3, 4, 5, 10, 9] rfl rfl (by decide) (fun _ => rfl) (fun _ H locs w => ?_)
    refine lv_iconst (v := 1) hx hb dX7_keep_46 (by decide) ?_
    have w := w.sub (ws' := [oc7 h0 r_t t_writtenCount t_faultPlace, oc2 (r_t 1) r_t_now d_t_now t_now_bits t_now_offset t_now_band t_now_rule t_now_noise t_now_step t_now_draws t_now_heat t_now_hour t_now_seenCount, qc E (r_t 3) 3 (va_up t_kept a1.toNatClampNeg (some q2)), ic E (r_t_now 2) 12 t_now_off, ic E (r_t_now 15) 8 t_now_seenCode, ic E (r_t_now 14) 8 t_now_seenX, ic E (r_t_now 1) 12 t_now_size, ic E (r_t_now 4) 12 t_now_stuck, ic E (r_t_now 3) 12 t_now_worth, oc2 q2 (fun j => qs29 (j + 1)) d_t_now x3 x8 x9 x10 x11 x12 x13 x14 x15 x18, ic E (qs29 2) 12 f4, ic E (qs29 3) 12 f5, ic E (qs29 4) 12 f6, ic E (qs29 5) 12 f7, ic E (qs29 15) 8 f16, ic E (qs29 16) 8 f17]) [0, 1, 2, 3, 4, 5, 6, 7, 8, 9, 10, 11, 12, 13, 18, 19] (by decide) rfl
    exact hQ _ _ _ _ _ (x3, f4, f5, f6, f7, x8, x9, x10, x11, x12, x13, x14, x15, f16, f17, x18) (fun j => if j = 1 then q2 else if j = 102 then (qs29 2) else if j = 103 then (qs29 3) else if j = 104 then (qs29 4) else if j = 105 then (qs29 5) else if j = 115 then (qs29 15) else if j = 116 then (qs29 16) else 0) hf rfl w dX7_keep_47
  · have hf := pf_t c6 hf
    exact pf_no hf
set_option maxHeartbeats 8000000 in
set_option maxRecDepth 100000 in
theorem ct_X7_drift_f (l : Launch) (E : hm_E) (sz : Nat) (h0 : Nat) (r_t : Nat → Nat) (r_t_tape : Nat → Nat) (t_writtenCount t_faultPlace t_tape_count t_tape_at t_tape_fault : Int32) (t_tape_bytes : Nat → Int32)  (R : Int32 × (Nat → Int32) × (Nat → Int32) × Int32 × Int32 × Int32 × Int32 × Int32 × Int32 × Int32) (hf : pf_X7_drift_f t_tape_bytes t_tape_count = some R) : hm_Mi l E yX7_drift cX7_drift 2 .int [] (hm_rr 60 1945 4 206) [.ref h0] sz [oc7 h0 r_t t_writtenCount t_faultPlace, oc5 (r_t 0) r_t_tape t_tape_count t_tape_at t_tape_fault, ic E (r_t_tape 0) 400 t_tape_bytes] R.1 (fun qs => [oc7 h0 r_t t_writtenCount (R.2.2.2.2.2.2.1), oc5 (r_t 0) r_t_tape (R.2.2.2.2.2.2.2.1) (R.2.2.2.2.2.2.2.2.1) (R.2.2.2.2.2.2.2.2.2), ic E (r_t_tape 0) 400 t_tape_bytes]) := by
  refine hm_ct_i R (fun u qs => [oc7 h0 r_t t_writtenCount (u.2.2.2.2.2.1), oc5 (r_t 0) r_t_tape (u.2.2.2.2.2.2.1) (u.2.2.2.2.2.2.2.1) (u.2.2.2.2.2.2.2.2), ic E (r_t_tape 0) 400 t_tape_bytes]) (by decide) (Nat.le_of_ble_eq_true rfl) (Or.inl rfl) ?_
  intro p e s m args below meth c A Q ls H locs hx hb hml hown X hA Y hex w hl hQ
  have hl : lv_has ls 2 [(0, .ref h0)] := hl
  unfold pf_X7_drift_f at hf
  refine hm_new (fs := [.null, .null, .null, .int 0, .int 0, .int 0]) cb_X3 hx hb hown X hA w cl_X7_96 is_X3 in_X3 dX7_drift_0 df_X3 (Nat.le_of_ble_eq_true rfl) (Nat.le_of_ble_eq_true rfl) (fun q1 H w => ?_)
  have w : hm_W E A s.heap [oc7 h0 r_t t_writtenCount t_faultPlace, oc5 (r_t 0) r_t_tape t_tape_count t_tape_at t_tape_fault, ic E (r_t_tape 0) 400 t_tape_bytes, (q1, .inr (3, [.null, .null, .null, .int 0, .int 0, .int 0]))] H locs := w
  refine lv_dup hx hb dX7_drift_3 rfl ?_
  obtain ⟨hc4, hf⟩ := pf_bv_0 hf
  refine hm_aft_v (ws' := fun qs4 => [oc7 h0 r_t t_writtenCount t_faultPlace, oc5 (r_t 0) r_t_tape t_tape_count t_tape_at t_tape_fault, ic E (r_t_tape 0) 400 t_tape_bytes, oc3 q1 (fun j => qs4 (j + 1)) 0 0 0, ic E (qs4 1) 80 (fun _ => (0 : Int32)), ic E (qs4 2) 80 (fun _ => (0 : Int32)), ic E (qs4 3) 40 (fun _ => (0 : Int32))]) (hm_runIN (rest := [.ref q1]) hx hb hml hown X hA Y w mw_X3_init ml_X7_98 dX7_drift_4 hm_ac0 [] rfl [3] rfl rfl (ct_X3_init l E H.size q1 () hc4) rfl hl.1 ⟨⟨rfl, rfl⟩, ⟨Nat.le_of_ble_eq_true rfl, Nat.le_of_ble_eq_true rfl⟩, ⟨Nat.le_of_ble_eq_true rfl, Nat.le_of_ble_eq_true rfl⟩, Nat.le_of_ble_eq_true rfl⟩) hA w [3] [0, 1, 2] [0, 1, 2, 3, 4, 5, 6] rfl rfl (by decide) (fun _ => rfl) (fun qs4 H locs w => ?_)
  refine lv_astore_n (lv' := [(1, .ref q1), (0, .ref h0)]) hx hb dX7_drift_7 rfl hl (by decide) rfl (fun ls hl => ?_)
  refine lv_aload_n hx hb dX7_drift_8 rfl (lv_at hl 0 rfl) ?_
  refine lv_aload_n hx hb dX7_drift_9 rfl (lv_at hl 1 rfl) ?_
  refine hm_get cb_X7 hx hb hown X w 0 0 fl_X7_10 dX7_drift_10 rfl (by decide) rfl ?_
  obtain ⟨f2, f3, x4, x5, x6, x7, hc13, hf⟩ := pf_bv_6 hf
  refine hm_aft_v (ws' := fun _ => [oc7 h0 r_t t_writtenCount t_faultPlace, oc5 (r_t 0) r_t_tape t_tape_count x6 x7, ic E (r_t_tape 0) 400 t_tape_bytes, oc3 q1 (fun j => qs4 (j + 1)) x4 0 x5, ic E (qs4 1) 80 f2, ic E (qs4 2) 80 f3, ic E (qs4 3) 40 (fun _ => (0 : Int32))]) (hm_runV (rest := []) hx hb hml hown X hA Y w 3 (ci := 3) (T := TX3) (N := 6) rfl rfl mw_X3_read ml_X7_99 dX7_drift_13 hm_ac0 [.ref (r_t 0)] rfl [3, 1, 4, 5, 2] rfl rfl (ct_X3_read l E H.size q1 (r_t 0) (fun j => qs4 (j + 1)) r_t_tape 0 0 0 t_tape_count t_tape_at t_tape_fault (fun _ => (0 : Int32)) (fun _ => (0 : Int32)) t_tape_bytes (f2, f3, x4, x5, x6, x7) hc13) rfl hl.1 ⟨⟨rfl, rfl⟩, ⟨Nat.le_of_ble_eq_true rfl, Nat.le_of_ble_eq_true rfl⟩, ⟨Nat.le_of_ble_eq_true rfl, Nat.le_of_ble_eq_true rfl⟩, Nat.le_of_ble_eq_true rfl⟩) hA w [3, 1, 4, 5, 2] [0, 6] [0, 3, 6, 2, 4, 5, 1] rfl rfl (by decide) (fun _ => rfl) (fun _ H locs w => ?_)
  refine lv_aload_n hx hb dX7_drift_16 rfl (lv_at hl 1 rfl) ?_
  obtain ⟨r8, x9, x10, hc17, hf⟩ := pf_bi_2 hf
  refine hm_aft_i (ws' := fun _ => [oc7 h0 r_t t_writtenCount x9, oc5 (r_t 0) r_t_tape x10 x6 x7, ic E (r_t_tape 0) 400 t_tape_bytes, oc3 q1 (fun j => qs4 (j + 1)) x4 0 x5, ic E (qs4 1) 80 f2, ic E (qs4 2) 80 f3, ic E (qs4 3) 40 (fun _ => (0 : Int32))]) (hm_runV (rest := []) hx hb hml hown X hA Y w 0 (ci := 6) (T := TX7) (N := 11) rfl rfl mw_X7_leaveTape ml_X7_81 dX7_drift_17 hm_ac0 [] rfl [0, 1] rfl rfl (ct_X7_leaveTape l E H.size h0 r_t r_t_tape t_writtenCount t_faultPlace t_tape_count x6 x7 (r8, x9, x10) hc17) rfl hl.1 ⟨⟨rfl, rfl⟩, ⟨Nat.le_of_ble_eq_true rfl, Nat.le_of_ble_eq_true rfl⟩, ⟨Nat.le_of_ble_eq_true rfl, Nat.le_of_ble_eq_true rfl⟩, Nat.le_of_ble_eq_true rfl⟩) hA w [0, 1] [2, 3, 4, 5, 6] [5, 6, 0, 1, 2, 3, 4] rfl rfl (by decide) (fun _ => rfl) (fun _ H locs w => ?_)
  refine lv_if_ne (tgt := 25) hx hb dX7_drift_20 (by decide) (fun c20 => ?_) (fun c20 => ?_)
  · have hf := pf_e c20 hf
    exact pf_no hf
  · have hf := pf_t c20 hf
    refine lv_iconst (v := (-1)) hx hb dX7_drift_23 (by decide) ?_
    have w := w.sub (ws' := [oc7 h0 r_t t_writtenCount x9, oc5 (r_t 0) r_t_tape x10 x6 x7, ic E (r_t_tape 0) 400 t_tape_bytes]) [0, 1, 2] (by decide) rfl
    exact hQ _ _ _ _ _ (f2, f3, x4, 0, x5, x9, x10, x6, x7) (fun j => 0) hf rfl w dX7_drift_24
set_option maxHeartbeats 8000000 in
set_option maxRecDepth 100000 in
theorem ct_X7_drift_t (l : Launch) (E : hm_E) (sz : Nat) (h0 : Nat) (r_t : Nat → Nat) (r_t_now : Nat → Nat) (d_t_now : Nat) (r_t_tape : Nat → Nat) (t_writtenCount t_faultPlace t_now_bits t_now_offset t_now_band t_now_rule t_now_noise t_now_step t_now_draws t_now_heat t_now_hour t_now_seenCount t_tape_count t_tape_at t_tape_fault : Int32) (t_tape_bytes : Nat → Int32)  (R : Int32 × (Nat → Int32) × (Nat → Int32) × Int32 × Int32 × Int32 × Int32 × Int32 × Int32 × Int32) (hf : pf_X7_drift_t t_tape_bytes t_tape_count = some R) : hm_Mi l E yX7_drift cX7_drift 2 .int [] (hm_rr 60 1945 4 206) [.ref h0] sz [oc7 h0 r_t t_writtenCount t_faultPlace, oc2 (r_t 1) r_t_now d_t_now t_now_bits t_now_offset t_now_band t_now_rule t_now_noise t_now_step t_now_draws t_now_heat t_now_hour t_now_seenCount, oc5 (r_t 0) r_t_tape t_tape_count t_tape_at t_tape_fault, ic E (r_t_tape 0) 400 t_tape_bytes] R.1 (fun qs => [oc7 h0 r_t t_writtenCount (R.2.2.2.2.2.2.1), oc2 (r_t 1) r_t_now (qs 1) t_now_bits t_now_offset t_now_band t_now_rule t_now_noise t_now_step t_now_draws t_now_heat t_now_hour t_now_seenCount, oc5 (r_t 0) r_t_tape (R.2.2.2.2.2.2.2.1) (R.2.2.2.2.2.2.2.2.1) (R.2.2.2.2.2.2.2.2.2), ic E (r_t_tape 0) 400 t_tape_bytes, oc3 (qs 1) (fun j => qs (100 + j + 1)) (R.2.2.2.1) (R.2.2.2.2.1) (R.2.2.2.2.2.1), ic E (qs 101) 80 (R.2.1), ic E (qs 102) 80 (R.2.2.1), ic E (qs 103) 40 (fun _ => (0 : Int32))]) := by
  refine hm_ct_i R (fun u qs => [oc7 h0 r_t t_writtenCount (u.2.2.2.2.2.1), oc2 (r_t 1) r_t_now (qs 1) t_now_bits t_now_offset t_now_band t_now_rule t_now_noise t_now_step t_now_draws t_now_heat t_now_hour t_now_seenCount, oc5 (r_t 0) r_t_tape (u.2.2.2.2.2.2.1) (u.2.2.2.2.2.2.2.1) (u.2.2.2.2.2.2.2.2), ic E (r_t_tape 0) 400 t_tape_bytes, oc3 (qs 1) (fun j => qs (100 + j + 1)) (u.2.2.1) (u.2.2.2.1) (u.2.2.2.2.1), ic E (qs 101) 80 (u.1), ic E (qs 102) 80 (u.2.1), ic E (qs 103) 40 (fun _ => (0 : Int32))]) (by decide) (Nat.le_of_ble_eq_true rfl) (Or.inl rfl) ?_
  intro p e s m args below meth c A Q ls H locs hx hb hml hown X hA Y hex w hl hQ
  have hl : lv_has ls 2 [(0, .ref h0)] := hl
  unfold pf_X7_drift_t at hf
  refine hm_new (fs := [.null, .null, .null, .int 0, .int 0, .int 0]) cb_X3 hx hb hown X hA w cl_X7_96 is_X3 in_X3 dX7_drift_0 df_X3 (Nat.le_of_ble_eq_true rfl) (Nat.le_of_ble_eq_true rfl) (fun q1 H w => ?_)
  have w : hm_W E A s.heap [oc7 h0 r_t t_writtenCount t_faultPlace, oc2 (r_t 1) r_t_now d_t_now t_now_bits t_now_offset t_now_band t_now_rule t_now_noise t_now_step t_now_draws t_now_heat t_now_hour t_now_seenCount, oc5 (r_t 0) r_t_tape t_tape_count t_tape_at t_tape_fault, ic E (r_t_tape 0) 400 t_tape_bytes, (q1, .inr (3, [.null, .null, .null, .int 0, .int 0, .int 0]))] H locs := w
  refine lv_dup hx hb dX7_drift_3 rfl ?_
  obtain ⟨hc4, hf⟩ := pf_bv_0 hf
  refine hm_aft_v (ws' := fun qs4 => [oc7 h0 r_t t_writtenCount t_faultPlace, oc2 (r_t 1) r_t_now d_t_now t_now_bits t_now_offset t_now_band t_now_rule t_now_noise t_now_step t_now_draws t_now_heat t_now_hour t_now_seenCount, oc5 (r_t 0) r_t_tape t_tape_count t_tape_at t_tape_fault, ic E (r_t_tape 0) 400 t_tape_bytes, oc3 q1 (fun j => qs4 (j + 1)) 0 0 0, ic E (qs4 1) 80 (fun _ => (0 : Int32)), ic E (qs4 2) 80 (fun _ => (0 : Int32)), ic E (qs4 3) 40 (fun _ => (0 : Int32))]) (hm_runIN (rest := [.ref q1]) hx hb hml hown X hA Y w mw_X3_init ml_X7_98 dX7_drift_4 hm_ac0 [] rfl [4] rfl rfl (ct_X3_init l E H.size q1 () hc4) rfl hl.1 ⟨⟨rfl, rfl⟩, ⟨Nat.le_of_ble_eq_true rfl, Nat.le_of_ble_eq_true rfl⟩, ⟨Nat.le_of_ble_eq_true rfl, Nat.le_of_ble_eq_true rfl⟩, Nat.le_of_ble_eq_true rfl⟩) hA w [4] [0, 1, 2, 3] [0, 1, 2, 3, 4, 5, 6, 7] rfl rfl (by decide) (fun _ => rfl) (fun qs4 H locs w => ?_)
  refine lv_astore_n (lv' := [(1, .ref q1), (0, .ref h0)]) hx hb dX7_drift_7 rfl hl (by decide) rfl (fun ls hl => ?_)
  refine lv_aload_n hx hb dX7_drift_8 rfl (lv_at hl 0 rfl) ?_
  refine lv_aload_n hx hb dX7_drift_9 rfl (lv_at hl 1 rfl) ?_
  refine hm_get cb_X7 hx hb hown X w 0 0 fl_X7_10 dX7_drift_10 rfl (by decide) rfl ?_
  obtain ⟨f2, f3, x4, x5, x6, x7, hc13, hf⟩ := pf_bv_6 hf
  refine hm_aft_v (ws' := fun _ => [oc7 h0 r_t t_writtenCount t_faultPlace, oc2 (r_t 1) r_t_now d_t_now t_now_bits t_now_offset t_now_band t_now_rule t_now_noise t_now_step t_now_draws t_now_heat t_now_hour t_now_seenCount, oc5 (r_t 0) r_t_tape t_tape_count x6 x7, ic E (r_t_tape 0) 400 t_tape_bytes, oc3 q1 (fun j => qs4 (j + 1)) x4 0 x5, ic E (qs4 1) 80 f2, ic E (qs4 2) 80 f3, ic E (qs4 3) 40 (fun _ => (0 : Int32))]) (hm_runV (rest := []) hx hb hml hown X hA Y w 4 (ci := 3) (T := TX3) (N := 6) rfl rfl mw_X3_read ml_X7_99 dX7_drift_13 hm_ac0 [.ref (r_t 0)] rfl [4, 2, 5, 6, 3] rfl rfl (ct_X3_read l E H.size q1 (r_t 0) (fun j => qs4 (j + 1)) r_t_tape 0 0 0 t_tape_count t_tape_at t_tape_fault (fun _ => (0 : Int32)) (fun _ => (0 : Int32)) t_tape_bytes (f2, f3, x4, x5, x6, x7) hc13) rfl hl.1 ⟨⟨rfl, rfl⟩, ⟨Nat.le_of_ble_eq_true rfl, Nat.le_of_ble_eq_true rfl⟩, ⟨Nat.le_of_ble_eq_true rfl, Nat.le_of_ble_eq_true rfl⟩, Nat.le_of_ble_eq_true rfl⟩) hA w [4, 2, 5, 6, 3] [0, 1, 7] [0, 1, 4, 7, 3, 5, 6, 2] rfl rfl (by decide) (fun _ => rfl) (fun _ H locs w => ?_)
  refine lv_aload_n hx hb dX7_drift_16 rfl (lv_at hl 1 rfl) ?_
  obtain ⟨r8, x9, x10, hc17, hf⟩ := pf_bi_2 hf
  refine hm_aft_i (ws' := fun _ => [oc7 h0 r_t t_writtenCount x9, oc2 (r_t 1) r_t_now d_t_now t_now_bits t_now_offset t_now_band t_now_rule t_now_noise t_now_step t_now_draws t_now_heat t_now_hour t_now_seenCount, oc5 (r_t 0) r_t_tape x10 x6 x7, ic E (r_t_tape 0) 400 t_tape_bytes, oc3 q1 (fun j => qs4 (j + 1)) x4 0 x5, ic E (qs4 1) 80 f2, ic E (qs4 2) 80 f3, ic E (qs4 3) 40 (fun _ => (0 : Int32))]) (hm_runV (rest := []) hx hb hml hown X hA Y w 0 (ci := 6) (T := TX7) (N := 11) rfl rfl mw_X7_leaveTape ml_X7_81 dX7_drift_17 hm_ac0 [] rfl [0, 2] rfl rfl (ct_X7_leaveTape l E H.size h0 r_t r_t_tape t_writtenCount t_faultPlace t_tape_count x6 x7 (r8, x9, x10) hc17) rfl hl.1 ⟨⟨rfl, rfl⟩, ⟨Nat.le_of_ble_eq_true rfl, Nat.le_of_ble_eq_true rfl⟩, ⟨Nat.le_of_ble_eq_true rfl, Nat.le_of_ble_eq_true rfl⟩, Nat.le_of_ble_eq_true rfl⟩) hA w [0, 2] [1, 3, 4, 5, 6, 7] [6, 0, 7, 1, 2, 3, 4, 5] rfl rfl (by decide) (fun _ => rfl) (fun _ H locs w => ?_)
  refine lv_if_ne (tgt := 25) hx hb dX7_drift_20 (by decide) (fun c20 => ?_) (fun c20 => ?_)
  · have hf := pf_e c20 hf
    refine lv_aload_n hx hb dX7_drift_25 rfl (lv_at hl 1 rfl) ?_
    refine hm_get cb_X7 hx hb hown X w 0 1 fl_X7_19 dX7_drift_26 rfl (by decide) rfl ?_
    refine lv_aload_n hx hb dX7_drift_29 rfl (lv_at hl 0 rfl) ?_
    refine hm_put (ws' := [oc7 h0 r_t t_writtenCount x9, oc2 (r_t 1) r_t_now q1 t_now_bits t_now_offset t_now_band t_now_rule t_now_noise t_now_step t_now_draws t_now_heat t_now_hour t_now_seenCount, oc5 (r_t 0) r_t_tape x10 x6 x7, ic E (r_t_tape 0) 400 t_tape_bytes, oc3 q1 (fun j => qs4 (j + 1)) x4 0 x5, ic E (qs4 1) 80 f2, ic E (qs4 2) 80 f3, ic E (qs4 3) 40 (fun _ => (0 : Int32))]) cb_X2 hx hb hown X w 1 13 fl_X7_102 dX7_drift_30 rfl (by decide) (Nat.le_of_ble_eq_true rfl) rfl rfl rfl rfl (fun H locs w => ?_)
    refine lv_aload_n hx hb dX7_drift_33 rfl (lv_at hl 0 rfl) ?_
    refine hm_get cb_X3 hx hb hown X w 4 5 fl_X7_106 dX7_drift_34 rfl (by decide) rfl ?_
    have w := w.sub (ws' := [oc7 h0 r_t t_writtenCount x9, oc2 (r_t 1) r_t_now q1 t_now_bits t_now_offset t_now_band t_now_rule t_now_noise t_now_step t_now_draws t_now_heat t_now_hour t_now_seenCount, oc5 (r_t 0) r_t_tape x10 x6 x7, ic E (r_t_tape 0) 400 t_tape_bytes, oc3 q1 (fun j => qs4 (j + 1)) x4 0 x5, ic E (qs4 1) 80 f2, ic E (qs4 2) 80 f3, ic E (qs4 3) 40 (fun _ => (0 : Int32))]) [0, 1, 2, 3, 4, 5, 6, 7] (by decide) rfl
    exact hQ _ _ _ _ _ (f2, f3, x4, 0, x5, x9, x10, x6, x7) (fun j => if j = 1 then q1 else if j = 101 then (qs4 1) else if j = 102 then (qs4 2) else if j = 103 then (qs4 3) else 0) hf rfl w dX7_drift_37
  · have hf := pf_t c20 hf
    exact pf_no hf