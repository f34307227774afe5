set_option maxHeartbeats 8000000 in
set_option maxRecDepth 100000 in
theorem ct_X7_bench (l : Launch) (E : hm_E) (sz : Nat) (h0 : Nat) (r_t : Nat → Nat) (r_t_acts : Nat → Nat) (r_t_latest : Nat → Nat) (r_t_now : Nat → Nat) (d_t_now : Nat) (r_t_passing : Nat → Nat) (r_t_tape : Nat → Nat) (r_t_now_drift : Nat → Nat) (t_writtenCount t_faultPlace t_acts_count t_acts_done t_acts_ended t_latest_bits t_latest_sum t_latest_heldAtEnd t_latest_left t_latest_lates t_latest_ones t_latest_code t_now_bits t_now_offset t_now_band t_now_rule t_now_noise t_now_step t_now_draws t_now_heat t_now_hour t_now_seenCount t_passing_bits t_passing_sum t_passing_heldAtEnd t_passing_left t_passing_lates t_passing_ones t_passing_code t_tape_count t_tape_at t_tape_fault t_now_drift_steps t_now_drift_height t_now_drift_things : Int32) (t_acts_kind : Nat → Int32) (t_acts_one : Nat → Int32) (t_acts_told : Nat → Int32) (t_acts_two : Nat → Int32) (t_latest_apart : Nat → Int32) (t_latest_held : Nat → Int32) (t_latest_late : Nat → Int32) (t_latest_one : Nat → Int32) (t_now_drift_kind : Nat → Int32) (t_now_drift_stack : Nat → Int32) (t_now_drift_value : Nat → Int32) (t_now_off : Nat → Int32) (t_now_size : Nat → Int32) (t_now_stuck : Nat → Int32) (t_now_worth : Nat → Int32) (t_passing_apart : Nat → Int32) (t_passing_held : Nat → Int32) (t_passing_late : Nat → Int32) (t_passing_one : Nat → Int32) (t_tape_bytes : Nat → Int32) (R : Int32 × Int32 × Int32 × (Nat → Int32) × (Nat → Int32) × (Nat → Int32) × Int32 × (Nat → Int32) × Int32 × Int32 × (Nat → Int32) × (Nat → Int32) × (Nat → Int32) × (Nat → Int32) × Int32 × Int32 × Int32 × Int32 × Int32 × Int32 × (Nat → Int32) × (Nat → Int32) × (Nat → Int32) × Int32 × Int32 × Int32 × (Nat → Int32) × Int32 × Int32 × (Nat → Int32) × (Nat → Int32) × (Nat → Int32) × (Nat → Int32) × Int32 × Int32 × Int32 × Int32 × Int32 × Int32 × Int32 × Int32 × Int32) (hf : pf_X7_bench t_acts_kind t_acts_one t_acts_two t_acts_done t_acts_told t_acts_ended t_latest_bits t_latest_one t_latest_late t_latest_apart t_latest_held t_latest_sum t_latest_heldAtEnd t_latest_left t_latest_lates t_latest_ones t_latest_code t_now_bits t_now_size t_now_off t_now_worth t_now_stuck t_now_offset t_now_band t_now_rule t_now_noise t_now_step t_now_draws t_now_heat t_now_hour t_now_drift_kind t_now_drift_value t_now_drift_stack t_now_drift_steps t_now_drift_height t_passing_bits t_passing_one t_passing_late t_passing_apart t_passing_held t_passing_sum t_passing_heldAtEnd t_passing_left t_passing_lates t_passing_ones t_passing_code t_tape_bytes t_tape_count = some R) : hm_Mi l E yX7_bench cX7_bench 3 .int [] (hm_rr 6 145 0 0) [.ref h0] sz [oc7 h0 r_t t_writtenCount t_faultPlace, oc0 (r_t 7) r_t_acts t_acts_count t_acts_done t_acts_ended, oc1 (r_t 4) r_t_latest t_latest_bits t_latest_sum t_latest_heldAtEnd t_latest_left t_latest_lates t_latest_ones t_latest_code, oc2 (r_t 1) r_t_now d_t_now t_now_bits t_now_offset t_now_band t_now_rule t_now_noise t_now_step t_now_draws t_now_heat t_now_hour t_now_seenCount, oc1 (r_t 5) r_t_passing t_passing_bits t_passing_sum t_passing_heldAtEnd t_passing_left t_passing_lates t_passing_ones t_passing_code, oc5 (r_t 0) r_t_tape t_tape_count t_tape_at t_tape_fault, oc3 d_t_now r_t_now_drift t_now_drift_steps t_now_drift_height t_now_drift_things, ic E (r_t_acts 1) 40 t_acts_kind, ic E (r_t_acts 2) 40 t_acts_one, ic E (r_t_acts 5) 40 t_acts_told, ic E (r_t_acts 3) 40 t_acts_two, ic E (r_t_latest 3) 12 t_latest_apart, ic E (r_t_latest 4) 12 t_latest_held, ic E (r_t_latest 2) 12 t_latest_late, ic E (r_t_latest 1) 12 t_latest_one, ic E (r_t_now_drift 0) 80 t_now_drift_kind, ic E (r_t_now_drift 2) 40 t_now_drift_stack, ic E (r_t_now_drift 1) 80 t_now_drift_value, ic E (r_t_now 2) 12 t_now_off, ic E (r_t_now 1) 12 t_now_size, ic E (r_t_now 4) 12 t_now_stuck, ic E (r_t_now 3) 12 t_now_worth, ic E (r_t_passing 3) 12 t_passing_apart, ic E (r_t_passing 4) 12 t_passing_held, ic E (r_t_passing 2) 12 t_passing_late, ic E (r_t_passing 1) 12 t_passing_one, ic E (r_t_tape 0) 400 t_tape_bytes] R.1 (fun _ => [oc7 h0 r_t t_writtenCount (R.2.1), oc0 (r_t 7) r_t_acts (R.2.2.1) (R.2.2.2.2.2.2.1) (R.2.2.2.2.2.2.2.2.1), oc1 (r_t 4) r_t_latest (R.2.2.2.2.2.2.2.2.2.1) (R.2.2.2.2.2.2.2.2.2.2.2.2.2.2.1) (R.2.2.2.2.2.2.2.2.2.2.2.2.2.2.2.1) (R.2.2.2.2.2.2.2.2.2.2.2.2.2.2.2.2.1) (R.2.2.2.2.2.2.2.2.2.2.2.2.2.2.2.2.2.1) (R.2.2.2.2.2.2.2.2.2.2.2.2.2.2.2.2.2.2.1) (R.2.2.2.2.2.2.2.2.2.2.2.2.2.2.2.2.2.2.2.1), oc2 (r_t 1) r_t_now d_t_now t_now_bits t_now_offset t_now_band t_now_rule t_now_noise t_now_step (R.2.2.2.2.2.2.2.2.2.2.2.2.2.2.2.2.2.2.2.2.2.2.2.1) (R.2.2.2.2.2.2.2.2.2.2.2.2.2.2.2.2.2.2.2.2.2.2.2.2.1) (R.2.2.2.2.2.2.2.2.2.2.2.2.2.2.2.2.2.2.2.2.2.2.2.2.2.1) t_now_seenCount, oc1 (r_t 5) r_t_passing (R.2.2.2.2.2.2.2.2.2.2.2.2.2.2.2.2.2.2.2.2.2.2.2.2.2.2.2.2.1) (R.2.2.2.2.2.2.2.2.2.2.2.2.2.2.2.2.2.2.2.2.2.2.2.2.2.2.2.2.2.2.2.2.2.1) (R.2.2.2.2.2.2.2.2.2.2.2.2.2.2.2.2.2.2.2.2.2.2.2.2.2.2.2.2.2.2.2.2.2.2.1) (R.2.2.2.2.2.2.2.2.2.2.2.2.2.2.2.2.2.2.2.2.2.2.2.2.2.2.2.2.2.2.2.2.2.2.2.1) (R.2.2.2.2.2.2.2.2.2.2.2.2.2.2.2.2.2.2.2.2.2.2.2.2.2.2.2.2.2.2.2.2.2.2.2.2.1) (R.2.2.2.2.2.2.2.2.2.2.2.2.2.2.2.2.2.2.2.2.2.2.2.2.2.2.2.2.2.2.2.2.2.2.2.2.2.1) (R.2.2.2.2.2.2.2.2.2.2.2.2.2.2.2.2.2.2.2.2.2.2.2.2.2.2.2.2.2.2.2.2.2.2.2.2.2.2.1), oc5 (r_t 0) r_t_tape (R.2.2.2.2.2.2.2.2.2.2.2.2.2.2.2.2.2.2.2.2.2.2.2.2.2.2.2.2.2.2.2.2.2.2.2.2.2.2.2.1) (R.2.2.2.2.2.2.2.2.2.2.2.2.2.2.2.2.2.2.2.2.2.2.2.2.2.2.2.2.2.2.2.2.2.2.2.2.2.2.2.2.1) (R.2.2.2.2.2.2.2.2.2.2.2.2.2.2.2.2.2.2.2.2.2.2.2.2.2.2.2.2.2.2.2.2.2.2.2.2.2.2.2.2.2), oc3 d_t_now r_t_now_drift t_now_drift_steps (R.2.2.2.2.2.2.2.2.2.2.2.2.2.2.2.2.2.2.2.2.2.2.2.2.2.2.2.1) t_now_drift_things, ic E (r_t_acts 1) 40 (R.2.2.2.1), ic E (r_t_acts 2) 40 (R.2.2.2.2.1), ic E (r_t_acts 5) 40 (R.2.2.2.2.2.2.2.1), ic E (r_t_acts 3) 40 (R.2.2.2.2.2.1), ic E (r_t_latest 3) 12 (R.2.2.2.2.2.2.2.2.2.2.2.2.1), ic E (r_t_latest 4) 12 (R.2.2.2.2.2.2.2.2.2.2.2.2.2.1), ic E (r_t_latest 2) 12 (R.2.2.2.2.2.2.2.2.2.2.2.1), ic E (r_t_latest 1) 12 (R.2.2.2.2.2.2.2.2.2.2.1), ic E (r_t_now_drift 0) 80 t_now_drift_kind, ic E (r_t_now_drift 2) 40 (R.2.2.2.2.2.2.2.2.2.2.2.2.2.2.2.2.2.2.2.2.2.2.2.2.2.2.1), ic E (r_t_now_drift 1) 80 t_now_drift_value, ic E (r_t_now 2) 12 (R.2.2.2.2.2.2.2.2.2.2.2.2.2.2.2.2.2.2.2.2.1), ic E (r_t_now 1) 12 t_now_size, ic E (r_t_now 4) 12 (R.2.2.2.2.2.2.2.2.2.2.2.2.2.2.2.2.2.2.2.2.2.2.1), ic E (r_t_now 3) 12 (R.2.2.2.2.2.2.2.2.2.2.2.2.2.2.2.2.2.2.2.2.2.1), ic E (r_t_passing 3) 12 (R.2.2.2.2.2.2.2.2.2.2.2.2.2.2.2.2.2.2.2.2.2.2.2.2.2.2.2.2.2.2.2.1), ic E (r_t_passing 4) 12 (R.2.2.2.2.2.2.2.2.2.2.2.2.2.2.2.2.2.2.2.2.2.2.2.2.2.2.2.2.2.2.2.2.1), ic E (r_t_passing 2) 12 (R.2.2.2.2.2.2.2.2.2.2.2.2.2.2.2.2.2.2.2.2.2.2.2.2.2.2.2.2.2.2.1), ic E (r_t_passing 1) 12 (R.2.2.2.2.2.2.2.2.2.2.2.2.2.2.2.2.2.2.2.2.2.2.2.2.2.2.2.2.2.1), ic E (r_t_tape 0) 400 t_tape_bytes]) := by
  refine hm_ct_i R (fun u qs => [oc7 h0 r_t t_writtenCount (u.1), oc0 (r_t 7) r_t_acts (u.2.1) (u.2.2.2.2.2.1) (u.2.2.2.2.2.2.2.1), oc1 (r_t 4) r_t_latest (u.2.2.2.2.2.2.2.2.1) (u.2.2.2.2.2.2.2.2.2.2.2.2.2.1) (u.2.2.2.2.2.2.2.2.2.2.2.2.2.2.1) (u.2.2.2.2.2.2.2.2.2.2.2.2.2.2.2.1) (u.2.2.2.2.2.2.2.2.2.2.2.2.2.2.2.2.1) (u.2.2.2.2.2.2.2.2.2.2.2.2.2.2.2.2.2.1) (u.2.2.2.2.2.2.2.2.2.2.2.2.2.2.2.2.2.2.1), oc2 (r_t 1) r_t_now d_t_now t_now_bits t_now_offset t_now_band t_now_rule t_now_noise t_now_step (u.2.2.2.2.2.2.2.2.2.2.2.2.2.2.2.2.2.2.2.2.2.2.1) (u.2.2.2.2.2.2.2.2.2.2.2.2.2.2.2.2.2.2.2.2.2.2.2.1) (u.2.2.2.2.2.2.2.2.2.2.2.2.2.2.2.2.2.2.2.2.2.2.2.2.1) t_now_seenCount, oc1 (r_t 5) r_t_passing (u.2.2.2.2.2.2.2.2.2.2.2.2.2.2.2.2.2.2.2.2.2.2.2.2.2.2.2.1) (u.2.2.2.2.2.2.2.2.2.2.2.2.2.2.2.2.2.2.2.2.2.2.2.2.2.2.2.2.2.2.2.2.1) (u.2.2.2.2.2.2.2.2.2.2.2.2.2.2.2.2.2.2.2.2.2.2.2.2.2.2.2.2.2.2.2.2.2.1) (u.2.2.2.2.2.2.2.2.2.2.2.2.2.2.2.2.2.2.2.2.2.2.2.2.2.2.2.2.2.2.2.2.2.2.1) (u.2.2.2.2.2.2.2.2.2.2.2.2.2.2.2.2.2.2.2.2.2.2.2.2.2.2.2.2.2.2.2.2.2.2.2.1) (u.2.2.2.2.2.2.2.2.2.2.2.2.2.2.2.2.2.2.2.2.2.2.2.2.2.2.2.2.2.2.2.2.2.2.2.2.1) (u.2.2.2.2.2.2.2.2.2.2.2.2.2.2.2.2.2.2.2.2.2.2.2.2.2.2.2.2.2.2.2.2.2.2.2.2.2.1), oc5 (r_t 0) r_t_tape (u.2.2.2.2.2.2.2.2.2.2.2.2.2.2.2.2.2.2.2.2.2.2.2.2.2.2.2.2.2.2.2.2.2.2.2.2.2.2.1) (u.2.2.2.2.2.2.2.2.2.2.2.2.2.2.2.2.2.2.2.2.2.2.2.2.2.2.2.2.2.2.2.2.2.2.2.2.2.2.2.1) (u.2.2.2.2.2.2.2.2.2.2.2.2.2.2.2.2.2.2.2.2.2.2.2.2.2.2.2.2.2.2.2.2.2.2.2.2.2.2.2.2), oc3 d_t_now r_t_now_drift t_now_drift_steps (u.2.2.2.2.2.2.2.2.2.2.2.2.2.2.2.2.2.2.2.2.2.2.2.2.2.2.1) t_now_drift_things, ic E (r_t_acts 1) 40 (u.2.2.1), ic E (r_t_acts 2) 40 (u.2.2.2.1), ic E (r_t_acts 5) 40 (u.2.2.2.2.2.2.1), ic E (r_t_acts 3) 40 (u.2.2.2.2.1), ic E (r_t_latest 3) 12 (u.2.2.2.2.2.2.2.2.2.2.2.1), ic E (r_t_latest 4) 12 (u.2.2.2.2.2.2.2.2.2.2.2.2.1), ic E (r_t_latest 2) 12 (u.2.2.2.2.2.2.2.2.2.2.1), ic E (r_t_latest 1) 12 (u.2.2.2.2.2.2.2.2.2.1), ic E (r_t_now_drift 0) 80 t_now_drift_kind, ic E (r_t_now_drift 2) 40 (u.2.2.2.2.2.2.2.2.2.2.2.2.2.2.2.2.2.2.2.2.2.2.2.2.2.1), ic E (r_t_now_drift 1) 80 t_now_drift_value, ic E (r_t_now 2) 12 (u.2.2.2.2.2.2.2.2.2.2.2.2.2.2.2.2.2.2.2.1), ic E (r_t_now 1) 12 t_now_size, ic E (r_t_now 4) 12 (u.2.2.2.2.2.2.2.2.2.2.2.2.2.2.2.2.2.2.2.2.2.1), ic E (r_t_now 3) 12 (u.2.2.2.2.2.2.2.2.2.2.2.2.2.2.2.2.2.2.2.2.1), ic E (r_t_passing 3) 12 (u.2.2.2.2.2.2.2.2.2.2.2.2.2.2.2.2.2.2.2.2.2.2.2.2.2.2.2.2.2.2.1), ic E (r_t_passing 4) 12 (u.2.2.2.2.2.2.2.2.2.2.2.2.2.2.2.2.2.2.2.2.2.2.2.2.2.2.2.2.2.2.2.1), ic E (r_t_passing 2) 12 (u.2.2.2.2.2.2.2.2.2.2.2.2.2.2.2.2.2.2.2.2.2.2.2.2.2.2.2.2.2.1), ic E (r_t_passing 1) 12 (u.2.2.2.2.2.2.2.2.2.2.2.2.2.2.2.2.2.2.2.2.2.2.2.2.2.2.2.2.1), ic E (r_t_tape 0) 400 t_tape_bytes]) (by decide) (Nat.le_of_ble_eq_true rfl) (Or.inl rfl) ?_
  intro p e s m args below meth c A Q ls H locs hx hb hml hown X hA Y hex w hl hQ
  have hl : lv_has ls 3 [(0, .ref h0)] := hl
  unfold pf_X7_bench at hf
  refine lv_aload_n hx hb dX7_bench_0 rfl (lv_at hl 0 rfl) ?_
  refine hm_get cb_X7 hx hb hown X w 0 7 fl_X7_50 dX7_bench_1 rfl (by decide) rfl ?_
  refine lv_aload_n hx hb dX7_bench_4 rfl (lv_at hl 0 rfl) ?_
  refine hm_get cb_X7 hx hb hown X w 0 0 fl_X7_10 dX7_bench_5 rfl (by decide) rfl ?_
  obtain ⟨x1, f2, f3, f4, x5, x6, hc8, hf⟩ := pf_bv_6 hf
  refine hm_aft_v (ws' := fun _ => [oc7 h0 r_t t_writtenCount t_faultPlace, oc0 (r_t 7) r_t_acts x1 t_acts_done t_acts_ended, oc1 (r_t 4) r_t_latest t_latest_bits t_latest_sum t_latest_heldAtEnd t_latest_left t_latest_lates t_latest_ones t_latest_code, oc2 (r_t 1) r_t_now d_t_now t_now_bits t_now_offset t_now_band t_now_rule t_now_noise t_now_step t_now_draws t_now_heat t_now_hour t_now_seenCount, oc1 (r_t 5) r_t_passing t_passing_bits t_passing_sum t_passing_heldAtEnd t_passing_left t_passing_lates t_passing_ones t_passing_code, oc5 (r_t 0) r_t_tape t_tape_count x5 x6, oc3 d_t_now r_t_now_drift t_now_drift_steps t_now_drift_height t_now_drift_things, ic E (r_t_acts 1) 40 f2, ic E (r_t_acts 2) 40 f3, ic E (r_t_acts 5) 40 t_acts_told, ic E (r_t_acts 3) 40 f4, ic E (r_t_latest 3) 12 t_latest_apart, ic E (r_t_latest 4) 12 t_latest_held, ic E (r_t_latest 2) 12 t_latest_late, ic E (r_t_latest 1) 12 t_latest_one, ic E (r_t_now_drift 0) 80 t_now_drift_kind, ic E (r_t_now_drift 2) 40 t_now_drift_stack, ic E (r_t_now_drift 1) 80 t_now_drift_value, ic E (r_t_now 2) 12 t_now_off, ic E (r_t_now 1) 12 t_now_size, ic E (r_t_now 4) 12 t_now_stuck, ic E (r_t_now 3) 12 t_now_worth, ic E (r_t_passing 3) 12 t_passing_apart, ic E (r_t_passing 4) 12 t_passing_held, ic E (r_t_passing 2) 12 t_passing_late, ic E (r_t_passing 1) 12 t_passing_one, ic E (r_t_tape 0) 400 t_tape_bytes]) (hm_runV (rest := []) hx hb hml hown X hA Y w 1 (ci := 0) (T := TX0) (N := 7) rfl rfl mw_X0_read ml_X7_109 dX7_bench_8 hm_ac0 [.ref (r_t 0)] rfl [1, 5, 7, 8, 10, 26] rfl rfl (ct_X0_read l E H.size (r_t 7) (r_t 0) r_t_acts r_t_tape t_acts_count t_acts_done t_acts_ended t_tape_count t_tape_at t_tape_fault t_acts_kind t_acts_one t_acts_two t_tape_bytes (x1, f2, f3, f4, x5, x6) hc8) rfl hl.1 ⟨⟨rfl, rfl⟩, ⟨Nat.le_of_ble_eq_true rfl, Nat.le_of_ble_eq_true rfl⟩, ⟨Nat.le_of_ble_eq_true rfl, Nat.le_of_ble_eq_true rfl⟩, Nat.le_of_ble_eq_true rfl⟩) hA w [1, 5, 7, 8, 10, 26] [0, 2, 3, 4, 6, 9, 11, 12, 13, 14, 15, 16, 17, 18, 19, 20, 21, 22, 23, 24, 25] [0, 21, 1, 2, 3, 22, 4, 23, 24, 5, 25, 6, 7, 8, 9, 10, 11, 12, 13, 14, 15, 16, 17, 18, 19, 20, 26] rfl rfl (by decide) (fun _ => rfl) (fun _ H locs w => ?_)
  refine lv_aload_n hx hb dX7_bench_11 rfl (lv_at hl 0 rfl) ?_
  obtain ⟨r7, x8, x9, hc12, hf⟩ := pf_bi_2 hf
  refine hm_aft_i (ws' := fun _ => [oc7 h0 r_t t_writtenCount x8, oc0 (r_t 7) r_t_acts x1 t_acts_done t_acts_ended, oc1 (r_t 4) r_t_latest t_latest_bits t_latest_sum t_latest_heldAtEnd t_latest_left t_latest_lates t_latest_ones t_latest_code, oc2 (r_t 1) r_t_now d_t_now t_now_bits t_now_offset t_now_band t_now_rule t_now_noise t_now_step t_now_draws t_now_heat t_now_hour t_now_seenCount, oc1 (r_t 5) r_t_passing t_passing_bits t_passing_sum t_passing_heldAtEnd t_passing_left t_passing_lates t_passing_ones t_passing_code, oc5 (r_t 0) r_t_tape x9 x5 x6, oc3 d_t_now r_t_now_drift t_now_drift_steps t_now_drift_height t_now_drift_things, ic E (r_t_acts 1) 40 f2, ic E (r_t_acts 2) 40 f3, ic E (r_t_acts 5) 40 t_acts_told, ic E (r_t_acts 3) 40 f4, ic E (r_t_latest 3) 12 t_latest_apart, ic E (r_t_latest 4) 12 t_latest_held, ic E (r_t_latest 2) 12 t_latest_late, ic E (r_t_latest 1) 12 t_latest_one, ic E (r_t_now_drift 0) 80 t_now_drift_kind, ic E (r_t_now_drift 2) 40 t_now_drift_stack, ic E (r_t_now_drift 1) 80 t_now_drift_value, ic E (r_t_now 2) 12 t_now_off, ic E (r_t_now 1) 12 t_now_size, ic E (r_t_now 4) 12 t_now_stuck, ic E (r_t_now 3) 12 t_now_worth, ic E (r_t_passing 3) 12 t_passing_apart, ic E (r_t_passing 4) 12 t_passing_held, ic E (r_t_passing 2) 12 t_passing_late, ic E (r_t_passing 1) 12 t_passing_one, ic E (r_t_tape 0) 400 t_tape_bytes]) (hm_runV (rest := []) hx hb hml hown X hA Y w 0 (ci := 6) (T := TX7) (N := 11) rfl rfl mw_X7_leaveTape ml_X7_81 dX7_bench_12 hm_ac0 [] rfl [0, 5] rfl rfl (ct_X7_leaveTape l E H.size h0 r_t r_t_tape t_writtenCount t_faultPlace t_tape_count x5 x6 (r7, x8, x9) hc12) rfl hl.1 ⟨⟨rfl, rfl⟩, ⟨Nat.le_of_ble_eq_true rfl, Nat.le_of_ble_eq_true rfl⟩, ⟨Nat.le_of_ble_eq_true rfl, Nat.le_of_ble_eq_true rfl⟩, Nat.le_of_ble_eq_true rfl⟩) hA w [0, 5] [1, 2, 3, 4, 6, 7, 8, 9, 10, 11, 12, 13, 14, 15, 16, 17, 18, 19, 20, 21, 22, 23, 24, 25, 26] [25, 0, 1, 2, 3, 26, 4, 5, 6, 7, 8, 9, 10, 11, 12, 13, 14, 15, 16, 17, 18, 19, 20, 21, 22, 23, 24] rfl rfl (by decide) (fun _ => rfl) (fun _ H locs w => ?_)
  refine lv_if_ne (tgt := 20) hx hb dX7_bench_15 (by decide) (fun c15 => ?_) (fun c15 => ?_)
  · have hf := pf_e c15 hf
    refine lv_aload_n hx hb dX7_bench_20 rfl (lv_at hl 0 rfl) ?_
    refine hm_get cb_X7 hx hb hown X w 0 7 fl_X7_50 dX7_bench_21 rfl (by decide) rfl ?_
    obtain ⟨x10, x11, hc24, hf⟩ := pf_bv_2 hf
    refine hm_aft_v (ws' := fun _ => [oc7 h0 r_t t_writtenCount x8, oc0 (r_t 7) r_t_acts x1 x10 x11, oc1 (r_t 4) r_t_latest t_latest_bits t_latest_sum t_latest_heldAtEnd t_latest_left t_latest_lates t_latest_ones t_latest_code, oc2 (r_t 1) r_t_now d_t_now t_now_bits t_now_offset t_now_band t_now_rule t_now_noise t_now_step t_now_draws t_now_heat t_now_hour t_now_seenCount, oc1 (r_t 5) r_t_passing t_passing_bits t_passing_sum t_passing_heldAtEnd t_passing_left t_passing_lates t_passing_ones t_passing_code, oc5 (r_t 0) r_t_tape x9 x5 x6, oc3 d_t_now r_t_now_drift t_now_drift_steps t_now_drift_height t_now_drift_things, ic E (r_t_acts 1) 40 f2, ic E (r_t_acts 2) 40 f3, ic E (r_t_acts 5) 40 t_acts_told, ic E (r_t_acts 3) 40 f4, ic E (r_t_latest 3) 12 t_latest_apart, ic E (r_t_latest 4) 12 t_latest_held, ic E (r_t_latest 2) 12 t_latest_late, ic E (r_t_latest 1) 12 t_latest_one, ic E (r_t_now_drift 0) 80 t_now_drift_kind, ic E (r_t_now_drift 2) 40 t_now_drift_stack, ic E (r_t_now_drift 1) 80 t_now_drift_value, ic E (r_t_now 2) 12 t_now_off, ic E (r_t_now 1) 12 t_now_size, ic E (r_t_now 4) 12 t_now_stuck, ic E (r_t_now 3) 12 t_now_worth, ic E (r_t_passing 3) 12 t_passing_apart, ic E (r_t_passing 4) 12 t_passing_held, ic E (r_t_passing 2) 12 t_passing_late, ic E (r_t_passing 1) 12 t_passing_one, ic E (r_t_tape 0) 400 t_tape_bytes]) (hm_runV (rest := []) hx hb hml hown X hA Y w 1 (ci := 0) (T := TX0) (N := 7) rfl rfl mw_X0_begin ml_X7_110 dX7_bench_24 hm_ac0 [] rfl [1] rfl rfl (ct_X0_begin l E H.size (r_t 7) r_t_acts x1 t_acts_done t_acts_ended (x10, x11) hc24) rfl hl.1 ⟨⟨rfl, rfl⟩, ⟨Nat.le_of_ble_eq_true rfl, Nat.le_of_ble_eq_true rfl⟩, ⟨Nat.le_of_ble_eq_true rfl, Nat.le_of_ble_eq_true rfl⟩, Nat.le_of_ble_eq_true rfl⟩) hA w [1] [0, 2, 3, 4, 5, 6, 7, 8, 9, 10, 11, 12, 13, 14, 15, 16, 17, 18, 19, 20, 21, 22, 23, 24, 25, 26] [0, 26, 1, 2, 3, 4, 5, 6, 7, 8, 9, 10, 11, 12, 13, 14, 15, 16, 17, 18, 19, 20, 21, 22, 23, 24, 25] rfl rfl (by decide) (fun _ => rfl) (fun _ H locs w => ?_)
    refine lv_iconst (v := (-1)) hx hb dX7_bench_27 (by decide) ?_
    refine lv_istore_n (lv' := [(1, .int (-1)), (0, .ref h0)]) hx hb dX7_bench_28 rfl hl (by decide) rfl (fun ls hl => ?_)
    refine lv_iconst (v := 0) hx hb dX7_bench_29 (by decide) ?_
    refine lv_istore_n (lv' := [(2, .int 0), (1, .int (-1)), (0, .ref h0)]) hx hb dX7_bench_30 rfl hl (by decide) rfl (fun ls hl => ?_)
    obtain ⟨J80, hJ80, hf⟩ := pf_jn hf
    have kJ80 : ∀ (x12 : Int32) (x13 : Int32) (f14 : Nat → Int32) (x15 : Int32) (f16 : Nat → Int32) (f17 : Nat → Int32) (f18 : Nat → Int32) (f19 : Nat → Int32) (x20 : Int32) (x21 : Int32) (x22 : Int32) (x23 : Int32) (x24 : Int32) (x25 : Int32) (f26 : Nat → Int32) (f27 : Nat → Int32) (f28 : Nat → Int32) (x29 : Int32) (x30 : Int32) (x31 : Int32) (f32 : Nat → Int32) (x33 : Int32) (x34 : Int32) (f35 : Nat → Int32) (f36 : Nat → Int32) (f37 : Nat → Int32) (f38 : Nat → Int32) (x39 : Int32) (x40 : Int32) (x41 : Int32) (x42 : Int32) (x43 : Int32) (x44 : Int32) (H : Heap) (locs : List Loc) (ls : Array Slot), J80 x12 x13 f14 x15 f16 f17 f18 f19 x20 x21 x22 x23 x24 x25 f26 f27 f28 x29 x30 x31 f32 x33 x34 f35 f36 f37 f38 x39 x40 x41 x42 x43 x44 = some R → hm_W E A s.heap [oc7 h0 r_t t_writtenCount x8, oc0 (r_t 7) r_t_acts x1 x13 x11, oc1 (r_t 4) r_t_latest x15 x20 x21 x22 x23 x24 x25, oc2 (r_t 1) r_t_now d_t_now t_now_bits t_now_offset t_now_band t_now_rule t_now_noise t_now_step x29 x30 x31 t_now_seenCount, oc1 (r_t 5) r_t_passing x34 x39 x40 x41 x42 x43 x44, oc5 (r_t 0) r_t_tape x9 x5 x6, oc3 d_t_now r_t_now_drift t_now_drift_steps x33 t_now_drift_things, ic E (r_t_acts 1) 40 f2, ic E (r_t_acts 2) 40 f3, ic E (r_t_acts 5) 40 f14, ic E (r_t_acts 3) 40 f4, ic E (r_t_latest 3) 12 f18, ic E (r_t_latest 4) 12 f19, ic E (r_t_latest 2) 12 f17, ic E (r_t_latest 1) 12 f16, ic E (r_t_now_drift 0) 80 t_now_drift_kind, ic E (r_t_now_drift 2) 40 f32, ic E (r_t_now_drift 1) 80 t_now_drift_value, ic E (r_t_now 2) 12 f26, ic E (r_t_now 1) 12 t_now_size, ic E (r_t_now 4) 12 f28, ic E (r_t_now 3) 12 f27, ic E (r_t_passing 3) 12 f37, ic E (r_t_passing 4) 12 f38, ic E (r_t_passing 2) 12 f36, ic E (r_t_passing 1) 12 f35, ic E (r_t_tape 0) 400 t_tape_bytes] H locs → lv_has ls 3 [(0, .ref h0), (2, .int x12)] → W p l e (hm_rr 6 145 0 0) s m args below meth c H locs 0 0 Q (F0 m 80 ls []) := by
      intro x12 x13 f14 x15 f16 f17 f18 f19 x20 x21 x22 x23 x24 x25 f26 f27 f28 x29 x30 x31 f32 x33 x34 f35 f36 f37 f38 x39 x40 x41 x42 x43 x44 H locs ls hf w hl
      have hf := pf_j33 hJ80 hf
      refine lv_aload_n hx hb dX7_bench_80 rfl (lv_at hl 0 rfl) ?_
      refine hm_get cb_X7 hx hb hown X w 0 7 fl_X7_50 dX7_bench_81 rfl (by decide) rfl ?_
      refine lv_iload_n hx hb dX7_bench_84 rfl (lv_at hl 1 rfl) ?_
      refine hm_put (ws' := [oc7 h0 r_t t_writtenCount x8, oc0 (r_t 7) r_t_acts x1 x13 x12, oc1 (r_t 4) r_t_latest x15 x20 x21 x22 x23 x24 x25, oc2 (r_t 1) r_t_now d_t_now t_now_bits t_now_offset t_now_band t_now_rule t_now_noise t_now_step x29 x30 x31 t_now_seenCount, oc1 (r_t 5) r_t_passing x34 x39 x40 x41 x42 x43 x44, oc5 (r_t 0) r_t_tape x9 x5 x6, oc3 d_t_now r_t_now_drift t_now_drift_steps x33 t_now_drift_things, ic E (r_t_acts 1) 40 f2, ic E (r_t_acts 2) 40 f3, ic E (r_t_acts 5) 40 f14, ic E (r_t_acts 3) 40 f4, ic E (r_t_latest 3) 12 f18, ic E (r_t_latest 4) 12 f19, ic E (r_t_latest 2) 12 f17, ic E (r_t_latest 1) 12 f16, ic E (r_t_now_drift 0) 80 t_now_drift_kind, ic E (r_t_now_drift 2) 40 f32, ic E (r_t_now_drift 1) 80 t_now_drift_value, ic E (r_t_now 2) 12 f26, ic E (r_t_now 1) 12 t_now_size, ic E (r_t_now 4) 12 f28, ic E (r_t_now 3) 12 f27, ic E (r_t_passing 3) 12 f37, ic E (r_t_passing 4) 12 f38, ic E (r_t_passing 2) 12 f36, ic E (r_t_passing 1) 12 f35, ic E (r_t_tape 0) 400 t_tape_bytes]) cb_X0 hx hb hown X w 1 6 fl_X7_127 dX7_bench_85 rfl (by decide) (Nat.le_of_ble_eq_true rfl) rfl rfl rfl rfl (fun H locs w => ?_)
      refine lv_aload_n hx hb dX7_bench_88 rfl (lv_at hl 0 rfl) ?_
      refine hm_get cb_X7 hx hb hown X w 0 7 fl_X7_50 dX7_bench_89 rfl (by decide) rfl ?_
      refine hm_get cb_X0 hx hb hown X w 1 4 fl_X7_130 dX7_bench_92 rfl (by decide) rfl ?_
      exact hQ _ _ _ _ _ (x8, x1, f2, f3, f4, x13, f14, x12, x15, f16, f17, f18, f19, x20, x21, x22, x23, x24, x25, f26, f27, f28, x29, x30, x31, f32, x33, x34, f35, f36, f37, f38, x39, x40, x41, x42, x43, x44, x9, x5, x6) (fun _ => 0) hf rfl w dX7_bench_95
    have klp_X7_bench_31 : ∀ (n : Nat) (x45 : Int32) (x46 : Int32) (x47 : Int32) (f48 : Nat → Int32) (x49 : Int32) (f50 : Nat → Int32) (f51 : Nat → Int32) (f52 : Nat → Int32) (f53 : Nat → Int32) (x54 : Int32) (x55 : Int32) (x56 : Int32) (x57 : Int32) (x58 : Int32) (x59 : Int32) (f60 : Nat → Int32) (f61 : Nat → Int32) (f62 : Nat → Int32) (x63 : Int32) (x64 : Int32) (x65 : Int32) (f66 : Nat → Int32) (x67 : Int32) (x68 : Int32) (f69 : Nat → Int32) (f70 : Nat → Int32) (f71 : Nat → Int32) (f72 : Nat → Int32) (x73 : Int32) (x74 : Int32) (x75 : Int32) (x76 : Int32) (x77 : Int32) (x78 : Int32) (H : Heap) (locs : List Loc) (ls : Array Slot), lp_X7_bench_31 t_now_bits t_now_offset t_now_band t_now_rule t_now_noise t_now_step t_now_drift_steps t_now_drift_kind t_now_drift_value t_now_size x1 f2 f3 f4 x5 x6 x8 x9 x11 J80 n x45 x46 x47 f48 x49 f50 f51 f52 f53 x54 x55 x56 x57 x58 x59 f60 f61 f62 x63 x64 x65 f66 x67 x68 f69 f70 f71 f72 x73 x74 x75 x76 x77 x78 = some R → hm_W E A s.heap [oc7 h0 r_t t_writtenCount x8, oc0 (r_t 7) r_t_acts x1 x47 x11, oc1 (r_t 4) r_t_latest x49 x54 x55 x56 x57 x58 x59, oc2 (r_t 1) r_t_now d_t_now t_now_bits t_now_offset t_now_band t_now_rule t_now_noise t_now_step x63 x64 x65 t_now_seenCount, oc1 (r_t 5) r_t_passing x68 x73 x74 x75 x76 x77 x78, oc5 (r_t 0) r_t_tape x9 x5 x6, oc3 d_t_now r_t_now_drift t_now_drift_steps x67 t_now_drift_things, ic E (r_t_acts 1) 40 f2, ic E (r_t_acts 2) 40 f3, ic E (r_t_acts 5) 40 f48, ic E (r_t_acts 3) 40 f4, ic E (r_t_latest 3) 12 f52, ic E (r_t_latest 4) 12 f53, ic E (r_t_latest 2) 12 f51, ic E (r_t_latest 1) 12 f50, ic E (r_t_now_drift 0) 80 t_now_drift_kind, ic E (r_t_now_drift 2) 40 f66, ic E (r_t_now_drift 1) 80 t_now_drift_value, ic E (r_t_now 2) 12 f60, ic E (r_t_now 1) 12 t_now_size, ic E (r_t_now 4) 12 f62, ic E (r_t_now 3) 12 f61, ic E (r_t_passing 3) 12 f71, ic E (r_t_passing 4) 12 f72, ic E (r_t_passing 2) 12 f70, ic E (r_t_passing 1) 12 f69, ic E (r_t_tape 0) 400 t_tape_bytes] H locs → lv_has ls 3 [(0, .ref h0), (1, .int x45), (2, .int x46)] → W p l e (hm_rr 6 145 0 0) s m args below meth c H locs 0 0 Q (F0 m 31 ls []) := by
      intro n
      induction n with
      | zero =>
        intro x45 x46 x47 f48 x49 f50 f51 f52 f53 x54 x55 x56 x57 x58 x59 f60 f61 f62 x63 x64 x65 f66 x67 x68 f69 f70 f71 f72 x73 x74 x75 x76 x77 x78 H locs ls hf w hl
        exact pf_no hf
      | succ n ih31 =>
        intro x45 x46 x47 f48 x49 f50 f51 f52 f53 x54 x55 x56 x57 x58 x59 f60 f61 f62 x63 x64 x65 f66 x67 x68 f69 f70 f71 f72 x73 x74 x75 x76 x77 x78 H locs ls hf w hl
        rw [lp_X7_bench_31] at hf
        refine lv_iload_n hx hb dX7_bench_31 rfl (lv_at hl 2 rfl) ?_
        refine lv_aload_n hx hb dX7_bench_32 rfl (lv_at hl 0 rfl) ?_
        refine hm_get cb_X7 hx hb hown X w 0 7 fl_X7_50 dX7_bench_33 rfl (by decide) rfl ?_
        refine hm_get cb_X0 hx hb hown X w 1 0 fl_X7_113 dX7_bench_36 rfl (by decide) rfl ?_
        refine lv_icmp_ge (tgt := 110) hx hb dX7_bench_39 (by decide) (fun c39 => ?_) (fun c39 => ?_)
        · have hf := pf_t c39 hf
          refine lv_aload_n hx hb dX7_bench_110 rfl (lv_at hl 0 rfl) ?_
          refine hm_get cb_X7 hx hb hown X w 0 7 fl_X7_50 dX7_bench_111 rfl (by decide) rfl ?_
          refine hm_get cb_X0 hx hb hown X w 1 4 fl_X7_130 dX7_bench_114 rfl (by decide) rfl ?_
          exact hQ _ _ _ _ _ (x8, x1, f2, f3, f4, x47, f48, x11, x49, f50, f51, f52, f53, x54, x55, x56, x57, x58, x59, f60, f61, f62, x63, x64, x65, f66, x67, x68, f69, f70, f71, f72, x73, x74, x75, x76, x77, x78, x9, x5, x6) (fun _ => 0) hf rfl w dX7_bench_117
        · have hf := pf_e c39 hf
          refine lv_aload_n hx hb dX7_bench_42 rfl (lv_at hl 0 rfl) ?_
          refine lv_aload_n hx hb dX7_bench_43 rfl (lv_at hl 0 rfl) ?_
          refine hm_get cb_X7 hx hb hown X w 0 7 fl_X7_50 dX7_bench_44 rfl (by decide) rfl ?_
          refine hm_get cb_X0 hx hb hown X w 1 1 fl_X7_114 dX7_bench_47 rfl (by decide) rfl ?_
          refine lv_iload_n hx hb dX7_bench_50 rfl (lv_at hl 2 rfl) ?_
          obtain ⟨g51, hf⟩ := pf_ckI hf
          refine hm_iald hx hb X w 7 dX7_bench_51 rfl g51 ?_
          refine lv_aload_n hx hb dX7_bench_52 rfl (lv_at hl 0 rfl) ?_
          refine hm_get cb_X7 hx hb hown X w 0 7 fl_X7_50 dX7_bench_53 rfl (by decide) rfl ?_
          refine hm_get cb_X0 hx hb hown X w 1 2 fl_X7_117 dX7_bench_56 rfl (by decide) rfl ?_
          refine lv_iload_n hx hb dX7_bench_59 rfl (lv_at hl 2 rfl) ?_
          obtain ⟨g60, hf⟩ := pf_ckI hf
          refine hm_iald hx hb X w 8 dX7_bench_60 rfl g60 ?_
          refine lv_aload_n hx hb dX7_bench_61 rfl (lv_at hl 0 rfl) ?_
          refine hm_get cb_X7 hx hb hown X w 0 7 fl_X7_50 dX7_bench_62 rfl (by decide) rfl ?_
          refine hm_get cb_X0 hx hb hown X w 1 3 fl_X7_120 dX7_bench_65 rfl (by decide) rfl ?_
          refine lv_iload_n hx hb dX7_bench_68 rfl (lv_at hl 2 rfl) ?_
          obtain ⟨g69, hf⟩ := pf_ckI hf
          refine hm_iald hx hb X w 10 dX7_bench_69 rfl g69 ?_
          refine lv_iload_n hx hb dX7_bench_70 rfl (lv_at hl 1 rfl) ?_
          obtain ⟨r79, x80, f81, f82, f83, f84, x85, x86, x87, x88, x89, x90, f91, f92, f93, x94, x95, x96, f97, x98, x99, f100, f101, f102, f103, x104, x105, x106, x107, x108, x109, hc71, hf⟩ := pf_bi_30 hf
          refine hm_aft_i (ws' := fun _ => [oc7 h0 r_t t_writtenCount x8, oc0 (r_t 7) r_t_acts x1 x47 x11, oc1 (r_t 4) r_t_latest x80 x85 x86 x87 x88 x89 x90, oc2 (r_t 1) r_t_now d_t_now t_now_bits t_now_offset t_now_band t_now_rule t_now_noise t_now_step x94 x95 x96 t_now_seenCount, oc1 (r_t 5) r_t_passing x99 x104 x105 x106 x107 x108 x109, oc5 (r_t 0) r_t_tape x9 x5 x6, oc3 d_t_now r_t_now_drift t_now_drift_steps x98 t_now_drift_things, ic E (r_t_acts 1) 40 f2, ic E (r_t_acts 2) 40 f3, ic E (r_t_acts 5) 40 f48, ic E (r_t_acts 3) 40 f4, ic E (r_t_latest 3) 12 f83, ic E (r_t_latest 4) 12 f84, ic E (r_t_latest 2) 12 f82, ic E (r_t_latest 1) 12 f81, ic E (r_t_now_drift 0) 80 t_now_drift_kind, ic E (r_t_now_drift 2) 40 f97, ic E (r_t_now_drift 1) 80 t_now_drift_value, ic E (r_t_now 2) 12 f91, ic E (r_t_now 1) 12 t_now_size, ic E (r_t_now 4) 12 f93, ic E (r_t_now 3) 12 f92, ic E (r_t_passing 3) 12 f102, ic E (r_t_passing 4) 12 f103, ic E (r_t_passing 2) 12 f101, ic E (r_t_passing 1) 12 f100, ic E (r_t_tape 0) 400 t_tape_bytes]) (hm_runV (rest := []) hx hb hml hown X hA Y w 0 (ci := 6) (T := TX7) (N := 11) rfl rfl mw_X7_perform ml_X7_123 dX7_bench_71 hm_ac0 [.int (f2 x46.toNatClampNeg), .int (f3 x46.toNatClampNeg), .int (f4 x46.toNatClampNeg), .int x45] rfl [0, 2, 3, 4, 6, 11, 12, 13, 14, 15, 16, 17, 18, 19, 20, 21, 22, 23, 24, 25] rfl rfl (ct_X7_perform l E H.size h0 r_t r_t_latest r_t_now d_t_now r_t_passing r_t_now_drift t_writtenCount x8 x49 x54 x55 x56 x57 x58 x59 t_now_bits t_now_offset t_now_band t_now_rule t_now_noise t_now_step x63 x64 x65 t_now_seenCount x68 x73 x74 x75 x76 x77 x78 t_now_drift_steps x67 t_now_drift_things f52 f53 f51 f50 t_now_drift_kind f66 t_now_drift_value f60 t_now_size f62 f61 f71 f72 f70 f69 (f2 x46.toNatClampNeg) (f3 x46.toNatClampNeg) (f4 x46.toNatClampNeg) x45 (r79, x80, f81, f82, f83, f84, x85, x86, x87, x88, x89, x90, f91, f92, f93, x94, x95, x96, f97, x98, x99, f100, f101, f102, f103, x104, x105, x106, x107, x108, x109) hc71) rfl hl.1 ⟨⟨rfl, rfl⟩, ⟨Nat.le_of_ble_eq_true rfl, Nat.le_of_ble_eq_true rfl⟩, ⟨Nat.le_of_ble_eq_true rfl, Nat.le_of_ble_eq_true rfl⟩, Nat.le_of_ble_eq_true rfl⟩) hA w [0, 2, 3, 4, 6, 11, 12, 13, 14, 15, 16, 17, 18, 19, 20, 21, 22, 23, 24, 25] [1, 5, 7, 8, 9, 10, 26] [7, 0, 8, 9, 10, 1, 11, 2, 3, 4, 5, 12, 13, 14, 15, 16, 17, 18, 19, 20, 21, 22, 23, 24, 25, 26, 6] rfl rfl (by decide) (fun _ => rfl) (fun _ H locs w => ?_)
          refine lv_istore_n (lv' := [(1, .int r79), (0, .ref h0), (2, .int x46)]) hx hb dX7_bench_74 rfl hl (by decide) rfl (fun ls hl => ?_)
          refine lv_iload_n hx hb dX7_bench_75 rfl (lv_at hl 0 rfl) ?_
          refine lv_iconst (v := (-1)) hx hb dX7_bench_76 (by decide) ?_
          refine lv_icmp_ne (tgt := 96) hx hb dX7_bench_77 (by decide) (fun c77 => ?_) (fun c77 => ?_)
          · have hf := pf_e c77 hf
            refine lv_aload_n hx hb dX7_bench_96 rfl (lv_at hl 1 rfl) ?_
            refine hm_get cb_X7 hx hb hown X w 0 7 fl_X7_50 dX7_bench_97 rfl (by decide) rfl ?_
            refine lv_iload_n hx hb dX7_bench_100 rfl (lv_at hl 0 rfl) ?_
            obtain ⟨x110, f111, hc101, hf⟩ := pf_bv_2 hf
            refine hm_aft_v (ws' := fun _ => [oc7 h0 r_t t_writtenCount x8, oc0 (r_t 7) r_t_acts x1 x110 x11, oc1 (r_t 4) r_t_latest x80 x85 x86 x87 x88 x89 x90, oc2 (r_t 1) r_t_now d_t_now t_now_bits t_now_offset t_now_band t_now_rule t_now_noise t_now_step x94 x95 x96 t_now_seenCount, oc1 (r_t 5) r_t_passing x99 x104 x105 x106 x107 x108 x109, oc5 (r_t 0) r_t_tape x9 x5 x6, oc3 d_t_now r_t_now_drift t_now_drift_steps x98 t_now_drift_things, ic E (r_t_acts 1) 40 f2, ic E (r_t_acts 2) 40 f3, ic E (r_t_acts 5) 40 f111, ic E (r_t_acts 3) 40 f4, ic E (r_t_latest 3) 12 f83, ic E (r_t_latest 4) 12 f84, ic E (r_t_latest 2) 12 f82, ic E (r_t_latest 1) 12 f81, ic E (r_t_now_drift 0) 80 t_now_drift_kind, ic E (r_t_now_drift 2) 40 f97, ic E (r_t_now_drift 1) 80 t_now_drift_value, ic E (r_t_now 2) 12 f91, ic E (r_t_now 1) 12 t_now_size, ic E (r_t_now 4) 12 f93, ic E (r_t_now 3) 12 f92, ic E (r_t_passing 3) 12 f102, ic E (r_t_passing 4) 12 f103, ic E (r_t_passing 2) 12 f101, ic E (r_t_passing 1) 12 f100, ic E (r_t_tape 0) 400 t_tape_bytes]) (hm_runV (rest := []) hx hb hml hown X hA Y w 1 (ci := 0) (T := TX0) (N := 7) rfl rfl mw_X0_note ml_X7_133 dX7_bench_101 hm_ac0 [.int r79] rfl [1, 9] rfl rfl (ct_X0_note l E H.size (r_t 7) r_t_acts x1 x47 x11 f48 r79 (x110, f111) hc101) rfl hl.1 ⟨⟨rfl, rfl⟩, ⟨Nat.le_of_ble_eq_true rfl, Nat.le_of_ble_eq_true rfl⟩, ⟨Nat.le_of_ble_eq_true rfl, Nat.le_of_ble_eq_true rfl⟩, Nat.le_of_ble_eq_true rfl⟩) hA w [1, 9] [0, 2, 3, 4, 5, 6, 7, 8, 10, 11, 12, 13, 14, 15, 16, 17, 18, 19, 20, 21, 22, 23, 24, 25, 26] [0, 25, 1, 2, 3, 4, 5, 6, 7, 26, 8, 9, 10, 11, 12, 13, 14, 15, 16, 17, 18, 19, 20, 21, 22, 23, 24] rfl rfl (by decide) (fun _ => rfl) (fun _ H locs w => ?_)
            obtain ⟨x112, ex112⟩ : ∃ y : Int32, y = (x46 + 1) := ⟨_, rfl⟩
            have hf := pf_nm ex112 hf
            refine lv_iinc (v := x112) (lv' := [(2, .int x112), (1, .int r79), (0, .ref h0)]) hx hb dX7_bench_104 hl (k := 2) rfl (by rw [ex112]; rfl) (by decide) rfl (fun ls hl => ?_)
            refine lv_goto (tgt := 31) hx hb dX7_bench_107 (by decide) ?_
            exact ih31 _ _ _ _ _ _ _ _ _ _ _ _ _ _ _ _ _ _ _ _ _ _ _ _ _ _ _ _ _ _ _ _ _ _ _ _ _ hf w (lv_sub hl [2, 1, 0] rfl)
          · have hf := pf_t c77 hf
            exact kJ80 _ _ _ _ _ _ _ _ _ _ _ _ _ _ _ _ _ _ _ _ _ _ _ _ _ _ _ _ _ _ _ _ _ _ _ _ hf w (lv_sub hl [1, 2] rfl)
    exact klp_X7_bench_31 FU _ _ _ _ _ _ _ _ _ _ _ _ _ _ _ _ _ _ _ _ _ _ _ _ _ _ _ _ _ _ _ _ _ _ _ _ _ hf w (lv_sub hl [2, 1, 0] rfl)
  · have hf := pf_t c15 hf
    refine lv_iconst (v := (-1)) hx hb dX7_bench_18 (by decide) ?_
    exact hQ _ _ _ _ _ (x8, x1, f2, f3, f4, t_acts_done, t_acts_told, t_acts_ended, t_latest_bits, t_latest_one, t_latest_late, t_latest_apart, t_latest_held, t_latest_sum, t_latest_heldAtEnd, t_latest_left, t_latest_lates, t_latest_ones, t_latest_code, t_now_off, t_now_worth, t_now_stuck, t_now_draws, t_now_heat, t_now_hour, t_now_drift_stack, t_now_drift_height, t_passing_bits, t_passing_one, t_passing_late, t_passing_apart, t_passing_held, t_passing_sum, t_passing_heldAtEnd, t_passing_left, t_passing_lates, t_passing_ones, t_passing_code, x9, x5, x6) (fun _ => 0) hf rfl w dX7_bench_19
set_option maxHeartbeats 8000000 in
set_option maxRecDepth 100000 in
theorem ct_X7_fault (l : Launch) (E : hm_E) (sz : Nat) (h0 : Nat) (r_t : Nat → Nat) (t_writtenCount t_faultPlace : Int32) (R : Int32 × Unit) (hf : pf_X7_fault t_faultPlace = some R) : hm_Mi l E yX7_fault cX7_fault 1 .int [] (hm_rr 0 0 0 0) [.ref h0] sz [oc7 h0 r_t t_writtenCount t_faultPlace] R.1 (fun _ => [oc7 h0 r_t t_writtenCount t_faultPlace]) := by
  refine hm_ct_i R (fun u qs => [oc7 h0 r_t t_writtenCount t_faultPlace]) (by decide) (Nat.le_of_ble_eq_true rfl) (Or.inl rfl) ?_
  intro p e s m args below meth c A Q ls H locs hx hb hml hown X hA Y hex w hl hQ
  have hl : lv_has ls 1 [(0, .ref h0)] := hl
  unfold pf_X7_fault at hf
  refine lv_aload_n hx hb dX7_fault_0 rfl (lv_at hl 0 rfl) ?_
  refine hm_get cb_X7 hx hb hown X w 0 10 fl_X7_62 dX7_fault_1 rfl (by decide) rfl ?_
  exact hQ _ _ _ _ _ () (fun _ => 0) hf rfl w dX7_fault_4
set_option maxHeartbeats 8000000 in
set_option maxRecDepth 100000 in
theorem ct_X7_stopped (l : Launch) (E : hm_E) (sz : Nat) (h0 : Nat) (r_t : Nat → Nat) (r_t_acts : Nat → Nat) (t_writtenCount t_faultPlace t_acts_count t_acts_done t_acts_ended : Int32) (R : Int32 × Unit) (hf : pf_X7_stopped t_acts_ended = some R) : hm_Mi l E yX7_stopped cX7_stopped 1 .int [] (hm_rr 0 0 0 0) [.ref h0] sz [oc7 h0 r_t t_writtenCount t_faultPlace, oc0 (r_t 7) r_t_acts t_acts_count t_acts_done t_acts_ended] R.1 (fun _ => [oc7 h0 r_t t_writtenCount t_faultPlace, oc0 (r_t 7) r_t_acts t_acts_count t_acts_done t_acts_ended]) := by
  refine hm_ct_i R (fun u qs => [oc7 h0 r_t t_writtenCount t_faultPlace, oc0 (r_t 7) r_t_acts t_acts_count t_acts_done t_acts_ended]) (by decide) (Nat.le_of_ble_eq_true rfl) (Or.inl rfl) ?_
  intro p e s m args below meth c A Q ls H locs hx hb hml hown X hA Y hex w hl hQ
  have hl : lv_has ls 1 [(0, .ref h0)] := hl
  unfold pf_X7_stopped at hf
  refine lv_aload_n hx hb dX7_stopped_0 rfl (lv_at hl 0 rfl) ?_
  refine hm_get cb_X7 hx hb hown X w 0 7 fl_X7_50 dX7_stopped_1 rfl (by decide) rfl ?_
  refine hm_get cb_X0 hx hb hown X w 1 6 fl_X7_127 dX7_stopped_4 rfl (by decide) rfl ?_
  exact hQ _ _ _ _ _ () (fun _ => 0) hf rfl w dX7_stopped_7
set_option maxHeartbeats 8000000 in
set_option maxRecDepth 100000 in
theorem ct_X7_row (l : Launch) (E : hm_E) (sz : Nat) (h0 : Nat) (r_t : Nat → Nat) (r_t_acts : Nat → Nat) (t_writtenCount t_faultPlace t_acts_count t_acts_done t_acts_ended : Int32) (t_acts_told : Nat → Int32) (a1 : Int32) (R : Int32 × Unit) (hf : pf_X7_row a1 t_acts_done t_acts_told = some R) : hm_Mi l E yX7_row cX7_row 2 .int [] (hm_rr 0 0 0 0) [.ref h0, .int a1] sz [oc7 h0 r_t t_writtenCount t_faultPlace, oc0 (r_t 7) r_t_acts t_acts_count t_acts_done t_acts_ended, ic E (r_t_acts 5) 40 t_acts_told] R.1 (fun _ => [oc7 h0 r_t t_writtenCount t_faultPlace, oc0 (r_t 7) r_t_acts t_acts_count t_acts_done t_acts_ended, ic E (r_t_acts 5) 40 t_acts_told]) := by
  refine hm_ct_i R (fun u qs => [oc7 h0 r_t t_writtenCount t_faultPlace, oc0 (r_t 7) r_t_acts t_acts_count t_acts_done t_acts_ended, ic E (r_t_acts 5) 40 t_acts_told]) (by decide) (Nat.le_of_ble_eq_true rfl) (Or.inl rfl) ?_
  intro p e s m args below meth c A Q ls H locs hx hb hml hown X hA Y hex w hl hQ
  have hl : lv_has ls 2 [(0, .ref h0), (1, .int a1)] := hl
  unfold pf_X7_row at hf
  refine lv_iload_n hx hb dX7_row_0 rfl (lv_at hl 1 rfl) ?_
  refine lv_if_lt (tgt := 27) hx hb dX7_row_1 (by decide) (fun c1 => ?_) (fun c1 => ?_)
  · have hf := pf_t c1 hf
    refine lv_ldc (v := (-1000000)) hx hb hown (X.use ck_X7_143 rfl) dX7_row_27 ?_
    exact hQ _ _ _ _ _ () (fun _ => 0) hf rfl w dX7_row_29
  · have hf := pf_e c1 hf
    refine lv_iload_n hx hb dX7_row_4 rfl (lv_at hl 1 rfl) ?_
    refine lv_aload_n hx hb dX7_row_5 rfl (lv_at hl 0 rfl) ?_
    refine hm_get cb_X7 hx hb hown X w 0 7 fl_X7_50 dX7_row_6 rfl (by decide) rfl ?_
    refine hm_get cb_X0 hx hb hown X w 1 4 fl_X7_130 dX7_row_9 rfl (by decide) rfl ?_
    refine lv_icmp_ge (tgt := 27) hx hb dX7_row_12 (by decide) (fun c12 => ?_) (fun c12 => ?_)
    · have hf := pf_t c12 hf
      refine lv_ldc (v := (-1000000)) hx hb hown (X.use ck_X7_143 rfl) dX7_row_27 ?_
      exact hQ _ _ _ _ _ () (fun _ => 0) hf rfl w dX7_row_29
    · have hf := pf_e c12 hf
      refine lv_aload_n hx hb dX7_row_15 rfl (lv_at hl 0 rfl) ?_
      refine hm_get cb_X7 hx hb hown X w 0 7 fl_X7_50 dX7_row_16 rfl (by decide) rfl ?_
      refine hm_get cb_X0 hx hb hown X w 1 5 fl_X7_172 dX7_row_19 rfl (by decide) rfl ?_
      refine lv_iload_n hx hb dX7_row_22 rfl (lv_at hl 1 rfl) ?_
      obtain ⟨g23, hf⟩ := pf_ckI hf
      refine hm_iald hx hb X w 2 dX7_row_23 rfl g23 ?_
      refine lv_goto (tgt := 29) hx hb dX7_row_24 (by decide) ?_
      exact hQ _ _ _ _ _ () (fun _ => 0) hf rfl w dX7_row_29
set_option maxHeartbeats 8000000 in
set_option maxRecDepth 100000 in
theorem ct_X7_is (l : Launch) (E : hm_E) (sz : Nat) (h0 : Nat) (r_t : Nat → Nat) (r_t_now : Nat → Nat) (d_t_now : Nat) (r_t_tape : Nat → Nat) (t_writtenCount t_faultPlace t_now_bits t_now_offset t_now_band t_now_rule t_now_noise t_now_step t_now_draws t_now_heat t_now_hour t_now_seenCount t_tape_count t_tape_at t_tape_fault : Int32) (t_now_off : Nat → Int32) (t_now_size : Nat → Int32) (t_now_worth : Nat → Int32) (a1 : Int32) (R : Int32 × Unit) (hf : pf_X7_is a1 t_now_bits t_now_size t_now_off t_now_worth t_now_offset t_now_band t_now_rule t_now_noise t_now_step t_now_draws t_now_heat t_now_hour t_now_seenCount t_tape_count = some R) : hm_Mi l E yX7_is cX7_is 2 .int [] (hm_rr 2 44 0 0) [.ref h0, .int a1] sz [oc7 h0 r_t t_writtenCount t_faultPlace, oc2 (r_t 1) r_t_now d_t_now t_now_bits t_now_offset t_now_band t_now_rule t_now_noise t_now_step t_now_draws t_now_heat t_now_hour t_now_seenCount, oc5 (r_t 0) r_t_tape t_tape_count t_tape_at t_tape_fault, ic E (r_t_now 2) 12 t_now_off, ic E (r_t_now 1) 12 t_now_size, ic E (r_t_now 3) 12 t_now_worth] R.1 (fun _ => [oc7 h0 r_t t_writtenCount t_faultPlace, oc2 (r_t 1) r_t_now d_t_now t_now_bits t_now_offset t_now_band t_now_rule t_now_noise t_now_step t_now_draws t_now_heat t_now_hour t_now_seenCount, oc5 (r_t 0) r_t_tape t_tape_count t_tape_at t_tape_fault, ic E (r_t_now 2) 12 t_now_off, ic E (r_t_now 1) 12 t_now_size, ic E (r_t_now 3) 12 t_now_worth]) := by
  refine hm_ct_i R (fun u qs => [oc7 h0 r_t t_writtenCount t_faultPlace, oc2 (r_t 1) r_t_now d_t_now t_now_bits t_now_offset t_now_band t_now_rule t_now_noise t_now_step t_now_draws t_now_heat t_now_hour t_now_seenCount, oc5 (r_t 0) r_t_tape t_tape_count t_tape_at t_tape_fault, ic E (r_t_now 2) 12 t_now_off, ic E (r_t_now 1) 12 t_now_size, ic E (r_t_now 3) 12 t_now_worth]) (by decide) (Nat.le_of_ble_eq_true rfl) (Or.inl rfl) ?_
  intro p e s m args below meth c A Q ls H locs hx hb hml hown X hA Y hex w hl hQ
  have hl : lv_has ls 2 [(0, .ref h0), (1, .int a1)] := hl
  unfold pf_X7_is at hf
  refine lv_iload_n hx hb dX7_is_0 rfl (lv_at hl 1 rfl) ?_
  by_cases c1_0 : a1 = 0
  · have hf := pf_t c1_0 hf
    refine lv_tableIn (off := 67) (tgt := 68) hx hb dX7_is_1 (by rw [c1_0]; decide) (by rw [c1_0]; decide) (by rw [c1_0]; rfl) (by decide) ?_
    refine lv_aload_n hx hb dX7_is_68 rfl (lv_at hl 0 rfl) ?_
    refine hm_get cb_X7 hx hb hown X w 0 1 fl_X7_19 dX7_is_69 rfl (by decide) rfl ?_
    refine hm_get cb_X2 hx hb hown X w 1 0 fl_X7_95 dX7_is_72 rfl (by decide) rfl ?_
    exact hQ _ _ _ _ _ () (fun _ => 0) hf rfl w dX7_is_75
  · have hf := pf_e c1_0 hf
    by_cases c1_1 : a1 = 1
    · have hf := pf_t c1_1 hf
      refine lv_tableIn (off := 75) (tgt := 76) hx hb dX7_is_1 (by rw [c1_1]; decide) (by rw [c1_1]; decide) (by rw [c1_1]; rfl) (by decide) ?_
      refine lv_aload_n hx hb dX7_is_76 rfl (lv_at hl 0 rfl) ?_
      refine hm_get cb_X7 hx hb hown X w 0 1 fl_X7_19 dX7_is_77 rfl (by decide) rfl ?_
      refine hm_get cb_X2 hx hb hown X w 1 5 fl_X7_175 dX7_is_80 rfl (by decide) rfl ?_
      exact hQ _ _ _ _ _ () (fun _ => 0) hf rfl w dX7_is_83
    · have hf := pf_e c1_1 hf
      by_cases c1_2 : a1 = 2
      · have hf := pf_t c1_2 hf
        refine lv_tableIn (off := 83) (tgt := 84) hx hb dX7_is_1 (by rw [c1_2]; decide) (by rw [c1_2]; decide) (by rw [c1_2]; rfl) (by decide) ?_
        refine lv_aload_n hx hb dX7_is_84 rfl (lv_at hl 0 rfl) ?_
        refine hm_get cb_X7 hx hb hown X w 0 1 fl_X7_19 dX7_is_85 rfl (by decide) rfl ?_
        refine hm_get cb_X2 hx hb hown X w 1 6 fl_X7_178 dX7_is_88 rfl (by decide) rfl ?_
        exact hQ _ _ _ _ _ () (fun _ => 0) hf rfl w dX7_is_91
      · have hf := pf_e c1_2 hf
        by_cases c1_3 : a1 = 3
        · have hf := pf_t c1_3 hf
          refine lv_tableIn (off := 91) (tgt := 92) hx hb dX7_is_1 (by rw [c1_3]; decide) (by rw [c1_3]; decide) (by rw [c1_3]; rfl) (by decide) ?_
          refine lv_aload_n hx hb dX7_is_92 rfl (lv_at hl 0 rfl) ?_
          refine hm_get cb_X7 hx hb hown X w 0 1 fl_X7_19 dX7_is_93 rfl (by decide) rfl ?_
          refine hm_get cb_X2 hx hb hown X w 1 7 fl_X7_181 dX7_is_96 rfl (by decide) rfl ?_
          exact hQ _ _ _ _ _ () (fun _ => 0) hf rfl w dX7_is_99
        · have hf := pf_e c1_3 hf
          by_cases c1_4 : a1 = 4
          · have hf := pf_t c1_4 hf
            refine lv_tableIn (off := 99) (tgt := 100) hx hb dX7_is_1 (by rw [c1_4]; decide) (by rw [c1_4]; decide) (by rw [c1_4]; rfl) (by decide) ?_
            refine lv_aload_n hx hb dX7_is_100 rfl (lv_at hl 0 rfl) ?_
            refine hm_get cb_X7 hx hb hown X w 0 1 fl_X7_19 dX7_is_101 rfl (by decide) rfl ?_
            refine hm_get cb_X2 hx hb hown X w 1 8 fl_X7_184 dX7_is_104 rfl (by decide) rfl ?_
            exact hQ _ _ _ _ _ () (fun _ => 0) hf rfl w dX7_is_107
          · have hf := pf_e c1_4 hf
            by_cases c1_5 : a1 = 5
            · have hf := pf_t c1_5 hf
              refine lv_tableIn (off := 107) (tgt := 108) hx hb dX7_is_1 (by rw [c1_5]; decide) (by rw [c1_5]; decide) (by rw [c1_5]; rfl) (by decide) ?_
              refine lv_aload_n hx hb dX7_is_108 rfl (lv_at hl 0 rfl) ?_
              refine hm_get cb_X7 hx hb hown X w 0 1 fl_X7_19 dX7_is_109 rfl (by decide) rfl ?_
              refine hm_get cb_X2 hx hb hown X w 1 9 fl_X7_187 dX7_is_112 rfl (by decide) rfl ?_
              exact hQ _ _ _ _ _ () (fun _ => 0) hf rfl w dX7_is_115
            · have hf := pf_e c1_5 hf
              by_cases c1_6 : a1 = 6
              · have hf := pf_t c1_6 hf
                refine lv_tableIn (off := 115) (tgt := 116) hx hb dX7_is_1 (by rw [c1_6]; decide) (by rw [c1_6]; decide) (by rw [c1_6]; rfl) (by decide) ?_
                refine lv_aload_n hx hb dX7_is_116 rfl (lv_at hl 0 rfl) ?_
                refine hm_get cb_X7 hx hb hown X w 0 1 fl_X7_19 dX7_is_117 rfl (by decide) rfl ?_
                refine hm_get cb_X2 hx hb hown X w 1 10 fl_X7_190 dX7_is_120 rfl (by decide) rfl ?_
                exact hQ _ _ _ _ _ () (fun _ => 0) hf rfl w dX7_is_123
              · have hf := pf_e c1_6 hf
                by_cases c1_7 : a1 = 7
                · have hf := pf_t c1_7 hf
                  refine lv_tableIn (off := 123) (tgt := 124) hx hb dX7_is_1 (by rw [c1_7]; decide) (by rw [c1_7]; decide) (by rw [c1_7]; rfl) (by decide) ?_
                  refine lv_aload_n hx hb dX7_is_124 rfl (lv_at hl 0 rfl) ?_
                  refine hm_get cb_X7 hx hb hown X w 0 1 fl_X7_19 dX7_is_125 rfl (by decide) rfl ?_
                  refine hm_get cb_X2 hx hb hown X w 1 16 fl_X7_89 dX7_is_128 rfl (by decide) rfl ?_
                  exact hQ _ _ _ _ _ () (fun _ => 0) hf rfl w dX7_is_131
                · have hf := pf_e c1_7 hf
                  by_cases c1_8 : a1 = 8
                  · have hf := pf_t c1_8 hf
                    refine lv_tableIn (off := 131) (tgt := 132) hx hb dX7_is_1 (by rw [c1_8]; decide) (by rw [c1_8]; decide) (by rw [c1_8]; rfl) (by decide) ?_
                    refine lv_aload_n hx hb dX7_is_132 rfl (lv_at hl 0 rfl) ?_
                    refine hm_get cb_X7 hx hb hown X w 0 0 fl_X7_10 dX7_is_133 rfl (by decide) rfl ?_
                    refine hm_get cb_X5 hx hb hown X w 2 1 fl_X7_65 dX7_is_136 rfl (by decide) rfl ?_
                    exact hQ _ _ _ _ _ () (fun _ => 0) hf rfl w dX7_is_139
                  · have hf := pf_e c1_8 hf
                    by_cases c1_9 : a1 = 9
                    · have hf := pf_t c1_9 hf
                      refine lv_tableIn (off := 139) (tgt := 140) hx hb dX7_is_1 (by rw [c1_9]; decide) (by rw [c1_9]; decide) (by rw [c1_9]; rfl) (by decide) ?_
                      refine lv_aload_n hx hb dX7_is_140 rfl (lv_at hl 0 rfl) ?_
                      refine hm_get cb_X7 hx hb hown X w 0 1 fl_X7_19 dX7_is_141 rfl (by decide) rfl ?_
                      refine lv_aload_n hx hb dX7_is_144 rfl (lv_at hl 0 rfl) ?_
                      refine hm_get cb_X7 hx hb hown X w 0 1 fl_X7_19 dX7_is_145 rfl (by decide) rfl ?_
                      refine hm_get cb_X2 hx hb hown X w 1 0 fl_X7_95 dX7_is_148 rfl (by decide) rfl ?_
                      obtain ⟨r1, hc151, hf⟩ := pf_bi_0 hf
                      refine hm_aft_i (ws' := fun _ => [oc7 h0 r_t t_writtenCount t_faultPlace, oc2 (r_t 1) r_t_now d_t_now t_now_bits t_now_offset t_now_band t_now_rule t_now_noise t_now_step t_now_draws t_now_heat t_now_hour t_now_seenCount, oc5 (r_t 0) r_t_tape t_tape_count t_tape_at t_tape_fault, ic E (r_t_now 2) 12 t_now_off, ic E (r_t_now 1) 12 t_now_size, ic E (r_t_now 3) 12 t_now_worth]) (hm_runV (rest := []) hx hb hml hown X hA Y w 1 (ci := 2) (T := TX2) (N := 17) rfl rfl mw_X2_weightsBelow ml_X7_193 dX7_is_151 hm_ac0 [.int t_now_bits] rfl [1, 3, 4] rfl rfl (ct_X2_weightsBelow l E H.size (r_t 1) r_t_now d_t_now t_now_bits t_now_offset t_now_band t_now_rule t_now_noise t_now_step t_now_draws t_now_heat t_now_hour t_now_seenCount t_now_off t_now_size t_now_bits (r1, ()) hc151) rfl hl.1 ⟨⟨rfl, rfl⟩, ⟨Nat.le_of_ble_eq_true rfl, Nat.le_of_ble_eq_true rfl⟩, ⟨Nat.le_of_ble_eq_true rfl, Nat.le_of_ble_eq_true rfl⟩, Nat.le_of_ble_eq_true rfl⟩) hA w [1, 3, 4] [0, 2, 5] [0, 3, 1, 4, 5, 2] rfl rfl (by decide) (fun _ => rfl) (fun _ H locs w => ?_)
                      exact hQ _ _ _ _ _ () (fun _ => 0) hf rfl w dX7_is_154
                    · have hf := pf_e c1_9 hf
                      by_cases c1_10 : a1 = 10
                      · have hf := pf_t c1_10 hf
                        refine lv_tableIn (off := 154) (tgt := 155) hx hb dX7_is_1 (by rw [c1_10]; decide) (by rw [c1_10]; decide) (by rw [c1_10]; rfl) (by decide) ?_
                        refine lv_aload_n hx hb dX7_is_155 rfl (lv_at hl 0 rfl) ?_
                        refine hm_get cb_X7 hx hb hown X w 0 1 fl_X7_19 dX7_is_156 rfl (by decide) rfl ?_
                        obtain ⟨r2, hc159, hf⟩ := pf_bi_0 hf
                        refine hm_aft_i (ws' := fun _ => [oc7 h0 r_t t_writtenCount t_faultPlace, oc2 (r_t 1) r_t_now d_t_now t_now_bits t_now_offset t_now_band t_now_rule t_now_noise t_now_step t_now_draws t_now_heat t_now_hour t_now_seenCount, oc5 (r_t 0) r_t_tape t_tape_count t_tape_at t_tape_fault, ic E (r_t_now 2) 12 t_now_off, ic E (r_t_now 1) 12 t_now_size, ic E (r_t_now 3) 12 t_now_worth]) (hm_runV (rest := []) hx hb hml hown X hA Y w 1 (ci := 2) (T := TX2) (N := 17) rfl rfl mw_X2_allWorths ml_X7_196 dX7_is_159 hm_ac0 [] rfl [1, 5] rfl rfl (ct_X2_allWorths l E H.size (r_t 1) r_t_now d_t_now t_now_bits t_now_offset t_now_band t_now_rule t_now_noise t_now_step t_now_draws t_now_heat t_now_hour t_now_seenCount t_now_worth (r2, ()) hc159) rfl hl.1 ⟨⟨rfl, rfl⟩, ⟨Nat.le_of_ble_eq_true rfl, Nat.le_of_ble_eq_true rfl⟩, ⟨Nat.le_of_ble_eq_true rfl, Nat.le_of_ble_eq_true rfl⟩, Nat.le_of_ble_eq_true rfl⟩) hA w [1, 5] [0, 2, 3, 4] [0, 4, 1, 2, 3, 5] rfl rfl (by decide) (fun _ => rfl) (fun _ H locs w => ?_)
                        exact hQ _ _ _ _ _ () (fun _ => 0) hf rfl w dX7_is_162
                      · have hf := pf_e c1_10 hf
                        by_cases c1_11 : a1 = 11
                        · have hf := pf_t c1_11 hf
                          refine lv_tableIn (off := 162) (tgt := 163) hx hb dX7_is_1 (by rw [c1_11]; decide) (by rw [c1_11]; decide) (by rw [c1_11]; rfl) (by decide) ?_
                          refine lv_aload_n hx hb dX7_is_163 rfl (lv_at hl 0 rfl) ?_
                          refine hm_get cb_X7 hx hb hown X w 0 1 fl_X7_19 dX7_is_164 rfl (by decide) rfl ?_
                          refine hm_get cb_X2 hx hb hown X w 1 11 fl_X7_199 dX7_is_167 rfl (by decide) rfl ?_
                          exact hQ _ _ _ _ _ () (fun _ => 0) hf rfl w dX7_is_170
                        · have hf := pf_e c1_11 hf
                          by_cases c1_12 : a1 = 12
                          · have hf := pf_t c1_12 hf
                            refine lv_tableIn (off := 170) (tgt := 171) hx hb dX7_is_1 (by rw [c1_12]; decide) (by rw [c1_12]; decide) (by rw [c1_12]; rfl) (by decide) ?_
                            refine lv_aload_n hx hb dX7_is_171 rfl (lv_at hl 0 rfl) ?_
                            refine hm_get cb_X7 hx hb hown X w 0 1 fl_X7_19 dX7_is_172 rfl (by decide) rfl ?_
                            refine hm_get cb_X2 hx hb hown X w 1 12 fl_X7_201 dX7_is_175 rfl (by decide) rfl ?_
                            exact hQ _ _ _ _ _ () (fun _ => 0) hf rfl w dX7_is_178
                          · have hf := pf_e c1_12 hf
                            refine lv_tableOut (tgt := 179) hx hb dX7_is_1 (hm_out (fun k h1 h2 => by have u := And.intro h1 h2; have v0 := hm_ti c1_0; rw [show (0 : Int32).toInt = 0 from by decide] at v0; have v1 := hm_ti c1_1; rw [show (1 : Int32).toInt = 1 from by decide] at v1; have v2 := hm_ti c1_2; rw [show (2 : Int32).toInt = 2 from by decide] at v2; have v3 := hm_ti c1_3; rw [show (3 : Int32).toInt = 3 from by decide] at v3; have v4 := hm_ti c1_4; rw [show (4 : Int32).toInt = 4 from by decide] at v4; have v5 := hm_ti c1_5; rw [show (5 : Int32).toInt = 5 from by decide] at v5; have v6 := hm_ti c1_6; rw [show (6 : Int32).toInt = 6 from by decide] at v6; have v7 := hm_ti c1_7; rw [show (7 : Int32).toInt = 7 from by decide] at v7; have v8 := hm_ti c1_8; rw [show (8 : Int32).toInt = 8 from by decide] at v8; have v9 := hm_ti c1_9; rw [show (9 : Int32).toInt = 9 from by decide] at v9; have v10 := hm_ti c1_10; rw [show (10 : Int32).toInt = 10 from by decide] at v10; have v11 := hm_ti c1_11; rw [show (11 : Int32).toInt = 11 from by decide] at v11; have v12 := hm_ti c1_12; rw [show (12 : Int32).toInt = 12 from by decide] at v12; omega)) (by decide) ?_
                            refine lv_ldc (v := (-100000)) hx hb hown (X.use ck_X7_204 rfl) dX7_is_179 ?_
                            exact hQ _ _ _ _ _ () (fun _ => 0) hf rfl w dX7_is_181
set_option maxHeartbeats 8000000 in
set_option maxRecDepth 100000 in
theorem ct_X7_bit (l : Launch) (E : hm_E) (sz : Nat) (h0 : Nat) (r_t : Nat → Nat) (r_t_now : Nat → Nat) (d_t_now : Nat) (t_writtenCount t_faultPlace t_now_bits t_now_offset t_now_band t_now_rule t_now_noise t_now_step t_now_draws t_now_heat t_now_hour t_now_seenCount : Int32) (t_now_off : Nat → Int32) (t_now_size : Nat → Int32) (t_now_stuck : Nat → Int32) (t_now_worth : Nat → Int32) (a1 : Int32) (a2 : Int32) (R : Int32 × Unit) (hf : pf_X7_bit a1 a2 t_now_bits t_now_size t_now_off t_now_worth t_now_stuck = some R) : hm_Mi l E yX7_bit cX7_bit 3 .int [] (hm_rr 3 65 0 0) [.ref h0, .int a1, .int a2] sz [oc7 h0 r_t t_writtenCount t_faultPlace, oc2 (r_t 1) r_t_now d_t_now t_now_bits t_now_offset t_now_band t_now_rule t_now_noise t_now_step t_now_draws t_now_heat t_now_hour t_now_seenCount, ic E (r_t_now 2) 12 t_now_off, ic E (r_t_now 1) 12 t_now_size, ic E (r_t_now 4) 12 t_now_stuck, ic E (r_t_now 3) 12 t_now_worth] R.1 (fun _ => [oc7 h0 r_t t_writtenCount t_faultPlace, oc2 (r_t 1) r_t_now d_t_now t_now_bits t_now_offset t_now_band t_now_rule t_now_noise t_now_step t_now_draws t_now_heat t_now_hour t_now_seenCount, ic E (r_t_now 2) 12 t_now_off, ic E (r_t_now 1) 12 t_now_size, ic E (r_t_now 4) 12 t_now_stuck, ic E (r_t_now 3) 12 t_now_worth]) := by
  refine hm_ct_i R (fun u qs => [oc7 h0 r_t t_writtenCount t_faultPlace, oc2 (r_t 1) r_t_now d_t_now t_now_bits t_now_offset t_now_band t_now_rule t_now_noise t_now_step t_now_draws t_now_heat t_now_hour t_now_seenCount, ic E (r_t_now 2) 12 t_now_off, ic E (r_t_now 1) 12 t_now_size, ic E (r_t_now 4) 12 t_now_stuck, ic E (r_t_now 3) 12 t_now_worth]) (by decide) (Nat.le_of_ble_eq_true rfl) (Or.inl rfl) ?_
  intro p e s m args below meth c A Q ls H locs hx hb hml hown X hA Y hex w hl hQ
  have hl : lv_has ls 3 [(0, .ref h0), (1, .int a1), (2, .int a2)] := hl
  unfold pf_X7_bit at hf
  refine lv_aload_n hx hb dX7_bit_0 rfl (lv_at hl 0 rfl) ?_
  refine lv_iload_n hx hb dX7_bit_1 rfl (lv_at hl 1 rfl) ?_
  obtain ⟨r1, hc2, hf⟩ := pf_bi_0 hf
  refine hm_aft_i (ws' := fun _ => [oc7 h0 r_t t_writtenCount t_faultPlace, oc2 (r_t 1) r_t_now d_t_now t_now_bits t_now_offset t_now_band t_now_rule t_now_noise t_now_step t_now_draws t_now_heat t_now_hour t_now_seenCount, ic E (r_t_now 2) 12 t_now_off, ic E (r_t_now 1) 12 t_now_size, ic E (r_t_now 4) 12 t_now_stuck, ic E (r_t_now 3) 12 t_now_worth]) (hm_runV (rest := []) hx hb hml hown X hA Y w 0 (ci := 6) (T := TX7) (N := 11) rfl rfl mw_X7_hasBit ml_X7_205 dX7_bit_2 hm_ac0 [.int a1] rfl [0, 1] rfl rfl (ct_X7_hasBit l E H.size h0 r_t r_t_now d_t_now t_writtenCount t_faultPlace t_now_bits t_now_offset t_now_band t_now_rule t_now_noise t_now_step t_now_draws t_now_heat t_now_hour t_now_seenCount a1 (r1, ()) hc2) rfl hl.1 ⟨⟨rfl, rfl⟩, ⟨Nat.le_of_ble_eq_true rfl, Nat.le_of_ble_eq_true rfl⟩, ⟨Nat.le_of_ble_eq_true rfl, Nat.le_of_ble_eq_true rfl⟩, Nat.le_of_ble_eq_true rfl⟩) hA w [0, 1] [2, 3, 4, 5] [4, 5, 0, 1, 2, 3] rfl rfl (by decide) (fun _ => rfl) (fun _ H locs w => ?_)
  refine lv_if_ne (tgt := 11) hx hb dX7_bit_5 (by decide) (fun c5 => ?_) (fun c5 => ?_)
  · have hf := pf_e c5 hf
    refine lv_iload_n hx hb dX7_bit_11 rfl (lv_at hl 2 rfl) ?_
    by_cases c12_0 : a2 = 0
    · have hf := pf_t c12_0 hf
      refine lv_tableIn (off := 40) (tgt := 52) hx hb dX7_bit_12 (by rw [c12_0]; decide) (by rw [c12_0]; decide) (by rw [c12_0]; rfl) (by decide) ?_
      refine lv_aload_n hx hb dX7_bit_52 rfl (lv_at hl 0 rfl) ?_
      refine hm_get cb_X7 hx hb hown X w 0 1 fl_X7_19 dX7_bit_53 rfl (by decide) rfl ?_
      refine hm_get cb_X2 hx hb hown X w 1 1 fl_X7_208 dX7_bit_56 rfl (by decide) rfl ?_
      refine lv_iload_n hx hb dX7_bit_59 rfl (lv_at hl 1 rfl) ?_
      obtain ⟨g60, hf⟩ := pf_ckI hf
      refine hm_iald hx hb X w 3 dX7_bit_60 rfl g60 ?_
      exact hQ _ _ _ _ _ () (fun _ => 0) hf rfl w dX7_bit_61
    · have hf := pf_e c12_0 hf
      by_cases c12_1 : a2 = 1
      · have hf := pf_t c12_1 hf
        refine lv_tableIn (off := 50) (tgt := 62) hx hb dX7_bit_12 (by rw [c12_1]; decide) (by rw [c12_1]; decide) (by rw [c12_1]; rfl) (by decide) ?_
        refine lv_aload_n hx hb dX7_bit_62 rfl (lv_at hl 0 rfl) ?_
        refine hm_get cb_X7 hx hb hown X w 0 1 fl_X7_19 dX7_bit_63 rfl (by decide) rfl ?_
        refine hm_get cb_X2 hx hb hown X w 1 2 fl_X7_211 dX7_bit_66 rfl (by decide) rfl ?_
        refine lv_iload_n hx hb dX7_bit_69 rfl (lv_at hl 1 rfl) ?_
        obtain ⟨g70, hf⟩ := pf_ckI hf
        refine hm_iald hx hb X w 2 dX7_bit_70 rfl g70 ?_
        exact hQ _ _ _ _ _ () (fun _ => 0) hf rfl w dX7_bit_71
      · have hf := pf_e c12_1 hf
        by_cases c12_2 : a2 = 2
        · have hf := pf_t c12_2 hf
          refine lv_tableIn (off := 60) (tgt := 72) hx hb dX7_bit_12 (by rw [c12_2]; decide) (by rw [c12_2]; decide) (by rw [c12_2]; rfl) (by decide) ?_
          refine lv_aload_n hx hb dX7_bit_72 rfl (lv_at hl 0 rfl) ?_
          refine hm_get cb_X7 hx hb hown X w 0 1 fl_X7_19 dX7_bit_73 rfl (by decide) rfl ?_
          refine hm_get cb_X2 hx hb hown X w 1 3 fl_X7_213 dX7_bit_76 rfl (by decide) rfl ?_
          refine lv_iload_n hx hb dX7_bit_79 rfl (lv_at hl 1 rfl) ?_
          obtain ⟨g80, hf⟩ := pf_ckI hf
          refine hm_iald hx hb X w 5 dX7_bit_80 rfl g80 ?_
          exact hQ _ _ _ _ _ () (fun _ => 0) hf rfl w dX7_bit_81
        · have hf := pf_e c12_2 hf
          by_cases c12_3 : a2 = 3
          · have hf := pf_t c12_3 hf
            refine lv_tableIn (off := 70) (tgt := 82) hx hb dX7_bit_12 (by rw [c12_3]; decide) (by rw [c12_3]; decide) (by rw [c12_3]; rfl) (by decide) ?_
            refine lv_aload_n hx hb dX7_bit_82 rfl (lv_at hl 0 rfl) ?_
            refine hm_get cb_X7 hx hb hown X w 0 1 fl_X7_19 dX7_bit_83 rfl (by decide) rfl ?_
            refine hm_get cb_X2 hx hb hown X w 1 4 fl_X7_216 dX7_bit_86 rfl (by decide) rfl ?_
            refine lv_iload_n hx hb dX7_bit_89 rfl (lv_at hl 1 rfl) ?_
            obtain ⟨g90, hf⟩ := pf_ckI hf
            refine hm_iald hx hb X w 4 dX7_bit_90 rfl g90 ?_
            exact hQ _ _ _ _ _ () (fun _ => 0) hf rfl w dX7_bit_91
          · have hf := pf_e c12_3 hf
            by_cases c12_4 : a2 = 4
            · have hf := pf_t c12_4 hf
              refine lv_tableIn (off := 80) (tgt := 92) hx hb dX7_bit_12 (by rw [c12_4]; decide) (by rw [c12_4]; decide) (by rw [c12_4]; rfl) (by decide) ?_
              refine lv_aload_n hx hb dX7_bit_92 rfl (lv_at hl 0 rfl) ?_
              refine hm_get cb_X7 hx hb hown X w 0 1 fl_X7_19 dX7_bit_93 rfl (by decide) rfl ?_
              refine lv_iload_n hx hb dX7_bit_96 rfl (lv_at hl 1 rfl) ?_
              obtain ⟨r2, hc97, hf⟩ := pf_bi_0 hf
              refine hm_aft_i (ws' := fun _ => [oc7 h0 r_t t_writtenCount t_faultPlace, oc2 (r_t 1) r_t_now d_t_now t_now_bits t_now_offset t_now_band t_now_rule t_now_noise t_now_step t_now_draws t_now_heat t_now_hour t_now_seenCount, ic E (r_t_now 2) 12 t_now_off, ic E (r_t_now 1) 12 t_now_size, ic E (r_t_now 4) 12 t_now_stuck, ic E (r_t_now 3) 12 t_now_worth]) (hm_runV (rest := []) hx hb hml hown X hA Y w 1 (ci := 2) (T := TX2) (N := 17) rfl rfl mw_X2_weight ml_X7_219 dX7_bit_97 hm_ac0 [.int a1] rfl [1, 2, 3] rfl rfl (ct_X2_weight l E H.size (r_t 1) r_t_now d_t_now t_now_bits t_now_offset t_now_band t_now_rule t_now_noise t_now_step t_now_draws t_now_heat t_now_hour t_now_seenCount t_now_off t_now_size a1 (r2, ()) hc97) rfl hl.1 ⟨⟨rfl, rfl⟩, ⟨Nat.le_of_ble_eq_true rfl, Nat.le_of_ble_eq_true rfl⟩, ⟨Nat.le_of_ble_eq_true rfl, Nat.le_of_ble_eq_true rfl⟩, Nat.le_of_ble_eq_true rfl⟩) hA w [1, 2, 3] [0, 4, 5] [0, 3, 4, 5, 1, 2] rfl rfl (by decide) (fun _ => rfl) (fun _ H locs w => ?_)
              exact hQ _ _ _ _ _ () (fun _ => 0) hf rfl w dX7_bit_100
            · have hf := pf_e c12_4 hf
              by_cases c12_5 : a2 = 5
              · have hf := pf_t c12_5 hf
                refine lv_tableIn (off := 89) (tgt := 101) hx hb dX7_bit_12 (by rw [c12_5]; decide) (by rw [c12_5]; decide) (by rw [c12_5]; rfl) (by decide) ?_
                refine lv_aload_n hx hb dX7_bit_101 rfl (lv_at hl 0 rfl) ?_
                refine hm_get cb_X7 hx hb hown X w 0 1 fl_X7_19 dX7_bit_102 rfl (by decide) rfl ?_
                refine lv_iload_n hx hb dX7_bit_105 rfl (lv_at hl 1 rfl) ?_
                obtain ⟨r3, hc106, hf⟩ := pf_bi_0 hf
                refine hm_aft_i (ws' := fun _ => [oc7 h0 r_t t_writtenCount t_faultPlace, oc2 (r_t 1) r_t_now d_t_now t_now_bits t_now_offset t_now_band t_now_rule t_now_noise t_now_step t_now_draws t_now_heat t_now_hour t_now_seenCount, ic E (r_t_now 2) 12 t_now_off, ic E (r_t_now 1) 12 t_now_size, ic E (r_t_now 4) 12 t_now_stuck, ic E (r_t_now 3) 12 t_now_worth]) (hm_runV (rest := []) hx hb hml hown X hA Y w 1 (ci := 2) (T := TX2) (N := 17) rfl rfl mw_X2_isShort ml_X7_222 dX7_bit_106 hm_ac0 [.int a1] rfl [1, 2, 3] rfl rfl (ct_X2_isShort l E H.size (r_t 1) r_t_now d_t_now t_now_bits t_now_offset t_now_band t_now_rule t_now_noise t_now_step t_now_draws t_now_heat t_now_hour t_now_seenCount t_now_off t_now_size a1 (r3, ()) hc106) rfl hl.1 ⟨⟨rfl, rfl⟩, ⟨Nat.le_of_ble_eq_true rfl, Nat.le_of_ble_eq_true rfl⟩, ⟨Nat.le_of_ble_eq_true rfl, Nat.le_of_ble_eq_true rfl⟩, Nat.le_of_ble_eq_true rfl⟩) hA w [1, 2, 3] [0, 4, 5] [0, 3, 4, 5, 1, 2] rfl rfl (by decide) (fun _ => rfl) (fun _ H locs w => ?_)
                refine lv_if_eq (tgt := 116) hx hb dX7_bit_109 (by decide) (fun c109 => ?_) (fun c109 => ?_)
                · have hf := pf_t c109 hf
                  refine lv_iconst (v := 0) hx hb dX7_bit_116 (by decide) ?_
                  exact hQ _ _ _ _ _ () (fun _ => 0) hf rfl w dX7_bit_117
                · have hf := pf_e c109 hf
                  refine lv_iconst (v := 1) hx hb dX7_bit_112 (by decide) ?_
                  refine lv_goto (tgt := 117) hx hb dX7_bit_113 (by decide) ?_
                  exact hQ _ _ _ _ _ () (fun _ => 0) hf rfl w dX7_bit_117
              · have hf := pf_e c12_5 hf
                refine lv_tableOut (tgt := 118) hx hb dX7_bit_12 (hm_out (fun k h1 h2 => by have u := And.intro h1 h2; have v0 := hm_ti c12_0; rw [show (0 : Int32).toInt = 0 from by decide] at v0; have v1 := hm_ti c12_1; rw [show (1 : Int32).toInt = 1 from by decide] at v1; have v2 := hm_ti c12_2; rw [show (2 : Int32).toInt = 2 from by decide] at v2; have v3 := hm_ti c12_3; rw [show (3 : Int32).toInt = 3 from by decide] at v3; have v4 := hm_ti c12_4; rw [show (4 : Int32).toInt = 4 from by decide] at v4; have v5 := hm_ti c12_5; rw [show (5 : Int32).toInt = 5 from by decide] at v5; omega)) (by decide) ?_
                refine lv_ldc (v := (-100000)) hx hb hown (X.use ck_X7_204 rfl) dX7_bit_118 ?_
                exact hQ _ _ _ _ _ () (fun _ => 0) hf rfl w dX7_bit_120
  · have hf := pf_t c5 hf
    refine lv_ldc (v := (-100000)) hx hb hown (X.use ck_X7_204 rfl) dX7_bit_8 ?_
    exact hQ _ _ _ _ _ () (fun _ => 0) hf rfl w dX7_bit_10
set_option maxHeartbeats 8000000 in
set_option maxRecDepth 100000 in
theorem ct_X7_set (l : Launch) (E : hm_E) (sz : Nat) (h0 : Nat) (r_t : Nat → Nat) (r_t_now : Nat → Nat) (d_t_now : Nat) (t_writtenCount t_faultPlace t_now_bits t_now_offset t_now_band t_now_rule t_now_noise t_now_step t_now_draws t_now_heat t_now_hour t_now_seenCount : Int32) (a1 : Int32) (a2 : Int32) (R : Int32 × Int32 × Int32 × Int32 × Int32 × Int32) (hf : pf_X7_set a1 a2 t_now_offset t_now_band t_now_rule t_now_noise t_now_step = some R) : hm_Mi l E yX7_set cX7_set 3 .boolean [] (hm_rr 2 43 0 0) [.ref h0, .int a1, .int a2] sz [oc7 h0 r_t t_writtenCount t_faultPlace, oc2 (r_t 1) r_t_now d_t_now t_now_bits t_now_offset t_now_band t_now_rule t_now_noise t_now_step t_now_draws t_now_heat t_now_hour t_now_seenCount] R.1 (fun _ => [oc7 h0 r_t t_writtenCount t_faultPlace, oc2 (r_t 1) r_t_now d_t_now t_now_bits (R.2.1) (R.2.2.1) (R.2.2.2.1) (R.2.2.2.2.1) (R.2.2.2.2.2) t_now_draws t_now_heat t_now_hour t_now_seenCount]) := by
  refine hm_ct_i R (fun u qs => [oc7 h0 r_t t_writtenCount t_faultPlace, oc2 (r_t 1) r_t_now d_t_now t_now_bits (u.1) (u.2.1) (u.2.2.1) (u.2.2.2.1) (u.2.2.2.2) t_now_draws t_now_heat t_now_hour t_now_seenCount]) (by decide) (Nat.le_of_ble_eq_true rfl) (Or.inr rfl) ?_
  intro p e s m args below meth c A Q ls H locs hx hb hml hown X hA Y hex w hl hQ
  have hl : lv_has ls 3 [(0, .ref h0), (1, .int a1), (2, .int a2)] := hl
  unfold pf_X7_set at hf
  refine lv_iload_n hx hb dX7_set_0 rfl (lv_at hl 1 rfl) ?_
  refine lv_iload_n hx hb dX7_set_1 rfl (lv_at hl 2 rfl) ?_
  obtain ⟨r1, hc2, hf⟩ := pf_bi_0 hf
  refine hm_aft_i (ws' := fun _ => [oc7 h0 r_t t_writtenCount t_faultPlace, oc2 (r_t 1) r_t_now d_t_now t_now_bits t_now_offset t_now_band t_now_rule t_now_noise t_now_step t_now_draws t_now_heat t_now_hour t_now_seenCount]) (hm_runS (rest := []) hx hb hml hown X hA Y w mw_X2_mayBeSet ml_X7_229 dX7_set_2 hm_ac0 [.int a1, .int a2] rfl [] rfl rfl (ct_X2_mayBeSet l E H.size a1 a2 (r1, ()) hc2) rfl hl.1 ⟨⟨rfl, rfl⟩, ⟨Nat.le_of_ble_eq_true rfl, Nat.le_of_ble_eq_true rfl⟩, ⟨Nat.le_of_ble_eq_true rfl, Nat.le_of_ble_eq_true rfl⟩, Nat.le_of_ble_eq_true rfl⟩) hA w [] [0, 1] [0, 1] rfl rfl (by decide) (fun _ => rfl) (fun _ H locs w => ?_)
  refine lv_if_ne (tgt := 10) hx hb dX7_set_5 (by decide) (fun c5 => ?_) (fun c5 => ?_)
  · have hf := pf_e c5 hf
    refine lv_aload_n hx hb dX7_set_10 rfl (lv_at hl 0 rfl) ?_
    refine hm_get cb_X7 hx hb hown X w 0 1 fl_X7_19 dX7_set_11 rfl (by decide) rfl ?_
    refine lv_iload_n hx hb dX7_set_14 rfl (lv_at hl 1 rfl) ?_
    refine lv_iload_n hx hb dX7_set_15 rfl (lv_at hl 2 rfl) ?_
    obtain ⟨x2, x3, x4, x5, x6, hc16, hf⟩ := pf_bv_5 hf
    refine hm_aft_v (ws' := fun _ => [oc7 h0 r_t t_writtenCount t_faultPlace, oc2 (r_t 1) r_t_now d_t_now t_now_bits x2 x3 x4 x5 x6 t_now_draws t_now_heat t_now_hour t_now_seenCount]) (hm_runV (rest := []) hx hb hml hown X hA Y w 1 (ci := 2) (T := TX2) (N := 17) rfl rfl mw_X2_put ml_X7_232 dX7_set_16 hm_ac0 [.int a1, .int a2] rfl [1] rfl rfl (ct_X2_put l E H.size (r_t 1) r_t_now d_t_now t_now_bits t_now_offset t_now_band t_now_rule t_now_noise t_now_step t_now_draws t_now_heat t_now_hour t_now_seenCount a1 a2 (x2, x3, x4, x5, x6) hc16) rfl hl.1 ⟨⟨rfl, rfl⟩, ⟨Nat.le_of_ble_eq_true rfl, Nat.le_of_ble_eq_true rfl⟩, ⟨Nat.le_of_ble_eq_true rfl, Nat.le_of_ble_eq_true rfl⟩, Nat.le_of_ble_eq_true rfl⟩) hA w [1] [0] [0, 1] rfl rfl (by decide) (fun _ => rfl) (fun _ H locs w => ?_)
    refine lv_iconst (v := 1) hx hb dX7_set_19 (by decide) ?_
    exact hQ _ _ _ _ _ (x2, x3, x4, x5, x6) (fun _ => 0) hf rfl w dX7_set_20
  · have hf := pf_t c5 hf
    refine lv_iconst (v := 0) hx hb dX7_set_8 (by decide) ?_
    exact hQ _ _ _ _ _ (t_now_offset, t_now_band, t_now_rule, t_now_noise, t_now_step) (fun _ => 0) hf rfl w dX7_set_9
set_option maxHeartbeats 8000000 in
set_option maxRecDepth 100000 in
theorem ct_X7_decision (l : Launch) (E : hm_E) (sz : Nat) (h0 : Nat) (r_t : Nat → Nat) (r_t_latest : Nat → Nat) (t_writtenCount t_faultPlace t_latest_bits t_latest_sum t_latest_heldAtEnd t_latest_left t_latest_lates t_latest_ones t_latest_code : Int32) (t_latest_apart : Nat → Int32) (t_latest_held : Nat → Int32) (t_latest_late : Nat → Int32) (t_latest_one : Nat → Int32) (a1 : Int32) (a2 : Int32) (R : Int32 × Unit) (hf : pf_X7_decision a1 a2 t_latest_bits t_latest_one t_latest_late t_latest_apart t_latest_held = some R) : hm_Mi l E yX7_decision cX7_decision 3 .int [] (hm_rr 0 0 0 0) [.ref h0, .int a1, .int a2] sz [oc7 h0 r_t t_writtenCount t_faultPlace, oc1 (r_t 4) r_t_latest t_latest_bits t_latest_sum t_latest_heldAtEnd t_latest_left t_latest_lates t_latest_ones t_latest_code, ic E (r_t_latest 3) 12 t_latest_apart, ic E (r_t_latest 4) 12 t_latest_held, ic E (r_t_latest 2) 12 t_latest_late, ic E (r_t_latest 1) 12 t_latest_one] R.1 (fun _ => [oc7 h0 r_t t_writtenCount t_faultPlace, oc1 (r_t 4) r_t_latest t_latest_bits t_latest_sum t_latest_heldAtEnd t_latest_left t_latest_lates t_latest_ones t_latest_code, ic E (r_t_latest 3) 12 t_latest_apart, ic E (r_t_latest 4) 12 t_latest_held, ic E (r_t_latest 2) 12 t_latest_late, ic E (r_t_latest 1) 12 t_latest_one]) := by
  refine hm_ct_i R (fun u qs => [oc7 h0 r_t t_writtenCount t_faultPlace, oc1 (r_t 4) r_t_latest t_latest_bits t_latest_sum t_latest_heldAtEnd t_latest_left t_latest_lates t_latest_ones t_latest_code, ic E (r_t_latest 3) 12 t_latest_apart, ic E (r_t_latest 4) 12 t_latest_held, ic E (r_t_latest 2) 12 t_latest_late, ic E (r_t_latest 1) 12 t_latest_one]) (by decide) (Nat.le_of_ble_eq_true rfl) (Or.inl rfl) ?_
  intro p e s m args below meth c A Q ls H locs hx hb hml hown X hA Y hex w hl hQ
  have hl : lv_has ls 3 [(0, .ref h0), (1, .int a1), (2, .int a2)] := hl
  unfold pf_X7_decision at hf
  refine lv_iload_n hx hb dX7_decision_0 rfl (lv_at hl 1 rfl) ?_
  refine lv_if_lt (tgt := 15) hx hb dX7_decision_1 (by decide) (fun c1 => ?_) (fun c1 => ?_)
  · have hf := pf_t c1 hf
    refine lv_ldc (v := (-1000000)) hx hb hown (X.use ck_X7_143 rfl) dX7_decision_15 ?_
    exact hQ _ _ _ _ _ () (fun _ => 0) hf rfl w dX7_decision_17
  · have hf := pf_e c1 hf
    refine lv_iload_n hx hb dX7_decision_4 rfl (lv_at hl 1 rfl) ?_
    refine lv_aload_n hx hb dX7_decision_5 rfl (lv_at hl 0 rfl) ?_
    refine hm_get cb_X7 hx hb hown X w 0 4 fl_X7_33 dX7_decision_6 rfl (by decide) rfl ?_
    refine hm_get cb_X1 hx hb hown X w 1 0 fl_X7_92 dX7_decision_9 rfl (by decide) rfl ?_
    refine lv_icmp_lt (tgt := 18) hx hb dX7_decision_12 (by decide) (fun c12 => ?_) (fun c12 => ?_)
    · have hf := pf_t c12 hf
      refine lv_iload_n hx hb dX7_decision_18 rfl (lv_at hl 2 rfl) ?_
      by_cases c19_0 : a2 = 0
      · have hf := pf_t c19_0 hf
        refine lv_tableIn (off := 29) (tgt := 48) hx hb dX7_decision_19 (by rw [c19_0]; decide) (by rw [c19_0]; decide) (by rw [c19_0]; rfl) (by decide) ?_
        refine lv_aload_n hx hb dX7_decision_48 rfl (lv_at hl 0 rfl) ?_
        refine hm_get cb_X7 hx hb hown X w 0 4 fl_X7_33 dX7_decision_49 rfl (by decide) rfl ?_
        refine hm_get cb_X1 hx hb hown X w 1 1 fl_X7_246 dX7_decision_52 rfl (by decide) rfl ?_
        refine lv_iload_n hx hb dX7_decision_55 rfl (lv_at hl 1 rfl) ?_
        obtain ⟨g56, hf⟩ := pf_ckI hf
        refine hm_iald hx hb X w 5 dX7_decision_56 rfl g56 ?_
        exact hQ _ _ _ _ _ () (fun _ => 0) hf rfl w dX7_decision_57
      · have hf := pf_e c19_0 hf
        by_cases c19_1 : a2 = 1
        · have hf := pf_t c19_1 hf
          refine lv_tableIn (off := 39) (tgt := 58) hx hb dX7_decision_19 (by rw [c19_1]; decide) (by rw [c19_1]; decide) (by rw [c19_1]; rfl) (by decide) ?_
          refine lv_aload_n hx hb dX7_decision_58 rfl (lv_at hl 0 rfl) ?_
          refine hm_get cb_X7 hx hb hown X w 0 4 fl_X7_33 dX7_decision_59 rfl (by decide) rfl ?_
          refine hm_get cb_X1 hx hb hown X w 1 2 fl_X7_247 dX7_decision_62 rfl (by decide) rfl ?_
          refine lv_iload_n hx hb dX7_decision_65 rfl (lv_at hl 1 rfl) ?_
          obtain ⟨g66, hf⟩ := pf_ckI hf
          refine hm_iald hx hb X w 4 dX7_decision_66 rfl g66 ?_
          exact hQ _ _ _ _ _ () (fun _ => 0) hf rfl w dX7_decision_67
        · have hf := pf_e c19_1 hf
          by_cases c19_2 : a2 = 2
          · have hf := pf_t c19_2 hf
            refine lv_tableIn (off := 49) (tgt := 68) hx hb dX7_decision_19 (by rw [c19_2]; decide) (by rw [c19_2]; decide) (by rw [c19_2]; rfl) (by decide) ?_
            refine lv_aload_n hx hb dX7_decision_68 rfl (lv_at hl 0 rfl) ?_
            refine hm_get cb_X7 hx hb hown X w 0 4 fl_X7_33 dX7_decision_69 rfl (by decide) rfl ?_
            refine hm_get cb_X1 hx hb hown X w 1 3 fl_X7_250 dX7_decision_72 rfl (by decide) rfl ?_
            refine lv_iload_n hx hb dX7_decision_75 rfl (lv_at hl 1 rfl) ?_
            obtain ⟨g76, hf⟩ := pf_ckI hf
            refine hm_iald hx hb X w 2 dX7_decision_76 rfl g76 ?_
            exact hQ _ _ _ _ _ () (fun _ => 0) hf rfl w dX7_decision_77
          · have hf := pf_e c19_2 hf
            by_cases c19_3 : a2 = 3
            · have hf := pf_t c19_3 hf
              refine lv_tableIn (off := 59) (tgt := 78) hx hb dX7_decision_19 (by rw [c19_3]; decide) (by rw [c19_3]; decide) (by rw [c19_3]; rfl) (by decide) ?_
              refine lv_aload_n hx hb dX7_decision_78 rfl (lv_at hl 0 rfl) ?_
              refine hm_get cb_X7 hx hb hown X w 0 4 fl_X7_33 dX7_decision_79 rfl (by decide) rfl ?_
              refine hm_get cb_X1 hx hb hown X w 1 4 fl_X7_253 dX7_decision_82 rfl (by decide) rfl ?_
              refine lv_iload_n hx hb dX7_decision_85 rfl (lv_at hl 1 rfl) ?_
              obtain ⟨g86, hf⟩ := pf_ckI hf
              refine hm_iald hx hb X w 3 dX7_decision_86 rfl g86 ?_
              exact hQ _ _ _ _ _ () (fun _ => 0) hf rfl w dX7_decision_87
            · have hf := pf_e c19_3 hf
              refine lv_tableOut (tgt := 88) hx hb dX7_decision_19 (hm_out (fun k h1 h2 => by have u := And.intro h1 h2; have v0 := hm_ti c19_0; rw [show (0 : Int32).toInt = 0 from by decide] at v0; have v1 := hm_ti c19_1; rw [show (1 : Int32).toInt = 1 from by decide] at v1; have v2 := hm_ti c19_2; rw [show (2 : Int32).toInt = 2 from by decide] at v2; have v3 := hm_ti c19_3; rw [show (3 : Int32).toInt = 3 from by decide] at v3; omega)) (by decide) ?_
              refine lv_ldc (v := (-1000000)) hx hb hown (X.use ck_X7_143 rfl) dX7_decision_88 ?_
              exact hQ _ _ _ _ _ () (fun _ => 0) hf rfl w dX7_decision_90
    · have hf := pf_e c12 hf
      refine lv_ldc (v := (-1000000)) hx hb hown (X.use ck_X7_143 rfl) dX7_decision_15 ?_
      exact hQ _ _ _ _ _ () (fun _ => 0) hf rfl w dX7_decision_17
set_option maxHeartbeats 8000000 in
set_option maxRecDepth 100000 in
theorem ct_X7_converted (l : Launch) (E : hm_E) (sz : Nat) (h0 : Nat) (r_t : Nat → Nat) (r_t_latest : Nat → Nat) (t_writtenCount t_faultPlace t_latest_bits t_latest_sum t_latest_heldAtEnd t_latest_left t_latest_lates t_latest_ones t_latest_code : Int32) (a1 : Int32) (R : Int32 × Unit) (hf : pf_X7_converted a1 t_latest_bits t_latest_sum t_latest_heldAtEnd t_latest_left t_latest_lates t_latest_ones t_latest_code = some R) : hm_Mi l E yX7_converted cX7_converted 2 .int [] (hm_rr 0 0 0 0) [.ref h0, .int a1] sz [oc7 h0 r_t t_writtenCount t_faultPlace, oc1 (r_t 4) r_t_latest t_latest_bits t_latest_sum t_latest_heldAtEnd t_latest_left t_latest_lates t_latest_ones t_latest_code] R.1 (fun _ => [oc7 h0 r_t t_writtenCount t_faultPlace, oc1 (r_t 4) r_t_latest t_latest_bits t_latest_sum t_latest_heldAtEnd t_latest_left t_latest_lates t_latest_ones t_latest_code]) := by
  refine hm_ct_i R (fun u qs => [oc7 h0 r_t t_writtenCount t_faultPlace, oc1 (r_t 4) r_t_latest t_latest_bits t_latest_sum t_latest_heldAtEnd t_latest_left t_latest_lates t_latest_ones t_latest_code]) (by decide) (Nat.le_of_ble_eq_true rfl) (Or.inl rfl) ?_
  intro p e s m args below meth c A Q ls H locs hx hb hml hown X hA Y hex w hl hQ
  have hl : lv_has ls 2 [(0, .ref h0), (1, .int a1)] := hl
  unfold pf_X7_converted at hf
  refine lv_aload_n hx hb dX7_converted_0 rfl (lv_at hl 0 rfl) ?_
  refine hm_get cb_X7 hx hb hown X w 0 4 fl_X7_33 dX7_converted_1 rfl (by decide) rfl ?_
  refine hm_get cb_X1 hx hb hown X w 1 0 fl_X7_92 dX7_converted_4 rfl (by decide) rfl ?_
  refine lv_if_ne (tgt := 13) hx hb dX7_converted_7 (by decide) (fun c7 => ?_) (fun c7 => ?_)
  · have hf := pf_e c7 hf
    refine lv_iload_n hx hb dX7_converted_13 rfl (lv_at hl 1 rfl) ?_
    by_cases c14_0 : a1 = 0
    · have hf := pf_t c14_0 hf
      refine lv_tableIn (off := 38) (tgt := 52) hx hb dX7_converted_14 (by rw [c14_0]; decide) (by rw [c14_0]; decide) (by rw [c14_0]; rfl) (by decide) ?_
      refine lv_aload_n hx hb dX7_converted_52 rfl (lv_at hl 0 rfl) ?_
      refine hm_get cb_X7 hx hb hown X w 0 4 fl_X7_33 dX7_converted_53 rfl (by decide) rfl ?_
      refine hm_get cb_X1 hx hb hown X w 1 5 fl_X7_256 dX7_converted_56 rfl (by decide) rfl ?_
      exact hQ _ _ _ _ _ () (fun _ => 0) hf rfl w dX7_converted_59
    · have hf := pf_e c14_0 hf
      by_cases c14_1 : a1 = 1
      · have hf := pf_t c14_1 hf
        refine lv_tableIn (off := 46) (tgt := 60) hx hb dX7_converted_14 (by rw [c14_1]; decide) (by rw [c14_1]; decide) (by rw [c14_1]; rfl) (by decide) ?_
        refine lv_aload_n hx hb dX7_converted_60 rfl (lv_at hl 0 rfl) ?_
        refine hm_get cb_X7 hx hb hown X w 0 4 fl_X7_33 dX7_converted_61 rfl (by decide) rfl ?_
        refine hm_get cb_X1 hx hb hown X w 1 6 fl_X7_259 dX7_converted_64 rfl (by decide) rfl ?_
        exact hQ _ _ _ _ _ () (fun _ => 0) hf rfl w dX7_converted_67
      · have hf := pf_e c14_1 hf
        by_cases c14_2 : a1 = 2
        · have hf := pf_t c14_2 hf
          refine lv_tableIn (off := 54) (tgt := 68) hx hb dX7_converted_14 (by rw [c14_2]; decide) (by rw [c14_2]; decide) (by rw [c14_2]; rfl) (by decide) ?_
          refine lv_aload_n hx hb dX7_converted_68 rfl (lv_at hl 0 rfl) ?_
          refine hm_get cb_X7 hx hb hown X w 0 4 fl_X7_33 dX7_converted_69 rfl (by decide) rfl ?_
          refine hm_get cb_X1 hx hb hown X w 1 7 fl_X7_262 dX7_converted_72 rfl (by decide) rfl ?_
          exact hQ _ _ _ _ _ () (fun _ => 0) hf rfl w dX7_converted_75
        · have hf := pf_e c14_2 hf
          by_cases c14_3 : a1 = 3
          · have hf := pf_t c14_3 hf
            refine lv_tableIn (off := 62) (tgt := 76) hx hb dX7_converted_14 (by rw [c14_3]; decide) (by rw [c14_3]; decide) (by rw [c14_3]; rfl) (by decide) ?_
            refine lv_aload_n hx hb dX7_converted_76 rfl (lv_at hl 0 rfl) ?_
            refine hm_get cb_X7 hx hb hown X w 0 4 fl_X7_33 dX7_converted_77 rfl (by decide) rfl ?_
            refine hm_get cb_X1 hx hb hown X w 1 8 fl_X7_265 dX7_converted_80 rfl (by decide) rfl ?_
            exact hQ _ _ _ _ _ () (fun _ => 0) hf rfl w dX7_converted_83
          · have hf := pf_e c14_3 hf
            by_cases c14_4 : a1 = 4
            · have hf := pf_t c14_4 hf
              refine lv_tableIn (off := 70) (tgt := 84) hx hb dX7_converted_14 (by rw [c14_4]; decide) (by rw [c14_4]; decide) (by rw [c14_4]; rfl) (by decide) ?_
              refine lv_aload_n hx hb dX7_converted_84 rfl (lv_at hl 0 rfl) ?_
              refine hm_get cb_X7 hx hb hown X w 0 4 fl_X7_33 dX7_converted_85 rfl (by decide) rfl ?_
              refine hm_get cb_X1 hx hb hown X w 1 9 fl_X7_268 dX7_converted_88 rfl (by decide) rfl ?_
              exact hQ _ _ _ _ _ () (fun _ => 0) hf rfl w dX7_converted_91
            · have hf := pf_e c14_4 hf
              by_cases c14_5 : a1 = 5
              · have hf := pf_t c14_5 hf
                refine lv_tableIn (off := 78) (tgt := 92) hx hb dX7_converted_14 (by rw [c14_5]; decide) (by rw [c14_5]; decide) (by rw [c14_5]; rfl) (by decide) ?_
                refine lv_aload_n hx hb dX7_converted_92 rfl (lv_at hl 0 rfl) ?_
                refine hm_get cb_X7 hx hb hown X w 0 4 fl_X7_33 dX7_converted_93 rfl (by decide) rfl ?_
                refine hm_get cb_X1 hx hb hown X w 1 10 fl_X7_243 dX7_converted_96 rfl (by decide) rfl ?_
                exact hQ _ _ _ _ _ () (fun _ => 0) hf rfl w dX7_converted_99
              · have hf := pf_e c14_5 hf
                refine lv_tableOut (tgt := 100) hx hb dX7_converted_14 (hm_out (fun k h1 h2 => by have u := And.intro h1 h2; have v0 := hm_ti c14_0; rw [show (0 : Int32).toInt = 0 from by decide] at v0; have v1 := hm_ti c14_1; rw [show (1 : Int32).toInt = 1 from by decide] at v1; have v2 := hm_ti c14_2; rw [show (2 : Int32).toInt = 2 from by decide] at v2; have v3 := hm_ti c14_3; rw [show (3 : Int32).toInt = 3 from by decide] at v3; have v4 := hm_ti c14_4; rw [show (4 : Int32).toInt = 4 from by decide] at v4; have v5 := hm_ti c14_5; rw [show (5 : Int32).toInt = 5 from by decide] at v5; omega)) (by decide) ?_
                refine lv_ldc (v := (-1000000)) hx hb hown (X.use ck_X7_143 rfl) dX7_converted_100 ?_
                exact hQ _ _ _ _ _ () (fun _ => 0) hf rfl w dX7_converted_102
  · have hf := pf_t c7 hf
    refine lv_ldc (v := (-1000000)) hx hb hown (X.use ck_X7_143 rfl) dX7_converted_10 ?_
    exact hQ _ _ _ _ _ () (fun _ => 0) hf rfl w dX7_converted_12
set_option maxHeartbeats 8000000 in
set_option maxRecDepth 100000 in
theorem ct_X7_write (l : Launch) (E : hm_E) (sz : Nat) (h0 : Nat) (r_t : Nat → Nat) (r_t_latest : Nat → Nat) (t_writtenCount t_faultPlace t_latest_bits t_latest_sum t_latest_heldAtEnd t_latest_left t_latest_lates t_latest_ones t_latest_code : Int32) (t_latest_late : Nat → Int32) (t_latest_one : Nat → Int32) (t_written : Nat → Int32) (R : Int32 × (Nat → Int32) × Int32) (hf : pf_X7_write t_written t_writtenCount t_latest_bits t_latest_one t_latest_late = some R) : hm_Mi l E yX7_write cX7_write 2 .int [] (hm_rr 1 21 0 0) [.ref h0] sz [oc7 h0 r_t t_writtenCount t_faultPlace, oc1 (r_t 4) r_t_latest t_latest_bits t_latest_sum t_latest_heldAtEnd t_latest_left t_latest_lates t_latest_ones t_latest_code, ic E (r_t_latest 2) 12 t_latest_late, ic E (r_t_latest 1) 12 t_latest_one, ic E (r_t 8) 12 t_written] R.1 (fun _ => [oc7 h0 r_t (R.2.2) t_faultPlace, oc1 (r_t 4) r_t_latest t_latest_bits t_latest_sum t_latest_heldAtEnd t_latest_left t_latest_lates t_latest_ones t_latest_code, ic E (r_t_latest 2) 12 t_latest_late, ic E (r_t_latest 1) 12 t_latest_one, ic E (r_t 8) 12 (R.2.1)]) := by
  refine hm_ct_i R (fun u qs => [oc7 h0 r_t (u.2) t_faultPlace, oc1 (r_t 4) r_t_latest t_latest_bits t_latest_sum t_latest_heldAtEnd t_latest_left t_latest_lates t_latest_ones t_latest_code, ic E (r_t_latest 2) 12 t_latest_late, ic E (r_t_latest 1) 12 t_latest_one, ic E (r_t 8) 12 (u.1)]) (by decide) (Nat.le_of_ble_eq_true rfl) (Or.inl rfl) ?_
  intro p e s m args below meth c A Q ls H locs hx hb hml hown X hA Y hex w hl hQ
  have hl : lv_has ls 2 [(0, .ref h0)] := hl
  unfold pf_X7_write at hf
  refine lv_aload_n hx hb dX7_write_0 rfl (lv_at hl 0 rfl) ?_
  refine hm_get cb_X7 hx hb hown X w 0 4 fl_X7_33 dX7_write_1 rfl (by decide) rfl ?_
  refine hm_get cb_X1 hx hb hown X w 1 0 fl_X7_92 dX7_write_4 rfl (by decide) rfl ?_
  refine lv_if_ne (tgt := 12) hx hb dX7_write_7 (by decide) (fun c7 => ?_) (fun c7 => ?_)
  · have hf := pf_e c7 hf
    refine lv_aload_n hx hb dX7_write_12 rfl (lv_at hl 0 rfl) ?_
    refine lv_iconst (v := 0) hx hb dX7_write_13 (by decide) ?_
    refine hm_put (ws' := [oc7 h0 r_t 0 t_faultPlace, oc1 (r_t 4) r_t_latest t_latest_bits t_latest_sum t_latest_heldAtEnd t_latest_left t_latest_lates t_latest_ones t_latest_code, ic E (r_t_latest 2) 12 t_latest_late, ic E (r_t_latest 1) 12 t_latest_one, ic E (r_t 8) 12 t_written]) cb_X7 hx hb hown X w 0 9 fl_X7_58 dX7_write_14 rfl (by decide) (Nat.le_of_ble_eq_true rfl) rfl rfl rfl rfl (fun H locs w => ?_)
    refine lv_aload_n hx hb dX7_write_17 rfl (lv_at hl 0 rfl) ?_
    refine hm_get cb_X7 hx hb hown X w 0 4 fl_X7_33 dX7_write_18 rfl (by decide) rfl ?_
    refine hm_get cb_X1 hx hb hown X w 1 0 fl_X7_92 dX7_write_21 rfl (by decide) rfl ?_
    refine lv_iconst (v := 1) hx hb dX7_write_24 (by decide) ?_
    refine lv_isub hx hb dX7_write_25 ?_
    refine lv_topi (fun x1 ex1 => ?_)
    have hf := pf_nm ex1 hf
    refine lv_istore_n (lv' := [(1, .int x1), (0, .ref h0)]) hx hb dX7_write_26 rfl hl (by decide) rfl (fun ls hl => ?_)
    have klp_X7_write_27 : ∀ (n : Nat) (x2 : Int32) (f3 : Nat → Int32) (x4 : Int32) (H : Heap) (locs : List Loc) (ls : Array Slot), lp_X7_write_27 t_latest_late t_latest_one n x2 f3 x4 = some R → hm_W E A s.heap [oc7 h0 r_t x4 t_faultPlace, oc1 (r_t 4) r_t_latest t_latest_bits t_latest_sum t_latest_heldAtEnd t_latest_left t_latest_lates t_latest_ones t_latest_code, ic E (r_t_latest 2) 12 t_latest_late, ic E (r_t_latest 1) 12 t_latest_one, ic E (r_t 8) 12 f3] H locs → lv_has ls 2 [(0, .ref h0), (1, .int x2)] → W p l e (hm_rr 1 21 0 0) s m args below meth c H locs 0 0 Q (F0 m 27 ls []) := by
      intro n
      induction n with
      | zero =>
        intro x2 f3 x4 H locs ls hf w hl
        exact pf_no hf
      | succ n ih27 =>
        intro x2 f3 x4 H locs ls hf w hl
        rw [lp_X7_write_27] at hf
        refine lv_iload_n hx hb dX7_write_27 rfl (lv_at hl 1 rfl) ?_
        refine lv_if_lt (tgt := 64) hx hb dX7_write_28 (by decide) (fun c28 => ?_) (fun c28 => ?_)
        · have hf := pf_t c28 hf
          refine lv_aload_n hx hb dX7_write_64 rfl (lv_at hl 0 rfl) ?_
          refine hm_get cb_X7 hx hb hown X w 0 9 fl_X7_58 dX7_write_65 rfl (by decide) rfl ?_
          exact hQ _ _ _ _ _ (f3, x4) (fun _ => 0) hf rfl w dX7_write_68
        · have hf := pf_e c28 hf
          refine lv_aload_n hx hb dX7_write_31 rfl (lv_at hl 0 rfl) ?_
          refine hm_get cb_X7 hx hb hown X w 0 8 fl_X7_54 dX7_write_32 rfl (by decide) rfl ?_
          refine lv_aload_n hx hb dX7_write_35 rfl (lv_at hl 0 rfl) ?_
          refine hm_get cb_X7 hx hb hown X w 0 9 fl_X7_58 dX7_write_36 rfl (by decide) rfl ?_
          refine lv_aload_n hx hb dX7_write_39 rfl (lv_at hl 0 rfl) ?_
          refine hm_get cb_X7 hx hb hown X w 0 4 fl_X7_33 dX7_write_40 rfl (by decide) rfl ?_
          refine lv_iload_n hx hb dX7_write_43 rfl (lv_at hl 1 rfl) ?_
          obtain ⟨r5, hc44, hf⟩ := pf_bi_0 hf
          refine hm_aft_i (ws' := fun _ => [oc7 h0 r_t x4 t_faultPlace, oc1 (r_t 4) r_t_latest t_latest_bits t_latest_sum t_latest_heldAtEnd t_latest_left t_latest_lates t_latest_ones t_latest_code, ic E (r_t_latest 2) 12 t_latest_late, ic E (r_t_latest 1) 12 t_latest_one, ic E (r_t 8) 12 f3]) (hm_runV (rest := [.int x4, .ref (r_t 8)]) hx hb hml hown X hA Y w 1 (ci := 1) (T := TX1) (N := 11) rfl rfl mw_X1_sign ml_X7_271 dX7_write_44 hm_ac0 [.int x2] rfl [1, 2, 3] rfl rfl (ct_X1_sign l E H.size (r_t 4) r_t_latest t_latest_bits t_latest_sum t_latest_heldAtEnd t_latest_left t_latest_lates t_latest_ones t_latest_code t_latest_late t_latest_one x2 (r5, ()) hc44) rfl hl.1 ⟨⟨rfl, rfl⟩, ⟨Nat.le_of_ble_eq_true rfl, Nat.le_of_ble_eq_true rfl⟩, ⟨Nat.le_of_ble_eq_true rfl, Nat.le_of_ble_eq_true rfl⟩, Nat.le_of_ble_eq_true rfl⟩) hA w [1, 2, 3] [0, 4] [0, 2, 3, 4, 1] rfl rfl (by decide) (fun _ => rfl) (fun _ H locs w => ?_)
          obtain ⟨g47, hf⟩ := pf_ckI hf
          refine hm_iast (ws' := [oc7 h0 r_t x4 t_faultPlace, oc1 (r_t 4) r_t_latest t_latest_bits t_latest_sum t_latest_heldAtEnd t_latest_left t_latest_lates t_latest_ones t_latest_code, ic E (r_t_latest 2) 12 t_latest_late, ic E (r_t_latest 1) 12 t_latest_one, ic E (r_t 8) 12 (upd f3 x4.toNatClampNeg r5)]) hx hb X w 4 dX7_write_47 rfl g47 rfl (fun H locs w => ?_)
          refine lv_aload_n hx hb dX7_write_48 rfl (lv_at hl 0 rfl) ?_
          refine lv_dup hx hb dX7_write_49 rfl ?_
          refine hm_get cb_X7 hx hb hown X w 0 9 fl_X7_58 dX7_write_50 rfl (by decide) rfl ?_
          refine lv_iconst (v := 1) hx hb dX7_write_53 (by decide) ?_
          refine lv_iadd hx hb dX7_write_54 ?_
          refine lv_topi (fun x6 ex6 => ?_)
          have hf := pf_nm ex6 hf
          refine hm_put (ws' := [oc7 h0 r_t x6 t_faultPlace, oc1 (r_t 4) r_t_latest t_latest_bits t_latest_sum t_latest_heldAtEnd t_latest_left t_latest_lates t_latest_ones t_latest_code, ic E (r_t_latest 2) 12 t_latest_late, ic E (r_t_latest 1) 12 t_latest_one, ic E (r_t 8) 12 (upd f3 x4.toNatClampNeg r5)]) cb_X7 hx hb hown X w 0 9 fl_X7_58 dX7_write_55 rfl (by decide) (Nat.le_of_ble_eq_true rfl) rfl rfl rfl rfl (fun H locs w => ?_)
          obtain ⟨x7, ex7⟩ : ∃ y : Int32, y = (x2 + (-1)) := ⟨_, rfl⟩
          have hf := pf_nm ex7 hf
          refine lv_iinc (v := x7) (lv' := [(1, .int x7), (0, .ref h0)]) hx hb dX7_write_58 hl (k := 1) rfl (by rw [ex7]; rfl) (by decide) rfl (fun ls hl => ?_)
          refine lv_goto (tgt := 27) hx hb dX7_write_61 (by decide) ?_
          exact ih27 _ _ _ _ _ _ hf w (lv_sub hl [1, 0] rfl)
    exact klp_X7_write_27 FU _ _ _ _ _ _ hf w (lv_sub hl [1, 0] rfl)
  · have hf := pf_t c7 hf
    refine lv_iconst (v := (-1)) hx hb dX7_write_10 (by decide) ?_
    exact hQ _ _ _ _ _ (t_written, t_writtenCount) (fun _ => 0) hf rfl w dX7_write_11
set_option maxHeartbeats 8000000 in
set_option maxRecDepth 100000 in
theorem ct_X7_octet (l : Launch) (E : hm_E) (sz : Nat) (h0 : Nat) (r_t : Nat → Nat) (t_writtenCount t_faultPlace : Int32) (t_written : Nat → Int32) (a1 : Int32) (R : Int32 × Unit) (hf : pf_X7_octet a1 t_written t_writtenCount = some R) : hm_Mi l E yX7_octet cX7_octet 2 .int [] (hm_rr 0 0 0 0) [.ref h0, .int a1] sz [oc7 h0 r_t t_writtenCount t_faultPlace, ic E (r_t 8) 12 t_written] R.1 (fun _ => [oc7 h0 r_t t_writtenCount t_faultPlace, ic E (r_t 8) 12 t_written]) := by
  refine hm_ct_i R (fun u qs => [oc7 h0 r_t t_writtenCount t_faultPlace, ic E (r_t 8) 12 t_written]) (by decide) (Nat.le_of_ble_eq_true rfl) (Or.inl rfl) ?_
  intro p e s m args below meth c A Q ls H locs hx hb hml hown X hA Y hex w hl hQ
  have hl : lv_has ls 2 [(0, .ref h0), (1, .int a1)] := hl
  unfold pf_X7_octet at hf
  refine lv_iload_n hx hb dX7_octet_0 rfl (lv_at hl 1 rfl) ?_
  refine lv_if_lt (tgt := 21) hx hb dX7_octet_1 (by decide) (fun c1 => ?_) (fun c1 => ?_)
  · have hf := pf_t c1 hf
    refine lv_iconst (v := (-1)) hx hb dX7_octet_21 (by decide) ?_
    exact hQ _ _ _ _ _ () (fun _ => 0) hf rfl w dX7_octet_22
  · have hf := pf_e c1 hf
    refine lv_iload_n hx hb dX7_octet_4 rfl (lv_at hl 1 rfl) ?_
    refine lv_aload_n hx hb dX7_octet_5 rfl (lv_at hl 0 rfl) ?_
    refine hm_get cb_X7 hx hb hown X w 0 9 fl_X7_58 dX7_octet_6 rfl (by decide) rfl ?_
    refine lv_icmp_ge (tgt := 21) hx hb dX7_octet_9 (by decide) (fun c9 => ?_) (fun c9 => ?_)
    · have hf := pf_t c9 hf
      refine lv_iconst (v := (-1)) hx hb dX7_octet_21 (by decide) ?_
      exact hQ _ _ _ _ _ () (fun _ => 0) hf rfl w dX7_octet_22
    · have hf := pf_e c9 hf
      refine lv_aload_n hx hb dX7_octet_12 rfl (lv_at hl 0 rfl) ?_
      refine hm_get cb_X7 hx hb hown X w 0 8 fl_X7_54 dX7_octet_13 rfl (by decide) rfl ?_
      refine lv_iload_n hx hb dX7_octet_16 rfl (lv_at hl 1 rfl) ?_
      obtain ⟨g17, hf⟩ := pf_ckI hf
      refine hm_iald hx hb X w 1 dX7_octet_17 rfl g17 ?_
      refine lv_goto (tgt := 22) hx hb dX7_octet_18 (by decide) ?_
      exact hQ _ _ _ _ _ () (fun _ => 0) hf rfl w dX7_octet_22
set_option maxHeartbeats 8000000 in
set_option maxRecDepth 100000 in
theorem ct_X7_mean (l : Launch) (E : hm_E) (sz : Nat) (h0 : Nat) (r_t : Nat → Nat) (r_t_now : Nat → Nat) (d_t_now : Nat) (r_t_passing : Nat → Nat) (t_writtenCount t_faultPlace t_now_bits t_now_offset t_now_band t_now_rule t_now_noise t_now_step t_now_draws t_now_heat t_now_hour t_now_seenCount t_passing_bits t_passing_sum t_passing_heldAtEnd t_passing_left t_passing_lates t_passing_ones t_passing_code : Int32) (t_now_off : Nat → Int32) (t_now_size : Nat → Int32) (t_now_stuck : Nat → Int32) (t_now_worth : Nat → Int32) (t_passing_apart : Nat → Int32) (t_passing_held : Nat → Int32) (t_passing_late : Nat → Int32) (t_passing_one : Nat → Int32) (a1 : Int32) (a2 : Int32) (R : Int32 × Int32 × Int32 × (Nat → Int32) × (Nat → Int32) × (Nat → Int32) × (Nat → Int32) × Int32 × Int32 × Int32 × Int32 × Int32 × Int32) (hf : pf_X7_mean a1 a2 t_now_bits t_now_size t_now_off t_now_worth t_now_stuck t_now_offset t_now_band t_now_rule t_now_noise t_now_step t_now_draws t_passing_bits t_passing_one t_passing_late t_passing_apart t_passing_held t_passing_sum t_passing_heldAtEnd t_passing_left t_passing_lates t_passing_ones t_passing_code = some R) : hm_Mi l E yX7_mean cX7_mean 6 .int [] (hm_rr 3 70 0 0) [.ref h0, .int a1, .int a2] sz [oc7 h0 r_t t_writtenCount t_faultPlace, oc2 (r_t 1) r_t_now d_t_now t_now_bits t_now_offset t_now_band t_now_rule t_now_noise t_now_step t_now_draws t_now_heat t_now_hour t_now_seenCount, oc1 (r_t 5) r_t_passing t_passing_bits t_passing_sum t_passing_heldAtEnd t_passing_left t_passing_lates t_passing_ones t_passing_code, ic E (r_t_now 2) 12 t_now_off, ic E (r_t_now 1) 12 t_now_size, ic E (r_t_now 4) 12 t_now_stuck, ic E (r_t_now 3) 12 t_now_worth, ic E (r_t_passing 3) 12 t_passing_apart, ic E (r_t_passing 4) 12 t_passing_held, ic E (r_t_passing 2) 12 t_passing_late, ic E (r_t_passing 1) 12 t_passing_one] R.1 (fun _ => [oc7 h0 r_t t_writtenCount t_faultPlace, oc2 (r_t 1) r_t_now d_t_now t_now_bits t_now_offset t_now_band t_now_rule t_now_noise t_now_step (R.2.1) t_now_heat t_now_hour t_now_seenCount, oc1 (r_t 5) r_t_passing (R.2.2.1) (R.2.2.2.2.2.2.2.1) (R.2.2.2.2.2.2.2.2.1) (R.2.2.2.2.2.2.2.2.2.1) (R.2.2.2.2.2.2.2.2.2.2.1) (R.2.2.2.2.2.2.2.2.2.2.2.1) (R.2.2.2.2.2.2.2.2.2.2.2.2), ic E (r_t_now 2) 12 t_now_off, ic E (r_t_now 1) 12 t_now_size, ic E (r_t_now 4) 12 t_now_stuck, ic E (r_t_now 3) 12 t_now_worth, ic E (r_t_passing 3) 12 (R.2.2.2.2.2.1), ic E (r_t_passing 4) 12 (R.2.2.2.2.2.2.1), ic E (r_t_passing 2) 12 (R.2.2.2.2.1), ic E (r_t_passing 1) 12 (R.2.2.2.1)]) := by
  refine hm_ct_i R (fun u qs => [oc7 h0 r_t t_writtenCount t_faultPlace, oc2 (r_t 1) r_t_now d_t_now t_now_bits t_now_offset t_now_band t_now_rule t_now_noise t_now_step (u.1) t_now_heat t_now_hour t_now_seenCount, oc1 (r_t 5) r_t_passing (u.2.1) (u.2.2.2.2.2.2.1) (u.2.2.2.2.2.2.2.1) (u.2.2.2.2.2.2.2.2.1) (u.2.2.2.2.2.2.2.2.2.1) (u.2.2.2.2.2.2.2.2.2.2.1) (u.2.2.2.2.2.2.2.2.2.2.2), ic E (r_t_now 2) 12 t_now_off, ic E (r_t_now 1) 12 t_now_size, ic E (r_t_now 4) 12 t_now_stuck, ic E (r_t_now 3) 12 t_now_worth, ic E (r_t_passing 3) 12 (u.2.2.2.2.1), ic E (r_t_passing 4) 12 (u.2.2.2.2.2.1), ic E (r_t_passing 2) 12 (u.2.2.2.1), ic E (r_t_passing 1) 12 (u.2.2.1)]) (by decide) (Nat.le_of_ble_eq_true rfl) (Or.inl rfl) ?_
  intro p e s m args below meth c A Q ls H locs hx hb hml hown X hA Y hex w hl hQ
  have hl : lv_has ls 6 [(0, .ref h0), (1, .int a1), (2, .int a2)] := hl
  unfold pf_X7_mean at hf
  refine lv_aload_n hx hb dX7_mean_0 rfl (lv_at hl 0 rfl) ?_
  refine hm_get cb_X7 hx hb hown X w 0 1 fl_X7_19 dX7_mean_1 rfl (by decide) rfl ?_
  refine hm_get cb_X2 hx hb hown X w 1 0 fl_X7_95 dX7_mean_4 rfl (by decide) rfl ?_
  refine lv_if_eq (tgt := 27) hx hb dX7_mean_7 (by decide) (fun c7 => ?_) (fun c7 => ?_)
  · have hf := pf_t c7 hf
    refine lv_ldc (v := (-1000000)) hx hb hown (X.use ck_X7_143 rfl) dX7_mean_27 ?_
    exact hQ _ _ _ _ _ (t_now_draws, t_passing_bits, t_passing_one, t_passing_late, t_passing_apart, t_passing_held, t_passing_sum, t_passing_heldAtEnd, t_passing_left, t_passing_lates, t_passing_ones, t_passing_code) (fun _ => 0) hf rfl w dX7_mean_29
  · have hf := pf_e c7 hf
    refine lv_iload_n hx hb dX7_mean_10 rfl (lv_at hl 1 rfl) ?_
    obtain ⟨r1, hc11, hf⟩ := pf_bi_0 hf
    refine hm_aft_i (ws' := fun _ => [oc7 h0 r_t t_writtenCount t_faultPlace, oc2 (r_t 1) r_t_now d_t_now t_now_bits t_now_offset t_now_band t_now_rule t_now_noise t_now_step t_now_draws t_now_heat t_now_hour t_now_seenCount, oc1 (r_t 5) r_t_passing t_passing_bits t_passing_sum t_passing_heldAtEnd t_passing_left t_passing_lates t_passing_ones t_passing_code, ic E (r_t_now 2) 12 t_now_off, ic E (r_t_now 1) 12 t_now_size, ic E (r_t_now 4) 12 t_now_stuck, ic E (r_t_now 3) 12 t_now_worth, ic E (r_t_passing 3) 12 t_passing_apart, ic E (r_t_passing 4) 12 t_passing_held, ic E (r_t_passing 2) 12 t_passing_late, ic E (r_t_passing 1) 12 t_passing_one]) (hm_runS (rest := []) hx hb hml hown X hA Y w mw_X7_isNear ml_X7_236 dX7_mean_11 hm_ac0 [.int a1] rfl [] rfl rfl (ct_X7_isNear l E H.size a1 (r1, ()) hc11) rfl hl.1 ⟨⟨rfl, rfl⟩, ⟨Nat.le_of_ble_eq_true rfl, Nat.le_of_ble_eq_true rfl⟩, ⟨Nat.le_of_ble_eq_true rfl, Nat.le_of_ble_eq_true rfl⟩, Nat.le_of_ble_eq_true rfl⟩) hA w [] [0, 1, 2, 3, 4, 5, 6, 7, 8, 9, 10] [0, 1, 2, 3, 4, 5, 6, 7, 8, 9, 10] rfl rfl (by decide) (fun _ => rfl) (fun _ H locs w => ?_)
    refine lv_if_eq (tgt := 27) hx hb dX7_mean_14 (by decide) (fun c14 => ?_) (fun c14 => ?_)
    · have hf := pf_t c14 hf
      refine lv_ldc (v := (-1000000)) hx hb hown (X.use ck_X7_143 rfl) dX7_mean_27 ?_
      exact hQ _ _ _ _ _ (t_now_draws, t_passing_bits, t_passing_one, t_passing_late, t_passing_apart, t_passing_held, t_passing_sum, t_passing_heldAtEnd, t_passing_left, t_passing_lates, t_passing_ones, t_passing_code) (fun _ => 0) hf rfl w dX7_mean_29
    · have hf := pf_e c14 hf
      refine lv_iload_n hx hb dX7_mean_17 rfl (lv_at hl 2 rfl) ?_
      refine lv_iconst (v := 1) hx hb dX7_mean_18 (by decide) ?_
      refine lv_bipush (v := 100) hx hb dX7_mean_19 (by decide) ?_
      obtain ⟨r2, hc21, hf⟩ := pf_bi_0 hf
      refine hm_aft_i (ws' := fun _ => [oc7 h0 r_t t_writtenCount t_faultPlace, oc2 (r_t 1) r_t_now d_t_now t_now_bits t_now_offset t_now_band t_now_rule t_now_noise t_now_step t_now_draws t_now_heat t_now_hour t_now_seenCount, oc1 (r_t 5) r_t_passing t_passing_bits t_passing_sum t_passing_heldAtEnd t_passing_left t_passing_lates t_passing_ones t_passing_code, ic E (r_t_now 2) 12 t_now_off, ic E (r_t_now 1) 12 t_now_size, ic E (r_t_now 4) 12 t_now_stuck, ic E (r_t_now 3) 12 t_now_worth, ic E (r_t_passing 3) 12 t_passing_apart, ic E (r_t_passing 4) 12 t_passing_held, ic E (r_t_passing 2) 12 t_passing_late, ic E (r_t_passing 1) 12 t_passing_one]) (hm_runS (rest := []) hx hb hml hown X hA Y w mw_X7_within ml_X7_225 dX7_mean_21 hm_ac0 [.int a2, .int 1, .int 100] rfl [] rfl rfl (ct_X7_within l E H.size a2 1 100 (r2, ()) hc21) rfl hl.1 ⟨⟨rfl, rfl⟩, ⟨Nat.le_of_ble_eq_true rfl, Nat.le_of_ble_eq_true rfl⟩, ⟨Nat.le_of_ble_eq_true rfl, Nat.le_of_ble_eq_true rfl⟩, Nat.le_of_ble_eq_true rfl⟩) hA w [] [0, 1, 2, 3, 4, 5, 6, 7, 8, 9, 10] [0, 1, 2, 3, 4, 5, 6, 7, 8, 9, 10] rfl rfl (by decide) (fun _ => rfl) (fun _ H locs w => ?_)
      refine lv_if_ne (tgt := 30) hx hb dX7_mean_24 (by decide) (fun c24 => ?_) (fun c24 => ?_)
      · have hf := pf_e c24 hf
        refine lv_lconst (v := 0) hx hb dX7_mean_30 (by decide) ?_
        refine lv_lstore_n (lv' := [(3, .long 0), (0, .ref h0), (1, .int a1), (2, .int a2)]) hx hb dX7_mean_31 rfl hl (by decide) rfl (fun ls hl => ?_)
        refine lv_iconst (v := 0) hx hb dX7_mean_32 (by decide) ?_
        refine lv_istore (lv' := [(5, .int 0), (3, .long 0), (0, .ref h0), (1, .int a1), (2, .int a2)]) hx hb dX7_mean_33 hl (by decide) rfl (fun ls hl => ?_)
        have klp_X7_mean_35 : ∀ (n : Nat) (x3 : Int64) (x4 : Int32) (x5 : Int32) (x6 : Int32) (f7 : Nat → Int32) (f8 : Nat → Int32) (f9 : Nat → Int32) (f10 : Nat → Int32) (x11 : Int32) (x12 : Int32) (x13 : Int32) (x14 : Int32) (x15 : Int32) (x16 : Int32) (H : Heap) (locs : List Loc) (ls : Array Slot), lp_X7_mean_35 a1 a2 t_now_bits t_now_offset t_now_band t_now_rule t_now_noise t_now_step t_now_off t_now_size t_now_stuck t_now_worth n x3 x4 x5 x6 f7 f8 f9 f10 x11 x12 x13 x14 x15 x16 = some R → hm_W E A s.heap [oc7 h0 r_t t_writtenCount t_faultPlace, oc2 (r_t 1) r_t_now d_t_now t_now_bits t_now_offset t_now_band t_now_rule t_now_noise t_now_step x5 t_now_heat t_now_hour t_now_seenCount, oc1 (r_t 5) r_t_passing x6 x11 x12 x13 x14 x15 x16, ic E (r_t_now 2) 12 t_now_off, ic E (r_t_now 1) 12 t_now_size, ic E (r_t_now 4) 12 t_now_stuck, ic E (r_t_now 3) 12 t_now_worth, ic E (r_t_passing 3) 12 f9, ic E (r_t_passing 4) 12 f10, ic E (r_t_passing 2) 12 f8, ic E (r_t_passing 1) 12 f7] H locs → lv_has ls 6 [(0, .ref h0), (1, .int a1), (2, .int a2), (3, .long x3), (5, .int x4)] → W p l e (hm_rr 3 70 0 0) s m args below meth c H locs 0 0 Q (F0 m 35 ls []) := by
          intro n
          induction n with
          | zero =>
            intro x3 x4 x5 x6 f7 f8 f9 f10 x11 x12 x13 x14 x15 x16 H locs ls hf w hl
            exact pf_no hf
          | succ n ih35 =>
            intro x3 x4 x5 x6 f7 f8 f9 f10 x11 x12 x13 x14 x15 x16 H locs ls hf w hl
            rw [lp_X7_mean_35] at hf
            refine lv_iload hx hb dX7_mean_35 (lv_at hl 4 rfl) ?_
            refine lv_iload_n hx hb dX7_mean_37 rfl (lv_at hl 2 rfl) ?_
            refine lv_icmp_ge (tgt := 84) hx hb dX7_mean_38 (by decide) (fun c38 => ?_) (fun c38 => ?_)
            · have hf := pf_t c38 hf
              refine lv_lload_n hx hb dX7_mean_84 rfl (lv_at hl 3 rfl) ?_
              refine lv_iload_n hx hb dX7_mean_85 rfl (lv_at hl 2 rfl) ?_
              obtain ⟨r17, hc86, hf⟩ := pf_bi_0 hf
              refine hm_aft_i (ws' := fun _ => [oc7 h0 r_t t_writtenCount t_faultPlace, oc2 (r_t 1) r_t_now d_t_now t_now_bits t_now_offset t_now_band t_now_rule t_now_noise t_now_step x5 t_now_heat t_now_hour t_now_seenCount, oc1 (r_t 5) r_t_passing x6 x11 x12 x13 x14 x15 x16, ic E (r_t_now 2) 12 t_now_off, ic E (r_t_now 1) 12 t_now_size, ic E (r_t_now 4) 12 t_now_stuck, ic E (r_t_now 3) 12 t_now_worth, ic E (r_t_passing 3) 12 f9, ic E (r_t_passing 4) 12 f10, ic E (r_t_passing 2) 12 f8, ic E (r_t_passing 1) 12 f7]) (hm_runS (rest := []) hx hb hml hown X hA Y w mw_X7_nearest ml_X7_274 dX7_mean_86 hm_ac0 [.long x3, .int a2] rfl [] rfl rfl (ct_X7_nearest l E H.size x3 a2 (r17, ()) hc86) rfl hl.1 ⟨⟨rfl, rfl⟩, ⟨Nat.le_of_ble_eq_true rfl, Nat.le_of_ble_eq_true rfl⟩, ⟨Nat.le_of_ble_eq_true rfl, Nat.le_of_ble_eq_true rfl⟩, Nat.le_of_ble_eq_true rfl⟩) hA w [] [0, 1, 2, 3, 4, 5, 6, 7, 8, 9, 10] [0, 1, 2, 3, 4, 5, 6, 7, 8, 9, 10] rfl rfl (by decide) (fun _ => rfl) (fun _ H locs w => ?_)
              exact hQ _ _ _ _ _ (x5, x6, f7, f8, f9, f10, x11, x12, x13, x14, x15, x16) (fun _ => 0) hf rfl w dX7_mean_89
            · have hf := pf_e c38 hf
              refine lv_aload_n hx hb dX7_mean_41 rfl (lv_at hl 0 rfl) ?_
              refine hm_get cb_X7 hx hb hown X w 0 1 fl_X7_19 dX7_mean_42 rfl (by decide) rfl ?_
              refine lv_iload_n hx hb dX7_mean_45 rfl (lv_at hl 1 rfl) ?_
              refine lv_aload_n hx hb dX7_mean_46 rfl (lv_at hl 0 rfl) ?_
              refine hm_get cb_X7 hx hb hown X w 0 1 fl_X7_19 dX7_mean_47 rfl (by decide) rfl ?_
              refine hm_get cb_X2 hx hb hown X w 1 5 fl_X7_175 dX7_mean_50 rfl (by decide) rfl ?_
              refine lv_aload_n hx hb dX7_mean_53 rfl (lv_at hl 0 rfl) ?_
              refine hm_get cb_X7 hx hb hown X w 0 1 fl_X7_19 dX7_mean_54 rfl (by decide) rfl ?_
              refine hm_get cb_X2 hx hb hown X w 1 0 fl_X7_95 dX7_mean_57 rfl (by decide) rfl ?_
              refine lv_aload_n hx hb dX7_mean_60 rfl (lv_at hl 0 rfl) ?_
              refine hm_get cb_X7 hx hb hown X w 0 5 fl_X7_37 dX7_mean_61 rfl (by decide) rfl ?_
              obtain ⟨x18, x19, f20, f21, f22, f23, x24, x25, x26, x27, x28, x29, hc64, hf⟩ := pf_bv_12 hf
              refine hm_aft_v (ws' := fun _ => [oc7 h0 r_t t_writtenCount t_faultPlace, oc2 (r_t 1) r_t_now d_t_now t_now_bits t_now_offset t_now_band t_now_rule t_now_noise t_now_step x18 t_now_heat t_now_hour t_now_seenCount, oc1 (r_t 5) r_t_passing x19 x24 x25 x26 x27 x28 x29, ic E (r_t_now 2) 12 t_now_off, ic E (r_t_now 1) 12 t_now_size, ic E (r_t_now 4) 12 t_now_stuck, ic E (r_t_now 3) 12 t_now_worth, ic E (r_t_passing 3) 12 f22, ic E (r_t_passing 4) 12 f23, ic E (r_t_passing 2) 12 f21, ic E (r_t_passing 1) 12 f20]) (hm_runV (rest := []) hx hb hml hown X hA Y w 1 (ci := 2) (T := TX2) (N := 17) rfl rfl mw_X2_run ml_X7_239 dX7_mean_64 hm_ac0 [.int a1, .int t_now_offset, .int t_now_bits, .ref (r_t 5)] rfl [1, 2, 3, 4, 5, 6, 7, 8, 9, 10] rfl rfl (ct_X2_run l E H.size (r_t 1) (r_t 5) r_t_now d_t_now r_t_passing t_now_bits t_now_offset t_now_band t_now_rule t_now_noise t_now_step x5 t_now_heat t_now_hour t_now_seenCount x6 x11 x12 x13 x14 x15 x16 t_now_off t_now_size t_now_stuck t_now_worth f9 f10 f8 f7 a1 t_now_offset t_now_bits (x18, x19, f20, f21, f22, f23, x24, x25, x26, x27, x28, x29) hc64) rfl hl.1 ⟨⟨rfl, rfl⟩, ⟨Nat.le_of_ble_eq_true rfl, Nat.le_of_ble_eq_true rfl⟩, ⟨Nat.le_of_ble_eq_true rfl, Nat.le_of_ble_eq_true rfl⟩, Nat.le_of_ble_eq_true rfl⟩) hA w [1, 2, 3, 4, 5, 6, 7, 8, 9, 10] [0] [0, 1, 2, 3, 4, 5, 6, 7, 8, 9, 10] rfl rfl (by decide) (fun _ => rfl) (fun _ H locs w => ?_)
              refine lv_lload_n hx hb dX7_mean_67 rfl (lv_at hl 3 rfl) ?_
              refine lv_aload_n hx hb dX7_mean_68 rfl (lv_at hl 0 rfl) ?_
              refine hm_get cb_X7 hx hb hown X w 0 5 fl_X7_37 dX7_mean_69 rfl (by decide) rfl ?_
              refine hm_get cb_X1 hx hb hown X w 2 10 fl_X7_243 dX7_mean_72 rfl (by decide) rfl ?_
              refine lv_i2l hx hb dX7_mean_75 rfl ?_
              refine lv_ladd hx hb dX7_mean_76 ?_
              refine lv_topl (fun x30 ex30 => ?_)
              have hf := pf_nm ex30 hf
              refine lv_lstore_n (lv' := [(3, .long x30), (0, .ref h0), (1, .int a1), (2, .int a2), (5, .int x4)]) hx hb dX7_mean_77 rfl hl (by decide) rfl (fun ls hl => ?_)
              obtain ⟨x31, ex31⟩ : ∃ y : Int32, y = (x4 + 1) := ⟨_, rfl⟩
              have hf := pf_nm ex31 hf
              refine lv_iinc (v := x31) (lv' := [(5, .int x31), (3, .long x30), (0, .ref h0), (1, .int a1), (2, .int a2)]) hx hb dX7_mean_78 hl (k := 4) rfl (by rw [ex31]; rfl) (by decide) rfl (fun ls hl => ?_)
              refine lv_goto (tgt := 35) hx hb dX7_mean_81 (by decide) ?_
              exact ih35 _ _ _ _ _ _ _ _ _ _ _ _ _ _ _ _ _ hf w (lv_sub hl [2, 3, 4, 1, 0] rfl)
        exact klp_X7_mean_35 FU _ _ _ _ _ _ _ _ _ _ _ _ _ _ _ _ _ hf w (lv_sub hl [2, 3, 4, 1, 0] rfl)
      · have hf := pf_t c24 hf
        refine lv_ldc (v := (-1000000)) hx hb hown (X.use ck_X7_143 rfl) dX7_mean_27 ?_
        exact hQ _ _ _ _ _ (t_now_draws, t_passing_bits, t_passing_one, t_passing_late, t_passing_apart, t_passing_held, t_passing_sum, t_passing_heldAtEnd, t_passing_left, t_passing_lates, t_passing_ones, t_passing_code) (fun _ => 0) hf rfl w dX7_mean_29
set_option maxHeartbeats 8000000 in
set_option maxRecDepth 100000 in
theorem ct_X7_code (l : Launch) (E : hm_E) (sz : Nat) (h0 : Nat) (r_t : Nat → Nat) (r_t_now : Nat → Nat) (d_t_now : Nat) (t_writtenCount t_faultPlace t_now_bits t_now_offset t_now_band t_now_rule t_now_noise t_now_step t_now_draws t_now_heat t_now_hour t_now_seenCount : Int32) (t_now_off : Nat → Int32) (t_now_size : Nat → Int32) (t_now_stuck : Nat → Int32) (t_now_worth : Nat → Int32) (a1 : Int32) (R : Int32 × Unit) (hf : pf_X7_code a1 t_now_bits t_now_size t_now_off t_now_worth t_now_stuck t_now_offset t_now_step = some R) : hm_Mi l E yX7_code cX7_code 2 .int [] (hm_rr 3 68 0 0) [.ref h0, .int a1] sz [oc7 h0 r_t t_writtenCount t_faultPlace, oc2 (r_t 1) r_t_now d_t_now t_now_bits t_now_offset t_now_band t_now_rule t_now_noise t_now_step t_now_draws t_now_heat t_now_hour t_now_seenCount, ic E (r_t_now 2) 12 t_now_off, ic E (r_t_now 1) 12 t_now_size, ic E (r_t_now 4) 12 t_now_stuck, ic E (r_t_now 3) 12 t_now_worth] R.1 (fun _ => [oc7 h0 r_t t_writtenCount t_faultPlace, oc2 (r_t 1) r_t_now d_t_now t_now_bits t_now_offset t_now_band t_now_rule t_now_noise t_now_step t_now_draws t_now_heat t_now_hour t_now_seenCount, ic E (r_t_now 2) 12 t_now_off, ic E (r_t_now 1) 12 t_now_size, ic E (r_t_now 4) 12 t_now_stuck, ic E (r_t_now 3) 12 t_now_worth]) := by
  refine hm_ct_i R (fun u qs => [oc7 h0 r_t t_writtenCount t_faultPlace, oc2 (r_t 1) r_t_now d_t_now t_now_bits t_now_offset t_now_band t_now_rule t_now_noise t_now_step t_now_draws t_now_heat t_now_hour t_now_seenCount, ic E (r_t_now 2) 12 t_now_off, ic E (r_t_now 1) 12 t_now_size, ic E (r_t_now 4) 12 t_now_stuck, ic E (r_t_now 3) 12 t_now_worth]) (by decide) (Nat.le_of_ble_eq_true rfl) (Or.inl rfl) ?_
  intro p e s m args below meth c A Q ls H locs hx hb hml hown X hA Y hex w hl hQ
  have hl : lv_has ls 2 [(0, .ref h0), (1, .int a1)] := hl
  unfold pf_X7_code at hf
  refine lv_aload_n hx hb dX7_code_0 rfl (lv_at hl 0 rfl) ?_
  refine hm_get cb_X7 hx hb hown X w 0 1 fl_X7_19 dX7_code_1 rfl (by decide) rfl ?_
  refine hm_get cb_X2 hx hb hown X w 1 0 fl_X7_95 dX7_code_4 rfl (by decide) rfl ?_
  refine lv_if_eq (tgt := 17) hx hb dX7_code_7 (by decide) (fun c7 => ?_) (fun c7 => ?_)
  · have hf := pf_t c7 hf
    refine lv_ldc (v := (-1000000)) hx hb hown (X.use ck_X7_143 rfl) dX7_code_17 ?_
    refine lv_goto (tgt := 30) hx hb dX7_code_19 (by decide) ?_
    exact hQ _ _ _ _ _ () (fun _ => 0) hf rfl w dX7_code_30
  · have hf := pf_e c7 hf
    refine lv_iload_n hx hb dX7_code_10 rfl (lv_at hl 1 rfl) ?_
    obtain ⟨r1, hc11, hf⟩ := pf_bi_0 hf
    refine hm_aft_i (ws' := fun _ => [oc7 h0 r_t t_writtenCount t_faultPlace, oc2 (r_t 1) r_t_now d_t_now t_now_bits t_now_offset t_now_band t_now_rule t_now_noise t_now_step t_now_draws t_now_heat t_now_hour t_now_seenCount, ic E (r_t_now 2) 12 t_now_off, ic E (r_t_now 1) 12 t_now_size, ic E (r_t_now 4) 12 t_now_stuck, ic E (r_t_now 3) 12 t_now_worth]) (hm_runS (rest := []) hx hb hml hown X hA Y w mw_X7_isNear ml_X7_236 dX7_code_11 hm_ac0 [.int a1] rfl [] rfl rfl (ct_X7_isNear l E H.size a1 (r1, ()) hc11) rfl hl.1 ⟨⟨rfl, rfl⟩, ⟨Nat.le_of_ble_eq_true rfl, Nat.le_of_ble_eq_true rfl⟩, ⟨Nat.le_of_ble_eq_true rfl, Nat.le_of_ble_eq_true rfl⟩, Nat.le_of_ble_eq_true rfl⟩) hA w [] [0, 1, 2, 3, 4, 5] [0, 1, 2, 3, 4, 5] rfl rfl (by decide) (fun _ => rfl) (fun _ H locs w => ?_)
    refine lv_if_ne (tgt := 22) hx hb dX7_code_14 (by decide) (fun c14 => ?_) (fun c14 => ?_)
    · have hf := pf_e c14 hf
      refine lv_aload_n hx hb dX7_code_22 rfl (lv_at hl 0 rfl) ?_
      refine hm_get cb_X7 hx hb hown X w 0 1 fl_X7_19 dX7_code_23 rfl (by decide) rfl ?_
      refine lv_iload_n hx hb dX7_code_26 rfl (lv_at hl 1 rfl) ?_
      obtain ⟨r2, hc27, hf⟩ := pf_bi_0 hf
      refine hm_aft_i (ws' := fun _ => [oc7 h0 r_t t_writtenCount t_faultPlace, oc2 (r_t 1) r_t_now d_t_now t_now_bits t_now_offset t_now_band t_now_rule t_now_noise t_now_step t_now_draws t_now_heat t_now_hour t_now_seenCount, ic E (r_t_now 2) 12 t_now_off, ic E (r_t_now 1) 12 t_now_size, ic E (r_t_now 4) 12 t_now_stuck, ic E (r_t_now 3) 12 t_now_worth]) (hm_runV (rest := []) hx hb hml hown X hA Y w 1 (ci := 2) (T := TX2) (N := 17) rfl rfl mw_X2_paperCode ml_X7_282 dX7_code_27 hm_ac0 [.int a1] rfl [1, 2, 3, 4, 5] rfl rfl (ct_X2_paperCode l E H.size (r_t 1) r_t_now d_t_now t_now_bits t_now_offset t_now_band t_now_rule t_now_noise t_now_step t_now_draws t_now_heat t_now_hour t_now_seenCount t_now_off t_now_size t_now_stuck t_now_worth a1 (r2, ()) hc27) rfl hl.1 ⟨⟨rfl, rfl⟩, ⟨Nat.le_of_ble_eq_true rfl, Nat.le_of_ble_eq_true rfl⟩, ⟨Nat.le_of_ble_eq_true rfl, Nat.le_of_ble_eq_true rfl⟩, Nat.le_of_ble_eq_true rfl⟩) hA w [1, 2, 3, 4, 5] [0] [0, 1, 2, 3, 4, 5] rfl rfl (by decide) (fun _ => rfl) (fun _ H locs w => ?_)
      exact hQ _ _ _ _ _ () (fun _ => 0) hf rfl w dX7_code_30
    · have hf := pf_t c14 hf
      refine lv_ldc (v := (-1000000)) hx hb hown (X.use ck_X7_143 rfl) dX7_code_17 ?_
      refine lv_goto (tgt := 30) hx hb dX7_code_19 (by decide) ?_
      exact hQ _ _ _ _ _ () (fun _ => 0) hf rfl w dX7_code_30
set_option maxHeartbeats 8000000 in
set_option maxRecDepth 100000 in
theorem ct_X7_forgiven (l : Launch) (E : hm_E) (sz : Nat) (h0 : Nat) (r_t : Nat → Nat) (r_t_now : Nat → Nat) (d_t_now : Nat) (t_writtenCount t_faultPlace t_now_bits t_now_offset t_now_band t_now_rule t_now_noise t_now_step t_now_draws t_now_heat t_now_hour t_now_seenCount : Int32) (t_now_off : Nat → Int32) (t_now_size : Nat → Int32) (t_now_stuck : Nat → Int32) (t_now_worth : Nat → Int32) (a1 : Int32) (a2 : Int32) (R : Int32 × Unit) (hf : pf_X7_forgiven a1 a2 t_now_bits t_now_size t_now_off t_now_worth t_now_stuck t_now_offset t_now_step = some R) : hm_Mi l E yX7_forgiven cX7_forgiven 3 .int [] (hm_rr 4 90 0 0) [.ref h0, .int a1, .int a2] sz [oc7 h0 r_t t_writtenCount t_faultPlace, oc2 (r_t 1) r_t_now d_t_now t_now_bits t_now_offset t_now_band t_now_rule t_now_noise t_now_step t_now_draws t_now_heat t_now_hour t_now_seenCount, ic E (r_t_now 2) 12 t_now_off, ic E (r_t_now 1) 12 t_now_size, ic E (r_t_now 4) 12 t_now_stuck, ic E (r_t_now 3) 12 t_now_worth] R.1 (fun _ => [oc7 h0 r_t t_writtenCount t_faultPlace, oc2 (r_t 1) r_t_now d_t_now t_now_bits t_now_offset t_now_band t_now_rule t_now_noise t_now_step t_now_draws t_now_heat t_now_hour t_now_seenCount, ic E (r_t_now 2) 12 t_now_off, ic E (r_t_now 1) 12 t_now_size, ic E (r_t_now 4) 12 t_now_stuck, ic E (r_t_now 3) 12 t_now_worth]) := by
  refine hm_ct_i R (fun u qs => [oc7 h0 r_t t_writtenCount t_faultPlace, oc2 (r_t 1) r_t_now d_t_now t_now_bits t_now_offset t_now_band t_now_rule t_now_noise t_now_step t_now_draws t_now_heat t_now_hour t_now_seenCount, ic E (r_t_now 2) 12 t_now_off, ic E (r_t_now 1) 12 t_now_size, ic E (r_t_now 4) 12 t_now_stuck, ic E (r_t_now 3) 12 t_now_worth]) (by decide) (Nat.le_of_ble_eq_true rfl) (Or.inl rfl) ?_
  intro p e s m args below meth c A Q ls H locs hx hb hml hown X hA Y hex w hl hQ
  have hl : lv_has ls 3 [(0, .ref h0), (1, .int a1), (2, .int a2)] := hl
  unfold pf_X7_forgiven at hf
  refine lv_aload_n hx hb dX7_forgiven_0 rfl (lv_at hl 0 rfl) ?_
  refine lv_iload_n hx hb dX7_forgiven_1 rfl (lv_at hl 2 rfl) ?_
  obtain ⟨r1, hc2, hf⟩ := pf_bi_0 hf
  refine hm_aft_i (ws' := fun _ => [oc7 h0 r_t t_writtenCount t_faultPlace, oc2 (r_t 1) r_t_now d_t_now t_now_bits t_now_offset t_now_band t_now_rule t_now_noise t_now_step t_now_draws t_now_heat t_now_hour t_now_seenCount, ic E (r_t_now 2) 12 t_now_off, ic E (r_t_now 1) 12 t_now_size, ic E (r_t_now 4) 12 t_now_stuck, ic E (r_t_now 3) 12 t_now_worth]) (hm_runV (rest := []) hx hb hml hown X hA Y w 0 (ci := 6) (T := TX7) (N := 11) rfl rfl mw_X7_hasBit ml_X7_205 dX7_forgiven_2 hm_ac0 [.int a2] rfl [0, 1] rfl rfl (ct_X7_hasBit l E H.size h0 r_t r_t_now d_t_now t_writtenCount t_faultPlace t_now_bits t_now_offset t_now_band t_now_rule t_now_noise t_now_step t_now_draws t_now_heat t_now_hour t_now_seenCount a2 (r1, ()) hc2) rfl hl.1 ⟨⟨rfl, rfl⟩, ⟨Nat.le_of_ble_eq_true rfl, Nat.le_of_ble_eq_true rfl⟩, ⟨Nat.le_of_ble_eq_true rfl, Nat.le_of_ble_eq_true rfl⟩, Nat.le_of_ble_eq_true rfl⟩) hA w [0, 1] [2, 3, 4, 5] [4, 5, 0, 1, 2, 3] rfl rfl (by decide) (fun _ => rfl) (fun _ H locs w => ?_)
  refine lv_if_eq (tgt := 15) hx hb dX7_forgiven_5 (by decide) (fun c5 => ?_) (fun c5 => ?_)
  · have hf := pf_t c5 hf
    refine lv_iconst (v := (-1)) hx hb dX7_forgiven_15 (by decide) ?_
    exact hQ _ _ _ _ _ () (fun _ => 0) hf rfl w dX7_forgiven_16
  · have hf := pf_e c5 hf
    refine lv_iload_n hx hb dX7_forgiven_8 rfl (lv_at hl 1 rfl) ?_
    obtain ⟨r2, hc9, hf⟩ := pf_bi_0 hf
    refine hm_aft_i (ws' := fun _ => [oc7 h0 r_t t_writtenCount t_faultPlace, oc2 (r_t 1) r_t_now d_t_now t_now_bits t_now_offset t_now_band t_now_rule t_now_noise t_now_step t_now_draws t_now_heat t_now_hour t_now_seenCount, ic E (r_t_now 2) 12 t_now_off, ic E (r_t_now 1) 12 t_now_size, ic E (r_t_now 4) 12 t_now_stuck, ic E (r_t_now 3) 12 t_now_worth]) (hm_runS (rest := []) hx hb hml hown X hA Y w mw_X7_isNear ml_X7_236 dX7_forgiven_9 hm_ac0 [.int a1] rfl [] rfl rfl (ct_X7_isNear l E H.size a1 (r2, ()) hc9) rfl hl.1 ⟨⟨rfl, rfl⟩, ⟨Nat.le_of_ble_eq_true rfl, Nat.le_of_ble_eq_true rfl⟩, ⟨Nat.le_of_ble_eq_true rfl, Nat.le_of_ble_eq_true rfl⟩, Nat.le_of_ble_eq_true rfl⟩) hA w [] [0, 1, 2, 3, 4, 5] [0, 1, 2, 3, 4, 5] rfl rfl (by decide) (fun _ => rfl) (fun _ H locs w => ?_)
    refine lv_if_ne (tgt := 17) hx hb dX7_forgiven_12 (by decide) (fun c12 => ?_) (fun c12 => ?_)
    · have hf := pf_e c12 hf
      refine lv_aload_n hx hb dX7_forgiven_17 rfl (lv_at hl 0 rfl) ?_
      refine hm_get cb_X7 hx hb hown X w 0 1 fl_X7_19 dX7_forgiven_18 rfl (by decide) rfl ?_
      refine lv_iload_n hx hb dX7_forgiven_21 rfl (lv_at hl 1 rfl) ?_
      refine lv_iload_n hx hb dX7_forgiven_22 rfl (lv_at hl 2 rfl) ?_
      obtain ⟨r3, hc23, hf⟩ := pf_bi_0 hf
      refine hm_aft_i (ws' := fun _ => [oc7 h0 r_t t_writtenCount t_faultPlace, oc2 (r_t 1) r_t_now d_t_now t_now_bits t_now_offset t_now_band t_now_rule t_now_noise t_now_step t_now_draws t_now_heat t_now_hour t_now_seenCount, ic E (r_t_now 2) 12 t_now_off, ic E (r_t_now 1) 12 t_now_size, ic E (r_t_now 4) 12 t_now_stuck, ic E (r_t_now 3) 12 t_now_worth]) (hm_runV (rest := []) hx hb hml hown X hA Y w 1 (ci := 2) (T := TX2) (N := 17) rfl rfl mw_X2_forgives ml_X7_285 dX7_forgiven_23 hm_ac0 [.int a1, .int a2] rfl [1, 2, 3, 4, 5] rfl rfl (ct_X2_forgives l E H.size (r_t 1) r_t_now d_t_now t_now_bits t_now_offset t_now_band t_now_rule t_now_noise t_now_step t_now_draws t_now_heat t_now_hour t_now_seenCount t_now_off t_now_size t_now_stuck t_now_worth a1 a2 (r3, ()) hc23) rfl hl.1 ⟨⟨rfl, rfl⟩, ⟨Nat.le_of_ble_eq_true rfl, Nat.le_of_ble_eq_true rfl⟩, ⟨Nat.le_of_ble_eq_true rfl, Nat.le_of_ble_eq_true rfl⟩, Nat.le_of_ble_eq_true rfl⟩) hA w [1, 2, 3, 4, 5] [0] [0, 1, 2, 3, 4, 5] rfl rfl (by decide) (fun _ => rfl) (fun _ H locs w => ?_)
      refine lv_if_eq (tgt := 33) hx hb dX7_forgiven_26 (by decide) (fun c26 => ?_) (fun c26 => ?_)
      · have hf := pf_t c26 hf
        refine lv_iconst (v := 0) hx hb dX7_forgiven_33 (by decide) ?_
        exact hQ _ _ _ _ _ () (fun _ => 0) hf rfl w dX7_forgiven_34
      · have hf := pf_e c26 hf
        refine lv_iconst (v := 1) hx hb dX7_forgiven_29 (by decide) ?_
        refine lv_goto (tgt := 34) hx hb dX7_forgiven_30 (by decide) ?_
        exact hQ _ _ _ _ _ () (fun _ => 0) hf rfl w dX7_forgiven_34
    · have hf := pf_t c12 hf
      refine lv_iconst (v := (-1)) hx hb dX7_forgiven_15 (by decide) ?_
      exact hQ _ _ _ _ _ () (fun _ => 0) hf rfl w dX7_forgiven_16
set_option maxHeartbeats 8000000 in
set_option maxRecDepth 100000 in
theorem ct_X7_slack (l : Launch) (E : hm_E) (sz : Nat) (h0 : Nat) (r_t : Nat → Nat) (r_t_now : Nat → Nat) (d_t_now : Nat) (t_writtenCount t_faultPlace t_now_bits t_now_offset t_now_band t_now_rule t_now_noise t_now_step t_now_draws t_now_heat t_now_hour t_now_seenCount : Int32) (t_now_off : Nat → Int32) (t_now_size : Nat → Int32) (t_now_stuck : Nat → Int32) (t_now_worth : Nat → Int32) (a1 : Int32) (R : Int32 × Unit) (hf : pf_X7_slack a1 t_now_bits t_now_size t_now_off t_now_worth t_now_stuck t_now_offset t_now_step = some R) : hm_Mi l E yX7_slack cX7_slack 2 .int [] (hm_rr 5 113 0 0) [.ref h0, .int a1] sz [oc7 h0 r_t t_writtenCount t_faultPlace, oc2 (r_t 1) r_t_now d_t_now t_now_bits t_now_offset t_now_band t_now_rule t_now_noise t_now_step t_now_draws t_now_heat t_now_hour t_now_seenCount, ic E (r_t_now 2) 12 t_now_off, ic E (r_t_now 1) 12 t_now_size, ic E (r_t_now 4) 12 t_now_stuck, ic E (r_t_now 3) 12 t_now_worth] R.1 (fun _ => [oc7 h0 r_t t_writtenCount t_faultPlace, oc2 (r_t 1) r_t_now d_t_now t_now_bits t_now_offset t_now_band t_now_rule t_now_noise t_now_step t_now_draws t_now_heat t_now_hour t_now_seenCount, ic E (r_t_now 2) 12 t_now_off, ic E (r_t_now 1) 12 t_now_size, ic E (r_t_now 4) 12 t_now_stuck, ic E (r_t_now 3) 12 t_now_worth]) := by
  refine hm_ct_i R (fun u qs => [oc7 h0 r_t t_writtenCount t_faultPlace, oc2 (r_t 1) r_t_now d_t_now t_now_bits t_now_offset t_now_band t_now_rule t_now_noise t_now_step t_now_draws t_now_heat t_now_hour t_now_seenCount, ic E (r_t_now 2) 12 t_now_off, ic E (r_t_now 1) 12 t_now_size, ic E (r_t_now 4) 12 t_now_stuck, ic E (r_t_now 3) 12 t_now_worth]) (by decide) (Nat.le_of_ble_eq_true rfl) (Or.inl rfl) ?_
  intro p e s m args below meth c A Q ls H locs hx hb hml hown X hA Y hex w hl hQ
  have hl : lv_has ls 2 [(0, .ref h0), (1, .int a1)] := hl
  unfold pf_X7_slack at hf
  refine lv_aload_n hx hb dX7_slack_0 rfl (lv_at hl 0 rfl) ?_
  refine lv_iload_n hx hb dX7_slack_1 rfl (lv_at hl 1 rfl) ?_
  obtain ⟨r1, hc2, hf⟩ := pf_bi_0 hf
  refine hm_aft_i (ws' := fun _ => [oc7 h0 r_t t_writtenCount t_faultPlace, oc2 (r_t 1) r_t_now d_t_now t_now_bits t_now_offset t_now_band t_now_rule t_now_noise t_now_step t_now_draws t_now_heat t_now_hour t_now_seenCount, ic E (r_t_now 2) 12 t_now_off, ic E (r_t_now 1) 12 t_now_size, ic E (r_t_now 4) 12 t_now_stuck, ic E (r_t_now 3) 12 t_now_worth]) (hm_runV (rest := []) hx hb hml hown X hA Y w 0 (ci := 6) (T := TX7) (N := 11) rfl rfl mw_X7_hasBit ml_X7_205 dX7_slack_2 hm_ac0 [.int a1] rfl [0, 1] rfl rfl (ct_X7_hasBit l E H.size h0 r_t r_t_now d_t_now t_writtenCount t_faultPlace t_now_bits t_now_offset t_now_band t_now_rule t_now_noise t_now_step t_now_draws t_now_heat t_now_hour t_now_seenCount a1 (r1, ()) hc2) rfl hl.1 ⟨⟨rfl, rfl⟩, ⟨Nat.le_of_ble_eq_true rfl, Nat.le_of_ble_eq_true rfl⟩, ⟨Nat.le_of_ble_eq_true rfl, Nat.le_of_ble_eq_true rfl⟩, Nat.le_of_ble_eq_true rfl⟩) hA w [0, 1] [2, 3, 4, 5] [4, 5, 0, 1, 2, 3] rfl rfl (by decide) (fun _ => rfl) (fun _ H locs w => ?_)
  refine lv_if_eq (tgt := 19) hx hb dX7_slack_5 (by decide) (fun c5 => ?_) (fun c5 => ?_)
  · have hf := pf_t c5 hf
    refine lv_bipush (v := (-2)) hx hb dX7_slack_19 (by decide) ?_
    exact hQ _ _ _ _ _ () (fun _ => 0) hf rfl w dX7_slack_21
  · have hf := pf_e c5 hf
    refine lv_aload_n hx hb dX7_slack_8 rfl (lv_at hl 0 rfl) ?_
    refine hm_get cb_X7 hx hb hown X w 0 1 fl_X7_19 dX7_slack_9 rfl (by decide) rfl ?_
    refine lv_iload_n hx hb dX7_slack_12 rfl (lv_at hl 1 rfl) ?_
    obtain ⟨r2, hc13, hf⟩ := pf_bi_0 hf
    refine hm_aft_i (ws' := fun _ => [oc7 h0 r_t t_writtenCount t_faultPlace, oc2 (r_t 1) r_t_now d_t_now t_now_bits t_now_offset t_now_band t_now_rule t_now_noise t_now_step t_now_draws t_now_heat t_now_hour t_now_seenCount, ic E (r_t_now 2) 12 t_now_off, ic E (r_t_now 1) 12 t_now_size, ic E (r_t_now 4) 12 t_now_stuck, ic E (r_t_now 3) 12 t_now_worth]) (hm_runV (rest := []) hx hb hml hown X hA Y w 1 (ci := 2) (T := TX2) (N := 17) rfl rfl mw_X2_slackOf ml_X7_288 dX7_slack_13 hm_ac0 [.int a1] rfl [1, 2, 3, 4, 5] rfl rfl (ct_X2_slackOf l E H.size (r_t 1) r_t_now d_t_now t_now_bits t_now_offset t_now_band t_now_rule t_now_noise t_now_step t_now_draws t_now_heat t_now_hour t_now_seenCount t_now_off t_now_size t_now_stuck t_now_worth a1 (r2, ()) hc13) rfl hl.1 ⟨⟨rfl, rfl⟩, ⟨Nat.le_of_ble_eq_true rfl, Nat.le_of_ble_eq_true rfl⟩, ⟨Nat.le_of_ble_eq_true rfl, Nat.le_of_ble_eq_true rfl⟩, Nat.le_of_ble_eq_true rfl⟩) hA w [1, 2, 3, 4, 5] [0] [0, 1, 2, 3, 4, 5] rfl rfl (by decide) (fun _ => rfl) (fun _ H locs w => ?_)
    refine lv_goto (tgt := 21) hx hb dX7_slack_16 (by decide) ?_
    exact hQ _ _ _ _ _ () (fun _ => 0) hf rfl w dX7_slack_21
set_option maxHeartbeats 8000000 in
set_option maxRecDepth 100000 in
theorem ct_X7_tightest (l : Launch) (E : hm_E) (sz : Nat) (h0 : Nat) (r_t : Nat → Nat) (r_t_now : Nat → Nat) (d_t_now : Nat) (t_writtenCount t_faultPlace t_now_bits t_now_offset t_now_band t_now_rule t_now_noise t_now_step t_now_draws t_now_heat t_now_hour t_now_seenCount : Int32) (t_now_off : Nat → Int32) (t_now_size : Nat → Int32) (t_now_stuck : Nat → Int32) (t_now_worth : Nat → Int32) (a1 : Int32) (R : Int32 × Unit) (hf : pf_X7_tightest a1 t_now_bits t_now_size t_now_off t_now_worth t_now_stuck t_now_offset t_now_step = some R) : hm_Mi l E yX7_tightest cX7_tightest 6 .int [] (hm_rr 5 113 0 0) [.ref h0, .int a1] sz [oc7 h0 r_t t_writtenCount t_faultPlace, oc2 (r_t 1) r_t_now d_t_now t_now_bits t_now_offset t_now_band t_now_rule t_now_noise t_now_step t_now_draws t_now_heat t_now_hour t_now_seenCount, ic E (r_t_now 2) 12 t_now_off, ic E (r_t_now 1) 12 t_now_size, ic E (r_t_now 4) 12 t_now_stuck, ic E (r_t_now 3) 12 t_now_worth] R.1 (fun _ => [oc7 h0 r_t t_writtenCount t_faultPlace, oc2 (r_t 1) r_t_now d_t_now t_now_bits t_now_offset t_now_band t_now_rule t_now_noise t_now_step t_now_draws t_now_heat t_now_hour t_now_seenCount, ic E (r_t_now 2) 12 t_now_off, ic E (r_t_now 1) 12 t_now_size, ic E (r_t_now 4) 12 t_now_stuck, ic E (r_t_now 3) 12 t_now_worth]) := by
  refine hm_ct_i R (fun u qs => [oc7 h0 r_t t_writtenCount t_faultPlace, oc2 (r_t 1) r_t_now d_t_now t_now_bits t_now_offset t_now_band t_now_rule t_now_noise t_now_step t_now_draws t_now_heat t_now_hour t_now_seenCount, ic E (r_t_now 2) 12 t_now_off, ic E (r_t_now 1) 12 t_now_size, ic E (r_t_now 4) 12 t_now_stuck, ic E (r_t_now 3) 12 t_now_worth]) (by decide) (Nat.le_of_ble_eq_true rfl) (Or.inl rfl) ?_
  intro p e s m args below meth c A Q ls H locs hx hb hml hown X hA Y hex w hl hQ
  have hl : lv_has ls 6 [(0, .ref h0), (1, .int a1)] := hl
  unfold pf_X7_tightest at hf
  refine lv_aload_n hx hb dX7_tightest_0 rfl (lv_at hl 0 rfl) ?_
  refine hm_get cb_X7 hx hb hown X w 0 1 fl_X7_19 dX7_tightest_1 rfl (by decide) rfl ?_
  refine hm_get cb_X2 hx hb hown X w 1 0 fl_X7_95 dX7_tightest_4 rfl (by decide) rfl ?_
  refine lv_iconst (v := 2) hx hb dX7_tightest_7 (by decide) ?_
  refine lv_icmp_lt (tgt := 20) hx hb dX7_tightest_8 (by decide) (fun c8 => ?_) (fun c8 => ?_)
  · have hf := pf_t c8 hf
    refine lv_bipush (v := (-2)) hx hb dX7_tightest_20 (by decide) ?_
    exact hQ _ _ _ _ _ () (fun _ => 0) hf rfl w dX7_tightest_22
  · have hf := pf_e c8 hf
    refine lv_iload_n hx hb dX7_tightest_11 rfl (lv_at hl 1 rfl) ?_
    refine lv_iconst (v := 0) hx hb dX7_tightest_12 (by decide) ?_
    refine lv_iconst (v := 1) hx hb dX7_tightest_13 (by decide) ?_
    obtain ⟨r1, hc14, hf⟩ := pf_bi_0 hf
    refine hm_aft_i (ws' := fun _ => [oc7 h0 r_t t_writtenCount t_faultPlace, oc2 (r_t 1) r_t_now d_t_now t_now_bits t_now_offset t_now_band t_now_rule t_now_noise t_now_step t_now_draws t_now_heat t_now_hour t_now_seenCount, ic E (r_t_now 2) 12 t_now_off, ic E (r_t_now 1) 12 t_now_size, ic E (r_t_now 4) 12 t_now_stuck, ic E (r_t_now 3) 12 t_now_worth]) (hm_runS (rest := []) hx hb hml hown X hA Y w mw_X7_within ml_X7_225 dX7_tightest_14 hm_ac0 [.int a1, .int 0, .int 1] rfl [] rfl rfl (ct_X7_within l E H.size a1 0 1 (r1, ()) hc14) rfl hl.1 ⟨⟨rfl, rfl⟩, ⟨Nat.le_of_ble_eq_true rfl, Nat.le_of_ble_eq_true rfl⟩, ⟨Nat.le_of_ble_eq_true rfl, Nat.le_of_ble_eq_true rfl⟩, Nat.le_of_ble_eq_true rfl⟩) hA w [] [0, 1, 2, 3, 4, 5] [0, 1, 2, 3, 4, 5] rfl rfl (by decide) (fun _ => rfl) (fun _ H locs w => ?_)
    refine lv_if_ne (tgt := 23) hx hb dX7_tightest_17 (by decide) (fun c17 => ?_) (fun c17 => ?_)
    · have hf := pf_e c17 hf
      refine lv_iconst (v := 1) hx hb dX7_tightest_23 (by decide) ?_
      refine lv_istore_n (lv' := [(2, .int 1), (0, .ref h0), (1, .int a1)]) hx hb dX7_tightest_24 rfl hl (by decide) rfl (fun ls hl => ?_)
      refine lv_aload_n hx hb dX7_tightest_25 rfl (lv_at hl 1 rfl) ?_
      refine hm_get cb_X7 hx hb hown X w 0 1 fl_X7_19 dX7_tightest_26 rfl (by decide) rfl ?_
      refine lv_iconst (v := 1) hx hb dX7_tightest_29 (by decide) ?_
      obtain ⟨r2, hc30, hf⟩ := pf_bi_0 hf
      refine hm_aft_i (ws' := fun _ => [oc7 h0 r_t t_writtenCount t_faultPlace, oc2 (r_t 1) r_t_now d_t_now t_now_bits t_now_offset t_now_band t_now_rule t_now_noise t_now_step t_now_draws t_now_heat t_now_hour t_now_seenCount, ic E (r_t_now 2) 12 t_now_off, ic E (r_t_now 1) 12 t_now_size, ic E (r_t_now 4) 12 t_now_stuck, ic E (r_t_now 3) 12 t_now_worth]) (hm_runV (rest := []) hx hb hml hown X hA Y w 1 (ci := 2) (T := TX2) (N := 17) rfl rfl mw_X2_slackOf ml_X7_288 dX7_tightest_30 hm_ac0 [.int 1] rfl [1, 2, 3, 4, 5] rfl rfl (ct_X2_slackOf l E H.size (r_t 1) r_t_now d_t_now t_now_bits t_now_offset t_now_band t_now_rule t_now_noise t_now_step t_now_draws t_now_heat t_now_hour t_now_seenCount t_now_off t_now_size t_now_stuck t_now_worth 1 (r2, ()) hc30) rfl hl.1 ⟨⟨rfl, rfl⟩, ⟨Nat.le_of_ble_eq_true rfl, Nat.le_of_ble_eq_true rfl⟩, ⟨Nat.le_of_ble_eq_true rfl, Nat.le_of_ble_eq_true rfl⟩, Nat.le_of_ble_eq_true rfl⟩) hA w [1, 2, 3, 4, 5] [0] [0, 1, 2, 3, 4, 5] rfl rfl (by decide) (fun _ => rfl) (fun _ H locs w => ?_)
      refine lv_istore_n (lv' := [(3, .int r2), (2, .int 1), (0, .ref h0), (1, .int a1)]) hx hb dX7_tightest_33 rfl hl (by decide) rfl (fun ls hl => ?_)
      refine lv_iconst (v := 2) hx hb dX7_tightest_34 (by decide) ?_
      refine lv_istore (lv' := [(4, .int 2), (3, .int r2), (2, .int 1), (0, .ref h0), (1, .int a1)]) hx hb dX7_tightest_35 hl (by decide) rfl (fun ls hl => ?_)
      obtain ⟨J78, hJ78, hf⟩ := pf_jn hf
      have kJ78 : ∀ (x3 : Int32) (x4 : Int32) (H : Heap) (locs : List Loc) (ls : Array Slot), J78 x3 x4 = some R → hm_W E A s.heap [oc7 h0 r_t t_writtenCount t_faultPlace, oc2 (r_t 1) r_t_now d_t_now t_now_bits t_now_offset t_now_band t_now_rule t_now_noise t_now_step t_now_draws t_now_heat t_now_hour t_now_seenCount, ic E (r_t_now 2) 12 t_now_off, ic E (r_t_now 1) 12 t_now_size, ic E (r_t_now 4) 12 t_now_stuck, ic E (r_t_now 3) 12 t_now_worth] H locs → lv_has ls 6 [(1, .int a1), (2, .int x3), (3, .int x4)] → W p l e (hm_rr 5 113 0 0) s m args below meth c H locs 0 0 Q (F0 m 78 ls []) := by
        intro x3 x4 H locs ls hf w hl
        have hf := pf_j2 hJ78 hf
        refine lv_iload_n hx hb dX7_tightest_78 rfl (lv_at hl 0 rfl) ?_
        refine lv_if_ne (tgt := 86) hx hb dX7_tightest_79 (by decide) (fun c79 => ?_) (fun c79 => ?_)
        · have hf := pf_e c79 hf
          refine lv_iload_n hx hb dX7_tightest_86 rfl (lv_at hl 2 rfl) ?_
          exact hQ _ _ _ _ _ () (fun _ => 0) hf rfl w dX7_tightest_87
        · have hf := pf_t c79 hf
          refine lv_iload_n hx hb dX7_tightest_82 rfl (lv_at hl 1 rfl) ?_
          refine lv_goto (tgt := 87) hx hb dX7_tightest_83 (by decide) ?_
          exact hQ _ _ _ _ _ () (fun _ => 0) hf rfl w dX7_tightest_87
      have klp_X7_tightest_37 : ∀ (n : Nat) (x5 : Int32) (x6 : Int32) (x7 : Int32) (H : Heap) (locs : List Loc) (ls : Array Slot), lp_X7_tightest_37 t_now_bits t_now_offset t_now_step t_now_off t_now_size t_now_stuck t_now_worth J78 n x5 x6 x7 = some R → hm_W E A s.heap [oc7 h0 r_t t_writtenCount t_faultPlace, oc2 (r_t 1) r_t_now d_t_now t_now_bits t_now_offset t_now_band t_now_rule t_now_noise t_now_step t_now_draws t_now_heat t_now_hour t_now_seenCount, ic E (r_t_now 2) 12 t_now_off, ic E (r_t_now 1) 12 t_now_size, ic E (r_t_now 4) 12 t_now_stuck, ic E (r_t_now 3) 12 t_now_worth] H locs → lv_has ls 6 [(0, .ref h0), (1, .int a1), (2, .int x5), (3, .int x6), (4, .int x7)] → W p l e (hm_rr 5 113 0 0) s m args below meth c H locs 0 0 Q (F0 m 37 ls []) := by
        intro n
        induction n with
        | zero =>
          intro x5 x6 x7 H locs ls hf w hl
          exact pf_no hf
        | succ n ih37 =>
          intro x5 x6 x7 H locs ls hf w hl
          rw [lp_X7_tightest_37] at hf
          refine lv_iload hx hb dX7_tightest_37 (lv_at hl 4 rfl) ?_
          refine lv_aload_n hx hb dX7_tightest_39 rfl (lv_at hl 0 rfl) ?_
          refine hm_get cb_X7 hx hb hown X w 0 1 fl_X7_19 dX7_tightest_40 rfl (by decide) rfl ?_
          refine hm_get cb_X2 hx hb hown X w 1 0 fl_X7_95 dX7_tightest_43 rfl (by decide) rfl ?_
          refine lv_icmp_ge (tgt := 78) hx hb dX7_tightest_46 (by decide) (fun c46 => ?_) (fun c46 => ?_)
          · have hf := pf_t c46 hf
            exact kJ78 _ _ _ _ _ hf w (lv_sub hl [1, 2, 3] rfl)
          · have hf := pf_e c46 hf
            refine lv_aload_n hx hb dX7_tightest_49 rfl (lv_at hl 0 rfl) ?_
            refine hm_get cb_X7 hx hb hown X w 0 1 fl_X7_19 dX7_tightest_50 rfl (by decide) rfl ?_
            refine lv_iload hx hb dX7_tightest_53 (lv_at hl 4 rfl) ?_
            obtain ⟨r8, hc55, hf⟩ := pf_bi_0 hf
            refine hm_aft_i (ws' := fun _ => [oc7 h0 r_t t_writtenCount t_faultPlace, oc2 (r_t 1) r_t_now d_t_now t_now_bits t_now_offset t_now_band t_now_rule t_now_noise t_now_step t_now_draws t_now_heat t_now_hour t_now_seenCount, ic E (r_t_now 2) 12 t_now_off, ic E (r_t_now 1) 12 t_now_size, ic E (r_t_now 4) 12 t_now_stuck, ic E (r_t_now 3) 12 t_now_worth]) (hm_runV (rest := []) hx hb hml hown X hA Y w 1 (ci := 2) (T := TX2) (N := 17) rfl rfl mw_X2_slackOf ml_X7_288 dX7_tightest_55 hm_ac0 [.int x7] rfl [1, 2, 3, 4, 5] rfl rfl (ct_X2_slackOf l E H.size (r_t 1) r_t_now d_t_now t_now_bits t_now_offset t_now_band t_now_rule t_now_noise t_now_step t_now_draws t_now_heat t_now_hour t_now_seenCount t_now_off t_now_size t_now_stuck t_now_worth x7 (r8, ()) hc55) rfl hl.1 ⟨⟨rfl, rfl⟩, ⟨Nat.le_of_ble_eq_true rfl, Nat.le_of_ble_eq_true rfl⟩, ⟨Nat.le_of_ble_eq_true rfl, Nat.le_of_ble_eq_true rfl⟩, Nat.le_of_ble_eq_true rfl⟩) hA w [1, 2, 3, 4, 5] [0] [0, 1, 2, 3, 4, 5] rfl rfl (by decide) (fun _ => rfl) (fun _ H locs w => ?_)
            refine lv_istore (lv' := [(5, .int r8), (0, .ref h0), (1, .int a1), (2, .int x5), (3, .int x6), (4, .int x7)]) hx hb dX7_tightest_58 hl (by decide) rfl (fun ls hl => ?_)
            refine lv_iload hx hb dX7_tightest_60 (lv_at hl 0 rfl) ?_
            refine lv_iload_n hx hb dX7_tightest_62 rfl (lv_at hl 4 rfl) ?_
            refine lv_icmp_ge (tgt := 72) hx hb dX7_tightest_63 (by decide) (fun c63 => ?_) (fun c63 => ?_)
            · have hf := pf_t c63 hf
              obtain ⟨x9, ex9⟩ : ∃ y : Int32, y = (x7 + 1) := ⟨_, rfl⟩
              have hf := pf_nm ex9 hf
              refine lv_iinc (v := x9) (lv' := [(4, .int x9), (5, .int r8), (0, .ref h0), (1, .int a1), (2, .int x5), (3, .int x6)]) hx hb dX7_tightest_72 hl (k := 5) rfl (by rw [ex9]; rfl) (by decide) rfl (fun ls hl => ?_)
              refine lv_goto (tgt := 37) hx hb dX7_tightest_75 (by decide) ?_
              exact ih37 _ _ _ _ _ _ hf w (lv_sub hl [2, 3, 4, 5, 0] rfl)
            · have hf := pf_e c63 hf
              refine lv_iload hx hb dX7_tightest_66 (lv_at hl 0 rfl) ?_
              refine lv_istore_n (lv' := [(3, .int r8), (5, .int r8), (0, .ref h0), (1, .int a1), (2, .int x5), (4, .int x7)]) hx hb dX7_tightest_68 rfl hl (by decide) rfl (fun ls hl => ?_)
              refine lv_iload hx hb dX7_tightest_69 (lv_at hl 5 rfl) ?_
              refine lv_istore_n (lv' := [(2, .int x7), (3, .int r8), (5, .int r8), (0, .ref h0), (1, .int a1), (4, .int x7)]) hx hb dX7_tightest_71 rfl hl (by decide) rfl (fun ls hl => ?_)
              obtain ⟨x10, ex10⟩ : ∃ y : Int32, y = (x7 + 1) := ⟨_, rfl⟩
              have hf := pf_nm ex10 hf
              refine lv_iinc (v := x10) (lv' := [(4, .int x10), (2, .int x7), (3, .int r8), (5, .int r8), (0, .ref h0), (1, .int a1)]) hx hb dX7_tightest_72 hl (k := 5) rfl (by rw [ex10]; rfl) (by decide) rfl (fun ls hl => ?_)
              refine lv_goto (tgt := 37) hx hb dX7_tightest_75 (by decide) ?_
              exact ih37 _ _ _ _ _ _ hf w (lv_sub hl [4, 5, 1, 2, 0] rfl)
      exact klp_X7_tightest_37 FU _ _ _ _ _ _ hf w (lv_sub hl [3, 4, 2, 1, 0] rfl)
    · have hf := pf_t c17 hf
      refine lv_bipush (v := (-2)) hx hb dX7_tightest_20 (by decide) ?_
      exact hQ _ _ _ _ _ () (fun _ => 0) hf rfl w dX7_tightest_22
set_option maxHeartbeats 8000000 in
set_option maxRecDepth 100000 in
theorem ct_X7_gap (l : Launch) (E : hm_E) (sz : Nat) (h0 : Nat) (r_t : Nat → Nat) (r_t_now : Nat → Nat) (d_t_now : Nat) (t_writtenCount t_faultPlace t_now_bits t_now_offset t_now_band t_now_rule t_now_noise t_now_step t_now_draws t_now_heat t_now_hour t_now_seenCount : Int32) (t_now_off : Nat → Int32) (t_now_size : Nat → Int32) (a1 : Int32) (R : Int32 × Unit) (hf : pf_X7_gap a1 t_now_bits t_now_size t_now_off = some R) : hm_Mi l E yX7_gap cX7_gap 6 .int [] (hm_rr 2 44 0 0) [.ref h0, .int a1] sz [oc7 h0 r_t t_writtenCount t_faultPlace, oc2 (r_t 1) r_t_now d_t_now t_now_bits t_now_offset t_now_band t_now_rule t_now_noise t_now_step t_now_draws t_now_heat t_now_hour t_now_seenCount, ic E (r_t_now 2) 12 t_now_off, ic E (r_t_now 1) 12 t_now_size] R.1 (fun _ => [oc7 h0 r_t t_writtenCount t_faultPlace, oc2 (r_t 1) r_t_now d_t_now t_now_bits t_now_offset t_now_band t_now_rule t_now_noise t_now_step t_now_draws t_now_heat t_now_hour t_now_seenCount, ic E (r_t_now 2) 12 t_now_off, ic E (r_t_now 1) 12 t_now_size]) := by
  refine hm_ct_i R (fun u qs => [oc7 h0 r_t t_writtenCount t_faultPlace, oc2 (r_t 1) r_t_now d_t_now t_now_bits t_now_offset t_now_band t_now_rule t_now_noise t_now_step t_now_draws t_now_heat t_now_hour t_now_seenCount, ic E (r_t_now 2) 12 t_now_off, ic E (r_t_now 1) 12 t_now_size]) (by decide) (Nat.le_of_ble_eq_true rfl) (Or.inl rfl) ?_
  intro p e s m args below meth c A Q ls H locs hx hb hml hown X hA Y hex w hl hQ
  have hl : lv_has ls 6 [(0, .ref h0), (1, .int a1)] := hl
  unfold pf_X7_gap at hf
  refine lv_aload_n hx hb dX7_gap_0 rfl (lv_at hl 0 rfl) ?_
  refine hm_get cb_X7 hx hb hown X w 0 1 fl_X7_19 dX7_gap_1 rfl (by decide) rfl ?_
  refine hm_get cb_X2 hx hb hown X w 1 0 fl_X7_95 dX7_gap_4 rfl (by decide) rfl ?_
  refine lv_if_eq (tgt := 19) hx hb dX7_gap_7 (by decide) (fun c7 => ?_) (fun c7 => ?_)
  · have hf := pf_t c7 hf
    refine lv_bipush (v := (-2)) hx hb dX7_gap_19 (by decide) ?_
    exact hQ _ _ _ _ _ () (fun _ => 0) hf rfl w dX7_gap_21
  · have hf := pf_e c7 hf
    refine lv_iload_n hx hb dX7_gap_10 rfl (lv_at hl 1 rfl) ?_
    refine lv_iconst (v := 0) hx hb dX7_gap_11 (by decide) ?_
    refine lv_iconst (v := 1) hx hb dX7_gap_12 (by decide) ?_
    obtain ⟨r1, hc13, hf⟩ := pf_bi_0 hf
    refine hm_aft_i (ws' := fun _ => [oc7 h0 r_t t_writtenCount t_faultPlace, oc2 (r_t 1) r_t_now d_t_now t_now_bits t_now_offset t_now_band t_now_rule t_now_noise t_now_step t_now_draws t_now_heat t_now_hour t_now_seenCount, ic E (r_t_now 2) 12 t_now_off, ic E (r_t_now 1) 12 t_now_size]) (hm_runS (rest := []) hx hb hml hown X hA Y w mw_X7_within ml_X7_225 dX7_gap_13 hm_ac0 [.int a1, .int 0, .int 1] rfl [] rfl rfl (ct_X7_within l E H.size a1 0 1 (r1, ()) hc13) rfl hl.1 ⟨⟨rfl, rfl⟩, ⟨Nat.le_of_ble_eq_true rfl, Nat.le_of_ble_eq_true rfl⟩, ⟨Nat.le_of_ble_eq_true rfl, Nat.le_of_ble_eq_true rfl⟩, Nat.le_of_ble_eq_true rfl⟩) hA w [] [0, 1, 2, 3] [0, 1, 2, 3] rfl rfl (by decide) (fun _ => rfl) (fun _ H locs w => ?_)
    refine lv_if_ne (tgt := 22) hx hb dX7_gap_16 (by decide) (fun c16 => ?_) (fun c16 => ?_)
    · have hf := pf_e c16 hf
      refine lv_iconst (v := (-1)) hx hb dX7_gap_22 (by decide) ?_
      refine lv_istore_n (lv' := [(2, .int (-1)), (0, .ref h0), (1, .int a1)]) hx hb dX7_gap_23 rfl hl (by decide) rfl (fun ls hl => ?_)
      refine lv_iconst (v := 0) hx hb dX7_gap_24 (by decide) ?_
      refine lv_istore_n (lv' := [(3, .int 0), (2, .int (-1)), (0, .ref h0), (1, .int a1)]) hx hb dX7_gap_25 rfl hl (by decide) rfl (fun ls hl => ?_)
      refine lv_iconst (v := 0) hx hb dX7_gap_26 (by decide) ?_
      refine lv_istore (lv' := [(4, .int 0), (3, .int 0), (2, .int (-1)), (0, .ref h0), (1, .int a1)]) hx hb dX7_gap_27 hl (by decide) rfl (fun ls hl => ?_)
      obtain ⟨J82, hJ82, hf⟩ := pf_jn hf
      have kJ82 : ∀ (x2 : Int32) (x3 : Int32) (H : Heap) (locs : List Loc) (ls : Array Slot), J82 x2 x3 = some R → hm_W E A s.heap [oc7 h0 r_t t_writtenCount t_faultPlace, oc2 (r_t 1) r_t_now d_t_now t_now_bits t_now_offset t_now_band t_now_rule t_now_noise t_now_step t_now_draws t_now_heat t_now_hour t_now_seenCount, ic E (r_t_now 2) 12 t_now_off, ic E (r_t_now 1) 12 t_now_size] H locs → lv_has ls 6 [(1, .int a1), (2, .int x2), (3, .int x3)] → W p l e (hm_rr 2 44 0 0) s m args below meth c H locs 0 0 Q (F0 m 82 ls []) := by
        intro x2 x3 H locs ls hf w hl
        have hf := pf_j2 hJ82 hf
        refine lv_iload_n hx hb dX7_gap_82 rfl (lv_at hl 0 rfl) ?_
        refine lv_if_ne (tgt := 90) hx hb dX7_gap_83 (by decide) (fun c83 => ?_) (fun c83 => ?_)
        · have hf := pf_e c83 hf
          refine lv_iload_n hx hb dX7_gap_90 rfl (lv_at hl 1 rfl) ?_
          exact hQ _ _ _ _ _ () (fun _ => 0) hf rfl w dX7_gap_91
        · have hf := pf_t c83 hf
          refine lv_iload_n hx hb dX7_gap_86 rfl (lv_at hl 2 rfl) ?_
          refine lv_goto (tgt := 91) hx hb dX7_gap_87 (by decide) ?_
          exact hQ _ _ _ _ _ () (fun _ => 0) hf rfl w dX7_gap_91
      have klp_X7_gap_29 : ∀ (n : Nat) (x4 : Int32) (x5 : Int32) (x6 : Int32) (H : Heap) (locs : List Loc) (ls : Array Slot), lp_X7_gap_29 t_now_bits t_now_off t_now_size J82 n x4 x5 x6 = some R → hm_W E A s.heap [oc7 h0 r_t t_writtenCount t_faultPlace, oc2 (r_t 1) r_t_now d_t_now t_now_bits t_now_offset t_now_band t_now_rule t_now_noise t_now_step t_now_draws t_now_heat t_now_hour t_now_seenCount, ic E (r_t_now 2) 12 t_now_off, ic E (r_t_now 1) 12 t_now_size] H locs → lv_has ls 6 [(0, .ref h0), (1, .int a1), (2, .int x4), (3, .int x5), (4, .int x6)] → W p l e (hm_rr 2 44 0 0) s m args below meth c H locs 0 0 Q (F0 m 29 ls []) := by
        intro n
        induction n with
        | zero =>
          intro x4 x5 x6 H locs ls hf w hl
          exact pf_no hf
        | succ n ih29 =>
          intro x4 x5 x6 H locs ls hf w hl
          rw [lp_X7_gap_29] at hf
          refine lv_iload hx hb dX7_gap_29 (lv_at hl 4 rfl) ?_
          refine lv_aload_n hx hb dX7_gap_31 rfl (lv_at hl 0 rfl) ?_
          refine hm_get cb_X7 hx hb hown X w 0 1 fl_X7_19 dX7_gap_32 rfl (by decide) rfl ?_
          refine hm_get cb_X2 hx hb hown X w 1 0 fl_X7_95 dX7_gap_35 rfl (by decide) rfl ?_
          refine lv_icmp_ge (tgt := 82) hx hb dX7_gap_38 (by decide) (fun c38 => ?_) (fun c38 => ?_)
          · have hf := pf_t c38 hf
            exact kJ82 _ _ _ _ _ hf w (lv_sub hl [1, 2, 3] rfl)
          · have hf := pf_e c38 hf
            refine lv_aload_n hx hb dX7_gap_41 rfl (lv_at hl 0 rfl) ?_
            refine hm_get cb_X7 hx hb hown X w 0 1 fl_X7_19 dX7_gap_42 rfl (by decide) rfl ?_
            refine lv_iload hx hb dX7_gap_45 (lv_at hl 4 rfl) ?_
            obtain ⟨r7, hc47, hf⟩ := pf_bi_0 hf
            refine hm_aft_i (ws' := fun _ => [oc7 h0 r_t t_writtenCount t_faultPlace, oc2 (r_t 1) r_t_now d_t_now t_now_bits t_now_offset t_now_band t_now_rule t_now_noise t_now_step t_now_draws t_now_heat t_now_hour t_now_seenCount, ic E (r_t_now 2) 12 t_now_off, ic E (r_t_now 1) 12 t_now_size]) (hm_runV (rest := []) hx hb hml hown X hA Y w 1 (ci := 2) (T := TX2) (N := 17) rfl rfl mw_X2_weight ml_X7_219 dX7_gap_47 hm_ac0 [.int x6] rfl [1, 2, 3] rfl rfl (ct_X2_weight l E H.size (r_t 1) r_t_now d_t_now t_now_bits t_now_offset t_now_band t_now_rule t_now_noise t_now_step t_now_draws t_now_heat t_now_hour t_now_seenCount t_now_off t_now_size x6 (r7, ()) hc47) rfl hl.1 ⟨⟨rfl, rfl⟩, ⟨Nat.le_of_ble_eq_true rfl, Nat.le_of_ble_eq_true rfl⟩, ⟨Nat.le_of_ble_eq_true rfl, Nat.le_of_ble_eq_true rfl⟩, Nat.le_of_ble_eq_true rfl⟩) hA w [1, 2, 3] [0] [0, 1, 2, 3] rfl rfl (by decide) (fun _ => rfl) (fun _ H locs w => ?_)
            refine lv_aload_n hx hb dX7_gap_50 rfl (lv_at hl 0 rfl) ?_
            refine hm_get cb_X7 hx hb hown X w 0 1 fl_X7_19 dX7_gap_51 rfl (by decide) rfl ?_
            refine lv_iload hx hb dX7_gap_54 (lv_at hl 4 rfl) ?_
            obtain ⟨r8, hc56, hf⟩ := pf_bi_0 hf
            refine hm_aft_i (ws' := fun _ => [oc7 h0 r_t t_writtenCount t_faultPlace, oc2 (r_t 1) r_t_now d_t_now t_now_bits t_now_offset t_now_band t_now_rule t_now_noise t_now_step t_now_draws t_now_heat t_now_hour t_now_seenCount, ic E (r_t_now 2) 12 t_now_off, ic E (r_t_now 1) 12 t_now_size]) (hm_runV (rest := [.int r7]) hx hb hml hown X hA Y w 1 (ci := 2) (T := TX2) (N := 17) rfl rfl mw_X2_weightsBelow ml_X7_193 dX7_gap_56 hm_ac0 [.int x6] rfl [1, 2, 3] rfl rfl (ct_X2_weightsBelow l E H.size (r_t 1) r_t_now d_t_now t_now_bits t_now_offset t_now_band t_now_rule t_now_noise t_now_step t_now_draws t_now_heat t_now_hour t_now_seenCount t_now_off t_now_size x6 (r8, ()) hc56) rfl hl.1 ⟨⟨rfl, rfl⟩, ⟨Nat.le_of_ble_eq_true rfl, Nat.le_of_ble_eq_true rfl⟩, ⟨Nat.le_of_ble_eq_true rfl, Nat.le_of_ble_eq_true rfl⟩, Nat.le_of_ble_eq_true rfl⟩) hA w [1, 2, 3] [0] [0, 1, 2, 3] rfl rfl (by decide) (fun _ => rfl) (fun _ H locs w => ?_)
            refine lv_isub hx hb dX7_gap_59 ?_
            refine lv_iconst (v := 1) hx hb dX7_gap_60 (by decide) ?_
            refine lv_isub hx hb dX7_gap_61 ?_
            refine lv_topi (fun x9 ex9 => ?_)
            have hf := pf_nm ex9 hf
            refine lv_istore (lv' := [(5, .int x9), (0, .ref h0), (1, .int a1), (2, .int x4), (3, .int x5), (4, .int x6)]) hx hb dX7_gap_62 hl (by decide) rfl (fun ls hl => ?_)
            refine lv_iload hx hb dX7_gap_64 (lv_at hl 0 rfl) ?_
            refine lv_iload_n hx hb dX7_gap_66 rfl (lv_at hl 4 rfl) ?_
            refine lv_icmp_le (tgt := 76) hx hb dX7_gap_67 (by decide) (fun c67 => ?_) (fun c67 => ?_)
            · have hf := pf_t c67 hf
              obtain ⟨x10, ex10⟩ : ∃ y : Int32, y = (x6 + 1) := ⟨_, rfl⟩
              have hf := pf_nm ex10 hf
              refine lv_iinc (v := x10) (lv' := [(4, .int x10), (5, .int x9), (0, .ref h0), (1, .int a1), (2, .int x4), (3, .int x5)]) hx hb dX7_gap_76 hl (k := 5) rfl (by rw [ex10]; rfl) (by decide) rfl (fun ls hl => ?_)
              refine lv_goto (tgt := 29) hx hb dX7_gap_79 (by decide) ?_
              exact ih29 _ _ _ _ _ _ hf w (lv_sub hl [2, 3, 4, 5, 0] rfl)
            · have hf := pf_e c67 hf
              refine lv_iload hx hb dX7_gap_70 (lv_at hl 0 rfl) ?_
              refine lv_istore_n (lv' := [(3, .int x9), (5, .int x9), (0, .ref h0), (1, .int a1), (2, .int x4), (4, .int x6)]) hx hb dX7_gap_72 rfl hl (by decide) rfl (fun ls hl => ?_)
              refine lv_iload hx hb dX7_gap_73 (lv_at hl 5 rfl) ?_
              refine lv_istore_n (lv' := [(2, .int x6), (3, .int x9), (5, .int x9), (0, .ref h0), (1, .int a1), (4, .int x6)]) hx hb dX7_gap_75 rfl hl (by decide) rfl (fun ls hl => ?_)
              obtain ⟨x11, ex11⟩ : ∃ y : Int32, y = (x6 + 1) := ⟨_, rfl⟩
              have hf := pf_nm ex11 hf
              refine lv_iinc (v := x11) (lv' := [(4, .int x11), (2, .int x6), (3, .int x9), (5, .int x9), (0, .ref h0), (1, .int a1)]) hx hb dX7_gap_76 hl (k := 5) rfl (by rw [ex11]; rfl) (by decide) rfl (fun ls hl => ?_)
              refine lv_goto (tgt := 29) hx hb dX7_gap_79 (by decide) ?_
              exact ih29 _ _ _ _ _ _ hf w (lv_sub hl [4, 5, 1, 2, 0] rfl)
      exact klp_X7_gap_29 FU _ _ _ _ _ _ hf w (lv_sub hl [3, 4, 2, 1, 0] rfl)
    · have hf := pf_t c16 hf
      refine lv_bipush (v := (-2)) hx hb dX7_gap_19 (by decide) ?_
      exact hQ _ _ _ _ _ () (fun _ => 0) hf rfl w dX7_gap_21
set_option maxHeartbeats 8000000 in
set_option maxRecDepth 100000 in
theorem ct_X7_isSpan (l : Launch) (E : hm_E) (sz : Nat) (a0 : Int32) (a1 : Int32) (a2 : Int32) (R : Int32 × Unit) (hf : pf_X7_isSpan a0 a1 a2 = some R) : hm_Mi l E yX7_isSpan cX7_isSpan 3 .boolean [] (hm_rr 0 0 0 0) [.int a0, .int a1, .int a2] sz [] R.1 (fun _ => []) := by
  refine hm_ct_i R (fun u qs => []) (by decide) (Nat.le_of_ble_eq_true rfl) (Or.inr rfl) ?_
  intro p e s m args below meth c A Q ls H locs hx hb hml hown X hA Y hex w hl hQ
  have hl : lv_has ls 3 [(0, .int a0), (1, .int a1), (2, .int a2)] := hl
  unfold pf_X7_isSpan at hf
  refine lv_iload_n hx hb dX7_isSpan_0 rfl (lv_at hl 0 rfl) ?_
  refine lv_ldc (v := (-100000)) hx hb hown (X.use ck_X7_204 rfl) dX7_isSpan_1 ?_
  refine lv_icmp_lt (tgt := 38) hx hb dX7_isSpan_3 (by decide) (fun c3 => ?_) (fun c3 => ?_)
  · have hf := pf_t c3 hf
    refine lv_iconst (v := 0) hx hb dX7_isSpan_38 (by decide) ?_
    exact hQ _ _ _ _ _ () (fun _ => 0) hf rfl w dX7_isSpan_39
  · have hf := pf_e c3 hf
    refine lv_iload_n hx hb dX7_isSpan_6 rfl (lv_at hl 1 rfl) ?_
    refine lv_ldcw (v := 100000) hx hb hown (X.use ck_X7_385 rfl) dX7_isSpan_7 ?_
    refine lv_icmp_gt (tgt := 38) hx hb dX7_isSpan_10 (by decide) (fun c10 => ?_) (fun c10 => ?_)
    · have hf := pf_t c10 hf
      refine lv_iconst (v := 0) hx hb dX7_isSpan_38 (by decide) ?_
      exact hQ _ _ _ _ _ () (fun _ => 0) hf rfl w dX7_isSpan_39
    · have hf := pf_e c10 hf
      refine lv_iload_n hx hb dX7_isSpan_13 rfl (lv_at hl 0 rfl) ?_
      refine lv_iload_n hx hb dX7_isSpan_14 rfl (lv_at hl 1 rfl) ?_
      refine lv_icmp_gt (tgt := 38) hx hb dX7_isSpan_15 (by decide) (fun c15 => ?_) (fun c15 => ?_)
      · have hf := pf_t c15 hf
        refine lv_iconst (v := 0) hx hb dX7_isSpan_38 (by decide) ?_
        exact hQ _ _ _ _ _ () (fun _ => 0) hf rfl w dX7_isSpan_39
      · have hf := pf_e c15 hf
        refine lv_iload_n hx hb dX7_isSpan_18 rfl (lv_at hl 2 rfl) ?_
        refine lv_iconst (v := 1) hx hb dX7_isSpan_19 (by decide) ?_
        refine lv_icmp_lt (tgt := 38) hx hb dX7_isSpan_20 (by decide) (fun c20 => ?_) (fun c20 => ?_)
        · have hf := pf_t c20 hf
          refine lv_iconst (v := 0) hx hb dX7_isSpan_38 (by decide) ?_
          exact hQ _ _ _ _ _ () (fun _ => 0) hf rfl w dX7_isSpan_39
        · have hf := pf_e c20 hf
          refine lv_iload_n hx hb dX7_isSpan_23 rfl (lv_at hl 1 rfl) ?_
          refine lv_iload_n hx hb dX7_isSpan_24 rfl (lv_at hl 0 rfl) ?_
          refine lv_isub hx hb dX7_isSpan_25 ?_
          refine lv_iload_n hx hb dX7_isSpan_26 rfl (lv_at hl 2 rfl) ?_
          obtain ⟨g27, hf⟩ := pf_ckD hf
          refine lv_idiv hx hb dX7_isSpan_27 g27 ?_
          refine lv_sipush (v := 2000) hx hb dX7_isSpan_28 (by decide) ?_
          refine lv_icmp_ge (tgt := 38) hx hb dX7_isSpan_31 (by decide) (fun c31 => ?_) (fun c31 => ?_)
          · have hf := pf_t c31 hf
            refine lv_iconst (v := 0) hx hb dX7_isSpan_38 (by decide) ?_
            exact hQ _ _ _ _ _ () (fun _ => 0) hf rfl w dX7_isSpan_39
          · have hf := pf_e c31 hf
            refine lv_iconst (v := 1) hx hb dX7_isSpan_34 (by decide) ?_
            refine lv_goto (tgt := 39) hx hb dX7_isSpan_35 (by decide) ?_
            exact hQ _ _ _ _ _ () (fun _ => 0) hf rfl w dX7_isSpan_39
set_option maxHeartbeats 8000000 in
set_option maxRecDepth 100000 in
theorem ct_X7_histogram (l : Launch) (E : hm_E) (sz : Nat) (h0 : Nat) (r_t : Nat → Nat) (r_t_now : Nat → Nat) (d_t_now : Nat) (r_t_tally : Nat → Nat) (t_writtenCount t_faultPlace t_now_bits t_now_offset t_now_band t_now_rule t_now_noise t_now_step t_now_draws t_now_heat t_now_hour t_now_seenCount t_tally_count t_tally_falls t_tally_offBy t_tally_offAt t_tally_unlike t_tally_most t_tally_mostCome t_tally_least t_tally_greatest t_tally_missing t_tally_firstMissing : Int32) (t_now_off : Nat → Int32) (t_now_size : Nat → Int32) (t_now_stuck : Nat → Int32) (t_now_worth : Nat → Int32) (t_tally_entry : Nat → Int32) (a1 : Int32) (a2 : Int32) (a3 : Int32) (a4 : Int32) (R : Int32 × (Nat → Int32) × Int32 × Int32 × Int32 × Int32 × Int32 × Int32 × Int32 × Int32 × Int32 × Int32 × Int32) (hf : pf_X7_histogram a1 a2 a3 a4 t_now_bits t_now_size t_now_off t_now_worth t_now_stuck t_now_offset t_now_step t_tally_entry t_tally_count t_tally_falls t_tally_offBy t_tally_offAt t_tally_unlike t_tally_most t_tally_mostCome t_tally_least t_tally_greatest t_tally_missing t_tally_firstMissing = some R) : hm_Mi l E yX7_histogram cX7_histogram 5 .int [] (hm_rr 4 97 0 0) [.ref h0, .int a1, .int a2, .int a3, .int a4] sz [oc7 h0 r_t t_writtenCount t_faultPlace, oc2 (r_t 1) r_t_now d_t_now t_now_bits t_now_offset t_now_band t_now_rule t_now_noise t_now_step t_now_draws t_now_heat t_now_hour t_now_seenCount, oc4 (r_t 6) r_t_tally t_tally_count t_tally_falls t_tally_offBy t_tally_offAt t_tally_unlike t_tally_most t_tally_mostCome t_tally_least t_tally_greatest t_tally_missing t_tally_firstMissing, ic E (r_t_now 2) 12 t_now_off, ic E (r_t_now 1) 12 t_now_size, ic E (r_t_now 4) 12 t_now_stuck, ic E (r_t_now 3) 12 t_now_worth, ic E (r_t_tally 0) 4096 t_tally_entry] R.1 (fun _ => [oc7 h0 r_t t_writtenCount t_faultPlace, oc2 (r_t 1) r_t_now d_t_now t_now_bits t_now_offset t_now_band t_now_rule t_now_noise t_now_step t_now_draws t_now_heat t_now_hour t_now_seenCount, oc4 (r_t 6) r_t_tally (R.2.2.1) (R.2.2.2.1) (R.2.2.2.2.1) (R.2.2.2.2.2.1) (R.2.2.2.2.2.2.1) (R.2.2.2.2.2.2.2.1) (R.2.2.2.2.2.2.2.2.1) (R.2.2.2.2.2.2.2.2.2.1) (R.2.2.2.2.2.2.2.2.2.2.1) (R.2.2.2.2.2.2.2.2.2.2.2.1) (R.2.2.2.2.2.2.2.2.2.2.2.2), ic E (r_t_now 2) 12 t_now_off, ic E (r_t_now 1) 12 t_now_size, ic E (r_t_now 4) 12 t_now_stuck, ic E (r_t_now 3) 12 t_now_worth, ic E (r_t_tally 0) 4096 (R.2.1)]) := by
  refine hm_ct_i R (fun u qs => [oc7 h0 r_t t_writtenCount t_faultPlace, oc2 (r_t 1) r_t_now d_t_now t_now_bits t_now_offset t_now_band t_now_rule t_now_noise t_now_step t_now_draws t_now_heat t_now_hour t_now_seenCount, oc4 (r_t 6) r_t_tally (u.2.1) (u.2.2.1) (u.2.2.2.1) (u.2.2.2.2.1) (u.2.2.2.2.2.1) (u.2.2.2.2.2.2.1) (u.2.2.2.2.2.2.2.1) (u.2.2.2.2.2.2.2.2.1) (u.2.2.2.2.2.2.2.2.2.1) (u.2.2.2.2.2.2.2.2.2.2.1) (u.2.2.2.2.2.2.2.2.2.2.2), ic E (r_t_now 2) 12 t_now_off, ic E (r_t_now 1) 12 t_now_size, ic E (r_t_now 4) 12 t_now_stuck, ic E (r_t_now 3) 12 t_now_worth, ic E (r_t_tally 0) 4096 (u.1)]) (by decide) (Nat.le_of_ble_eq_true rfl) (Or.inl rfl) ?_
  intro p e s m args below meth c A Q ls H locs hx hb hml hown X hA Y hex w hl hQ
  have hl : lv_has ls 5 [(0, .ref h0), (1, .int a1), (2, .int a2), (3, .int a3), (4, .int a4)] := hl
  unfold pf_X7_histogram at hf
  refine lv_aload_n hx hb dX7_histogram_0 rfl (lv_at hl 0 rfl) ?_
  refine hm_get cb_X7 hx hb hown X w 0 1 fl_X7_19 dX7_histogram_1 rfl (by decide) rfl ?_
  refine hm_get cb_X2 hx hb hown X w 1 0 fl_X7_95 dX7_histogram_4 rfl (by decide) rfl ?_
  refine lv_if_eq (tgt := 30) hx hb dX7_histogram_7 (by decide) (fun c7 => ?_) (fun c7 => ?_)
  · have hf := pf_t c7 hf
    refine lv_ldc (v := (-1000000)) hx hb hown (X.use ck_X7_143 rfl) dX7_histogram_30 ?_
    exact hQ _ _ _ _ _ (t_tally_entry, t_tally_count, t_tally_falls, t_tally_offBy, t_tally_offAt, t_tally_unlike, t_tally_most, t_tally_mostCome, t_tally_least, t_tally_greatest, t_tally_missing, t_tally_firstMissing) (fun _ => 0) hf rfl w dX7_histogram_32
  · have hf := pf_e c7 hf
    refine lv_iload_n hx hb dX7_histogram_10 rfl (lv_at hl 1 rfl) ?_
    refine lv_iload_n hx hb dX7_histogram_11 rfl (lv_at hl 2 rfl) ?_
    refine lv_iload_n hx hb dX7_histogram_12 rfl (lv_at hl 3 rfl) ?_
    obtain ⟨r1, hc13, hf⟩ := pf_bi_0 hf
    refine hm_aft_i (ws' := fun _ => [oc7 h0 r_t t_writtenCount t_faultPlace, oc2 (r_t 1) r_t_now d_t_now t_now_bits t_now_offset t_now_band t_now_rule t_now_noise t_now_step t_now_draws t_now_heat t_now_hour t_now_seenCount, oc4 (r_t 6) r_t_tally t_tally_count t_tally_falls t_tally_offBy t_tally_offAt t_tally_unlike t_tally_most t_tally_mostCome t_tally_least t_tally_greatest t_tally_missing t_tally_firstMissing, ic E (r_t_now 2) 12 t_now_off, ic E (r_t_now 1) 12 t_now_size, ic E (r_t_now 4) 12 t_now_stuck, ic E (r_t_now 3) 12 t_now_worth, ic E (r_t_tally 0) 4096 t_tally_entry]) (hm_runS (rest := []) hx hb hml hown X hA Y w mw_X7_isSpan ml_X7_291 dX7_histogram_13 hm_ac0 [.int a1, .int a2, .int a3] rfl [] rfl rfl (ct_X7_isSpan l E H.size a1 a2 a3 (r1, ()) hc13) rfl hl.1 ⟨⟨rfl, rfl⟩, ⟨Nat.le_of_ble_eq_true rfl, Nat.le_of_ble_eq_true rfl⟩, ⟨Nat.le_of_ble_eq_true rfl, Nat.le_of_ble_eq_true rfl⟩, Nat.le_of_ble_eq_true rfl⟩) hA w [] [0, 1, 2, 3, 4, 5, 6, 7] [0, 1, 2, 3, 4, 5, 6, 7] rfl rfl (by decide) (fun _ => rfl) (fun _ H locs w => ?_)
    refine lv_if_eq (tgt := 30) hx hb dX7_histogram_16 (by decide) (fun c16 => ?_) (fun c16 => ?_)
    · have hf := pf_t c16 hf
      refine lv_ldc (v := (-1000000)) hx hb hown (X.use ck_X7_143 rfl) dX7_histogram_30 ?_
      exact hQ _ _ _ _ _ (t_tally_entry, t_tally_count, t_tally_falls, t_tally_offBy, t_tally_offAt, t_tally_unlike, t_tally_most, t_tally_mostCome, t_tally_least, t_tally_greatest, t_tally_missing, t_tally_firstMissing) (fun _ => 0) hf rfl w dX7_histogram_32
    · have hf := pf_e c16 hf
      refine lv_iload hx hb dX7_histogram_19 (lv_at hl 4 rfl) ?_
      refine lv_iconst (v := 0) hx hb dX7_histogram_21 (by decide) ?_
      refine lv_bipush (v := 9) hx hb dX7_histogram_22 (by decide) ?_
      obtain ⟨r2, hc24, hf⟩ := pf_bi_0 hf
      refine hm_aft_i (ws' := fun _ => [oc7 h0 r_t t_writtenCount t_faultPlace, oc2 (r_t 1) r_t_now d_t_now t_now_bits t_now_offset t_now_band t_now_rule t_now_noise t_now_step t_now_draws t_now_heat t_now_hour t_now_seenCount, oc4 (r_t 6) r_t_tally t_tally_count t_tally_falls t_tally_offBy t_tally_offAt t_tally_unlike t_tally_most t_tally_mostCome t_tally_least t_tally_greatest t_tally_missing t_tally_firstMissing, ic E (r_t_now 2) 12 t_now_off, ic E (r_t_now 1) 12 t_now_size, ic E (r_t_now 4) 12 t_now_stuck, ic E (r_t_now 3) 12 t_now_worth, ic E (r_t_tally 0) 4096 t_tally_entry]) (hm_runS (rest := []) hx hb hml hown X hA Y w mw_X7_within ml_X7_225 dX7_histogram_24 hm_ac0 [.int a4, .int 0, .int 9] rfl [] rfl rfl (ct_X7_within l E H.size a4 0 9 (r2, ()) hc24) rfl hl.1 ⟨⟨rfl, rfl⟩, ⟨Nat.le_of_ble_eq_true rfl, Nat.le_of_ble_eq_true rfl⟩, ⟨Nat.le_of_ble_eq_true rfl, Nat.le_of_ble_eq_true rfl⟩, Nat.le_of_ble_eq_true rfl⟩) hA w [] [0, 1, 2, 3, 4, 5, 6, 7] [0, 1, 2, 3, 4, 5, 6, 7] rfl rfl (by decide) (fun _ => rfl) (fun _ H locs w => ?_)
      refine lv_if_ne (tgt := 33) hx hb dX7_histogram_27 (by decide) (fun c27 => ?_) (fun c27 => ?_)
      · have hf := pf_e c27 hf
        refine lv_aload_n hx hb dX7_histogram_33 rfl (lv_at hl 0 rfl) ?_
        refine hm_get cb_X7 hx hb hown X w 0 6 fl_X7_43 dX7_histogram_34 rfl (by decide) rfl ?_
        refine lv_aload_n hx hb dX7_histogram_37 rfl (lv_at hl 0 rfl) ?_
        refine hm_get cb_X7 hx hb hown X w 0 1 fl_X7_19 dX7_histogram_38 rfl (by decide) rfl ?_
        refine lv_iload_n hx hb dX7_histogram_41 rfl (lv_at hl 1 rfl) ?_
        refine lv_iload_n hx hb dX7_histogram_42 rfl (lv_at hl 2 rfl) ?_
        refine lv_iload_n hx hb dX7_histogram_43 rfl (lv_at hl 3 rfl) ?_
        obtain ⟨f3, x4, x5, x6, x7, hc44, hf⟩ := pf_bv_5 hf
        refine hm_aft_v (ws' := fun _ => [oc7 h0 r_t t_writtenCount t_faultPlace, oc2 (r_t 1) r_t_now d_t_now t_now_bits t_now_offset t_now_band t_now_rule t_now_noise t_now_step t_now_draws t_now_heat t_now_hour t_now_seenCount, oc4 (r_t 6) r_t_tally x4 x5 x6 x7 t_tally_unlike t_tally_most t_tally_mostCome t_tally_least t_tally_greatest t_tally_missing t_tally_firstMissing, ic E (r_t_now 2) 12 t_now_off, ic E (r_t_now 1) 12 t_now_size, ic E (r_t_now 4) 12 t_now_stuck, ic E (r_t_now 3) 12 t_now_worth, ic E (r_t_tally 0) 4096 f3]) (hm_runV (rest := []) hx hb hml hown X hA Y w 2 (ci := 4) (T := TX4) (N := 12) rfl rfl mw_X4_measure ml_X7_294 dX7_histogram_44 hm_ac0 [.ref (r_t 1), .int a1, .int a2, .int a3] rfl [2, 1, 7, 3, 4, 5, 6] rfl rfl (ct_X4_measure l E H.size (r_t 6) (r_t 1) r_t_tally r_t_now d_t_now t_tally_count t_tally_falls t_tally_offBy t_tally_offAt t_tally_unlike t_tally_most t_tally_mostCome t_tally_least t_tally_greatest t_tally_missing t_tally_firstMissing t_now_bits t_now_offset t_now_band t_now_rule t_now_noise t_now_step t_now_draws t_now_heat t_now_hour t_now_seenCount t_tally_entry t_now_off t_now_size t_now_stuck t_now_worth a1 a2 a3 (f3, x4, x5, x6, x7) hc44) rfl hl.1 ⟨⟨rfl, rfl⟩, ⟨Nat.le_of_ble_eq_true rfl, Nat.le_of_ble_eq_true rfl⟩, ⟨Nat.le_of_ble_eq_true rfl, Nat.le_of_ble_eq_true rfl⟩, Nat.le_of_ble_eq_true rfl⟩) hA w [2, 1, 7, 3, 4, 5, 6] [0] [0, 2, 1, 4, 5, 6, 7, 3] rfl rfl (by decide) (fun _ => rfl) (fun _ H locs w => ?_)
        refine lv_aload_n hx hb dX7_histogram_47 rfl (lv_at hl 0 rfl) ?_
        refine hm_get cb_X7 hx hb hown X w 0 6 fl_X7_43 dX7_histogram_48 rfl (by decide) rfl ?_
        obtain ⟨f8, x9, x10, x11, x12, x13, x14, x15, hc51, hf⟩ := pf_bv_8 hf
        refine hm_aft_v (ws' := fun _ => [oc7 h0 r_t t_writtenCount t_faultPlace, oc2 (r_t 1) r_t_now d_t_now t_now_bits t_now_offset t_now_band t_now_rule t_now_noise t_now_step t_now_draws t_now_heat t_now_hour t_now_seenCount, oc4 (r_t 6) r_t_tally x4 x5 x6 x7 x9 x10 x11 x12 x13 x14 x15, ic E (r_t_now 2) 12 t_now_off, ic E (r_t_now 1) 12 t_now_size, ic E (r_t_now 4) 12 t_now_stuck, ic E (r_t_now 3) 12 t_now_worth, ic E (r_t_tally 0) 4096 f8]) (hm_runV (rest := []) hx hb hml hown X hA Y w 2 (ci := 4) (T := TX4) (N := 12) rfl rfl mw_X4_sortOut ml_X7_298 dX7_histogram_51 hm_ac0 [] rfl [2, 7] rfl rfl (ct_X4_sortOut l E H.size (r_t 6) r_t_tally x4 x5 x6 x7 t_tally_unlike t_tally_most t_tally_mostCome t_tally_least t_tally_greatest t_tally_missing t_tally_firstMissing f3 (f8, x9, x10, x11, x12, x13, x14, x15) hc51) rfl hl.1 ⟨⟨rfl, rfl⟩, ⟨Nat.le_of_ble_eq_true rfl, Nat.le_of_ble_eq_true rfl⟩, ⟨Nat.le_of_ble_eq_true rfl, Nat.le_of_ble_eq_true rfl⟩, Nat.le_of_ble_eq_true rfl⟩) hA w [2, 7] [0, 1, 3, 4, 5, 6] [0, 1, 6, 2, 3, 4, 5, 7] rfl rfl (by decide) (fun _ => rfl) (fun _ H locs w => ?_)
        refine lv_aload_n hx hb dX7_histogram_54 rfl (lv_at hl 0 rfl) ?_
        refine hm_get cb_X7 hx hb hown X w 0 6 fl_X7_43 dX7_histogram_55 rfl (by decide) rfl ?_
        refine lv_iload hx hb dX7_histogram_58 (lv_at hl 4 rfl) ?_
        obtain ⟨r16, hc60, hf⟩ := pf_bi_0 hf
        refine hm_aft_i (ws' := fun _ => [oc7 h0 r_t t_writtenCount t_faultPlace, oc2 (r_t 1) r_t_now d_t_now t_now_bits t_now_offset t_now_band t_now_rule t_now_noise t_now_step t_now_draws t_now_heat t_now_hour t_now_seenCount, oc4 (r_t 6) r_t_tally x4 x5 x6 x7 x9 x10 x11 x12 x13 x14 x15, ic E (r_t_now 2) 12 t_now_off, ic E (r_t_now 1) 12 t_now_size, ic E (r_t_now 4) 12 t_now_stuck, ic E (r_t_now 3) 12 t_now_worth, ic E (r_t_tally 0) 4096 f8]) (hm_runV (rest := []) hx hb hml hown X hA Y w 2 (ci := 4) (T := TX4) (N := 12) rfl rfl mw_X4_tell ml_X7_301 dX7_histogram_60 hm_ac0 [.int a4] rfl [2] rfl rfl (ct_X4_tell l E H.size (r_t 6) r_t_tally x4 x5 x6 x7 x9 x10 x11 x12 x13 x14 x15 a4 (r16, ()) hc60) rfl hl.1 ⟨⟨rfl, rfl⟩, ⟨Nat.le_of_ble_eq_true rfl, Nat.le_of_ble_eq_true rfl⟩, ⟨Nat.le_of_ble_eq_true rfl, Nat.le_of_ble_eq_true rfl⟩, Nat.le_of_ble_eq_true rfl⟩) hA w [2] [0, 1, 3, 4, 5, 6, 7] [0, 1, 7, 2, 3, 4, 5, 6] rfl rfl (by decide) (fun _ => rfl) (fun _ H locs w => ?_)
        exact hQ _ _ _ _ _ (f8, x4, x5, x6, x7, x9, x10, x11, x12, x13, x14, x15) (fun _ => 0) hf rfl w dX7_histogram_63
      · have hf := pf_t c27 hf
        refine lv_ldc (v := (-1000000)) hx hb hown (X.use ck_X7_143 rfl) dX7_histogram_30 ?_
        exact hQ _ _ _ _ _ (t_tally_entry, t_tally_count, t_tally_falls, t_tally_offBy, t_tally_offAt, t_tally_unlike, t_tally_most, t_tally_mostCome, t_tally_least, t_tally_greatest, t_tally_missing, t_tally_firstMissing) (fun _ => 0) hf rfl w dX7_histogram_32
set_option maxHeartbeats 8000000 in
set_option maxRecDepth 100000 in
theorem ct_X7_often (l : Launch) (E : hm_E) (sz : Nat) (h0 : Nat) (r_t : Nat → Nat) (r_t_now : Nat → Nat) (d_t_now : Nat) (r_t_tally : Nat → Nat) (t_writtenCount t_faultPlace t_now_bits t_now_offset t_now_band t_now_rule t_now_noise t_now_step t_now_draws t_now_heat t_now_hour t_now_seenCount t_tally_count t_tally_falls t_tally_offBy t_tally_offAt t_tally_unlike t_tally_most t_tally_mostCome t_tally_least t_tally_greatest t_tally_missing t_tally_firstMissing : Int32) (t_now_off : Nat → Int32) (t_now_size : Nat → Int32) (t_now_stuck : Nat → Int32) (t_now_worth : Nat → Int32) (t_tally_entry : Nat → Int32) (a1 : Int32) (a2 : Int32) (a3 : Int32) (a4 : Int32) (R : Int32 × (Nat → Int32) × Int32 × Int32 × Int32 × Int32) (hf : pf_X7_often a1 a2 a3 a4 t_now_bits t_now_size t_now_off t_now_worth t_now_stuck t_now_offset t_now_step t_tally_entry t_tally_count t_tally_falls t_tally_offBy t_tally_offAt = some R) : hm_Mi l E yX7_often cX7_often 5 .int [] (hm_rr 4 97 0 0) [.ref h0, .int a1, .int a2, .int a3, .int a4] sz [oc7 h0 r_t t_writtenCount t_faultPlace, oc2 (r_t 1) r_t_now d_t_now t_now_bits t_now_offset t_now_band t_now_rule t_now_noise t_now_step t_now_draws t_now_heat t_now_hour t_now_seenCount, oc4 (r_t 6) r_t_tally t_tally_count t_tally_falls t_tally_offBy t_tally_offAt t_tally_unlike t_tally_most t_tally_mostCome t_tally_least t_tally_greatest t_tally_missing t_tally_firstMissing, ic E (r_t_now 2) 12 t_now_off, ic E (r_t_now 1) 12 t_now_size, ic E (r_t_now 4) 12 t_now_stuck, ic E (r_t_now 3) 12 t_now_worth, ic E (r_t_tally 0) 4096 t_tally_entry] R.1 (fun _ => [oc7 h0 r_t t_writtenCount t_faultPlace, oc2 (r_t 1) r_t_now d_t_now t_now_bits t_now_offset t_now_band t_now_rule t_now_noise t_now_step t_now_draws t_now_heat t_now_hour t_now_seenCount, oc4 (r_t 6) r_t_tally (R.2.2.1) (R.2.2.2.1) (R.2.2.2.2.1) (R.2.2.2.2.2) t_tally_unlike t_tally_most t_tally_mostCome t_tally_least t_tally_greatest t_tally_missing t_tally_firstMissing, ic E (r_t_now 2) 12 t_now_off, ic E (r_t_now 1) 12 t_now_size, ic E (r_t_now 4) 12 t_now_stuck, ic E (r_t_now 3) 12 t_now_worth, ic E (r_t_tally 0) 4096 (R.2.1)]) := by
  refine hm_ct_i R (fun u qs => [oc7 h0 r_t t_writtenCount t_faultPlace, oc2 (r_t 1) r_t_now d_t_now t_now_bits t_now_offset t_now_band t_now_rule t_now_noise t_now_step t_now_draws t_now_heat t_now_hour t_now_seenCount, oc4 (r_t 6) r_t_tally (u.2.1) (u.2.2.1) (u.2.2.2.1) (u.2.2.2.2) t_tally_unlike t_tally_most t_tally_mostCome t_tally_least t_tally_greatest t_tally_missing t_tally_firstMissing, ic E (r_t_now 2) 12 t_now_off, ic E (r_t_now 1) 12 t_now_size, ic E (r_t_now 4) 12 t_now_stuck, ic E (r_t_now 3) 12 t_now_worth, ic E (r_t_tally 0) 4096 (u.1)]) (by decide) (Nat.le_of_ble_eq_true rfl) (Or.inl rfl) ?_
  intro p e s m args below meth c A Q ls H locs hx hb hml hown X hA Y hex w hl hQ
  have hl : lv_has ls 5 [(0, .ref h0), (1, .int a1), (2, .int a2), (3, .int a3), (4, .int a4)] := hl
  unfold pf_X7_often at hf
  refine lv_aload_n hx hb dX7_often_0 rfl (lv_at hl 0 rfl) ?_
  refine hm_get cb_X7 hx hb hown X w 0 1 fl_X7_19 dX7_often_1 rfl (by decide) rfl ?_
  refine hm_get cb_X2 hx hb hown X w 1 0 fl_X7_95 dX7_often_4 rfl (by decide) rfl ?_
  refine lv_if_eq (tgt := 19) hx hb dX7_often_7 (by decide) (fun c7 => ?_) (fun c7 => ?_)
  · have hf := pf_t c7 hf
    refine lv_iconst (v := (-1)) hx hb dX7_often_19 (by decide) ?_
    exact hQ _ _ _ _ _ (t_tally_entry, t_tally_count, t_tally_falls, t_tally_offBy, t_tally_offAt) (fun _ => 0) hf rfl w dX7_often_20
  · have hf := pf_e c7 hf
    refine lv_iload_n hx hb dX7_often_10 rfl (lv_at hl 1 rfl) ?_
    refine lv_iload_n hx hb dX7_often_11 rfl (lv_at hl 2 rfl) ?_
    refine lv_iload_n hx hb dX7_often_12 rfl (lv_at hl 3 rfl) ?_
    obtain ⟨r1, hc13, hf⟩ := pf_bi_0 hf
    refine hm_aft_i (ws' := fun _ => [oc7 h0 r_t t_writtenCount t_faultPlace, oc2 (r_t 1) r_t_now d_t_now t_now_bits t_now_offset t_now_band t_now_rule t_now_noise t_now_step t_now_draws t_now_heat t_now_hour t_now_seenCount, oc4 (r_t 6) r_t_tally t_tally_count t_tally_falls t_tally_offBy t_tally_offAt t_tally_unlike t_tally_most t_tally_mostCome t_tally_least t_tally_greatest t_tally_missing t_tally_firstMissing, ic E (r_t_now 2) 12 t_now_off, ic E (r_t_now 1) 12 t_now_size, ic E (r_t_now 4) 12 t_now_stuck, ic E (r_t_now 3) 12 t_now_worth, ic E (r_t_tally 0) 4096 t_tally_entry]) (hm_runS (rest := []) hx hb hml hown X hA Y w mw_X7_isSpan ml_X7_291 dX7_often_13 hm_ac0 [.int a1, .int a2, .int a3] rfl [] rfl rfl (ct_X7_isSpan l E H.size a1 a2 a3 (r1, ()) hc13) rfl hl.1 ⟨⟨rfl, rfl⟩, ⟨Nat.le_of_ble_eq_true rfl, Nat.le_of_ble_eq_true rfl⟩, ⟨Nat.le_of_ble_eq_true rfl, Nat.le_of_ble_eq_true rfl⟩, Nat.le_of_ble_eq_true rfl⟩) hA w [] [0, 1, 2, 3, 4, 5, 6, 7] [0, 1, 2, 3, 4, 5, 6, 7] rfl rfl (by decide) (fun _ => rfl) (fun _ H locs w => ?_)
    refine lv_if_ne (tgt := 21) hx hb dX7_often_16 (by decide) (fun c16 => ?_) (fun c16 => ?_)
    · have hf := pf_e c16 hf
      refine lv_aload_n hx hb dX7_often_21 rfl (lv_at hl 0 rfl) ?_
      refine hm_get cb_X7 hx hb hown X w 0 6 fl_X7_43 dX7_often_22 rfl (by decide) rfl ?_
      refine lv_aload_n hx hb dX7_often_25 rfl (lv_at hl 0 rfl) ?_
      refine hm_get cb_X7 hx hb hown X w 0 1 fl_X7_19 dX7_often_26 rfl (by decide) rfl ?_
      refine lv_iload_n hx hb dX7_often_29 rfl (lv_at hl 1 rfl) ?_
      refine lv_iload_n hx hb dX7_often_30 rfl (lv_at hl 2 rfl) ?_
      refine lv_iload_n hx hb dX7_often_31 rfl (lv_at hl 3 rfl) ?_
      obtain ⟨f2, x3, x4, x5, x6, hc32, hf⟩ := pf_bv_5 hf
      refine hm_aft_v (ws' := fun _ => [oc7 h0 r_t t_writtenCount t_faultPlace, oc2 (r_t 1) r_t_now d_t_now t_now_bits t_now_offset t_now_band t_now_rule t_now_noise t_now_step t_now_draws t_now_heat t_now_hour t_now_seenCount, oc4 (r_t 6) r_t_tally x3 x4 x5 x6 t_tally_unlike t_tally_most t_tally_mostCome t_tally_least t_tally_greatest t_tally_missing t_tally_firstMissing, ic E (r_t_now 2) 12 t_now_off, ic E (r_t_now 1) 12 t_now_size, ic E (r_t_now 4) 12 t_now_stuck, ic E (r_t_now 3) 12 t_now_worth, ic E (r_t_tally 0) 4096 f2]) (hm_runV (rest := []) hx hb hml hown X hA Y w 2 (ci := 4) (T := TX4) (N := 12) rfl rfl mw_X4_measure ml_X7_294 dX7_often_32 hm_ac0 [.ref (r_t 1), .int a1, .int a2, .int a3] rfl [2, 1, 7, 3, 4, 5, 6] rfl rfl (ct_X4_measure l E H.size (r_t 6) (r_t 1) r_t_tally r_t_now d_t_now t_tally_count t_tally_falls t_tally_offBy t_tally_offAt t_tally_unlike t_tally_most t_tally_mostCome t_tally_least t_tally_greatest t_tally_missing t_tally_firstMissing t_now_bits t_now_offset t_now_band t_now_rule t_now_noise t_now_step t_now_draws t_now_heat t_now_hour t_now_seenCount t_tally_entry t_now_off t_now_size t_now_stuck t_now_worth a1 a2 a3 (f2, x3, x4, x5, x6) hc32) rfl hl.1 ⟨⟨rfl, rfl⟩, ⟨Nat.le_of_ble_eq_true rfl, Nat.le_of_ble_eq_true rfl⟩, ⟨Nat.le_of_ble_eq_true rfl, Nat.le_of_ble_eq_true rfl⟩, Nat.le_of_ble_eq_true rfl⟩) hA w [2, 1, 7, 3, 4, 5, 6] [0] [0, 2, 1, 4, 5, 6, 7, 3] rfl rfl (by decide) (fun _ => rfl) (fun _ H locs w => ?_)
      refine lv_aload_n hx hb dX7_often_35 rfl (lv_at hl 0 rfl) ?_
      refine hm_get cb_X7 hx hb hown X w 0 6 fl_X7_43 dX7_often_36 rfl (by decide) rfl ?_
      refine lv_iload hx hb dX7_often_39 (lv_at hl 4 rfl) ?_
      obtain ⟨r7, hc41, hf⟩ := pf_bi_0 hf
      refine hm_aft_i (ws' := fun _ => [oc7 h0 r_t t_writtenCount t_faultPlace, oc2 (r_t 1) r_t_now d_t_now t_now_bits t_now_offset t_now_band t_now_rule t_now_noise t_now_step t_now_draws t_now_heat t_now_hour t_now_seenCount, oc4 (r_t 6) r_t_tally x3 x4 x5 x6 t_tally_unlike t_tally_most t_tally_mostCome t_tally_least t_tally_greatest t_tally_missing t_tally_firstMissing, ic E (r_t_now 2) 12 t_now_off, ic E (r_t_now 1) 12 t_now_size, ic E (r_t_now 4) 12 t_now_stuck, ic E (r_t_now 3) 12 t_now_worth, ic E (r_t_tally 0) 4096 f2]) (hm_runV (rest := []) hx hb hml hown X hA Y w 2 (ci := 4) (T := TX4) (N := 12) rfl rfl mw_X4_howOften ml_X7_304 dX7_often_41 hm_ac0 [.int a4] rfl [2, 7] rfl rfl (ct_X4_howOften l E H.size (r_t 6) r_t_tally x3 x4 x5 x6 t_tally_unlike t_tally_most t_tally_mostCome t_tally_least t_tally_greatest t_tally_missing t_tally_firstMissing f2 a4 (r7, ()) hc41) rfl hl.1 ⟨⟨rfl, rfl⟩, ⟨Nat.le_of_ble_eq_true rfl, Nat.le_of_ble_eq_true rfl⟩, ⟨Nat.le_of_ble_eq_true rfl, Nat.le_of_ble_eq_true rfl⟩, Nat.le_of_ble_eq_true rfl⟩) hA w [2, 7] [0, 1, 3, 4, 5, 6] [0, 1, 6, 2, 3, 4, 5, 7] rfl rfl (by decide) (fun _ => rfl) (fun _ H locs w => ?_)
      exact hQ _ _ _ _ _ (f2, x3, x4, x5, x6) (fun _ => 0) hf rfl w dX7_often_44
    · have hf := pf_t c16 hf
      refine lv_iconst (v := (-1)) hx hb dX7_often_19 (by decide) ?_
      exact hQ _ _ _ _ _ (t_tally_entry, t_tally_count, t_tally_falls, t_tally_offBy, t_tally_offAt) (fun _ => 0) hf rfl w dX7_often_20
set_option maxHeartbeats 8000000 in
set_option maxRecDepth 100000 in
theorem ct_X7_first (l : Launch) (E : hm_E) (sz : Nat) (h0 : Nat) (r_t : Nat → Nat) (r_t_now : Nat → Nat) (d_t_now : Nat) (t_writtenCount t_faultPlace t_now_bits t_now_offset t_now_band t_now_rule t_now_noise t_now_step t_now_draws t_now_heat t_now_hour t_now_seenCount : Int32) (t_now_off : Nat → Int32) (t_now_size : Nat → Int32) (t_now_stuck : Nat → Int32) (t_now_worth : Nat → Int32) (a1 : Int32) (a2 : Int32) (a3 : Int32) (R : Int32 × Unit) (hf : pf_X7_first a1 a2 a3 t_now_bits t_now_size t_now_off t_now_worth t_now_stuck t_now_offset t_now_step = some R) : hm_Mi l E yX7_first cX7_first 5 .int [] (hm_rr 3 68 0 0) [.ref h0, .int a1, .int a2, .int a3] sz [oc7 h0 r_t t_writtenCount t_faultPlace, oc2 (r_t 1) r_t_now d_t_now t_now_bits t_now_offset t_now_band t_now_rule t_now_noise t_now_step t_now_draws t_now_heat t_now_hour t_now_seenCount, ic E (r_t_now 2) 12 t_now_off, ic E (r_t_now 1) 12 t_now_size, ic E (r_t_now 4) 12 t_now_stuck, ic E (r_t_now 3) 12 t_now_worth] R.1 (fun _ => [oc7 h0 r_t t_writtenCount t_faultPlace, oc2 (r_t 1) r_t_now d_t_now t_now_bits t_now_offset t_now_band t_now_rule t_now_noise t_now_step t_now_draws t_now_heat t_now_hour t_now_seenCount, ic E (r_t_now 2) 12 t_now_off, ic E (r_t_now 1) 12 t_now_size, ic E (r_t_now 4) 12 t_now_stuck, ic E (r_t_now 3) 12 t_now_worth]) := by
  refine hm_ct_i R (fun u qs => [oc7 h0 r_t t_writtenCount t_faultPlace, oc2 (r_t 1) r_t_now d_t_now t_now_bits t_now_offset t_now_band t_now_rule t_now_noise t_now_step t_now_draws t_now_heat t_now_hour t_now_seenCount, ic E (r_t_now 2) 12 t_now_off, ic E (r_t_now 1) 12 t_now_size, ic E (r_t_now 4) 12 t_now_stuck, ic E (r_t_now 3) 12 t_now_worth]) (by decide) (Nat.le_of_ble_eq_true rfl) (Or.inl rfl) ?_
  intro p e s m args below meth c A Q ls H locs hx hb hml hown X hA Y hex w hl hQ
  have hl : lv_has ls 5 [(0, .ref h0), (1, .int a1), (2, .int a2), (3, .int a3)] := hl
  unfold pf_X7_first at hf
  refine lv_aload_n hx hb dX7_first_0 rfl (lv_at hl 0 rfl) ?_
  refine hm_get cb_X7 hx hb hown X w 0 1 fl_X7_19 dX7_first_1 rfl (by decide) rfl ?_
  refine hm_get cb_X2 hx hb hown X w 1 0 fl_X7_95 dX7_first_4 rfl (by decide) rfl ?_
  refine lv_if_eq (tgt := 19) hx hb dX7_first_7 (by decide) (fun c7 => ?_) (fun c7 => ?_)
  · have hf := pf_t c7 hf
    refine lv_ldc (v := (-1000000)) hx hb hown (X.use ck_X7_143 rfl) dX7_first_19 ?_
    exact hQ _ _ _ _ _ () (fun _ => 0) hf rfl w dX7_first_21
  · have hf := pf_e c7 hf
    refine lv_iload_n hx hb dX7_first_10 rfl (lv_at hl 1 rfl) ?_
    refine lv_iload_n hx hb dX7_first_11 rfl (lv_at hl 2 rfl) ?_
    refine lv_iconst (v := 1) hx hb dX7_first_12 (by decide) ?_
    obtain ⟨r1, hc13, hf⟩ := pf_bi_0 hf
    refine hm_aft_i (ws' := fun _ => [oc7 h0 r_t t_writtenCount t_faultPlace, oc2 (r_t 1) r_t_now d_t_now t_now_bits t_now_offset t_now_band t_now_rule t_now_noise t_now_step t_now_draws t_now_heat t_now_hour t_now_seenCount, ic E (r_t_now 2) 12 t_now_off, ic E (r_t_now 1) 12 t_now_size, ic E (r_t_now 4) 12 t_now_stuck, ic E (r_t_now 3) 12 t_now_worth]) (hm_runS (rest := []) hx hb hml hown X hA Y w mw_X7_isSpan ml_X7_291 dX7_first_13 hm_ac0 [.int a1, .int a2, .int 1] rfl [] rfl rfl (ct_X7_isSpan l E H.size a1 a2 1 (r1, ()) hc13) rfl hl.1 ⟨⟨rfl, rfl⟩, ⟨Nat.le_of_ble_eq_true rfl, Nat.le_of_ble_eq_true rfl⟩, ⟨Nat.le_of_ble_eq_true rfl, Nat.le_of_ble_eq_true rfl⟩, Nat.le_of_ble_eq_true rfl⟩) hA w [] [0, 1, 2, 3, 4, 5] [0, 1, 2, 3, 4, 5] rfl rfl (by decide) (fun _ => rfl) (fun _ H locs w => ?_)
    refine lv_if_ne (tgt := 22) hx hb dX7_first_16 (by decide) (fun c16 => ?_) (fun c16 => ?_)
    · have hf := pf_e c16 hf
      refine lv_iload_n hx hb dX7_first_22 rfl (lv_at hl 1 rfl) ?_
      refine lv_istore (lv' := [(4, .int a1), (0, .ref h0), (1, .int a1), (2, .int a2), (3, .int a3)]) hx hb dX7_first_23 hl (by decide) rfl (fun ls hl => ?_)
      have klp_X7_first_25 : ∀ (n : Nat) (x2 : Int32) (H : Heap) (locs : List Loc) (ls : Array Slot), lp_X7_first_25 a2 a3 t_now_bits t_now_offset t_now_step t_now_off t_now_size t_now_stuck t_now_worth n x2 = some R → hm_W E A s.heap [oc7 h0 r_t t_writtenCount t_faultPlace, oc2 (r_t 1) r_t_now d_t_now t_now_bits t_now_offset t_now_band t_now_rule t_now_noise t_now_step t_now_draws t_now_heat t_now_hour t_now_seenCount, ic E (r_t_now 2) 12 t_now_off, ic E (r_t_now 1) 12 t_now_size, ic E (r_t_now 4) 12 t_now_stuck, ic E (r_t_now 3) 12 t_now_worth] H locs → lv_has ls 5 [(0, .ref h0), (2, .int a2), (3, .int a3), (4, .int x2)] → W p l e (hm_rr 3 68 0 0) s m args below meth c H locs 0 0 Q (F0 m 25 ls []) := by
        intro n
        induction n with
        | zero =>
          intro x2 H locs ls hf w hl
          exact pf_no hf
        | succ n ih25 =>
          intro x2 H locs ls hf w hl
          rw [lp_X7_first_25] at hf
          refine lv_iload hx hb dX7_first_25 (lv_at hl 3 rfl) ?_
          refine lv_iload_n hx hb dX7_first_27 rfl (lv_at hl 1 rfl) ?_
          refine lv_icmp_gt (tgt := 53) hx hb dX7_first_28 (by decide) (fun c28 => ?_) (fun c28 => ?_)
          · have hf := pf_t c28 hf
            refine lv_ldc (v := (-1000000)) hx hb hown (X.use ck_X7_143 rfl) dX7_first_53 ?_
            exact hQ _ _ _ _ _ () (fun _ => 0) hf rfl w dX7_first_55
          · have hf := pf_e c28 hf
            refine lv_aload_n hx hb dX7_first_31 rfl (lv_at hl 0 rfl) ?_
            refine hm_get cb_X7 hx hb hown X w 0 1 fl_X7_19 dX7_first_32 rfl (by decide) rfl ?_
            refine lv_iload hx hb dX7_first_35 (lv_at hl 3 rfl) ?_
            obtain ⟨r3, hc37, hf⟩ := pf_bi_0 hf
            refine hm_aft_i (ws' := fun _ => [oc7 h0 r_t t_writtenCount t_faultPlace, oc2 (r_t 1) r_t_now d_t_now t_now_bits t_now_offset t_now_band t_now_rule t_now_noise t_now_step t_now_draws t_now_heat t_now_hour t_now_seenCount, ic E (r_t_now 2) 12 t_now_off, ic E (r_t_now 1) 12 t_now_size, ic E (r_t_now 4) 12 t_now_stuck, ic E (r_t_now 3) 12 t_now_worth]) (hm_runV (rest := []) hx hb hml hown X hA Y w 1 (ci := 2) (T := TX2) (N := 17) rfl rfl mw_X2_paperCode ml_X7_282 dX7_first_37 hm_ac0 [.int x2] rfl [1, 2, 3, 4, 5] rfl rfl (ct_X2_paperCode l E H.size (r_t 1) r_t_now d_t_now t_now_bits t_now_offset t_now_band t_now_rule t_now_noise t_now_step t_now_draws t_now_heat t_now_hour t_now_seenCount t_now_off t_now_size t_now_stuck t_now_worth x2 (r3, ()) hc37) rfl hl.1 ⟨⟨rfl, rfl⟩, ⟨Nat.le_of_ble_eq_true rfl, Nat.le_of_ble_eq_true rfl⟩, ⟨Nat.le_of_ble_eq_true rfl, Nat.le_of_ble_eq_true rfl⟩, Nat.le_of_ble_eq_true rfl⟩) hA w [1, 2, 3, 4, 5] [0] [0, 1, 2, 3, 4, 5] rfl rfl (by decide) (fun _ => rfl) (fun _ H locs w => ?_)
            refine lv_iload_n hx hb dX7_first_40 rfl (lv_at hl 2 rfl) ?_
            refine lv_icmp_lt (tgt := 47) hx hb dX7_first_41 (by decide) (fun c41 => ?_) (fun c41 => ?_)
            · have hf := pf_t c41 hf
              obtain ⟨x4, ex4⟩ : ∃ y : Int32, y = (x2 + 1) := ⟨_, rfl⟩
              have hf := pf_nm ex4 hf
              refine lv_iinc (v := x4) (lv' := [(4, .int x4), (0, .ref h0), (2, .int a2), (3, .int a3)]) hx hb dX7_first_47 hl (k := 3) rfl (by rw [ex4]; rfl) (by decide) rfl (fun ls hl => ?_)
              refine lv_goto (tgt := 25) hx hb dX7_first_50 (by decide) ?_
              exact ih25 _ _ _ _ hf w (lv_sub hl [1, 2, 3, 0] rfl)
            · have hf := pf_e c41 hf
              refine lv_iload hx hb dX7_first_44 (lv_at hl 3 rfl) ?_
              exact hQ _ _ _ _ _ () (fun _ => 0) hf rfl w dX7_first_46
      exact klp_X7_first_25 FU _ _ _ _ hf w (lv_sub hl [1, 3, 4, 0] rfl)
    · have hf := pf_t c16 hf
      refine lv_ldc (v := (-1000000)) hx hb hown (X.use ck_X7_143 rfl) dX7_first_19 ?_
      exact hQ _ _ _ _ _ () (fun _ => 0) hf rfl w dX7_first_21
set_option maxHeartbeats 8000000 in
set_option maxRecDepth 100000 in
theorem ct_X7_canSum (l : Launch) (E : hm_E) (sz : Nat) (h0 : Nat) (r_t : Nat → Nat) (r_t_now : Nat → Nat) (d_t_now : Nat) (t_writtenCount t_faultPlace t_now_bits t_now_offset t_now_band t_now_rule t_now_noise t_now_step t_now_draws t_now_heat t_now_hour t_now_seenCount : Int32) (t_now_worth : Nat → Int32) (R : Int32 × Unit) (hf : pf_X7_canSum t_now_bits t_now_worth = some R) : hm_Mi l E yX7_canSum cX7_canSum 1 .boolean [] (hm_rr 1 22 0 0) [.ref h0] sz [oc7 h0 r_t t_writtenCount t_faultPlace, oc2 (r_t 1) r_t_now d_t_now t_now_bits t_now_offset t_now_band t_now_rule t_now_noise t_now_step t_now_draws t_now_heat t_now_hour t_now_seenCount, ic E (r_t_now 3) 12 t_now_worth] R.1 (fun _ => [oc7 h0 r_t t_writtenCount t_faultPlace, oc2 (r_t 1) r_t_now d_t_now t_now_bits t_now_offset t_now_band t_now_rule t_now_noise t_now_step t_now_draws t_now_heat t_now_hour t_now_seenCount, ic E (r_t_now 3) 12 t_now_worth]) := by
  refine hm_ct_i R (fun u qs => [oc7 h0 r_t t_writtenCount t_faultPlace, oc2 (r_t 1) r_t_now d_t_now t_now_bits t_now_offset t_now_band t_now_rule t_now_noise t_now_step t_now_draws t_now_heat t_now_hour t_now_seenCount, ic E (r_t_now 3) 12 t_now_worth]) (by decide) (Nat.le_of_ble_eq_true rfl) (Or.inr rfl) ?_
  intro p e s m args below meth c A Q ls H locs hx hb hml hown X hA Y hex w hl hQ
  have hl : lv_has ls 1 [(0, .ref h0)] := hl
  unfold pf_X7_canSum at hf
  refine lv_aload_n hx hb dX7_canSum_0 rfl (lv_at hl 0 rfl) ?_
  refine hm_get cb_X7 hx hb hown X w 0 1 fl_X7_19 dX7_canSum_1 rfl (by decide) rfl ?_
  refine hm_get cb_X2 hx hb hown X w 1 0 fl_X7_95 dX7_canSum_4 rfl (by decide) rfl ?_
  refine lv_if_le (tgt := 27) hx hb dX7_canSum_7 (by decide) (fun c7 => ?_) (fun c7 => ?_)
  · have hf := pf_t c7 hf
    refine lv_iconst (v := 0) hx hb dX7_canSum_27 (by decide) ?_
    exact hQ _ _ _ _ _ () (fun _ => 0) hf rfl w dX7_canSum_28
  · have hf := pf_e c7 hf
    refine lv_aload_n hx hb dX7_canSum_10 rfl (lv_at hl 0 rfl) ?_
    refine hm_get cb_X7 hx hb hown X w 0 1 fl_X7_19 dX7_canSum_11 rfl (by decide) rfl ?_
    obtain ⟨r1, hc14, hf⟩ := pf_bi_0 hf
    refine hm_aft_i (ws' := fun _ => [oc7 h0 r_t t_writtenCount t_faultPlace, oc2 (r_t 1) r_t_now d_t_now t_now_bits t_now_offset t_now_band t_now_rule t_now_noise t_now_step t_now_draws t_now_heat t_now_hour t_now_seenCount, ic E (r_t_now 3) 12 t_now_worth]) (hm_runV (rest := []) hx hb hml hown X hA Y w 1 (ci := 2) (T := TX2) (N := 17) rfl rfl mw_X2_allWorths ml_X7_196 dX7_canSum_14 hm_ac0 [] rfl [1, 2] rfl rfl (ct_X2_allWorths l E H.size (r_t 1) r_t_now d_t_now t_now_bits t_now_offset t_now_band t_now_rule t_now_noise t_now_step t_now_draws t_now_heat t_now_hour t_now_seenCount t_now_worth (r1, ()) hc14) rfl hl.1 ⟨⟨rfl, rfl⟩, ⟨Nat.le_of_ble_eq_true rfl, Nat.le_of_ble_eq_true rfl⟩, ⟨Nat.le_of_ble_eq_true rfl, Nat.le_of_ble_eq_true rfl⟩, Nat.le_of_ble_eq_true rfl⟩) hA w [1, 2] [0] [0, 1, 2] rfl rfl (by decide) (fun _ => rfl) (fun _ H locs w => ?_)
    refine lv_sipush (v := 20000) hx hb dX7_canSum_17 (by decide) ?_
    refine lv_icmp_gt (tgt := 27) hx hb dX7_canSum_20 (by decide) (fun c20 => ?_) (fun c20 => ?_)
    · have hf := pf_t c20 hf
      refine lv_iconst (v := 0) hx hb dX7_canSum_27 (by decide) ?_
      exact hQ _ _ _ _ _ () (fun _ => 0) hf rfl w dX7_canSum_28
    · have hf := pf_e c20 hf
      refine lv_iconst (v := 1) hx hb dX7_canSum_23 (by decide) ?_
      refine lv_goto (tgt := 28) hx hb dX7_canSum_24 (by decide) ?_
      exact hQ _ _ _ _ _ () (fun _ => 0) hf rfl w dX7_canSum_28
set_option maxHeartbeats 8000000 in
set_option maxRecDepth 100000 in
theorem ct_X7_ways (l : Launch) (E : hm_E) (sz : Nat) (h0 : Nat) (r_t : Nat → Nat) (r_t_now : Nat → Nat) (d_t_now : Nat) (r_t_tally : Nat → Nat) (t_writtenCount t_faultPlace t_now_bits t_now_offset t_now_band t_now_rule t_now_noise t_now_step t_now_draws t_now_heat t_now_hour t_now_seenCount t_tally_count t_tally_falls t_tally_offBy t_tally_offAt t_tally_unlike t_tally_most t_tally_mostCome t_tally_least t_tally_greatest t_tally_missing t_tally_firstMissing : Int32) (t_now_worth : Nat → Int32) (t_tally_entry : Nat → Int32) (a1 : Int32) (R : Int32 × (Nat → Int32) × Int32) (hf : pf_X7_ways a1 t_now_bits t_now_worth t_tally_entry t_tally_count = some R) : hm_Mi l E yX7_ways cX7_ways 2 .int [] (hm_rr 2 42 0 0) [.ref h0, .int a1] sz [oc7 h0 r_t t_writtenCount t_faultPlace, oc2 (r_t 1) r_t_now d_t_now t_now_bits t_now_offset t_now_band t_now_rule t_now_noise t_now_step t_now_draws t_now_heat t_now_hour t_now_seenCount, oc4 (r_t 6) r_t_tally t_tally_count t_tally_falls t_tally_offBy t_tally_offAt t_tally_unlike t_tally_most t_tally_mostCome t_tally_least t_tally_greatest t_tally_missing t_tally_firstMissing, ic E (r_t_now 3) 12 t_now_worth, ic E (r_t_tally 0) 4096 t_tally_entry] R.1 (fun _ => [oc7 h0 r_t t_writtenCount t_faultPlace, oc2 (r_t 1) r_t_now d_t_now t_now_bits t_now_offset t_now_band t_now_rule t_now_noise t_now_step t_now_draws t_now_heat t_now_hour t_now_seenCount, oc4 (r_t 6) r_t_tally (R.2.2) t_tally_falls t_tally_offBy t_tally_offAt t_tally_unlike t_tally_most t_tally_mostCome t_tally_least t_tally_greatest t_tally_missing t_tally_firstMissing, ic E (r_t_now 3) 12 t_now_worth, ic E (r_t_tally 0) 4096 (R.2.1)]) := by
  refine hm_ct_i R (fun u qs => [oc7 h0 r_t t_writtenCount t_faultPlace, oc2 (r_t 1) r_t_now d_t_now t_now_bits t_now_offset t_now_band t_now_rule t_now_noise t_now_step t_now_draws t_now_heat t_now_hour t_now_seenCount, oc4 (r_t 6) r_t_tally (u.2) t_tally_falls t_tally_offBy t_tally_offAt t_tally_unlike t_tally_most t_tally_mostCome t_tally_least t_tally_greatest t_tally_missing t_tally_firstMissing, ic E (r_t_now 3) 12 t_now_worth, ic E (r_t_tally 0) 4096 (u.1)]) (by decide) (Nat.le_of_ble_eq_true rfl) (Or.inl rfl) ?_
  intro p e s m args below meth c A Q ls H locs hx hb hml hown X hA Y hex w hl hQ
  have hl : lv_has ls 2 [(0, .ref h0), (1, .int a1)] := hl
  unfold pf_X7_ways at hf
  refine lv_aload_n hx hb dX7_ways_0 rfl (lv_at hl 0 rfl) ?_
  obtain ⟨r1, hc1, hf⟩ := pf_bi_0 hf
  refine hm_aft_i (ws' := fun _ => [oc7 h0 r_t t_writtenCount t_faultPlace, oc2 (r_t 1) r_t_now d_t_now t_now_bits t_now_offset t_now_band t_now_rule t_now_noise t_now_step t_now_draws t_now_heat t_now_hour t_now_seenCount, oc4 (r_t 6) r_t_tally t_tally_count t_tally_falls t_tally_offBy t_tally_offAt t_tally_unlike t_tally_most t_tally_mostCome t_tally_least t_tally_greatest t_tally_missing t_tally_firstMissing, ic E (r_t_now 3) 12 t_now_worth, ic E (r_t_tally 0) 4096 t_tally_entry]) (hm_runV (rest := []) hx hb hml hown X hA Y w 0 (ci := 6) (T := TX7) (N := 11) rfl rfl mw_X7_canSum ml_X7_307 dX7_ways_1 hm_ac0 [] rfl [0, 1, 3] rfl rfl (ct_X7_canSum l E H.size h0 r_t r_t_now d_t_now t_writtenCount t_faultPlace t_now_bits t_now_offset t_now_band t_now_rule t_now_noise t_now_step t_now_draws t_now_heat t_now_hour t_now_seenCount t_now_worth (r1, ()) hc1) rfl hl.1 ⟨⟨rfl, rfl⟩, ⟨Nat.le_of_ble_eq_true rfl, Nat.le_of_ble_eq_true rfl⟩, ⟨Nat.le_of_ble_eq_true rfl, Nat.le_of_ble_eq_true rfl⟩, Nat.le_of_ble_eq_true rfl⟩) hA w [0, 1, 3] [2, 4] [2, 3, 0, 4, 1] rfl rfl (by decide) (fun _ => rfl) (fun _ H locs w => ?_)
  refine lv_if_ne (tgt := 9) hx hb dX7_ways_4 (by decide) (fun c4 => ?_) (fun c4 => ?_)
  · have hf := pf_e c4 hf
    refine lv_aload_n hx hb dX7_ways_9 rfl (lv_at hl 0 rfl) ?_
    refine hm_get cb_X7 hx hb hown X w 0 6 fl_X7_43 dX7_ways_10 rfl (by decide) rfl ?_
    refine lv_aload_n hx hb dX7_ways_13 rfl (lv_at hl 0 rfl) ?_
    refine hm_get cb_X7 hx hb hown X w 0 1 fl_X7_19 dX7_ways_14 rfl (by decide) rfl ?_
    obtain ⟨f2, x3, hc17, hf⟩ := pf_bv_2 hf
    refine hm_aft_v (ws' := fun _ => [oc7 h0 r_t t_writtenCount t_faultPlace, oc2 (r_t 1) r_t_now d_t_now t_now_bits t_now_offset t_now_band t_now_rule t_now_noise t_now_step t_now_draws t_now_heat t_now_hour t_now_seenCount, oc4 (r_t 6) r_t_tally x3 t_tally_falls t_tally_offBy t_tally_offAt t_tally_unlike t_tally_most t_tally_mostCome t_tally_least t_tally_greatest t_tally_missing t_tally_firstMissing, ic E (r_t_now 3) 12 t_now_worth, ic E (r_t_tally 0) 4096 f2]) (hm_runV (rest := []) hx hb hml hown X hA Y w 2 (ci := 4) (T := TX4) (N := 12) rfl rfl mw_X4_addUp ml_X7_310 dX7_ways_17 hm_ac0 [.ref (r_t 1)] rfl [2, 1, 4, 3] rfl rfl (ct_X4_addUp l E H.size (r_t 6) (r_t 1) r_t_tally r_t_now d_t_now t_tally_count t_tally_falls t_tally_offBy t_tally_offAt t_tally_unlike t_tally_most t_tally_mostCome t_tally_least t_tally_greatest t_tally_missing t_tally_firstMissing t_now_bits t_now_offset t_now_band t_now_rule t_now_noise t_now_step t_now_draws t_now_heat t_now_hour t_now_seenCount t_tally_entry t_now_worth (f2, x3) hc17) rfl hl.1 ⟨⟨rfl, rfl⟩, ⟨Nat.le_of_ble_eq_true rfl, Nat.le_of_ble_eq_true rfl⟩, ⟨Nat.le_of_ble_eq_true rfl, Nat.le_of_ble_eq_true rfl⟩, Nat.le_of_ble_eq_true rfl⟩) hA w [2, 1, 4, 3] [0] [0, 2, 1, 4, 3] rfl rfl (by decide) (fun _ => rfl) (fun _ H locs w => ?_)
    refine lv_aload_n hx hb dX7_ways_20 rfl (lv_at hl 0 rfl) ?_
    refine hm_get cb_X7 hx hb hown X w 0 6 fl_X7_43 dX7_ways_21 rfl (by decide) rfl ?_
    refine lv_iload_n hx hb dX7_ways_24 rfl (lv_at hl 1 rfl) ?_
    obtain ⟨r4, hc25, hf⟩ := pf_bi_0 hf
    refine hm_aft_i (ws' := fun _ => [oc7 h0 r_t t_writtenCount t_faultPlace, oc2 (r_t 1) r_t_now d_t_now t_now_bits t_now_offset t_now_band t_now_rule t_now_noise t_now_step t_now_draws t_now_heat t_now_hour t_now_seenCount, oc4 (r_t 6) r_t_tally x3 t_tally_falls t_tally_offBy t_tally_offAt t_tally_unlike t_tally_most t_tally_mostCome t_tally_least t_tally_greatest t_tally_missing t_tally_firstMissing, ic E (r_t_now 3) 12 t_now_worth, ic E (r_t_tally 0) 4096 f2]) (hm_runV (rest := []) hx hb hml hown X hA Y w 2 (ci := 4) (T := TX4) (N := 12) rfl rfl mw_X4_howOften ml_X7_304 dX7_ways_25 hm_ac0 [.int a1] rfl [2, 4] rfl rfl (ct_X4_howOften l E H.size (r_t 6) r_t_tally x3 t_tally_falls t_tally_offBy t_tally_offAt t_tally_unlike t_tally_most t_tally_mostCome t_tally_least t_tally_greatest t_tally_missing t_tally_firstMissing f2 a1 (r4, ()) hc25) rfl hl.1 ⟨⟨rfl, rfl⟩, ⟨Nat.le_of_ble_eq_true rfl, Nat.le_of_ble_eq_true rfl⟩, ⟨Nat.le_of_ble_eq_true rfl, Nat.le_of_ble_eq_true rfl⟩, Nat.le_of_ble_eq_true rfl⟩) hA w [2, 4] [0, 1, 3] [0, 1, 3, 2, 4] rfl rfl (by decide) (fun _ => rfl) (fun _ H locs w => ?_)
    exact hQ _ _ _ _ _ (f2, x3) (fun _ => 0) hf rfl w dX7_ways_28
  · have hf := pf_t c4 hf
    refine lv_iconst (v := (-1)) hx hb dX7_ways_7 (by decide) ?_
    exact hQ _ _ _ _ _ (t_tally_entry, t_tally_count) (fun _ => 0) hf rfl w dX7_ways_8
set_option maxHeartbeats 8000000 in
set_option maxRecDepth 100000 in
theorem ct_X7_sums (l : Launch) (E : hm_E) (sz : Nat) (h0 : Nat) (r_t : Nat → Nat) (r_t_now : Nat → Nat) (d_t_now : Nat) (r_t_tally : Nat → Nat) (t_writtenCount t_faultPlace t_now_bits t_now_offset t_now_band t_now_rule t_now_noise t_now_step t_now_draws t_now_heat t_now_hour t_now_seenCount t_tally_count t_tally_falls t_tally_offBy t_tally_offAt t_tally_unlike t_tally_most t_tally_mostCome t_tally_least t_tally_greatest t_tally_missing t_tally_firstMissing : Int32) (t_now_worth : Nat → Int32) (t_tally_entry : Nat → Int32) (a1 : Int32) (R : Int32 × (Nat → Int32) × Int32 × Int32 × Int32 × Int32 × Int32 × Int32 × Int32 × Int32) (hf : pf_X7_sums a1 t_now_bits t_now_worth t_tally_entry t_tally_count t_tally_unlike t_tally_most t_tally_mostCome t_tally_least t_tally_greatest t_tally_missing t_tally_firstMissing = some R) : hm_Mi l E yX7_sums cX7_sums 2 .int [] (hm_rr 2 47 0 0) [.ref h0, .int a1] sz [oc7 h0 r_t t_writtenCount t_faultPlace, oc2 (r_t 1) r_t_now d_t_now t_now_bits t_now_offset t_now_band t_now_rule t_now_noise t_now_step t_now_draws t_now_heat t_now_hour t_now_seenCount, oc4 (r_t 6) r_t_tally t_tally_count t_tally_falls t_tally_offBy t_tally_offAt t_tally_unlike t_tally_most t_tally_mostCome t_tally_least t_tally_greatest t_tally_missing t_tally_firstMissing, ic E (r_t_now 3) 12 t_now_worth, ic E (r_t_tally 0) 4096 t_tally_entry] R.1 (fun _ => [oc7 h0 r_t t_writtenCount t_faultPlace, oc2 (r_t 1) r_t_now d_t_now t_now_bits t_now_offset t_now_band t_now_rule t_now_noise t_now_step t_now_draws t_now_heat t_now_hour t_now_seenCount, oc4 (r_t 6) r_t_tally (R.2.2.1) t_tally_falls t_tally_offBy t_tally_offAt (R.2.2.2.1) (R.2.2.2.2.1) (R.2.2.2.2.2.1) (R.2.2.2.2.2.2.1) (R.2.2.2.2.2.2.2.1) (R.2.2.2.2.2.2.2.2.1) (R.2.2.2.2.2.2.2.2.2), ic E (r_t_now 3) 12 t_now_worth, ic E (r_t_tally 0) 4096 (R.2.1)]) := by
  refine hm_ct_i R (fun u qs => [oc7 h0 r_t t_writtenCount t_faultPlace, oc2 (r_t 1) r_t_now d_t_now t_now_bits t_now_offset t_now_band t_now_rule t_now_noise t_now_step t_now_draws t_now_heat t_now_hour t_now_seenCount, oc4 (r_t 6) r_t_tally (u.2.1) t_tally_falls t_tally_offBy t_tally_offAt (u.2.2.1) (u.2.2.2.1) (u.2.2.2.2.1) (u.2.2.2.2.2.1) (u.2.2.2.2.2.2.1) (u.2.2.2.2.2.2.2.1) (u.2.2.2.2.2.2.2.2), ic E (r_t_now 3) 12 t_now_worth, ic E (r_t_tally 0) 4096 (u.1)]) (by decide) (Nat.le_of_ble_eq_true rfl) (Or.inl rfl) ?_
  intro p e s m args below meth c A Q ls H locs hx hb hml hown X hA Y hex w hl hQ
  have hl : lv_has ls 2 [(0, .ref h0), (1, .int a1)] := hl
  unfold pf_X7_sums at hf
  refine lv_aload_n hx hb dX7_sums_0 rfl (lv_at hl 0 rfl) ?_
  obtain ⟨r1, hc1, hf⟩ := pf_bi_0 hf
  refine hm_aft_i (ws' := fun _ => [oc7 h0 r_t t_writtenCount t_faultPlace, oc2 (r_t 1) r_t_now d_t_now t_now_bits t_now_offset t_now_band t_now_rule t_now_noise t_now_step t_now_draws t_now_heat t_now_hour t_now_seenCount, oc4 (r_t 6) r_t_tally t_tally_count t_tally_falls t_tally_offBy t_tally_offAt t_tally_unlike t_tally_most t_tally_mostCome t_tally_least t_tally_greatest t_tally_missing t_tally_firstMissing, ic E (r_t_now 3) 12 t_now_worth, ic E (r_t_tally 0) 4096 t_tally_entry]) (hm_runV (rest := []) hx hb hml hown X hA Y w 0 (ci := 6) (T := TX7) (N := 11) rfl rfl mw_X7_canSum ml_X7_307 dX7_sums_1 hm_ac0 [] rfl [0, 1, 3] rfl rfl (ct_X7_canSum l E H.size h0 r_t r_t_now d_t_now t_writtenCount t_faultPlace t_now_bits t_now_offset t_now_band t_now_rule t_now_noise t_now_step t_now_draws t_now_heat t_now_hour t_now_seenCount t_now_worth (r1, ()) hc1) rfl hl.1 ⟨⟨rfl, rfl⟩, ⟨Nat.le_of_ble_eq_true rfl, Nat.le_of_ble_eq_true rfl⟩, ⟨Nat.le_of_ble_eq_true rfl, Nat.le_of_ble_eq_true rfl⟩, Nat.le_of_ble_eq_true rfl⟩) hA w [0, 1, 3] [2, 4] [2, 3, 0, 4, 1] rfl rfl (by decide) (fun _ => rfl) (fun _ H locs w => ?_)
  refine lv_if_ne (tgt := 9) hx hb dX7_sums_4 (by decide) (fun c4 => ?_) (fun c4 => ?_)
  · have hf := pf_e c4 hf
    refine lv_aload_n hx hb dX7_sums_9 rfl (lv_at hl 0 rfl) ?_
    refine hm_get cb_X7 hx hb hown X w 0 6 fl_X7_43 dX7_sums_10 rfl (by decide) rfl ?_
    refine lv_aload_n hx hb dX7_sums_13 rfl (lv_at hl 0 rfl) ?_
    refine hm_get cb_X7 hx hb hown X w 0 1 fl_X7_19 dX7_sums_14 rfl (by decide) rfl ?_
    obtain ⟨f2, x3, hc17, hf⟩ := pf_bv_2 hf
    refine hm_aft_v (ws' := fun _ => [oc7 h0 r_t t_writtenCount t_faultPlace, oc2 (r_t 1) r_t_now d_t_now t_now_bits t_now_offset t_now_band t_now_rule t_now_noise t_now_step t_now_draws t_now_heat t_now_hour t_now_seenCount, oc4 (r_t 6) r_t_tally x3 t_tally_falls t_tally_offBy t_tally_offAt t_tally_unlike t_tally_most t_tally_mostCome t_tally_least t_tally_greatest t_tally_missing t_tally_firstMissing, ic E (r_t_now 3) 12 t_now_worth, ic E (r_t_tally 0) 4096 f2]) (hm_runV (rest := []) hx hb hml hown X hA Y w 2 (ci := 4) (T := TX4) (N := 12) rfl rfl mw_X4_addUp ml_X7_310 dX7_sums_17 hm_ac0 [.ref (r_t 1)] rfl [2, 1, 4, 3] rfl rfl (ct_X4_addUp l E H.size (r_t 6) (r_t 1) r_t_tally r_t_now d_t_now t_tally_count t_tally_falls t_tally_offBy t_tally_offAt t_tally_unlike t_tally_most t_tally_mostCome t_tally_least t_tally_greatest t_tally_missing t_tally_firstMissing t_now_bits t_now_offset t_now_band t_now_rule t_now_noise t_now_step t_now_draws t_now_heat t_now_hour t_now_seenCount t_tally_entry t_now_worth (f2, x3) hc17) rfl hl.1 ⟨⟨rfl, rfl⟩, ⟨Nat.le_of_ble_eq_true rfl, Nat.le_of_ble_eq_true rfl⟩, ⟨Nat.le_of_ble_eq_true rfl, Nat.le_of_ble_eq_true rfl⟩, Nat.le_of_ble_eq_true rfl⟩) hA w [2, 1, 4, 3] [0] [0, 2, 1, 4, 3] rfl rfl (by decide) (fun _ => rfl) (fun _ H locs w => ?_)
    refine lv_aload_n hx hb dX7_sums_20 rfl (lv_at hl 0 rfl) ?_
    refine hm_get cb_X7 hx hb hown X w 0 6 fl_X7_43 dX7_sums_21 rfl (by decide) rfl ?_
    obtain ⟨f4, x5, x6, x7, x8, x9, x10, x11, hc24, hf⟩ := pf_bv_8 hf
    refine hm_aft_v (ws' := fun _ => [oc7 h0 r_t t_writtenCount t_faultPlace, oc2 (r_t 1) r_t_now d_t_now t_now_bits t_now_offset t_now_band t_now_rule t_now_noise t_now_step t_now_draws t_now_heat t_now_hour t_now_seenCount, oc4 (r_t 6) r_t_tally x3 t_tally_falls t_tally_offBy t_tally_offAt x5 x6 x7 x8 x9 x10 x11, ic E (r_t_now 3) 12 t_now_worth, ic E (r_t_tally 0) 4096 f4]) (hm_runV (rest := []) hx hb hml hown X hA Y w 2 (ci := 4) (T := TX4) (N := 12) rfl rfl mw_X4_sortOut ml_X7_298 dX7_sums_24 hm_ac0 [] rfl [2, 4] rfl rfl (ct_X4_sortOut l E H.size (r_t 6) r_t_tally x3 t_tally_falls t_tally_offBy t_tally_offAt t_tally_unlike t_tally_most t_tally_mostCome t_tally_least t_tally_greatest t_tally_missing t_tally_firstMissing f2 (f4, x5, x6, x7, x8, x9, x10, x11) hc24) rfl hl.1 ⟨⟨rfl, rfl⟩, ⟨Nat.le_of_ble_eq_true rfl, Nat.le_of_ble_eq_true rfl⟩, ⟨Nat.le_of_ble_eq_true rfl, Nat.le_of_ble_eq_true rfl⟩, Nat.le_of_ble_eq_true rfl⟩) hA w [2, 4] [0, 1, 3] [0, 1, 3, 2, 4] rfl rfl (by decide) (fun _ => rfl) (fun _ H locs w => ?_)
    refine lv_iload_n hx hb dX7_sums_27 rfl (lv_at hl 1 rfl) ?_
    by_cases c28_0 : a1 = 0
    · have hf := pf_t c28_0 hf
      refine lv_tableIn (off := 32) (tgt := 60) hx hb dX7_sums_28 (by rw [c28_0]; decide) (by rw [c28_0]; decide) (by rw [c28_0]; rfl) (by decide) ?_
      refine lv_aload_n hx hb dX7_sums_60 rfl (lv_at hl 0 rfl) ?_
      refine hm_get cb_X7 hx hb hown X w 0 6 fl_X7_43 dX7_sums_61 rfl (by decide) rfl ?_
      refine hm_get cb_X4 hx hb hown X w 2 5 fl_X7_313 dX7_sums_64 rfl (by decide) rfl ?_
      exact hQ _ _ _ _ _ (f4, x3, x5, x6, x7, x8, x9, x10, x11) (fun _ => 0) hf rfl w dX7_sums_67
    · have hf := pf_e c28_0 hf
      by_cases c28_1 : a1 = 1
      · have hf := pf_t c28_1 hf
        refine lv_tableIn (off := 40) (tgt := 68) hx hb dX7_sums_28 (by rw [c28_1]; decide) (by rw [c28_1]; decide) (by rw [c28_1]; rfl) (by decide) ?_
        refine lv_aload_n hx hb dX7_sums_68 rfl (lv_at hl 0 rfl) ?_
        refine hm_get cb_X7 hx hb hown X w 0 6 fl_X7_43 dX7_sums_69 rfl (by decide) rfl ?_
        refine hm_get cb_X4 hx hb hown X w 2 6 fl_X7_316 dX7_sums_72 rfl (by decide) rfl ?_
        exact hQ _ _ _ _ _ (f4, x3, x5, x6, x7, x8, x9, x10, x11) (fun _ => 0) hf rfl w dX7_sums_75
      · have hf := pf_e c28_1 hf
        by_cases c28_2 : a1 = 2
        · have hf := pf_t c28_2 hf
          refine lv_tableIn (off := 48) (tgt := 76) hx hb dX7_sums_28 (by rw [c28_2]; decide) (by rw [c28_2]; decide) (by rw [c28_2]; rfl) (by decide) ?_
          refine lv_aload_n hx hb dX7_sums_76 rfl (lv_at hl 0 rfl) ?_
          refine hm_get cb_X7 hx hb hown X w 0 6 fl_X7_43 dX7_sums_77 rfl (by decide) rfl ?_
          refine hm_get cb_X4 hx hb hown X w 2 7 fl_X7_319 dX7_sums_80 rfl (by decide) rfl ?_
          exact hQ _ _ _ _ _ (f4, x3, x5, x6, x7, x8, x9, x10, x11) (fun _ => 0) hf rfl w dX7_sums_83
        · have hf := pf_e c28_2 hf
          by_cases c28_3 : a1 = 3
          · have hf := pf_t c28_3 hf
            refine lv_tableIn (off := 56) (tgt := 84) hx hb dX7_sums_28 (by rw [c28_3]; decide) (by rw [c28_3]; decide) (by rw [c28_3]; rfl) (by decide) ?_
            refine lv_aload_n hx hb dX7_sums_84 rfl (lv_at hl 0 rfl) ?_
            refine hm_get cb_X7 hx hb hown X w 0 6 fl_X7_43 dX7_sums_85 rfl (by decide) rfl ?_
            refine hm_get cb_X4 hx hb hown X w 2 11 fl_X7_322 dX7_sums_88 rfl (by decide) rfl ?_
            exact hQ _ _ _ _ _ (f4, x3, x5, x6, x7, x8, x9, x10, x11) (fun _ => 0) hf rfl w dX7_sums_91
          · have hf := pf_e c28_3 hf
            refine lv_tableOut (tgt := 92) hx hb dX7_sums_28 (hm_out (fun k h1 h2 => by have u := And.intro h1 h2; have v0 := hm_ti c28_0; rw [show (0 : Int32).toInt = 0 from by decide] at v0; have v1 := hm_ti c28_1; rw [show (1 : Int32).toInt = 1 from by decide] at v1; have v2 := hm_ti c28_2; rw [show (2 : Int32).toInt = 2 from by decide] at v2; have v3 := hm_ti c28_3; rw [show (3 : Int32).toInt = 3 from by decide] at v3; omega)) (by decide) ?_
            refine lv_iconst (v := (-1)) hx hb dX7_sums_92 (by decide) ?_
            exact hQ _ _ _ _ _ (f4, x3, x5, x6, x7, x8, x9, x10, x11) (fun _ => 0) hf rfl w dX7_sums_93
  · have hf := pf_t c4 hf
    refine lv_iconst (v := (-1)) hx hb dX7_sums_7 (by decide) ?_
    exact hQ _ _ _ _ _ (t_tally_entry, t_tally_count, t_tally_unlike, t_tally_most, t_tally_mostCome, t_tally_least, t_tally_greatest, t_tally_missing, t_tally_firstMissing) (fun _ => 0) hf rfl w dX7_sums_8
set_option maxHeartbeats 8000000 in
set_option maxRecDepth 100000 in
theorem ct_X7_canLearnByCodes (l : Launch) (E : hm_E) (sz : Nat) (h0 : Nat) (r_t : Nat → Nat) (r_t_now : Nat → Nat) (d_t_now : Nat) (t_writtenCount t_faultPlace t_now_bits t_now_offset t_now_band t_now_rule t_now_noise t_now_step t_now_draws t_now_heat t_now_hour t_now_seenCount : Int32) (t_now_size : Nat → Int32) (a1 : Int32) (R : Int32 × Unit) (hf : pf_X7_canLearnByCodes a1 t_now_bits t_now_size t_now_step = some R) : hm_Mi l E yX7_canLearnByCodes cX7_canLearnByCodes 2 .boolean [] (hm_rr 1 22 0 0) [.ref h0, .int a1] sz [oc7 h0 r_t t_writtenCount t_faultPlace, oc2 (r_t 1) r_t_now d_t_now t_now_bits t_now_offset t_now_band t_now_rule t_now_noise t_now_step t_now_draws t_now_heat t_now_hour t_now_seenCount, ic E (r_t_now 1) 12 t_now_size] R.1 (fun _ => [oc7 h0 r_t t_writtenCount t_faultPlace, oc2 (r_t 1) r_t_now d_t_now t_now_bits t_now_offset t_now_band t_now_rule t_now_noise t_now_step t_now_draws t_now_heat t_now_hour t_now_seenCount, ic E (r_t_now 1) 12 t_now_size]) := by
  refine hm_ct_i R (fun u qs => [oc7 h0 r_t t_writtenCount t_faultPlace, oc2 (r_t 1) r_t_now d_t_now t_now_bits t_now_offset t_now_band t_now_rule t_now_noise t_now_step t_now_draws t_now_heat t_now_hour t_now_seenCount, ic E (r_t_now 1) 12 t_now_size]) (by decide) (Nat.le_of_ble_eq_true rfl) (Or.inr rfl) ?_
  intro p e s m args below meth c A Q ls H locs hx hb hml hown X hA Y hex w hl hQ
  have hl : lv_has ls 2 [(0, .ref h0), (1, .int a1)] := hl
  unfold pf_X7_canLearnByCodes at hf
  refine lv_iload_n hx hb dX7_canLearnByCodes_0 rfl (lv_at hl 1 rfl) ?_
  refine lv_iconst (v := 1) hx hb dX7_canLearnByCodes_1 (by decide) ?_
  refine lv_aload_n hx hb dX7_canLearnByCodes_2 rfl (lv_at hl 0 rfl) ?_
  refine hm_get cb_X7 hx hb hown X w 0 1 fl_X7_19 dX7_canLearnByCodes_3 rfl (by decide) rfl ?_
  refine hm_get cb_X2 hx hb hown X w 1 0 fl_X7_95 dX7_canLearnByCodes_6 rfl (by decide) rfl ?_
  obtain ⟨r1, hc9, hf⟩ := pf_bi_0 hf
  refine hm_aft_i (ws' := fun _ => [oc7 h0 r_t t_writtenCount t_faultPlace, oc2 (r_t 1) r_t_now d_t_now t_now_bits t_now_offset t_now_band t_now_rule t_now_noise t_now_step t_now_draws t_now_heat t_now_hour t_now_seenCount, ic E (r_t_now 1) 12 t_now_size]) (hm_runS (rest := []) hx hb hml hown X hA Y w mw_X7_within ml_X7_225 dX7_canLearnByCodes_9 hm_ac0 [.int a1, .int 1, .int t_now_bits] rfl [] rfl rfl (ct_X7_within l E H.size a1 1 t_now_bits (r1, ()) hc9) rfl hl.1 ⟨⟨rfl, rfl⟩, ⟨Nat.le_of_ble_eq_true rfl, Nat.le_of_ble_eq_true rfl⟩, ⟨Nat.le_of_ble_eq_true rfl, Nat.le_of_ble_eq_true rfl⟩, Nat.le_of_ble_eq_true rfl⟩) hA w [] [0, 1, 2] [0, 1, 2] rfl rfl (by decide) (fun _ => rfl) (fun _ H locs w => ?_)
  refine lv_if_eq (tgt := 50) hx hb dX7_canLearnByCodes_12 (by decide) (fun c12 => ?_) (fun c12 => ?_)
  · have hf := pf_t c12 hf
    refine lv_iconst (v := 0) hx hb dX7_canLearnByCodes_50 (by decide) ?_
    exact hQ _ _ _ _ _ () (fun _ => 0) hf rfl w dX7_canLearnByCodes_51
  · have hf := pf_e c12 hf
    refine lv_aload_n hx hb dX7_canLearnByCodes_15 rfl (lv_at hl 0 rfl) ?_
    refine hm_get cb_X7 hx hb hown X w 0 1 fl_X7_19 dX7_canLearnByCodes_16 rfl (by decide) rfl ?_
    refine hm_get cb_X2 hx hb hown X w 1 9 fl_X7_187 dX7_canLearnByCodes_19 rfl (by decide) rfl ?_
    refine lv_if_le (tgt := 50) hx hb dX7_canLearnByCodes_22 (by decide) (fun c22 => ?_) (fun c22 => ?_)
    · have hf := pf_t c22 hf
      refine lv_iconst (v := 0) hx hb dX7_canLearnByCodes_50 (by decide) ?_
      exact hQ _ _ _ _ _ () (fun _ => 0) hf rfl w dX7_canLearnByCodes_51
    · have hf := pf_e c22 hf
      refine lv_aload_n hx hb dX7_canLearnByCodes_25 rfl (lv_at hl 0 rfl) ?_
      refine hm_get cb_X7 hx hb hown X w 0 1 fl_X7_19 dX7_canLearnByCodes_26 rfl (by decide) rfl ?_
      obtain ⟨r2, hc29, hf⟩ := pf_bi_0 hf
      refine hm_aft_i (ws' := fun _ => [oc7 h0 r_t t_writtenCount t_faultPlace, oc2 (r_t 1) r_t_now d_t_now t_now_bits t_now_offset t_now_band t_now_rule t_now_noise t_now_step t_now_draws t_now_heat t_now_hour t_now_seenCount, ic E (r_t_now 1) 12 t_now_size]) (hm_runV (rest := []) hx hb hml hown X hA Y w 1 (ci := 2) (T := TX2) (N := 17) rfl rfl mw_X2_allSizes ml_X7_349 dX7_canLearnByCodes_29 hm_ac0 [] rfl [1, 2] rfl rfl (ct_X2_allSizes l E H.size (r_t 1) r_t_now d_t_now t_now_bits t_now_offset t_now_band t_now_rule t_now_noise t_now_step t_now_draws t_now_heat t_now_hour t_now_seenCount t_now_size (r2, ()) hc29) rfl hl.1 ⟨⟨rfl, rfl⟩, ⟨Nat.le_of_ble_eq_true rfl, Nat.le_of_ble_eq_true rfl⟩, ⟨Nat.le_of_ble_eq_true rfl, Nat.le_of_ble_eq_true rfl⟩, Nat.le_of_ble_eq_true rfl⟩) hA w [1, 2] [0] [0, 1, 2] rfl rfl (by decide) (fun _ => rfl) (fun _ H locs w => ?_)
      refine lv_aload_n hx hb dX7_canLearnByCodes_32 rfl (lv_at hl 0 rfl) ?_
      refine hm_get cb_X7 hx hb hown X w 0 1 fl_X7_19 dX7_canLearnByCodes_33 rfl (by decide) rfl ?_
      refine hm_get cb_X2 hx hb hown X w 1 9 fl_X7_187 dX7_canLearnByCodes_36 rfl (by decide) rfl ?_
      obtain ⟨g39, hf⟩ := pf_ckD hf
      refine lv_idiv hx hb dX7_canLearnByCodes_39 g39 ?_
      refine lv_sipush (v := 2000) hx hb dX7_canLearnByCodes_40 (by decide) ?_
      refine lv_icmp_ge (tgt := 50) hx hb dX7_canLearnByCodes_43 (by decide) (fun c43 => ?_) (fun c43 => ?_)
      · have hf := pf_t c43 hf
        refine lv_iconst (v := 0) hx hb dX7_canLearnByCodes_50 (by decide) ?_
        exact hQ _ _ _ _ _ () (fun _ => 0) hf rfl w dX7_canLearnByCodes_51
      · have hf := pf_e c43 hf
        refine lv_iconst (v := 1) hx hb dX7_canLearnByCodes_46 (by decide) ?_
        refine lv_goto (tgt := 51) hx hb dX7_canLearnByCodes_47 (by decide) ?_
        exact hQ _ _ _ _ _ () (fun _ => 0) hf rfl w dX7_canLearnByCodes_51