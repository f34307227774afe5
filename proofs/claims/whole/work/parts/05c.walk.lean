set_option maxHeartbeats 8000000 in
set_option maxRecDepth 100000 in
theorem ct_X4_addUp (l : Launch) (E : hm_E) (sz : Nat) (h0 : Nat) (h1 : Nat) (r_t : Nat → Nat) (r_p1 : Nat → Nat) (d_p1 : Nat) (t_count t_falls t_offBy t_offAt t_unlike t_most t_mostCome t_least t_greatest t_missing t_firstMissing p1_bits p1_offset p1_band p1_rule p1_noise p1_step p1_draws p1_heat p1_hour p1_seenCount : Int32) (t_entry : Nat → Int32) (p1_worth : Nat → Int32) (R : (Nat → Int32) × Int32) (hf : pf_X4_addUp t_entry p1_bits p1_worth = some R) : hm_Mv l E yX4_addUp cX4_addUp 4 [] (hm_rr 0 0 0 0) [.ref h0, .ref h1] sz [oc4 h0 r_t t_count t_falls t_offBy t_offAt t_unlike t_most t_mostCome t_least t_greatest t_missing t_firstMissing, oc2 h1 r_p1 d_p1 p1_bits p1_offset p1_band p1_rule p1_noise p1_step p1_draws p1_heat p1_hour p1_seenCount, ic E (r_t 0) 4096 t_entry, ic E (r_p1 3) 12 p1_worth] (fun _ => [oc4 h0 r_t (R.2) t_falls t_offBy t_offAt t_unlike t_most t_mostCome t_least t_greatest t_missing t_firstMissing, oc2 h1 r_p1 d_p1 p1_bits p1_offset p1_band p1_rule p1_noise p1_step p1_draws p1_heat p1_hour p1_seenCount, ic E (r_t 0) 4096 (R.1), ic E (r_p1 3) 12 p1_worth]) := by
  refine hm_ct_v R (fun u _ => [oc4 h0 r_t (u.2) t_falls t_offBy t_offAt t_unlike t_most t_mostCome t_least t_greatest t_missing t_firstMissing, oc2 h1 r_p1 d_p1 p1_bits p1_offset p1_band p1_rule p1_noise p1_step p1_draws p1_heat p1_hour p1_seenCount, ic E (r_t 0) 4096 (u.1), ic E (r_p1 3) 12 p1_worth]) (by decide) (Nat.le_of_ble_eq_true rfl) ?_
  intro p e s m args below meth c A Q ls H locs hx hb hml hown X hA Y hex hin w hl hQ
  have hl : lv_has ls 4 [(0, .ref h0), (1, .ref h1)] := hl
  unfold pf_X4_addUp at hf
  refine lv_aload_n hx hb dX4_addUp_0 rfl (lv_at hl 0 rfl) ?_
  refine hm_get cb_X4 hx hb hown X w 0 0 fl_X4_11 dX4_addUp_1 rfl (by decide) rfl ?_
  refine lv_iconst (v := 0) hx hb dX4_addUp_4 (by decide) ?_
  refine lv_iconst (v := 0) hx hb dX4_addUp_5 (by decide) ?_
  obtain ⟨g6, hf⟩ := pf_ckI hf
  refine hm_iast (ws' := [oc4 h0 r_t t_count t_falls t_offBy t_offAt t_unlike t_most t_mostCome t_least t_greatest t_missing t_firstMissing, oc2 h1 r_p1 d_p1 p1_bits p1_offset p1_band p1_rule p1_noise p1_step p1_draws p1_heat p1_hour p1_seenCount, ic E (r_t 0) 4096 (upd t_entry (0 : Int32).toNatClampNeg 0), ic E (r_p1 3) 12 p1_worth]) hx hb X w 2 dX4_addUp_6 rfl g6 rfl (fun H locs w => ?_)
  refine lv_aload_n hx hb dX4_addUp_7 rfl (lv_at hl 0 rfl) ?_
  refine lv_iconst (v := 1) hx hb dX4_addUp_8 (by decide) ?_
  refine hm_put (ws' := [oc4 h0 r_t 1 t_falls t_offBy t_offAt t_unlike t_most t_mostCome t_least t_greatest t_missing t_firstMissing, oc2 h1 r_p1 d_p1 p1_bits p1_offset p1_band p1_rule p1_noise p1_step p1_draws p1_heat p1_hour p1_seenCount, ic E (r_t 0) 4096 (upd t_entry (0 : Int32).toNatClampNeg 0), ic E (r_p1 3) 12 p1_worth]) cb_X4 hx hb hown X w 0 1 fl_X4_15 dX4_addUp_9 rfl (by decide) (Nat.le_of_ble_eq_true rfl) rfl rfl rfl rfl (fun H locs w => ?_)
  refine lv_iconst (v := 0) hx hb dX4_addUp_12 (by decide) ?_
  refine lv_istore_n (lv' := [(2, .int 0), (0, .ref h0), (1, .ref h1)]) hx hb dX4_addUp_13 rfl hl (by decide) rfl (fun ls hl => ?_)
  have klp_X4_addUp_14 : ∀ (n : Nat) (x1 : Int32) (f2 : Nat → Int32) (x3 : Int32) (H : Heap) (locs : List Loc) (ls : Array Slot), lp_X4_addUp_14 p1_bits p1_worth n x1 f2 x3 = some R → hm_W E A s.heap [oc4 h0 r_t x3 t_falls t_offBy t_offAt t_unlike t_most t_mostCome t_least t_greatest t_missing t_firstMissing, oc2 h1 r_p1 d_p1 p1_bits p1_offset p1_band p1_rule p1_noise p1_step p1_draws p1_heat p1_hour p1_seenCount, ic E (r_t 0) 4096 f2, ic E (r_p1 3) 12 p1_worth] H locs → lv_has ls 4 [(0, .ref h0), (1, .ref h1), (2, .int x1)] → W p l e (hm_rr 0 0 0 0) s m args below meth c H locs 0 0 Q (F0 m 14 ls []) := by
    intro n
    induction n with
    | zero =>
      intro x1 f2 x3 H locs ls hf w hl
      exact pf_no hf
    | succ n ih14 =>
      intro x1 f2 x3 H locs ls hf w hl
      rw [lp_X4_addUp_14] at hf
      refine lv_iload_n hx hb dX4_addUp_14 rfl (lv_at hl 2 rfl) ?_
      refine lv_aload_n hx hb dX4_addUp_15 rfl (lv_at hl 1 rfl) ?_
      refine hm_get cb_X2 hx hb hown X w 1 0 fl_X4_63 dX4_addUp_16 rfl (by decide) rfl ?_
      refine lv_icmp_ge (tgt := 90) hx hb dX4_addUp_19 (by decide) (fun c19 => ?_) (fun c19 => ?_)
      · have hf := pf_t c19 hf
        exact hQ _ _ _ _ (f2, x3) (fun _ => 0) hf w dX4_addUp_90
      · have hf := pf_e c19 hf
        refine lv_aload_n hx hb dX4_addUp_22 rfl (lv_at hl 0 rfl) ?_
        refine hm_get cb_X4 hx hb hown X w 0 1 fl_X4_15 dX4_addUp_23 rfl (by decide) rfl ?_
        refine lv_iconst (v := 2) hx hb dX4_addUp_26 (by decide) ?_
        refine lv_imul hx hb dX4_addUp_27 ?_
        refine lv_sipush (v := 4096) hx hb dX4_addUp_28 (by decide) ?_
        refine lv_icmp_gt (tgt := 90) hx hb dX4_addUp_31 (by decide) (fun c31 => ?_) (fun c31 => ?_)
        · have hf := pf_t c31 hf
          exact hQ _ _ _ _ (f2, x3) (fun _ => 0) hf w dX4_addUp_90
        · have hf := pf_e c31 hf
          refine lv_iconst (v := 0) hx hb dX4_addUp_34 (by decide) ?_
          refine lv_istore_n (lv' := [(3, .int 0), (0, .ref h0), (1, .ref h1), (2, .int x1)]) hx hb dX4_addUp_35 rfl hl (by decide) rfl (fun ls hl => ?_)
          obtain ⟨J74, hJ74, hf⟩ := pf_jn hf
          have kJ74 : ∀ (f4 : Nat → Int32) (H : Heap) (locs : List Loc) (ls : Array Slot), J74 f4 = some R → hm_W E A s.heap [oc4 h0 r_t x3 t_falls t_offBy t_offAt t_unlike t_most t_mostCome t_least t_greatest t_missing t_firstMissing, oc2 h1 r_p1 d_p1 p1_bits p1_offset p1_band p1_rule p1_noise p1_step p1_draws p1_heat p1_hour p1_seenCount, ic E (r_t 0) 4096 f4, ic E (r_p1 3) 12 p1_worth] H locs → lv_has ls 4 [(0, .ref h0), (1, .ref h1), (2, .int x1)] → W p l e (hm_rr 0 0 0 0) s m args below meth c H locs 0 0 Q (F0 m 74 ls []) := by
            intro f4 H locs ls hf w hl
            have hf := pf_j1 hJ74 hf
            refine lv_aload_n hx hb dX4_addUp_74 rfl (lv_at hl 0 rfl) ?_
            refine lv_dup hx hb dX4_addUp_75 rfl ?_
            refine hm_get cb_X4 hx hb hown X w 0 1 fl_X4_15 dX4_addUp_76 rfl (by decide) rfl ?_
            refine lv_iconst (v := 2) hx hb dX4_addUp_79 (by decide) ?_
            refine lv_imul hx hb dX4_addUp_80 ?_
            refine lv_topi (fun x5 ex5 => ?_)
            have hf := pf_nm ex5 hf
            refine hm_put (ws' := [oc4 h0 r_t x5 t_falls t_offBy t_offAt t_unlike t_most t_mostCome t_least t_greatest t_missing t_firstMissing, oc2 h1 r_p1 d_p1 p1_bits p1_offset p1_band p1_rule p1_noise p1_step p1_draws p1_heat p1_hour p1_seenCount, ic E (r_t 0) 4096 f4, ic E (r_p1 3) 12 p1_worth]) cb_X4 hx hb hown X w 0 1 fl_X4_15 dX4_addUp_81 rfl (by decide) (Nat.le_of_ble_eq_true rfl) rfl rfl rfl rfl (fun H locs w => ?_)
            obtain ⟨x6, ex6⟩ : ∃ y : Int32, y = (x1 + 1) := ⟨_, rfl⟩
            have hf := pf_nm ex6 hf
            refine lv_iinc (v := x6) (lv' := [(2, .int x6), (0, .ref h0), (1, .ref h1)]) hx hb dX4_addUp_84 hl (k := 2) rfl (by rw [ex6]; rfl) (by decide) rfl (fun ls hl => ?_)
            refine lv_goto (tgt := 14) hx hb dX4_addUp_87 (by decide) ?_
            exact ih14 _ _ _ _ _ _ hf w (lv_sub hl [1, 2, 0] rfl)
          have klp_X4_addUp_36 : ∀ (n : Nat) (x7 : Int32) (f8 : Nat → Int32) (H : Heap) (locs : List Loc) (ls : Array Slot), lp_X4_addUp_36 p1_worth x1 x3 J74 n x7 f8 = some R → hm_W E A s.heap [oc4 h0 r_t x3 t_falls t_offBy t_offAt t_unlike t_most t_mostCome t_least t_greatest t_missing t_firstMissing, oc2 h1 r_p1 d_p1 p1_bits p1_offset p1_band p1_rule p1_noise p1_step p1_draws p1_heat p1_hour p1_seenCount, ic E (r_t 0) 4096 f8, ic E (r_p1 3) 12 p1_worth] H locs → lv_has ls 4 [(0, .ref h0), (1, .ref h1), (2, .int x1), (3, .int x7)] → W p l e (hm_rr 0 0 0 0) s m args below meth c H locs 0 0 Q (F0 m 36 ls []) := by
            intro n
            induction n with
            | zero =>
              intro x7 f8 H locs ls hf w hl
              exact pf_no hf
            | succ n ih36 =>
              intro x7 f8 H locs ls hf w hl
              rw [lp_X4_addUp_36] at hf
              refine lv_iload_n hx hb dX4_addUp_36 rfl (lv_at hl 3 rfl) ?_
              refine lv_aload_n hx hb dX4_addUp_37 rfl (lv_at hl 0 rfl) ?_
              refine hm_get cb_X4 hx hb hown X w 0 1 fl_X4_15 dX4_addUp_38 rfl (by decide) rfl ?_
              refine lv_icmp_ge (tgt := 74) hx hb dX4_addUp_41 (by decide) (fun c41 => ?_) (fun c41 => ?_)
              · have hf := pf_t c41 hf
                exact kJ74 _ _ _ _ hf w (lv_sub hl [0, 1, 2] rfl)
              · have hf := pf_e c41 hf
                refine lv_aload_n hx hb dX4_addUp_44 rfl (lv_at hl 0 rfl) ?_
                refine hm_get cb_X4 hx hb hown X w 0 0 fl_X4_11 dX4_addUp_45 rfl (by decide) rfl ?_
                refine lv_aload_n hx hb dX4_addUp_48 rfl (lv_at hl 0 rfl) ?_
                refine hm_get cb_X4 hx hb hown X w 0 1 fl_X4_15 dX4_addUp_49 rfl (by decide) rfl ?_
                refine lv_iload_n hx hb dX4_addUp_52 rfl (lv_at hl 3 rfl) ?_
                refine lv_iadd hx hb dX4_addUp_53 ?_
                refine lv_aload_n hx hb dX4_addUp_54 rfl (lv_at hl 0 rfl) ?_
                refine hm_get cb_X4 hx hb hown X w 0 0 fl_X4_11 dX4_addUp_55 rfl (by decide) rfl ?_
                refine lv_iload_n hx hb dX4_addUp_58 rfl (lv_at hl 3 rfl) ?_
                obtain ⟨g59, hf⟩ := pf_ckI hf
                refine hm_iald hx hb X w 2 dX4_addUp_59 rfl g59 ?_
                refine lv_aload_n hx hb dX4_addUp_60 rfl (lv_at hl 1 rfl) ?_
                refine hm_get cb_X2 hx hb hown X w 1 3 fl_X4_66 dX4_addUp_61 rfl (by decide) rfl ?_
                refine lv_iload_n hx hb dX4_addUp_64 rfl (lv_at hl 2 rfl) ?_
                obtain ⟨g65, hf⟩ := pf_ckI hf
                refine hm_iald hx hb X w 3 dX4_addUp_65 rfl g65 ?_
                refine lv_iadd hx hb dX4_addUp_66 ?_
                refine lv_topi (fun x9 ex9 => ?_)
                have hf := pf_nm ex9 hf
                obtain ⟨g67, hf⟩ := pf_ckI hf
                refine hm_iast (ws' := [oc4 h0 r_t x3 t_falls t_offBy t_offAt t_unlike t_most t_mostCome t_least t_greatest t_missing t_firstMissing, oc2 h1 r_p1 d_p1 p1_bits p1_offset p1_band p1_rule p1_noise p1_step p1_draws p1_heat p1_hour p1_seenCount, ic E (r_t 0) 4096 (upd f8 (x3 + x7).toNatClampNeg x9), ic E (r_p1 3) 12 p1_worth]) hx hb X w 2 dX4_addUp_67 rfl g67 rfl (fun H locs w => ?_)
                obtain ⟨x10, ex10⟩ : ∃ y : Int32, y = (x7 + 1) := ⟨_, rfl⟩
                have hf := pf_nm ex10 hf
                refine lv_iinc (v := x10) (lv' := [(3, .int x10), (0, .ref h0), (1, .ref h1), (2, .int x1)]) hx hb dX4_addUp_68 hl (k := 3) rfl (by rw [ex10]; rfl) (by decide) rfl (fun ls hl => ?_)
                refine lv_goto (tgt := 36) hx hb dX4_addUp_71 (by decide) ?_
                exact ih36 _ _ _ _ _ hf w (lv_sub hl [1, 2, 3, 0] rfl)
          exact klp_X4_addUp_36 FU _ _ _ _ _ hf w (lv_sub hl [1, 2, 3, 0] rfl)
  exact klp_X4_addUp_14 FU _ _ _ _ _ _ hf w (lv_sub hl [1, 2, 0] rfl)
set_option maxHeartbeats 8000000 in
set_option maxRecDepth 100000 in
theorem ct_X4_howOften (l : Launch) (E : hm_E) (sz : Nat) (h0 : Nat) (r_t : Nat → Nat) (t_count t_falls t_offBy t_offAt t_unlike t_most t_mostCome t_least t_greatest t_missing t_firstMissing : Int32) (t_entry : Nat → Int32) (a1 : Int32) (R : Int32 × Unit) (hf : pf_X4_howOften a1 t_entry t_count = some R) : hm_Mi l E yX4_howOften cX4_howOften 4 .int [] (hm_rr 0 0 0 0) [.ref h0, .int a1] sz [oc4 h0 r_t t_count t_falls t_offBy t_offAt t_unlike t_most t_mostCome t_least t_greatest t_missing t_firstMissing, ic E (r_t 0) 4096 t_entry] R.1 (fun _ => [oc4 h0 r_t t_count t_falls t_offBy t_offAt t_unlike t_most t_mostCome t_least t_greatest t_missing t_firstMissing, ic E (r_t 0) 4096 t_entry]) := by
  refine hm_ct_i R (fun u qs => [oc4 h0 r_t t_count t_falls t_offBy t_offAt t_unlike t_most t_mostCome t_least t_greatest t_missing t_firstMissing, ic E (r_t 0) 4096 t_entry]) (by decide) (Nat.le_of_ble_eq_true rfl) (Or.inl rfl) ?_
  intro p e s m args below meth c A Q ls H locs hx hb hml hown X hA Y hex w hl hQ
  have hl : lv_has ls 4 [(0, .ref h0), (1, .int a1)] := hl
  unfold pf_X4_howOften at hf
  refine lv_iconst (v := 0) hx hb dX4_howOften_0 (by decide) ?_
  refine lv_istore_n (lv' := [(2, .int 0), (0, .ref h0), (1, .int a1)]) hx hb dX4_howOften_1 rfl hl (by decide) rfl (fun ls hl => ?_)
  refine lv_iconst (v := 0) hx hb dX4_howOften_2 (by decide) ?_
  refine lv_istore_n (lv' := [(3, .int 0), (2, .int 0), (0, .ref h0), (1, .int a1)]) hx hb dX4_howOften_3 rfl hl (by decide) rfl (fun ls hl => ?_)
  have klp_X4_howOften_4 : ∀ (n : Nat) (x1 : Int32) (x2 : Int32) (H : Heap) (locs : List Loc) (ls : Array Slot), lp_X4_howOften_4 a1 t_count t_entry n x1 x2 = some R → hm_W E A s.heap [oc4 h0 r_t t_count t_falls t_offBy t_offAt t_unlike t_most t_mostCome t_least t_greatest t_missing t_firstMissing, ic E (r_t 0) 4096 t_entry] H locs → lv_has ls 4 [(0, .ref h0), (1, .int a1), (2, .int x1), (3, .int x2)] → W p l e (hm_rr 0 0 0 0) s m args below meth c H locs 0 0 Q (F0 m 4 ls []) := by
    intro n
    induction n with
    | zero =>
      intro x1 x2 H locs ls hf w hl
      exact pf_no hf
    | succ n ih4 =>
      intro x1 x2 H locs ls hf w hl
      rw [lp_X4_howOften_4] at hf
      refine lv_iload_n hx hb dX4_howOften_4 rfl (lv_at hl 3 rfl) ?_
      refine lv_aload_n hx hb dX4_howOften_5 rfl (lv_at hl 0 rfl) ?_
      refine hm_get cb_X4 hx hb hown X w 0 1 fl_X4_15 dX4_howOften_6 rfl (by decide) rfl ?_
      refine lv_icmp_ge (tgt := 31) hx hb dX4_howOften_9 (by decide) (fun c9 => ?_) (fun c9 => ?_)
      · have hf := pf_t c9 hf
        refine lv_iload_n hx hb dX4_howOften_31 rfl (lv_at hl 2 rfl) ?_
        exact hQ _ _ _ _ _ () (fun _ => 0) hf rfl w dX4_howOften_32
      · have hf := pf_e c9 hf
        refine lv_aload_n hx hb dX4_howOften_12 rfl (lv_at hl 0 rfl) ?_
        refine hm_get cb_X4 hx hb hown X w 0 0 fl_X4_11 dX4_howOften_13 rfl (by decide) rfl ?_
        refine lv_iload_n hx hb dX4_howOften_16 rfl (lv_at hl 3 rfl) ?_
        obtain ⟨g17, hf⟩ := pf_ckI hf
        refine hm_iald hx hb X w 1 dX4_howOften_17 rfl g17 ?_
        refine lv_iload_n hx hb dX4_howOften_18 rfl (lv_at hl 1 rfl) ?_
        refine lv_icmp_ne (tgt := 25) hx hb dX4_howOften_19 (by decide) (fun c19 => ?_) (fun c19 => ?_)
        · have hf := pf_e c19 hf
          obtain ⟨x3, ex3⟩ : ∃ y : Int32, y = (x2 + 1) := ⟨_, rfl⟩
          have hf := pf_nm ex3 hf
          refine lv_iinc (v := x3) (lv' := [(3, .int x3), (0, .ref h0), (1, .int a1), (2, .int x1)]) hx hb dX4_howOften_25 hl (k := 3) rfl (by rw [ex3]; rfl) (by decide) rfl (fun ls hl => ?_)
          refine lv_goto (tgt := 4) hx hb dX4_howOften_28 (by decide) ?_
          exact ih4 _ _ _ _ _ hf w (lv_sub hl [1, 2, 3, 0] rfl)
        · have hf := pf_t c19 hf
          obtain ⟨x4, ex4⟩ : ∃ y : Int32, y = (x1 + 1) := ⟨_, rfl⟩
          have hf := pf_nm ex4 hf
          refine lv_iinc (v := x4) (lv' := [(2, .int x4), (0, .ref h0), (1, .int a1), (3, .int x2)]) hx hb dX4_howOften_22 hl (k := 2) rfl (by rw [ex4]; rfl) (by decide) rfl (fun ls hl => ?_)
          obtain ⟨x5, ex5⟩ : ∃ y : Int32, y = (x2 + 1) := ⟨_, rfl⟩
          have hf := pf_nm ex5 hf
          refine lv_iinc (v := x5) (lv' := [(3, .int x5), (2, .int x4), (0, .ref h0), (1, .int a1)]) hx hb dX4_howOften_25 hl (k := 3) rfl (by rw [ex5]; rfl) (by decide) rfl (fun ls hl => ?_)
          refine lv_goto (tgt := 4) hx hb dX4_howOften_28 (by decide) ?_
          exact ih4 _ _ _ _ _ hf w (lv_sub hl [2, 3, 1, 0] rfl)
  exact klp_X4_howOften_4 FU _ _ _ _ _ hf w (lv_sub hl [2, 3, 1, 0] rfl)
set_option maxHeartbeats 8000000 in
set_option maxRecDepth 100000 in
theorem ct_X4_sort (l : Launch) (E : hm_E) (sz : Nat) (h0 : Nat) (r_t : Nat → Nat) (t_count t_falls t_offBy t_offAt t_unlike t_most t_mostCome t_least t_greatest t_missing t_firstMissing : Int32) (t_entry : Nat → Int32) (R : (Nat → Int32)) (hf : pf_X4_sort t_entry t_count = some R) : hm_Mv l E yX4_sort cX4_sort 6 [] (hm_rr 0 0 0 0) [.ref h0] sz [oc4 h0 r_t t_count t_falls t_offBy t_offAt t_unlike t_most t_mostCome t_least t_greatest t_missing t_firstMissing, ic E (r_t 0) 4096 t_entry] (fun _ => [oc4 h0 r_t t_count t_falls t_offBy t_offAt t_unlike t_most t_mostCome t_least t_greatest t_missing t_firstMissing, ic E (r_t 0) 4096 R]) := by
  refine hm_ct_v R (fun u _ => [oc4 h0 r_t t_count t_falls t_offBy t_offAt t_unlike t_most t_mostCome t_least t_greatest t_missing t_firstMissing, ic E (r_t 0) 4096 u]) (by decide) (Nat.le_of_ble_eq_true rfl) ?_
  intro p e s m args below meth c A Q ls H locs hx hb hml hown X hA Y hex hin w hl hQ
  have hl : lv_has ls 6 [(0, .ref h0)] := hl
  unfold pf_X4_sort at hf
  refine lv_iconst (v := 0) hx hb dX4_sort_0 (by decide) ?_
  refine lv_istore_n (lv' := [(1, .int 0), (0, .ref h0)]) hx hb dX4_sort_1 rfl hl (by decide) rfl (fun ls hl => ?_)
  have klp_X4_sort_2 : ∀ (n : Nat) (x1 : Int32) (f2 : Nat → Int32) (H : Heap) (locs : List Loc) (ls : Array Slot), lp_X4_sort_2 t_count n x1 f2 = some R → hm_W E A s.heap [oc4 h0 r_t t_count t_falls t_offBy t_offAt t_unlike t_most t_mostCome t_least t_greatest t_missing t_firstMissing, ic E (r_t 0) 4096 f2] H locs → lv_has ls 6 [(0, .ref h0), (1, .int x1)] → W p l e (hm_rr 0 0 0 0) s m args below meth c H locs 0 0 Q (F0 m 2 ls []) := by
    intro n
    induction n with
    | zero =>
      intro x1 f2 H locs ls hf w hl
      exact pf_no hf
    | succ n ih2 =>
      intro x1 f2 H locs ls hf w hl
      rw [lp_X4_sort_2] at hf
      refine lv_iload_n hx hb dX4_sort_2 rfl (lv_at hl 1 rfl) ?_
      refine va_gets hx hb Y.1 w.2.2 hown (X.use fl_X4_83 rfl) (fun _ h => h) dX4_sort_3 ?_
      refine va_tlen hx hb Y.2.1 w.2.2 (v := 9) rfl dX4_sort_6 ?_
      refine lv_icmp_ge (tgt := 103) hx hb dX4_sort_7 (by decide) (fun c7 => ?_) (fun c7 => ?_)
      · have hf := pf_t c7 hf
        exact hQ _ _ _ _ f2 (fun _ => 0) hf w dX4_sort_103
      · have hf := pf_e c7 hf
        refine va_gets hx hb Y.1 w.2.2 hown (X.use fl_X4_83 rfl) (fun _ h => h) dX4_sort_10 ?_
        refine lv_iload_n hx hb dX4_sort_13 rfl (lv_at hl 1 rfl) ?_
        obtain ⟨g14, hf⟩ := pf_ckI hf
        refine va_ti hx hb Y.2.1 w.2.2 g14 (v := .int (hm_strides x1.toNatClampNeg)) rfl dX4_sort_14 ?_
        refine lv_topi (fun x3 ex3 => ?_)
        have hf := pf_nm ex3 hf
        refine lv_istore_n (lv' := [(2, .int x3), (0, .ref h0), (1, .int x1)]) hx hb dX4_sort_15 rfl hl (by decide) rfl (fun ls hl => ?_)
        refine lv_iload_n hx hb dX4_sort_16 rfl (lv_at hl 0 rfl) ?_
        refine lv_istore_n (lv' := [(3, .int x3), (2, .int x3), (0, .ref h0), (1, .int x1)]) hx hb dX4_sort_17 rfl hl (by decide) rfl (fun ls hl => ?_)
        obtain ⟨B2, hB2, hf⟩ := pf_jn hf
        have kB2 : ∀ (x1 : Int32) (f2 : Nat → Int32) (H : Heap) (locs : List Loc) (ls : Array Slot), B2 x1 f2 = some R → hm_W E A s.heap [oc4 h0 r_t t_count t_falls t_offBy t_offAt t_unlike t_most t_mostCome t_least t_greatest t_missing t_firstMissing, ic E (r_t 0) 4096 f2] H locs → lv_has ls 6 [(0, .ref h0), (1, .int x1)] → W p l e (hm_rr 0 0 0 0) s m args below meth c H locs 0 0 Q (F0 m 2 ls []) := by
          intro x1 f2 H locs ls hf w hl
          have hf := pf_j2 hB2 hf
          exact ih2 x1 f2 _ _ _ hf w hl
        have klp_X4_sort_18 : ∀ (n : Nat) (x4 : Int32) (f5 : Nat → Int32) (H : Heap) (locs : List Loc) (ls : Array Slot), lp_X4_sort_18 t_count x1 x3 B2 n x4 f5 = some R → hm_W E A s.heap [oc4 h0 r_t t_count t_falls t_offBy t_offAt t_unlike t_most t_mostCome t_least t_greatest t_missing t_firstMissing, ic E (r_t 0) 4096 f5] H locs → lv_has ls 6 [(0, .ref h0), (1, .int x1), (2, .int x3), (3, .int x4)] → W p l e (hm_rr 0 0 0 0) s m args below meth c H locs 0 0 Q (F0 m 18 ls []) := by
          intro n
          induction n with
          | zero =>
            intro x4 f5 H locs ls hf w hl
            exact pf_no hf
          | succ n ih18 =>
            intro x4 f5 H locs ls hf w hl
            rw [lp_X4_sort_18] at hf
            refine lv_iload_n hx hb dX4_sort_18 rfl (lv_at hl 3 rfl) ?_
            refine lv_aload_n hx hb dX4_sort_19 rfl (lv_at hl 0 rfl) ?_
            refine hm_get cb_X4 hx hb hown X w 0 1 fl_X4_15 dX4_sort_20 rfl (by decide) rfl ?_
            refine lv_icmp_ge (tgt := 97) hx hb dX4_sort_23 (by decide) (fun c23 => ?_) (fun c23 => ?_)
            · have hf := pf_t c23 hf
              obtain ⟨x6, ex6⟩ : ∃ y : Int32, y = (x1 + 1) := ⟨_, rfl⟩
              have hf := pf_nm ex6 hf
              refine lv_iinc (v := x6) (lv' := [(1, .int x6), (0, .ref h0), (2, .int x3), (3, .int x4)]) hx hb dX4_sort_97 hl (k := 1) rfl (by rw [ex6]; rfl) (by decide) rfl (fun ls hl => ?_)
              refine lv_goto (tgt := 2) hx hb dX4_sort_100 (by decide) ?_
              exact kB2 _ _ _ _ _ hf w (lv_sub hl [1, 0] rfl)
            · have hf := pf_e c23 hf
              refine lv_aload_n hx hb dX4_sort_26 rfl (lv_at hl 0 rfl) ?_
              refine hm_get cb_X4 hx hb hown X w 0 0 fl_X4_11 dX4_sort_27 rfl (by decide) rfl ?_
              refine lv_iload_n hx hb dX4_sort_30 rfl (lv_at hl 3 rfl) ?_
              obtain ⟨g31, hf⟩ := pf_ckI hf
              refine hm_iald hx hb X w 1 dX4_sort_31 rfl g31 ?_
              refine lv_topi (fun x7 ex7 => ?_)
              have hf := pf_nm ex7 hf
              refine lv_istore (lv' := [(4, .int x7), (0, .ref h0), (1, .int x1), (2, .int x3), (3, .int x4)]) hx hb dX4_sort_32 hl (by decide) rfl (fun ls hl => ?_)
              refine lv_iload_n hx hb dX4_sort_34 rfl (lv_at hl 4 rfl) ?_
              refine lv_istore (lv' := [(5, .int x4), (4, .int x7), (0, .ref h0), (1, .int x1), (2, .int x3), (3, .int x4)]) hx hb dX4_sort_35 hl (by decide) rfl (fun ls hl => ?_)
              obtain ⟨J82, hJ82, hf⟩ := pf_jn hf
              have kJ82 : ∀ (x8 : Int32) (f9 : Nat → Int32) (H : Heap) (locs : List Loc) (ls : Array Slot), J82 x8 f9 = some R → hm_W E A s.heap [oc4 h0 r_t t_count t_falls t_offBy t_offAt t_unlike t_most t_mostCome t_least t_greatest t_missing t_firstMissing, ic E (r_t 0) 4096 f9] H locs → lv_has ls 6 [(0, .ref h0), (1, .int x1), (2, .int x3), (3, .int x4), (4, .int x7), (5, .int x8)] → W p l e (hm_rr 0 0 0 0) s m args below meth c H locs 0 0 Q (F0 m 82 ls []) := by
                intro x8 f9 H locs ls hf w hl
                have hf := pf_j2 hJ82 hf
                refine lv_aload_n hx hb dX4_sort_82 rfl (lv_at hl 0 rfl) ?_
                refine hm_get cb_X4 hx hb hown X w 0 0 fl_X4_11 dX4_sort_83 rfl (by decide) rfl ?_
                refine lv_iload hx hb dX4_sort_86 (lv_at hl 5 rfl) ?_
                refine lv_iload hx hb dX4_sort_88 (lv_at hl 4 rfl) ?_
                obtain ⟨g90, hf⟩ := pf_ckI hf
                refine hm_iast (ws' := [oc4 h0 r_t t_count t_falls t_offBy t_offAt t_unlike t_most t_mostCome t_least t_greatest t_missing t_firstMissing, ic E (r_t 0) 4096 (upd f9 x8.toNatClampNeg x7)]) hx hb X w 1 dX4_sort_90 rfl g90 rfl (fun H locs w => ?_)
                obtain ⟨x10, ex10⟩ : ∃ y : Int32, y = (x4 + 1) := ⟨_, rfl⟩
                have hf := pf_nm ex10 hf
                refine lv_iinc (v := x10) (lv' := [(3, .int x10), (0, .ref h0), (1, .int x1), (2, .int x3), (4, .int x7), (5, .int x8)]) hx hb dX4_sort_91 hl (k := 3) rfl (by rw [ex10]; rfl) (by decide) rfl (fun ls hl => ?_)
                refine lv_goto (tgt := 18) hx hb dX4_sort_94 (by decide) ?_
                exact ih18 _ _ _ _ _ hf w (lv_sub hl [1, 2, 3, 0] rfl)
              have klp_X4_sort_37 : ∀ (n : Nat) (x11 : Int32) (f12 : Nat → Int32) (H : Heap) (locs : List Loc) (ls : Array Slot), lp_X4_sort_37 x3 x7 J82 n x11 f12 = some R → hm_W E A s.heap [oc4 h0 r_t t_count t_falls t_offBy t_offAt t_unlike t_most t_mostCome t_least t_greatest t_missing t_firstMissing, ic E (r_t 0) 4096 f12] H locs → lv_has ls 6 [(0, .ref h0), (1, .int x1), (2, .int x3), (3, .int x4), (4, .int x7), (5, .int x11)] → W p l e (hm_rr 0 0 0 0) s m args below meth c H locs 0 0 Q (F0 m 37 ls []) := by
                intro n
                induction n with
                | zero =>
                  intro x11 f12 H locs ls hf w hl
                  exact pf_no hf
                | succ n ih37 =>
                  intro x11 f12 H locs ls hf w hl
                  rw [lp_X4_sort_37] at hf
                  refine lv_iload hx hb dX4_sort_37 (lv_at hl 5 rfl) ?_
                  refine lv_iload_n hx hb dX4_sort_39 rfl (lv_at hl 2 rfl) ?_
                  refine lv_icmp_lt (tgt := 82) hx hb dX4_sort_40 (by decide) (fun c40 => ?_) (fun c40 => ?_)
                  · have hf := pf_t c40 hf
                    exact kJ82 _ _ _ _ _ hf w (lv_sub hl [0, 1, 2, 3, 4, 5] rfl)
                  · have hf := pf_e c40 hf
                    refine lv_aload_n hx hb dX4_sort_43 rfl (lv_at hl 0 rfl) ?_
                    refine hm_get cb_X4 hx hb hown X w 0 0 fl_X4_11 dX4_sort_44 rfl (by decide) rfl ?_
                    refine lv_iload hx hb dX4_sort_47 (lv_at hl 5 rfl) ?_
                    refine lv_iload_n hx hb dX4_sort_49 rfl (lv_at hl 2 rfl) ?_
                    refine lv_isub hx hb dX4_sort_50 ?_
                    obtain ⟨g51, hf⟩ := pf_ckI hf
                    refine hm_iald hx hb X w 1 dX4_sort_51 rfl g51 ?_
                    refine lv_iload hx hb dX4_sort_52 (lv_at hl 4 rfl) ?_
                    refine lv_icmp_le (tgt := 82) hx hb dX4_sort_54 (by decide) (fun c54 => ?_) (fun c54 => ?_)
                    · have hf := pf_t c54 hf
                      exact kJ82 _ _ _ _ _ hf w (lv_sub hl [0, 1, 2, 3, 4, 5] rfl)
                    · have hf := pf_e c54 hf
                      refine lv_aload_n hx hb dX4_sort_57 rfl (lv_at hl 0 rfl) ?_
                      refine hm_get cb_X4 hx hb hown X w 0 0 fl_X4_11 dX4_sort_58 rfl (by decide) rfl ?_
                      refine lv_iload hx hb dX4_sort_61 (lv_at hl 5 rfl) ?_
                      refine lv_aload_n hx hb dX4_sort_63 rfl (lv_at hl 0 rfl) ?_
                      refine hm_get cb_X4 hx hb hown X w 0 0 fl_X4_11 dX4_sort_64 rfl (by decide) rfl ?_
                      refine lv_iload hx hb dX4_sort_67 (lv_at hl 5 rfl) ?_
                      refine lv_iload_n hx hb dX4_sort_69 rfl (lv_at hl 2 rfl) ?_
                      refine lv_isub hx hb dX4_sort_70 ?_
                      obtain ⟨g71, hf⟩ := pf_ckI hf
                      refine hm_iald hx hb X w 1 dX4_sort_71 rfl g71 ?_
                      refine lv_topi (fun x13 ex13 => ?_)
                      have hf := pf_nm ex13 hf
                      obtain ⟨g72, hf⟩ := pf_ckI hf
                      refine hm_iast (ws' := [oc4 h0 r_t t_count t_falls t_offBy t_offAt t_unlike t_most t_mostCome t_least t_greatest t_missing t_firstMissing, ic E (r_t 0) 4096 (upd f12 x11.toNatClampNeg x13)]) hx hb X w 1 dX4_sort_72 rfl g72 rfl (fun H locs w => ?_)
                      refine lv_iload hx hb dX4_sort_73 (lv_at hl 5 rfl) ?_
                      refine lv_iload_n hx hb dX4_sort_75 rfl (lv_at hl 2 rfl) ?_
                      refine lv_isub hx hb dX4_sort_76 ?_
                      refine lv_topi (fun x14 ex14 => ?_)
                      have hf := pf_nm ex14 hf
                      refine lv_istore (lv' := [(5, .int x14), (0, .ref h0), (1, .int x1), (2, .int x3), (3, .int x4), (4, .int x7)]) hx hb dX4_sort_77 hl (by decide) rfl (fun ls hl => ?_)
                      refine lv_goto (tgt := 37) hx hb dX4_sort_79 (by decide) ?_
                      exact ih37 _ _ _ _ _ hf w (lv_sub hl [1, 2, 3, 4, 5, 0] rfl)
              exact klp_X4_sort_37 FU _ _ _ _ _ hf w (lv_sub hl [2, 3, 4, 5, 1, 0] rfl)
        exact klp_X4_sort_18 FU _ _ _ _ _ hf w (lv_sub hl [2, 3, 1, 0] rfl)
  exact klp_X4_sort_2 FU _ _ _ _ _ hf w (lv_sub hl [1, 0] rfl)
set_option maxHeartbeats 8000000 in
set_option maxRecDepth 100000 in
theorem ct_X4_sortOut (l : Launch) (E : hm_E) (sz : Nat) (h0 : Nat) (r_t : Nat → Nat) (t_count t_falls t_offBy t_offAt t_unlike t_most t_mostCome t_least t_greatest t_missing t_firstMissing : Int32) (t_entry : Nat → Int32) (R : (Nat → Int32) × Int32 × Int32 × Int32 × Int32 × Int32 × Int32 × Int32) (hf : pf_X4_sortOut t_entry t_count = some R) : hm_Mv l E yX4_sortOut cX4_sortOut 3 [] (hm_rr 1 25 0 0) [.ref h0] sz [oc4 h0 r_t t_count t_falls t_offBy t_offAt t_unlike t_most t_mostCome t_least t_greatest t_missing t_firstMissing, ic E (r_t 0) 4096 t_entry] (fun _ => [oc4 h0 r_t t_count t_falls t_offBy t_offAt (R.2.1) (R.2.2.1) (R.2.2.2.1) (R.2.2.2.2.1) (R.2.2.2.2.2.1) (R.2.2.2.2.2.2.1) (R.2.2.2.2.2.2.2), ic E (r_t 0) 4096 (R.1)]) := by
  refine hm_ct_v R (fun u _ => [oc4 h0 r_t t_count t_falls t_offBy t_offAt (u.2.1) (u.2.2.1) (u.2.2.2.1) (u.2.2.2.2.1) (u.2.2.2.2.2.1) (u.2.2.2.2.2.2.1) (u.2.2.2.2.2.2.2), ic E (r_t 0) 4096 (u.1)]) (by decide) (Nat.le_of_ble_eq_true rfl) ?_
  intro p e s m args below meth c A Q ls H locs hx hb hml hown X hA Y hex hin w hl hQ
  have hl : lv_has ls 3 [(0, .ref h0)] := hl
  unfold pf_X4_sortOut at hf
  refine lv_aload_n hx hb dX4_sortOut_0 rfl (lv_at hl 0 rfl) ?_
  obtain ⟨f1, hc1, hf⟩ := pf_bv_1 hf
  refine hm_aft_v (ws' := fun _ => [oc4 h0 r_t t_count t_falls t_offBy t_offAt t_unlike t_most t_mostCome t_least t_greatest t_missing t_firstMissing, ic E (r_t 0) 4096 f1]) (hm_runV (rest := []) hx hb hml hown X hA Y w 0 (ci := 4) (T := TX4) (N := 12) rfl rfl mw_X4_sort ml_X4_80 dX4_sortOut_1 hm_ac0 [] rfl [0, 1] rfl rfl (ct_X4_sort l E H.size h0 r_t t_count t_falls t_offBy t_offAt t_unlike t_most t_mostCome t_least t_greatest t_missing t_firstMissing t_entry f1 hc1) rfl hl.1 ⟨⟨rfl, rfl⟩, ⟨Nat.le_of_ble_eq_true rfl, Nat.le_of_ble_eq_true rfl⟩, ⟨Nat.le_of_ble_eq_true rfl, Nat.le_of_ble_eq_true rfl⟩, Nat.le_of_ble_eq_true rfl⟩) hA w [0, 1] [] [0, 1] rfl rfl (by decide) (fun _ => rfl) (fun _ H locs w => ?_)
  refine lv_aload_n hx hb dX4_sortOut_4 rfl (lv_at hl 0 rfl) ?_
  refine lv_iconst (v := 0) hx hb dX4_sortOut_5 (by decide) ?_
  refine hm_put (ws' := [oc4 h0 r_t t_count t_falls t_offBy t_offAt 0 t_most t_mostCome t_least t_greatest t_missing t_firstMissing, ic E (r_t 0) 4096 f1]) cb_X4 hx hb hown X w 0 5 fl_X4_28 dX4_sortOut_6 rfl (by decide) (Nat.le_of_ble_eq_true rfl) rfl rfl rfl rfl (fun H locs w => ?_)
  refine lv_aload_n hx hb dX4_sortOut_9 rfl (lv_at hl 0 rfl) ?_
  refine lv_iconst (v := 0) hx hb dX4_sortOut_10 (by decide) ?_
  refine hm_put (ws' := [oc4 h0 r_t t_count t_falls t_offBy t_offAt 0 0 t_mostCome t_least t_greatest t_missing t_firstMissing, ic E (r_t 0) 4096 f1]) cb_X4 hx hb hown X w 0 6 fl_X4_31 dX4_sortOut_11 rfl (by decide) (Nat.le_of_ble_eq_true rfl) rfl rfl rfl rfl (fun H locs w => ?_)
  refine lv_aload_n hx hb dX4_sortOut_14 rfl (lv_at hl 0 rfl) ?_
  refine lv_iconst (v := 0) hx hb dX4_sortOut_15 (by decide) ?_
  refine hm_put (ws' := [oc4 h0 r_t t_count t_falls t_offBy t_offAt 0 0 0 t_least t_greatest t_missing t_firstMissing, ic E (r_t 0) 4096 f1]) cb_X4 hx hb hown X w 0 7 fl_X4_34 dX4_sortOut_16 rfl (by decide) (Nat.le_of_ble_eq_true rfl) rfl rfl rfl rfl (fun H locs w => ?_)
  refine lv_aload_n hx hb dX4_sortOut_19 rfl (lv_at hl 0 rfl) ?_
  refine lv_iconst (v := (-1)) hx hb dX4_sortOut_20 (by decide) ?_
  refine hm_put (ws' := [oc4 h0 r_t t_count t_falls t_offBy t_offAt 0 0 0 t_least t_greatest t_missing (-1), ic E (r_t 0) 4096 f1]) cb_X4 hx hb hown X w 0 11 fl_X4_46 dX4_sortOut_21 rfl (by decide) (Nat.le_of_ble_eq_true rfl) rfl rfl rfl rfl (fun H locs w => ?_)
  refine lv_aload_n hx hb dX4_sortOut_24 rfl (lv_at hl 0 rfl) ?_
  refine lv_aload_n hx hb dX4_sortOut_25 rfl (lv_at hl 0 rfl) ?_
  refine hm_get cb_X4 hx hb hown X w 0 1 fl_X4_15 dX4_sortOut_26 rfl (by decide) rfl ?_
  obtain ⟨J42, hJ42, hf⟩ := pf_jn hf
  have kJ42 : ∀ (x2 : Int32) (H : Heap) (locs : List Loc) (ls : Array Slot), J42 x2 = some R → hm_W E A s.heap [oc4 h0 r_t t_count t_falls t_offBy t_offAt 0 0 0 t_least t_greatest t_missing (-1), ic E (r_t 0) 4096 f1] H locs → lv_has ls 3 [(0, .ref h0)] → W p l e (hm_rr 1 25 0 0) s m args below meth c H locs 0 0 Q (F0 m 42 ls [.int x2, .ref h0]) := by
    intro x2 H locs ls hf w hl
    have hf := pf_j1 hJ42 hf
    refine hm_put (ws' := [oc4 h0 r_t t_count t_falls t_offBy t_offAt 0 0 0 x2 t_greatest t_missing (-1), ic E (r_t 0) 4096 f1]) cb_X4 hx hb hown X w 0 8 fl_X4_37 dX4_sortOut_42 rfl (by decide) (Nat.le_of_ble_eq_true rfl) rfl rfl rfl rfl (fun H locs w => ?_)
    refine lv_aload_n hx hb dX4_sortOut_45 rfl (lv_at hl 0 rfl) ?_
    refine lv_aload_n hx hb dX4_sortOut_46 rfl (lv_at hl 0 rfl) ?_
    refine hm_get cb_X4 hx hb hown X w 0 1 fl_X4_15 dX4_sortOut_47 rfl (by decide) rfl ?_
    obtain ⟨J68, hJ68, hf⟩ := pf_jn hf
    have kJ68 : ∀ (x3 : Int32) (H : Heap) (locs : List Loc) (ls : Array Slot), J68 x3 = some R → hm_W E A s.heap [oc4 h0 r_t t_count t_falls t_offBy t_offAt 0 0 0 x2 t_greatest t_missing (-1), ic E (r_t 0) 4096 f1] H locs → lv_has ls 3 [(0, .ref h0)] → W p l e (hm_rr 1 25 0 0) s m args below meth c H locs 0 0 Q (F0 m 68 ls [.int x3, .ref h0]) := by
      intro x3 H locs ls hf w hl
      have hf := pf_j1 hJ68 hf
      refine hm_put (ws' := [oc4 h0 r_t t_count t_falls t_offBy t_offAt 0 0 0 x2 x3 t_missing (-1), ic E (r_t 0) 4096 f1]) cb_X4 hx hb hown X w 0 9 fl_X4_40 dX4_sortOut_68 rfl (by decide) (Nat.le_of_ble_eq_true rfl) rfl rfl rfl rfl (fun H locs w => ?_)
      refine lv_iconst (v := 0) hx hb dX4_sortOut_71 (by decide) ?_
      refine lv_istore_n (lv' := [(1, .int 0), (0, .ref h0)]) hx hb dX4_sortOut_72 rfl hl (by decide) rfl (fun ls hl => ?_)
      refine lv_iconst (v := 0) hx hb dX4_sortOut_73 (by decide) ?_
      refine lv_istore_n (lv' := [(2, .int 0), (1, .int 0), (0, .ref h0)]) hx hb dX4_sortOut_74 rfl hl (by decide) rfl (fun ls hl => ?_)
      obtain ⟨J196, hJ196, hf⟩ := pf_jn hf
      have kJ196 : ∀ (x4 : Int32) (x5 : Int32) (x6 : Int32) (x7 : Int32) (H : Heap) (locs : List Loc) (ls : Array Slot), J196 x4 x5 x6 x7 = some R → hm_W E A s.heap [oc4 h0 r_t t_count t_falls t_offBy t_offAt x4 x5 x6 x2 x3 t_missing x7, ic E (r_t 0) 4096 f1] H locs → lv_has ls 3 [(0, .ref h0)] → W p l e (hm_rr 1 25 0 0) s m args below meth c H locs 0 0 Q (F0 m 196 ls []) := by
        intro x4 x5 x6 x7 H locs ls hf w hl
        have hf := pf_j4 hJ196 hf
        refine lv_aload_n hx hb dX4_sortOut_196 rfl (lv_at hl 0 rfl) ?_
        refine lv_aload_n hx hb dX4_sortOut_197 rfl (lv_at hl 0 rfl) ?_
        refine hm_get cb_X4 hx hb hown X w 0 9 fl_X4_40 dX4_sortOut_198 rfl (by decide) rfl ?_
        refine lv_aload_n hx hb dX4_sortOut_201 rfl (lv_at hl 0 rfl) ?_
        refine hm_get cb_X4 hx hb hown X w 0 8 fl_X4_37 dX4_sortOut_202 rfl (by decide) rfl ?_
        refine lv_isub hx hb dX4_sortOut_205 ?_
        refine lv_iconst (v := 1) hx hb dX4_sortOut_206 (by decide) ?_
        refine lv_iadd hx hb dX4_sortOut_207 ?_
        refine lv_aload_n hx hb dX4_sortOut_208 rfl (lv_at hl 0 rfl) ?_
        refine hm_get cb_X4 hx hb hown X w 0 5 fl_X4_28 dX4_sortOut_209 rfl (by decide) rfl ?_
        refine lv_isub hx hb dX4_sortOut_212 ?_
        refine lv_topi (fun x8 ex8 => ?_)
        have hf := pf_nm ex8 hf
        refine hm_put (ws' := [oc4 h0 r_t t_count t_falls t_offBy t_offAt x4 x5 x6 x2 x3 x8 x7, ic E (r_t 0) 4096 f1]) cb_X4 hx hb hown X w 0 10 fl_X4_43 dX4_sortOut_213 rfl (by decide) (Nat.le_of_ble_eq_true rfl) rfl rfl rfl rfl (fun H locs w => ?_)
        exact hQ _ _ _ _ (f1, x4, x5, x6, x2, x3, x8, x7) (fun _ => 0) hf w dX4_sortOut_216
      have klp_X4_sortOut_75 : ∀ (n : Nat) (x9 : Int32) (x10 : Int32) (x11 : Int32) (x12 : Int32) (x13 : Int32) (x14 : Int32) (H : Heap) (locs : List Loc) (ls : Array Slot), lp_X4_sortOut_75 t_count f1 J196 n x9 x10 x11 x12 x13 x14 = some R → hm_W E A s.heap [oc4 h0 r_t t_count t_falls t_offBy t_offAt x11 x12 x13 x2 x3 t_missing x14, ic E (r_t 0) 4096 f1] H locs → lv_has ls 3 [(0, .ref h0), (1, .int x9), (2, .int x10)] → W p l e (hm_rr 1 25 0 0) s m args below meth c H locs 0 0 Q (F0 m 75 ls []) := by
        intro n
        induction n with
        | zero =>
          intro x9 x10 x11 x12 x13 x14 H locs ls hf w hl
          exact pf_no hf
        | succ n ih75 =>
          intro x9 x10 x11 x12 x13 x14 H locs ls hf w hl
          rw [lp_X4_sortOut_75] at hf
          refine lv_iload_n hx hb dX4_sortOut_75 rfl (lv_at hl 2 rfl) ?_
          refine lv_aload_n hx hb dX4_sortOut_76 rfl (lv_at hl 0 rfl) ?_
          refine hm_get cb_X4 hx hb hown X w 0 1 fl_X4_15 dX4_sortOut_77 rfl (by decide) rfl ?_
          refine lv_icmp_ge (tgt := 196) hx hb dX4_sortOut_80 (by decide) (fun c80 => ?_) (fun c80 => ?_)
          · have hf := pf_t c80 hf
            exact kJ196 _ _ _ _ _ _ _ hf w (lv_sub hl [0] rfl)
          · have hf := pf_e c80 hf
            refine lv_iload_n hx hb dX4_sortOut_83 rfl (lv_at hl 2 rfl) ?_
            obtain ⟨J167, hJ167, hf⟩ := pf_jn hf
            have kJ167 : ∀ (x15 : Int32) (x16 : Int32) (x17 : Int32) (H : Heap) (locs : List Loc) (ls : Array Slot), J167 x15 x16 x17 = some R → hm_W E A s.heap [oc4 h0 r_t t_count t_falls t_offBy t_offAt x16 x12 x13 x2 x3 t_missing x17, ic E (r_t 0) 4096 f1] H locs → lv_has ls 3 [(0, .ref h0), (1, .int x15), (2, .int x10)] → W p l e (hm_rr 1 25 0 0) s m args below meth c H locs 0 0 Q (F0 m 167 ls []) := by
              intro x15 x16 x17 H locs ls hf w hl
              have hf := pf_j3 hJ167 hf
              refine lv_iload_n hx hb dX4_sortOut_167 rfl (lv_at hl 1 rfl) ?_
              refine lv_aload_n hx hb dX4_sortOut_168 rfl (lv_at hl 0 rfl) ?_
              refine hm_get cb_X4 hx hb hown X w 0 6 fl_X4_31 dX4_sortOut_169 rfl (by decide) rfl ?_
              refine lv_icmp_le (tgt := 190) hx hb dX4_sortOut_172 (by decide) (fun c172 => ?_) (fun c172 => ?_)
              · have hf := pf_t c172 hf
                obtain ⟨x18, ex18⟩ : ∃ y : Int32, y = (x10 + 1) := ⟨_, rfl⟩
                have hf := pf_nm ex18 hf
                refine lv_iinc (v := x18) (lv' := [(2, .int x18), (0, .ref h0), (1, .int x15)]) hx hb dX4_sortOut_190 hl (k := 2) rfl (by rw [ex18]; rfl) (by decide) rfl (fun ls hl => ?_)
                refine lv_goto (tgt := 75) hx hb dX4_sortOut_193 (by decide) ?_
                exact ih75 _ _ _ _ _ _ _ _ _ hf w (lv_sub hl [1, 2, 0] rfl)
              · have hf := pf_e c172 hf
                refine lv_aload_n hx hb dX4_sortOut_175 rfl (lv_at hl 0 rfl) ?_
                refine lv_iload_n hx hb dX4_sortOut_176 rfl (lv_at hl 1 rfl) ?_
                refine hm_put (ws' := [oc4 h0 r_t t_count t_falls t_offBy t_offAt x16 x15 x13 x2 x3 t_missing x17, ic E (r_t 0) 4096 f1]) cb_X4 hx hb hown X w 0 6 fl_X4_31 dX4_sortOut_177 rfl (by decide) (Nat.le_of_ble_eq_true rfl) rfl rfl rfl rfl (fun H locs w => ?_)
                refine lv_aload_n hx hb dX4_sortOut_180 rfl (lv_at hl 0 rfl) ?_
                refine lv_aload_n hx hb dX4_sortOut_181 rfl (lv_at hl 0 rfl) ?_
                refine hm_get cb_X4 hx hb hown X w 0 0 fl_X4_11 dX4_sortOut_182 rfl (by decide) rfl ?_
                refine lv_iload_n hx hb dX4_sortOut_185 rfl (lv_at hl 2 rfl) ?_
                obtain ⟨g186, hf⟩ := pf_ckI hf
                refine hm_iald hx hb X w 1 dX4_sortOut_186 rfl g186 ?_
                refine lv_topi (fun x19 ex19 => ?_)
                have hf := pf_nm ex19 hf
                refine hm_put (ws' := [oc4 h0 r_t t_count t_falls t_offBy t_offAt x16 x15 x19 x2 x3 t_missing x17, ic E (r_t 0) 4096 f1]) cb_X4 hx hb hown X w 0 7 fl_X4_34 dX4_sortOut_187 rfl (by decide) (Nat.le_of_ble_eq_true rfl) rfl rfl rfl rfl (fun H locs w => ?_)
                obtain ⟨x20, ex20⟩ : ∃ y : Int32, y = (x10 + 1) := ⟨_, rfl⟩
                have hf := pf_nm ex20 hf
                refine lv_iinc (v := x20) (lv' := [(2, .int x20), (0, .ref h0), (1, .int x15)]) hx hb dX4_sortOut_190 hl (k := 2) rfl (by rw [ex20]; rfl) (by decide) rfl (fun ls hl => ?_)
                refine lv_goto (tgt := 75) hx hb dX4_sortOut_193 (by decide) ?_
                exact ih75 _ _ _ _ _ _ _ _ _ hf w (lv_sub hl [1, 2, 0] rfl)
            obtain ⟨J110, hJ110, hf⟩ := pf_jn hf
            have kJ110 : ∀ (H : Heap) (locs : List Loc) (ls : Array Slot), J110 = some R → hm_W E A s.heap [oc4 h0 r_t t_count t_falls t_offBy t_offAt x11 x12 x13 x2 x3 t_missing x14, ic E (r_t 0) 4096 f1] H locs → lv_has ls 3 [(0, .ref h0), (2, .int x10)] → W p l e (hm_rr 1 25 0 0) s m args below meth c H locs 0 0 Q (F0 m 110 ls []) := by
              intro H locs ls hf w hl
              have hf := pf_j0 hJ110 hf
              refine lv_iconst (v := 1) hx hb dX4_sortOut_110 (by decide) ?_
              refine lv_istore_n (lv' := [(1, .int 1), (0, .ref h0), (2, .int x10)]) hx hb dX4_sortOut_111 rfl hl (by decide) rfl (fun ls hl => ?_)
              refine lv_aload_n hx hb dX4_sortOut_112 rfl (lv_at hl 1 rfl) ?_
              refine lv_dup hx hb dX4_sortOut_113 rfl ?_
              refine hm_get cb_X4 hx hb hown X w 0 5 fl_X4_28 dX4_sortOut_114 rfl (by decide) rfl ?_
              refine lv_iconst (v := 1) hx hb dX4_sortOut_117 (by decide) ?_
              refine lv_iadd hx hb dX4_sortOut_118 ?_
              refine lv_topi (fun x21 ex21 => ?_)
              have hf := pf_nm ex21 hf
              refine hm_put (ws' := [oc4 h0 r_t t_count t_falls t_offBy t_offAt x21 x12 x13 x2 x3 t_missing x14, ic E (r_t 0) 4096 f1]) cb_X4 hx hb hown X w 0 5 fl_X4_28 dX4_sortOut_119 rfl (by decide) (Nat.le_of_ble_eq_true rfl) rfl rfl rfl rfl (fun H locs w => ?_)
              refine lv_iload_n hx hb dX4_sortOut_122 rfl (lv_at hl 2 rfl) ?_
              refine lv_if_le (tgt := 167) hx hb dX4_sortOut_123 (by decide) (fun c123 => ?_) (fun c123 => ?_)
              · have hf := pf_t c123 hf
                exact kJ167 _ _ _ _ _ _ hf w (lv_sub hl [1, 0, 2] rfl)
              · have hf := pf_e c123 hf
                refine lv_aload_n hx hb dX4_sortOut_126 rfl (lv_at hl 1 rfl) ?_
                refine hm_get cb_X4 hx hb hown X w 0 11 fl_X4_46 dX4_sortOut_127 rfl (by decide) rfl ?_
                refine lv_iconst (v := (-1)) hx hb dX4_sortOut_130 (by decide) ?_
                refine lv_icmp_ne (tgt := 167) hx hb dX4_sortOut_131 (by decide) (fun c131 => ?_) (fun c131 => ?_)
                · have hf := pf_e c131 hf
                  exact kJ167 _ _ _ _ _ _ hf w (lv_sub hl [1, 0, 2] rfl)
                · have hf := pf_t c131 hf
                  refine lv_aload_n hx hb dX4_sortOut_134 rfl (lv_at hl 1 rfl) ?_
                  refine hm_get cb_X4 hx hb hown X w 0 0 fl_X4_11 dX4_sortOut_135 rfl (by decide) rfl ?_
                  refine lv_iload_n hx hb dX4_sortOut_138 rfl (lv_at hl 2 rfl) ?_
                  obtain ⟨g139, hf⟩ := pf_ckI hf
                  refine hm_iald hx hb X w 1 dX4_sortOut_139 rfl g139 ?_
                  refine lv_aload_n hx hb dX4_sortOut_140 rfl (lv_at hl 1 rfl) ?_
                  refine hm_get cb_X4 hx hb hown X w 0 0 fl_X4_11 dX4_sortOut_141 rfl (by decide) rfl ?_
                  refine lv_iload_n hx hb dX4_sortOut_144 rfl (lv_at hl 2 rfl) ?_
                  refine lv_iconst (v := 1) hx hb dX4_sortOut_145 (by decide) ?_
                  refine lv_isub hx hb dX4_sortOut_146 ?_
                  obtain ⟨g147, hf⟩ := pf_ckI hf
                  refine hm_iald hx hb X w 1 dX4_sortOut_147 rfl g147 ?_
                  refine lv_iconst (v := 1) hx hb dX4_sortOut_148 (by decide) ?_
                  refine lv_iadd hx hb dX4_sortOut_149 ?_
                  refine lv_icmp_le (tgt := 167) hx hb dX4_sortOut_150 (by decide) (fun c150 => ?_) (fun c150 => ?_)
                  · have hf := pf_t c150 hf
                    exact kJ167 _ _ _ _ _ _ hf w (lv_sub hl [1, 0, 2] rfl)
                  · have hf := pf_e c150 hf
                    refine lv_aload_n hx hb dX4_sortOut_153 rfl (lv_at hl 1 rfl) ?_
                    refine lv_aload_n hx hb dX4_sortOut_154 rfl (lv_at hl 1 rfl) ?_
                    refine hm_get cb_X4 hx hb hown X w 0 0 fl_X4_11 dX4_sortOut_155 rfl (by decide) rfl ?_
                    refine lv_iload_n hx hb dX4_sortOut_158 rfl (lv_at hl 2 rfl) ?_
                    refine lv_iconst (v := 1) hx hb dX4_sortOut_159 (by decide) ?_
                    refine lv_isub hx hb dX4_sortOut_160 ?_
                    obtain ⟨g161, hf⟩ := pf_ckI hf
                    refine hm_iald hx hb X w 1 dX4_sortOut_161 rfl g161 ?_
                    refine lv_iconst (v := 1) hx hb dX4_sortOut_162 (by decide) ?_
                    refine lv_iadd hx hb dX4_sortOut_163 ?_
                    refine lv_topi (fun x22 ex22 => ?_)
                    have hf := pf_nm ex22 hf
                    refine hm_put (ws' := [oc4 h0 r_t t_count t_falls t_offBy t_offAt x21 x12 x13 x2 x3 t_missing x22, ic E (r_t 0) 4096 f1]) cb_X4 hx hb hown X w 0 11 fl_X4_46 dX4_sortOut_164 rfl (by decide) (Nat.le_of_ble_eq_true rfl) rfl rfl rfl rfl (fun H locs w => ?_)
                    exact kJ167 _ _ _ _ _ _ hf w (lv_sub hl [1, 0, 2] rfl)
            refine lv_if_le (tgt := 110) hx hb dX4_sortOut_84 (by decide) (fun c84 => ?_) (fun c84 => ?_)
            · have hf := pf_t c84 hf
              exact kJ110 _ _ _ hf w (lv_sub hl [0, 2] rfl)
            · have hf := pf_e c84 hf
              refine lv_aload_n hx hb dX4_sortOut_87 rfl (lv_at hl 0 rfl) ?_
              refine hm_get cb_X4 hx hb hown X w 0 0 fl_X4_11 dX4_sortOut_88 rfl (by decide) rfl ?_
              refine lv_iload_n hx hb dX4_sortOut_91 rfl (lv_at hl 2 rfl) ?_
              obtain ⟨g92, hf⟩ := pf_ckI hf
              refine hm_iald hx hb X w 1 dX4_sortOut_92 rfl g92 ?_
              refine lv_aload_n hx hb dX4_sortOut_93 rfl (lv_at hl 0 rfl) ?_
              refine hm_get cb_X4 hx hb hown X w 0 0 fl_X4_11 dX4_sortOut_94 rfl (by decide) rfl ?_
              refine lv_iload_n hx hb dX4_sortOut_97 rfl (lv_at hl 2 rfl) ?_
              refine lv_iconst (v := 1) hx hb dX4_sortOut_98 (by decide) ?_
              refine lv_isub hx hb dX4_sortOut_99 ?_
              obtain ⟨g100, hf⟩ := pf_ckI hf
              refine hm_iald hx hb X w 1 dX4_sortOut_100 rfl g100 ?_
              refine lv_icmp_ne (tgt := 110) hx hb dX4_sortOut_101 (by decide) (fun c101 => ?_) (fun c101 => ?_)
              · have hf := pf_e c101 hf
                exact kJ110 _ _ _ hf w (lv_sub hl [0, 2] rfl)
              · have hf := pf_t c101 hf
                obtain ⟨x23, ex23⟩ : ∃ y : Int32, y = (x9 + 1) := ⟨_, rfl⟩
                have hf := pf_nm ex23 hf
                refine lv_iinc (v := x23) (lv' := [(1, .int x23), (0, .ref h0), (2, .int x10)]) hx hb dX4_sortOut_104 hl (k := 1) rfl (by rw [ex23]; rfl) (by decide) rfl (fun ls hl => ?_)
                refine lv_goto (tgt := 167) hx hb dX4_sortOut_107 (by decide) ?_
                exact kJ167 _ _ _ _ _ _ hf w (lv_sub hl [1, 0, 2] rfl)
      exact klp_X4_sortOut_75 FU _ _ _ _ _ _ _ _ _ hf w (lv_sub hl [2, 1, 0] rfl)
    refine lv_if_le (tgt := 67) hx hb dX4_sortOut_50 (by decide) (fun c50 => ?_) (fun c50 => ?_)
    · have hf := pf_t c50 hf
      refine lv_iconst (v := 0) hx hb dX4_sortOut_67 (by decide) ?_
      exact kJ68 _ _ _ _ hf w (lv_sub hl [0] rfl)
    · have hf := pf_e c50 hf
      refine lv_aload_n hx hb dX4_sortOut_53 rfl (lv_at hl 0 rfl) ?_
      refine hm_get cb_X4 hx hb hown X w 0 0 fl_X4_11 dX4_sortOut_54 rfl (by decide) rfl ?_
      refine lv_aload_n hx hb dX4_sortOut_57 rfl (lv_at hl 0 rfl) ?_
      refine hm_get cb_X4 hx hb hown X w 0 1 fl_X4_15 dX4_sortOut_58 rfl (by decide) rfl ?_
      refine lv_iconst (v := 1) hx hb dX4_sortOut_61 (by decide) ?_
      refine lv_isub hx hb dX4_sortOut_62 ?_
      obtain ⟨g63, hf⟩ := pf_ckI hf
      refine hm_iald hx hb X w 1 dX4_sortOut_63 rfl g63 ?_
      refine lv_goto (tgt := 68) hx hb dX4_sortOut_64 (by decide) ?_
      exact kJ68 _ _ _ _ hf w (lv_sub hl [0] rfl)
  refine lv_if_le (tgt := 41) hx hb dX4_sortOut_29 (by decide) (fun c29 => ?_) (fun c29 => ?_)
  · have hf := pf_t c29 hf
    refine lv_iconst (v := 0) hx hb dX4_sortOut_41 (by decide) ?_
    exact kJ42 _ _ _ _ hf w (lv_sub hl [0] rfl)
  · have hf := pf_e c29 hf
    refine lv_aload_n hx hb dX4_sortOut_32 rfl (lv_at hl 0 rfl) ?_
    refine hm_get cb_X4 hx hb hown X w 0 0 fl_X4_11 dX4_sortOut_33 rfl (by decide) rfl ?_
    refine lv_iconst (v := 0) hx hb dX4_sortOut_36 (by decide) ?_
    obtain ⟨g37, hf⟩ := pf_ckI hf
    refine hm_iald hx hb X w 1 dX4_sortOut_37 rfl g37 ?_
    refine lv_goto (tgt := 42) hx hb dX4_sortOut_38 (by decide) ?_
    exact kJ42 _ _ _ _ hf w (lv_sub hl [0] rfl)
set_option maxHeartbeats 8000000 in
set_option maxRecDepth 100000 in
theorem ct_X4_isWhole (l : Launch) (E : hm_E) (sz : Nat) (h0 : Nat) (h1 : Nat) (r_t : Nat → Nat) (r_p1 : Nat → Nat) (d_p1 : Nat) (t_count t_falls t_offBy t_offAt t_unlike t_most t_mostCome t_least t_greatest t_missing t_firstMissing p1_bits p1_offset p1_band p1_rule p1_noise p1_step p1_draws p1_heat p1_hour p1_seenCount : Int32) (t_entry : Nat → Int32) (p1_off : Nat → Int32) (p1_size : Nat → Int32) (p1_stuck : Nat → Int32) (p1_worth : Nat → Int32) (R : Int32 × (Nat → Int32) × Int32 × Int32 × Int32 × Int32 × Int32 × Int32 × Int32 × Int32 × Int32 × Int32 × Int32) (hf : pf_X4_isWhole t_entry p1_bits p1_size p1_off p1_worth p1_stuck p1_offset p1_step = some R) : hm_Mi l E yX4_isWhole cX4_isWhole 2 .boolean [] (hm_rr 4 97 0 0) [.ref h0, .ref h1] sz [oc4 h0 r_t t_count t_falls t_offBy t_offAt t_unlike t_most t_mostCome t_least t_greatest t_missing t_firstMissing, oc2 h1 r_p1 d_p1 p1_bits p1_offset p1_band p1_rule p1_noise p1_step p1_draws p1_heat p1_hour p1_seenCount, ic E (r_t 0) 4096 t_entry, ic E (r_p1 2) 12 p1_off, ic E (r_p1 1) 12 p1_size, ic E (r_p1 4) 12 p1_stuck, ic E (r_p1 3) 12 p1_worth] R.1 (fun _ => [oc4 h0 r_t (R.2.2.1) (R.2.2.2.1) (R.2.2.2.2.1) (R.2.2.2.2.2.1) (R.2.2.2.2.2.2.1) (R.2.2.2.2.2.2.2.1) (R.2.2.2.2.2.2.2.2.1) (R.2.2.2.2.2.2.2.2.2.1) (R.2.2.2.2.2.2.2.2.2.2.1) (R.2.2.2.2.2.2.2.2.2.2.2.1) (R.2.2.2.2.2.2.2.2.2.2.2.2), oc2 h1 r_p1 d_p1 p1_bits p1_offset p1_band p1_rule p1_noise p1_step p1_draws p1_heat p1_hour p1_seenCount, ic E (r_t 0) 4096 (R.2.1), ic E (r_p1 2) 12 p1_off, ic E (r_p1 1) 12 p1_size, ic E (r_p1 4) 12 p1_stuck, ic E (r_p1 3) 12 p1_worth]) := by
  refine hm_ct_i R (fun u qs => [oc4 h0 r_t (u.2.1) (u.2.2.1) (u.2.2.2.1) (u.2.2.2.2.1) (u.2.2.2.2.2.1) (u.2.2.2.2.2.2.1) (u.2.2.2.2.2.2.2.1) (u.2.2.2.2.2.2.2.2.1) (u.2.2.2.2.2.2.2.2.2.1) (u.2.2.2.2.2.2.2.2.2.2.1) (u.2.2.2.2.2.2.2.2.2.2.2), oc2 h1 r_p1 d_p1 p1_bits p1_offset p1_band p1_rule p1_noise p1_step p1_draws p1_heat p1_hour p1_seenCount, ic E (r_t 0) 4096 (u.1), ic E (r_p1 2) 12 p1_off, ic E (r_p1 1) 12 p1_size, ic E (r_p1 4) 12 p1_stuck, ic E (r_p1 3) 12 p1_worth]) (by decide) (Nat.le_of_ble_eq_true rfl) (Or.inr rfl) ?_
  intro p e s m args below meth c A Q ls H locs hx hb hml hown X hA Y hex w hl hQ
  have hl : lv_has ls 2 [(0, .ref h0), (1, .ref h1)] := hl
  unfold pf_X4_isWhole at hf
  refine lv_aload_n hx hb dX4_isWhole_0 rfl (lv_at hl 0 rfl) ?_
  refine lv_aload_n hx hb dX4_isWhole_1 rfl (lv_at hl 1 rfl) ?_
  refine lv_iconst (v := 0) hx hb dX4_isWhole_2 (by decide) ?_
  refine lv_aload_n hx hb dX4_isWhole_3 rfl (lv_at hl 1 rfl) ?_
  obtain ⟨r1, hc4, hf⟩ := pf_bi_0 hf
  refine hm_aft_i (ws' := fun _ => [oc4 h0 r_t t_count t_falls t_offBy t_offAt t_unlike t_most t_mostCome t_least t_greatest t_missing t_firstMissing, oc2 h1 r_p1 d_p1 p1_bits p1_offset p1_band p1_rule p1_noise p1_step p1_draws p1_heat p1_hour p1_seenCount, ic E (r_t 0) 4096 t_entry, ic E (r_p1 2) 12 p1_off, ic E (r_p1 1) 12 p1_size, ic E (r_p1 4) 12 p1_stuck, ic E (r_p1 3) 12 p1_worth]) (hm_runV (rest := [.int 0, .ref h1, .ref h0]) hx hb hml hown X hA Y w 1 (ci := 2) (T := TX2) (N := 17) rfl rfl mw_X2_allSizes ml_X4_69 dX4_isWhole_4 hm_ac0 [] rfl [1, 4] rfl rfl (ct_X2_allSizes l E H.size h1 r_p1 d_p1 p1_bits p1_offset p1_band p1_rule p1_noise p1_step p1_draws p1_heat p1_hour p1_seenCount p1_size (r1, ()) hc4) rfl hl.1 ⟨⟨rfl, rfl⟩, ⟨Nat.le_of_ble_eq_true rfl, Nat.le_of_ble_eq_true rfl⟩, ⟨Nat.le_of_ble_eq_true rfl, Nat.le_of_ble_eq_true rfl⟩, Nat.le_of_ble_eq_true rfl⟩) hA w [1, 4] [0, 2, 3, 5, 6] [0, 5, 1, 2, 6, 3, 4] rfl rfl (by decide) (fun _ => rfl) (fun _ H locs w => ?_)
  refine lv_aload_n hx hb dX4_isWhole_7 rfl (lv_at hl 1 rfl) ?_
  refine hm_get cb_X2 hx hb hown X w 1 9 fl_X4_55 dX4_isWhole_8 rfl (by decide) rfl ?_
  obtain ⟨f2, x3, x4, x5, x6, hc11, hf⟩ := pf_bv_5 hf
  refine hm_aft_v (ws' := fun _ => [oc4 h0 r_t x3 x4 x5 x6 t_unlike t_most t_mostCome t_least t_greatest t_missing t_firstMissing, oc2 h1 r_p1 d_p1 p1_bits p1_offset p1_band p1_rule p1_noise p1_step p1_draws p1_heat p1_hour p1_seenCount, ic E (r_t 0) 4096 f2, ic E (r_p1 2) 12 p1_off, ic E (r_p1 1) 12 p1_size, ic E (r_p1 4) 12 p1_stuck, ic E (r_p1 3) 12 p1_worth]) (hm_runV (rest := []) hx hb hml hown X hA Y w 0 (ci := 4) (T := TX4) (N := 12) rfl rfl mw_X4_measure ml_X4_73 dX4_isWhole_11 hm_ac0 [.ref h1, .int 0, .int r1, .int p1_step] rfl [0, 1, 2, 3, 4, 5, 6] rfl rfl (ct_X4_measure l E H.size h0 h1 r_t r_p1 d_p1 t_count t_falls t_offBy t_offAt t_unlike t_most t_mostCome t_least t_greatest t_missing t_firstMissing p1_bits p1_offset p1_band p1_rule p1_noise p1_step p1_draws p1_heat p1_hour p1_seenCount t_entry p1_off p1_size p1_stuck p1_worth 0 r1 p1_step (f2, x3, x4, x5, x6) hc11) rfl hl.1 ⟨⟨rfl, rfl⟩, ⟨Nat.le_of_ble_eq_true rfl, Nat.le_of_ble_eq_true rfl⟩, ⟨Nat.le_of_ble_eq_true rfl, Nat.le_of_ble_eq_true rfl⟩, Nat.le_of_ble_eq_true rfl⟩) hA w [0, 1, 2, 3, 4, 5, 6] [] [0, 1, 2, 3, 4, 5, 6] rfl rfl (by decide) (fun _ => rfl) (fun _ H locs w => ?_)
  refine lv_aload_n hx hb dX4_isWhole_14 rfl (lv_at hl 0 rfl) ?_
  obtain ⟨f7, x8, x9, x10, x11, x12, x13, x14, hc15, hf⟩ := pf_bv_8 hf
  refine hm_aft_v (ws' := fun _ => [oc4 h0 r_t x3 x4 x5 x6 x8 x9 x10 x11 x12 x13 x14, oc2 h1 r_p1 d_p1 p1_bits p1_offset p1_band p1_rule p1_noise p1_step p1_draws p1_heat p1_hour p1_seenCount, ic E (r_t 0) 4096 f7, ic E (r_p1 2) 12 p1_off, ic E (r_p1 1) 12 p1_size, ic E (r_p1 4) 12 p1_stuck, ic E (r_p1 3) 12 p1_worth]) (hm_runV (rest := []) hx hb hml hown X hA Y w 0 (ci := 4) (T := TX4) (N := 12) rfl rfl mw_X4_sortOut ml_X4_77 dX4_isWhole_15 hm_ac0 [] rfl [0, 2] rfl rfl (ct_X4_sortOut l E H.size h0 r_t x3 x4 x5 x6 t_unlike t_most t_mostCome t_least t_greatest t_missing t_firstMissing f2 (f7, x8, x9, x10, x11, x12, x13, x14) hc15) rfl hl.1 ⟨⟨rfl, rfl⟩, ⟨Nat.le_of_ble_eq_true rfl, Nat.le_of_ble_eq_true rfl⟩, ⟨Nat.le_of_ble_eq_true rfl, Nat.le_of_ble_eq_true rfl⟩, Nat.le_of_ble_eq_true rfl⟩) hA w [0, 2] [1, 3, 4, 5, 6] [5, 0, 6, 1, 2, 3, 4] rfl rfl (by decide) (fun _ => rfl) (fun _ H locs w => ?_)
  refine lv_aload_n hx hb dX4_isWhole_18 rfl (lv_at hl 0 rfl) ?_
  refine hm_get cb_X4 hx hb hown X w 0 10 fl_X4_43 dX4_isWhole_19 rfl (by decide) rfl ?_
  refine lv_if_ne (tgt := 29) hx hb dX4_isWhole_22 (by decide) (fun c22 => ?_) (fun c22 => ?_)
  · have hf := pf_e c22 hf
    refine lv_iconst (v := 0) hx hb dX4_isWhole_29 (by decide) ?_
    exact hQ _ _ _ _ _ (f7, x3, x4, x5, x6, x8, x9, x10, x11, x12, x13, x14) (fun _ => 0) hf rfl w dX4_isWhole_30
  · have hf := pf_t c22 hf
    refine lv_iconst (v := 1) hx hb dX4_isWhole_25 (by decide) ?_
    refine lv_goto (tgt := 30) hx hb dX4_isWhole_26 (by decide) ?_
    exact hQ _ _ _ _ _ (f7, x3, x4, x5, x6, x8, x9, x10, x11, x12, x13, x14) (fun _ => 0) hf rfl w dX4_isWhole_30
set_option maxHeartbeats 8000000 in
set_option maxRecDepth 100000 in
theorem ct_X4_tell (l : Launch) (E : hm_E) (sz : Nat) (h0 : Nat) (r_t : Nat → Nat) (t_count t_falls t_offBy t_offAt t_unlike t_most t_mostCome t_least t_greatest t_missing t_firstMissing : Int32) (a1 : Int32) (R : Int32 × Unit) (hf : pf_X4_tell a1 t_falls t_offBy t_offAt t_unlike t_most t_mostCome t_least t_greatest t_missing t_firstMissing = some R) : hm_Mi l E yX4_tell cX4_tell 2 .int [] (hm_rr 0 0 0 0) [.ref h0, .int a1] sz [oc4 h0 r_t t_count t_falls t_offBy t_offAt t_unlike t_most t_mostCome t_least t_greatest t_missing t_firstMissing] R.1 (fun _ => [oc4 h0 r_t t_count t_falls t_offBy t_offAt t_unlike t_most t_mostCome t_least t_greatest t_missing t_firstMissing]) := by
  refine hm_ct_i R (fun u qs => [oc4 h0 r_t t_count t_falls t_offBy t_offAt t_unlike t_most t_mostCome t_least t_greatest t_missing t_firstMissing]) (by decide) (Nat.le_of_ble_eq_true rfl) (Or.inl rfl) ?_
  intro p e s m args below meth c A Q ls H locs hx hb hml hown X hA Y hex w hl hQ
  have hl : lv_has ls 2 [(0, .ref h0), (1, .int a1)] := hl
  unfold pf_X4_tell at hf
  refine lv_iload_n hx hb dX4_tell_0 rfl (lv_at hl 1 rfl) ?_
  by_cases c1_0 : a1 = 0
  · have hf := pf_t c1_0 hf
    refine lv_tableIn (off := 51) (tgt := 52) hx hb dX4_tell_1 (by rw [c1_0]; decide) (by rw [c1_0]; decide) (by rw [c1_0]; rfl) (by decide) ?_
    refine lv_aload_n hx hb dX4_tell_52 rfl (lv_at hl 0 rfl) ?_
    refine hm_get cb_X4 hx hb hown X w 0 5 fl_X4_28 dX4_tell_53 rfl (by decide) rfl ?_
    exact hQ _ _ _ _ _ () (fun _ => 0) hf rfl w dX4_tell_56
  · have hf := pf_e c1_0 hf
    by_cases c1_1 : a1 = 1
    · have hf := pf_t c1_1 hf
      refine lv_tableIn (off := 56) (tgt := 57) hx hb dX4_tell_1 (by rw [c1_1]; decide) (by rw [c1_1]; decide) (by rw [c1_1]; rfl) (by decide) ?_
      refine lv_aload_n hx hb dX4_tell_57 rfl (lv_at hl 0 rfl) ?_
      refine hm_get cb_X4 hx hb hown X w 0 10 fl_X4_43 dX4_tell_58 rfl (by decide) rfl ?_
      exact hQ _ _ _ _ _ () (fun _ => 0) hf rfl w dX4_tell_61
    · have hf := pf_e c1_1 hf
      by_cases c1_2 : a1 = 2
      · have hf := pf_t c1_2 hf
        refine lv_tableIn (off := 61) (tgt := 62) hx hb dX4_tell_1 (by rw [c1_2]; decide) (by rw [c1_2]; decide) (by rw [c1_2]; rfl) (by decide) ?_
        refine lv_aload_n hx hb dX4_tell_62 rfl (lv_at hl 0 rfl) ?_
        refine hm_get cb_X4 hx hb hown X w 0 2 fl_X4_19 dX4_tell_63 rfl (by decide) rfl ?_
        exact hQ _ _ _ _ _ () (fun _ => 0) hf rfl w dX4_tell_66
      · have hf := pf_e c1_2 hf
        by_cases c1_3 : a1 = 3
        · have hf := pf_t c1_3 hf
          refine lv_tableIn (off := 66) (tgt := 67) hx hb dX4_tell_1 (by rw [c1_3]; decide) (by rw [c1_3]; decide) (by rw [c1_3]; rfl) (by decide) ?_
          refine lv_aload_n hx hb dX4_tell_67 rfl (lv_at hl 0 rfl) ?_
          refine hm_get cb_X4 hx hb hown X w 0 3 fl_X4_22 dX4_tell_68 rfl (by decide) rfl ?_
          exact hQ _ _ _ _ _ () (fun _ => 0) hf rfl w dX4_tell_71
        · have hf := pf_e c1_3 hf
          by_cases c1_4 : a1 = 4
          · have hf := pf_t c1_4 hf
            refine lv_tableIn (off := 71) (tgt := 72) hx hb dX4_tell_1 (by rw [c1_4]; decide) (by rw [c1_4]; decide) (by rw [c1_4]; rfl) (by decide) ?_
            refine lv_aload_n hx hb dX4_tell_72 rfl (lv_at hl 0 rfl) ?_
            refine hm_get cb_X4 hx hb hown X w 0 4 fl_X4_25 dX4_tell_73 rfl (by decide) rfl ?_
            exact hQ _ _ _ _ _ () (fun _ => 0) hf rfl w dX4_tell_76
          · have hf := pf_e c1_4 hf
            by_cases c1_5 : a1 = 5
            · have hf := pf_t c1_5 hf
              refine lv_tableIn (off := 76) (tgt := 77) hx hb dX4_tell_1 (by rw [c1_5]; decide) (by rw [c1_5]; decide) (by rw [c1_5]; rfl) (by decide) ?_
              refine lv_aload_n hx hb dX4_tell_77 rfl (lv_at hl 0 rfl) ?_
              refine hm_get cb_X4 hx hb hown X w 0 7 fl_X4_34 dX4_tell_78 rfl (by decide) rfl ?_
              exact hQ _ _ _ _ _ () (fun _ => 0) hf rfl w dX4_tell_81
            · have hf := pf_e c1_5 hf
              by_cases c1_6 : a1 = 6
              · have hf := pf_t c1_6 hf
                refine lv_tableIn (off := 81) (tgt := 82) hx hb dX4_tell_1 (by rw [c1_6]; decide) (by rw [c1_6]; decide) (by rw [c1_6]; rfl) (by decide) ?_
                refine lv_aload_n hx hb dX4_tell_82 rfl (lv_at hl 0 rfl) ?_
                refine hm_get cb_X4 hx hb hown X w 0 6 fl_X4_31 dX4_tell_83 rfl (by decide) rfl ?_
                exact hQ _ _ _ _ _ () (fun _ => 0) hf rfl w dX4_tell_86
              · have hf := pf_e c1_6 hf
                by_cases c1_7 : a1 = 7
                · have hf := pf_t c1_7 hf
                  refine lv_tableIn (off := 86) (tgt := 87) hx hb dX4_tell_1 (by rw [c1_7]; decide) (by rw [c1_7]; decide) (by rw [c1_7]; rfl) (by decide) ?_
                  refine lv_aload_n hx hb dX4_tell_87 rfl (lv_at hl 0 rfl) ?_
                  refine hm_get cb_X4 hx hb hown X w 0 8 fl_X4_37 dX4_tell_88 rfl (by decide) rfl ?_
                  exact hQ _ _ _ _ _ () (fun _ => 0) hf rfl w dX4_tell_91
                · have hf := pf_e c1_7 hf
                  by_cases c1_8 : a1 = 8
                  · have hf := pf_t c1_8 hf
                    refine lv_tableIn (off := 91) (tgt := 92) hx hb dX4_tell_1 (by rw [c1_8]; decide) (by rw [c1_8]; decide) (by rw [c1_8]; rfl) (by decide) ?_
                    refine lv_aload_n hx hb dX4_tell_92 rfl (lv_at hl 0 rfl) ?_
                    refine hm_get cb_X4 hx hb hown X w 0 9 fl_X4_40 dX4_tell_93 rfl (by decide) rfl ?_
                    exact hQ _ _ _ _ _ () (fun _ => 0) hf rfl w dX4_tell_96
                  · have hf := pf_e c1_8 hf
                    refine lv_tableOut (tgt := 97) hx hb dX4_tell_1 (hm_out (fun k h1 h2 => by have u := And.intro h1 h2; have v0 := hm_ti c1_0; rw [show (0 : Int32).toInt = 0 from by decide] at v0; have v1 := hm_ti c1_1; rw [show (1 : Int32).toInt = 1 from by decide] at v1; have v2 := hm_ti c1_2; rw [show (2 : Int32).toInt = 2 from by decide] at v2; have v3 := hm_ti c1_3; rw [show (3 : Int32).toInt = 3 from by decide] at v3; have v4 := hm_ti c1_4; rw [show (4 : Int32).toInt = 4 from by decide] at v4; have v5 := hm_ti c1_5; rw [show (5 : Int32).toInt = 5 from by decide] at v5; have v6 := hm_ti c1_6; rw [show (6 : Int32).toInt = 6 from by decide] at v6; have v7 := hm_ti c1_7; rw [show (7 : Int32).toInt = 7 from by decide] at v7; have v8 := hm_ti c1_8; rw [show (8 : Int32).toInt = 8 from by decide] at v8; omega)) (by decide) ?_
                    refine lv_aload_n hx hb dX4_tell_97 rfl (lv_at hl 0 rfl) ?_
                    refine hm_get cb_X4 hx hb hown X w 0 11 fl_X4_46 dX4_tell_98 rfl (by decide) rfl ?_
                    exact hQ _ _ _ _ _ () (fun _ => 0) hf rfl w dX4_tell_101
set_option maxHeartbeats 8000000 in
set_option maxRecDepth 100000 in
theorem ct_X6_readBit (l : Launch) (E : hm_E) (sz : Nat) (h0 : Nat) (h1 : Nat) (r_t : Nat → Nat) (r_p1 : Nat → Nat) (d_p1 : Nat) (t_count t_at t_fault p1_bits p1_offset p1_band p1_rule p1_noise p1_step p1_draws p1_heat p1_hour p1_seenCount : Int32) (t_bytes : Nat → Int32) (p1_off : Nat → Int32) (p1_size : Nat → Int32) (p1_stuck : Nat → Int32) (p1_worth : Nat → Int32) (R : Int32 × Int32 × Int32 × (Nat → Int32) × (Nat → Int32) × (Nat → Int32) × (Nat → Int32)) (hf : pf_X6_readBit t_bytes t_count t_at t_fault p1_bits p1_size p1_off p1_worth p1_stuck = some R) : hm_Mv l E yX6_readBit cX6_readBit 6 [] (hm_rr 4 84 0 0) [.ref h0, .ref h1] sz [oc5 h0 r_t t_count t_at t_fault, oc2 h1 r_p1 d_p1 p1_bits p1_offset p1_band p1_rule p1_noise p1_step p1_draws p1_heat p1_hour p1_seenCount, ic E (r_t 0) 400 t_bytes, ic E (r_p1 2) 12 p1_off, ic E (r_p1 1) 12 p1_size, ic E (r_p1 4) 12 p1_stuck, ic E (r_p1 3) 12 p1_worth] (fun _ => [oc5 h0 r_t t_count (R.1) (R.2.1), oc2 h1 r_p1 d_p1 (R.2.2.1) p1_offset p1_band p1_rule p1_noise p1_step p1_draws p1_heat p1_hour p1_seenCount, ic E (r_t 0) 400 t_bytes, ic E (r_p1 2) 12 (R.2.2.2.2.1), ic E (r_p1 1) 12 (R.2.2.2.1), ic E (r_p1 4) 12 (R.2.2.2.2.2.2), ic E (r_p1 3) 12 (R.2.2.2.2.2.1)]) := by
  refine hm_ct_v R (fun u _ => [oc5 h0 r_t t_count (u.1) (u.2.1), oc2 h1 r_p1 d_p1 (u.2.2.1) p1_offset p1_band p1_rule p1_noise p1_step p1_draws p1_heat p1_hour p1_seenCount, ic E (r_t 0) 400 t_bytes, ic E (r_p1 2) 12 (u.2.2.2.2.1), ic E (r_p1 1) 12 (u.2.2.2.1), ic E (r_p1 4) 12 (u.2.2.2.2.2.2), ic E (r_p1 3) 12 (u.2.2.2.2.2.1)]) (by decide) (Nat.le_of_ble_eq_true rfl) ?_
  intro p e s m args below meth c A Q ls H locs hx hb hml hown X hA Y hex hin w hl hQ
  have hl : lv_has ls 6 [(0, .ref h0), (1, .ref h1)] := hl
  unfold pf_X6_readBit at hf
  refine lv_aload_n hx hb dX6_readBit_0 rfl (lv_at hl 0 rfl) ?_
  refine hm_get cb_X5 hx hb hown X w 0 2 fl_X6_38 dX6_readBit_1 rfl (by decide) rfl ?_
  refine lv_istore_n (lv' := [(2, .int t_at), (0, .ref h0), (1, .ref h1)]) hx hb dX6_readBit_4 rfl hl (by decide) rfl (fun ls hl => ?_)
  refine lv_aload_n hx hb dX6_readBit_5 rfl (lv_at hl 2 rfl) ?_
  refine hm_get cb_X2 hx hb hown X w 1 0 fl_X6_32 dX6_readBit_6 rfl (by decide) rfl ?_
  refine lv_bipush (v := 12) hx hb dX6_readBit_9 (by decide) ?_
  refine lv_icmp_lt (tgt := 20) hx hb dX6_readBit_11 (by decide) (fun c11 => ?_) (fun c11 => ?_)
  · have hf := pf_t c11 hf
    refine lv_aload_n hx hb dX6_readBit_20 rfl (lv_at hl 1 rfl) ?_
    refine lv_dup hx hb dX6_readBit_21 rfl ?_
    refine hm_get cb_X5 hx hb hown X w 0 2 fl_X6_38 dX6_readBit_22 rfl (by decide) rfl ?_
    refine lv_iconst (v := 1) hx hb dX6_readBit_25 (by decide) ?_
    refine lv_iadd hx hb dX6_readBit_26 ?_
    refine lv_topi (fun x1 ex1 => ?_)
    have hf := pf_nm ex1 hf
    refine hm_put (ws' := [oc5 h0 r_t t_count x1 t_fault, oc2 h1 r_p1 d_p1 p1_bits p1_offset p1_band p1_rule p1_noise p1_step p1_draws p1_heat p1_hour p1_seenCount, ic E (r_t 0) 400 t_bytes, ic E (r_p1 2) 12 p1_off, ic E (r_p1 1) 12 p1_size, ic E (r_p1 4) 12 p1_stuck, ic E (r_p1 3) 12 p1_worth]) cb_X5 hx hb hown X w 0 2 fl_X6_38 dX6_readBit_27 rfl (by decide) (Nat.le_of_ble_eq_true rfl) rfl rfl rfl rfl (fun H locs w => ?_)
    refine lv_aload_n hx hb dX6_readBit_30 rfl (lv_at hl 1 rfl) ?_
    refine hm_get cb_X5 hx hb hown X w 0 2 fl_X6_38 dX6_readBit_31 rfl (by decide) rfl ?_
    refine lv_istore_n (lv' := [(3, .int x1), (2, .int t_at), (0, .ref h0), (1, .ref h1)]) hx hb dX6_readBit_34 rfl hl (by decide) rfl (fun ls hl => ?_)
    refine lv_aload_n hx hb dX6_readBit_35 rfl (lv_at hl 2 rfl) ?_
    obtain ⟨r2, x3, x4, hc36, hf⟩ := pf_bi_2 hf
    refine hm_aft_i (ws' := fun _ => [oc5 h0 r_t t_count x3 x4, oc2 h1 r_p1 d_p1 p1_bits p1_offset p1_band p1_rule p1_noise p1_step p1_draws p1_heat p1_hour p1_seenCount, ic E (r_t 0) 400 t_bytes, ic E (r_p1 2) 12 p1_off, ic E (r_p1 1) 12 p1_size, ic E (r_p1 4) 12 p1_stuck, ic E (r_p1 3) 12 p1_worth]) (hm_runV (rest := []) hx hb hml hown X hA Y w 0 (ci := 5) (T := TX5) (N := 4) rfl rfl mw_X5_number ml_X6_45 dX6_readBit_36 hm_ac0 [] rfl [0, 2] rfl rfl (ct_X5_number l E H.size h0 r_t t_count x1 t_fault t_bytes (r2, x3, x4) hc36) rfl hl.1 ⟨⟨rfl, rfl⟩, ⟨Nat.le_of_ble_eq_true rfl, Nat.le_of_ble_eq_true rfl⟩, ⟨Nat.le_of_ble_eq_true rfl, Nat.le_of_ble_eq_true rfl⟩, Nat.le_of_ble_eq_true rfl⟩) hA w [0, 2] [1, 3, 4, 5, 6] [5, 0, 6, 1, 2, 3, 4] rfl rfl (by decide) (fun _ => rfl) (fun _ H locs w => ?_)
    refine lv_istore (lv' := [(4, .int r2), (3, .int x1), (2, .int t_at), (0, .ref h0), (1, .ref h1)]) hx hb dX6_readBit_39 hl (by decide) rfl (fun ls hl => ?_)
    refine lv_aload_n hx hb dX6_readBit_41 rfl (lv_at hl 3 rfl) ?_
    refine lv_iload hx hb dX6_readBit_42 (lv_at hl 0 rfl) ?_
    refine lv_iconst (v := 1) hx hb dX6_readBit_44 (by decide) ?_
    obtain ⟨J53, hJ53, hf⟩ := pf_jn hf
    have kJ53 : ∀ (x5 : Int32) (H : Heap) (locs : List Loc) (ls : Array Slot), J53 x5 = some R → hm_W E A s.heap [oc5 h0 r_t t_count x3 x4, oc2 h1 r_p1 d_p1 p1_bits p1_offset p1_band p1_rule p1_noise p1_step p1_draws p1_heat p1_hour p1_seenCount, ic E (r_t 0) 400 t_bytes, ic E (r_p1 2) 12 p1_off, ic E (r_p1 1) 12 p1_size, ic E (r_p1 4) 12 p1_stuck, ic E (r_p1 3) 12 p1_worth] H locs → lv_has ls 6 [(0, .ref h0), (1, .ref h1), (2, .int t_at), (3, .int x1), (4, .int r2)] → W p l e (hm_rr 4 84 0 0) s m args below meth c H locs 0 0 Q (F0 m 53 ls [.int x5, .ref h0]) := by
      intro x5 H locs ls hf w hl
      have hf := pf_j1 hJ53 hf
      refine lv_iload_n hx hb dX6_readBit_53 rfl (lv_at hl 3 rfl) ?_
      obtain ⟨r6, x7, hc54, hf⟩ := pf_bi_1 hf
      refine hm_aft_i (ws' := fun _ => [oc5 h0 r_t t_count x3 x7, oc2 h1 r_p1 d_p1 p1_bits p1_offset p1_band p1_rule p1_noise p1_step p1_draws p1_heat p1_hour p1_seenCount, ic E (r_t 0) 400 t_bytes, ic E (r_p1 2) 12 p1_off, ic E (r_p1 1) 12 p1_size, ic E (r_p1 4) 12 p1_stuck, ic E (r_p1 3) 12 p1_worth]) (hm_runV (rest := []) hx hb hml hown X hA Y w 0 (ci := 5) (T := TX5) (N := 4) rfl rfl mw_X5_holds ml_X6_48 dX6_readBit_54 hm_ac0 [.int x5, .int x1] rfl [0] rfl rfl (ct_X5_holds l E H.size h0 r_t t_count x3 x4 x5 x1 (r6, x7) hc54) rfl hl.1 ⟨⟨rfl, rfl⟩, ⟨Nat.le_of_ble_eq_true rfl, Nat.le_of_ble_eq_true rfl⟩, ⟨Nat.le_of_ble_eq_true rfl, Nat.le_of_ble_eq_true rfl⟩, Nat.le_of_ble_eq_true rfl⟩) hA w [0] [1, 2, 3, 4, 5, 6] [6, 0, 1, 2, 3, 4, 5] rfl rfl (by decide) (fun _ => rfl) (fun _ H locs w => ?_)
      refine lv_if_ne (tgt := 61) hx hb dX6_readBit_57 (by decide) (fun c57 => ?_) (fun c57 => ?_)
      · have hf := pf_e c57 hf
        refine lv_iconst (v := 0) hx hb dX6_readBit_61 (by decide) ?_
        refine lv_istore (lv' := [(5, .int 0), (0, .ref h0), (1, .ref h1), (2, .int t_at), (3, .int x1), (4, .int r2)]) hx hb dX6_readBit_62 hl (by decide) rfl (fun ls hl => ?_)
        refine lv_aload_n hx hb dX6_readBit_64 rfl (lv_at hl 1 rfl) ?_
        refine lv_bipush (v := 58) hx hb dX6_readBit_65 (by decide) ?_
        obtain ⟨r8, x9, hc67, hf⟩ := pf_bi_1 hf
        refine hm_aft_i (ws' := fun _ => [oc5 h0 r_t t_count x9 x7, oc2 h1 r_p1 d_p1 p1_bits p1_offset p1_band p1_rule p1_noise p1_step p1_draws p1_heat p1_hour p1_seenCount, ic E (r_t 0) 400 t_bytes, ic E (r_p1 2) 12 p1_off, ic E (r_p1 1) 12 p1_size, ic E (r_p1 4) 12 p1_stuck, ic E (r_p1 3) 12 p1_worth]) (hm_runV (rest := []) hx hb hml hown X hA Y w 0 (ci := 5) (T := TX5) (N := 4) rfl rfl mw_X5_takes ml_X6_52 dX6_readBit_67 hm_ac0 [.int 58] rfl [0, 2] rfl rfl (ct_X5_takes l E H.size h0 r_t t_count x3 x7 t_bytes 58 (r8, x9) hc67) rfl hl.1 ⟨⟨rfl, rfl⟩, ⟨Nat.le_of_ble_eq_true rfl, Nat.le_of_ble_eq_true rfl⟩, ⟨Nat.le_of_ble_eq_true rfl, Nat.le_of_ble_eq_true rfl⟩, Nat.le_of_ble_eq_true rfl⟩) hA w [0, 2] [1, 3, 4, 5, 6] [5, 0, 6, 1, 2, 3, 4] rfl rfl (by decide) (fun _ => rfl) (fun _ H locs w => ?_)
        obtain ⟨J99, hJ99, hf⟩ := pf_jn hf
        have kJ99 : ∀ (x10 : Int32) (x11 : Int32) (x12 : Int32) (H : Heap) (locs : List Loc) (ls : Array Slot), J99 x10 x11 x12 = some R → hm_W E A s.heap [oc5 h0 r_t t_count x11 x12, oc2 h1 r_p1 d_p1 p1_bits p1_offset p1_band p1_rule p1_noise p1_step p1_draws p1_heat p1_hour p1_seenCount, ic E (r_t 0) 400 t_bytes, ic E (r_p1 2) 12 p1_off, ic E (r_p1 1) 12 p1_size, ic E (r_p1 4) 12 p1_stuck, ic E (r_p1 3) 12 p1_worth] H locs → lv_has ls 6 [(0, .ref h0), (1, .ref h1), (2, .int t_at), (4, .int r2), (5, .int x10)] → W p l e (hm_rr 4 84 0 0) s m args below meth c H locs 0 0 Q (F0 m 99 ls []) := by
          intro x10 x11 x12 H locs ls hf w hl
          have hf := pf_j3 hJ99 hf
          refine lv_aload_n hx hb dX6_readBit_99 rfl (lv_at hl 0 rfl) ?_
          refine lv_bipush (v := 59) hx hb dX6_readBit_100 (by decide) ?_
          obtain ⟨x13, x14, hc102, hf⟩ := pf_bv_2 hf
          refine hm_aft_v (ws' := fun _ => [oc5 h0 r_t t_count x13 x14, oc2 h1 r_p1 d_p1 p1_bits p1_offset p1_band p1_rule p1_noise p1_step p1_draws p1_heat p1_hour p1_seenCount, ic E (r_t 0) 400 t_bytes, ic E (r_p1 2) 12 p1_off, ic E (r_p1 1) 12 p1_size, ic E (r_p1 4) 12 p1_stuck, ic E (r_p1 3) 12 p1_worth]) (hm_runV (rest := []) hx hb hml hown X hA Y w 0 (ci := 5) (T := TX5) (N := 4) rfl rfl mw_X5_needs ml_X6_63 dX6_readBit_102 hm_ac0 [.int 59] rfl [0, 2] rfl rfl (ct_X5_needs l E H.size h0 r_t t_count x11 x12 t_bytes 59 (x13, x14) hc102) rfl hl.1 ⟨⟨rfl, rfl⟩, ⟨Nat.le_of_ble_eq_true rfl, Nat.le_of_ble_eq_true rfl⟩, ⟨Nat.le_of_ble_eq_true rfl, Nat.le_of_ble_eq_true rfl⟩, Nat.le_of_ble_eq_true rfl⟩) hA w [0, 2] [1, 3, 4, 5, 6] [5, 0, 6, 1, 2, 3, 4] rfl rfl (by decide) (fun _ => rfl) (fun _ H locs w => ?_)
          refine lv_aload_n hx hb dX6_readBit_105 rfl (lv_at hl 0 rfl) ?_
          refine lv_iload hx hb dX6_readBit_106 (lv_at hl 3 rfl) ?_
          refine lv_iload hx hb dX6_readBit_108 (lv_at hl 4 rfl) ?_
          refine lv_iadd hx hb dX6_readBit_110 ?_
          refine lv_iconst (v := 1) hx hb dX6_readBit_111 (by decide) ?_
          obtain ⟨J120, hJ120, hf⟩ := pf_jn hf
          have kJ120 : ∀ (x15 : Int32) (H : Heap) (locs : List Loc) (ls : Array Slot), J120 x15 = some R → hm_W E A s.heap [oc5 h0 r_t t_count x13 x14, oc2 h1 r_p1 d_p1 p1_bits p1_offset p1_band p1_rule p1_noise p1_step p1_draws p1_heat p1_hour p1_seenCount, ic E (r_t 0) 400 t_bytes, ic E (r_p1 2) 12 p1_off, ic E (r_p1 1) 12 p1_size, ic E (r_p1 4) 12 p1_stuck, ic E (r_p1 3) 12 p1_worth] H locs → lv_has ls 6 [(1, .ref h1), (2, .int t_at), (4, .int r2), (5, .int x10)] → W p l e (hm_rr 4 84 0 0) s m args below meth c H locs 0 0 Q (F0 m 120 ls [.int x15, .ref h0]) := by
            intro x15 H locs ls hf w hl
            have hf := pf_j1 hJ120 hf
            refine lv_iload_n hx hb dX6_readBit_120 rfl (lv_at hl 1 rfl) ?_
            obtain ⟨r16, x17, hc121, hf⟩ := pf_bi_1 hf
            refine hm_aft_i (ws' := fun _ => [oc5 h0 r_t t_count x13 x17, oc2 h1 r_p1 d_p1 p1_bits p1_offset p1_band p1_rule p1_noise p1_step p1_draws p1_heat p1_hour p1_seenCount, ic E (r_t 0) 400 t_bytes, ic E (r_p1 2) 12 p1_off, ic E (r_p1 1) 12 p1_size, ic E (r_p1 4) 12 p1_stuck, ic E (r_p1 3) 12 p1_worth]) (hm_runV (rest := []) hx hb hml hown X hA Y w 0 (ci := 5) (T := TX5) (N := 4) rfl rfl mw_X5_holds ml_X6_48 dX6_readBit_121 hm_ac0 [.int x15, .int t_at] rfl [0] rfl rfl (ct_X5_holds l E H.size h0 r_t t_count x13 x14 x15 t_at (r16, x17) hc121) rfl hl.1 ⟨⟨rfl, rfl⟩, ⟨Nat.le_of_ble_eq_true rfl, Nat.le_of_ble_eq_true rfl⟩, ⟨Nat.le_of_ble_eq_true rfl, Nat.le_of_ble_eq_true rfl⟩, Nat.le_of_ble_eq_true rfl⟩) hA w [0] [1, 2, 3, 4, 5, 6] [6, 0, 1, 2, 3, 4, 5] rfl rfl (by decide) (fun _ => rfl) (fun _ H locs w => ?_)
            refine lv_if_eq (tgt := 135) hx hb dX6_readBit_124 (by decide) (fun c124 => ?_) (fun c124 => ?_)
            · have hf := pf_t c124 hf
              exact hQ _ _ _ _ (x13, x17, p1_bits, p1_size, p1_off, p1_worth, p1_stuck) (fun _ => 0) hf w dX6_readBit_135
            · have hf := pf_e c124 hf
              refine lv_aload_n hx hb dX6_readBit_127 rfl (lv_at hl 0 rfl) ?_
              refine lv_iload hx hb dX6_readBit_128 (lv_at hl 2 rfl) ?_
              refine lv_iload hx hb dX6_readBit_130 (lv_at hl 3 rfl) ?_
              obtain ⟨x18, f19, f20, f21, f22, hc132, hf⟩ := pf_bv_5 hf
              refine hm_aft_v (ws' := fun _ => [oc5 h0 r_t t_count x13 x17, oc2 h1 r_p1 d_p1 x18 p1_offset p1_band p1_rule p1_noise p1_step p1_draws p1_heat p1_hour p1_seenCount, ic E (r_t 0) 400 t_bytes, ic E (r_p1 2) 12 f20, ic E (r_p1 1) 12 f19, ic E (r_p1 4) 12 f22, ic E (r_p1 3) 12 f21]) (hm_runV (rest := []) hx hb hml hown X hA Y w 1 (ci := 2) (T := TX2) (N := 17) rfl rfl mw_X2_addBit ml_X6_66 dX6_readBit_132 hm_ac0 [.int r2, .int x10] rfl [1, 3, 4, 5, 6] rfl rfl (ct_X2_addBit l E H.size h1 r_p1 d_p1 p1_bits p1_offset p1_band p1_rule p1_noise p1_step p1_draws p1_heat p1_hour p1_seenCount p1_off p1_size p1_stuck p1_worth r2 x10 (x18, f19, f20, f21, f22) hc132) rfl hl.1 ⟨⟨rfl, rfl⟩, ⟨Nat.le_of_ble_eq_true rfl, Nat.le_of_ble_eq_true rfl⟩, ⟨Nat.le_of_ble_eq_true rfl, Nat.le_of_ble_eq_true rfl⟩, Nat.le_of_ble_eq_true rfl⟩) hA w [1, 3, 4, 5, 6] [0, 2] [0, 2, 1, 3, 4, 5, 6] rfl rfl (by decide) (fun _ => rfl) (fun _ H locs w => ?_)
              exact hQ _ _ _ _ (x13, x17, x18, f19, f20, f21, f22) (fun _ => 0) hf w dX6_readBit_135
          refine lv_icmp_lt (tgt := 119) hx hb dX6_readBit_112 (by decide) (fun c112 => ?_) (fun c112 => ?_)
          · have hf := pf_t c112 hf
            refine lv_iconst (v := 0) hx hb dX6_readBit_119 (by decide) ?_
            exact kJ120 _ _ _ _ hf w (lv_sub hl [1, 2, 3, 4] rfl)
          · have hf := pf_e c112 hf
            refine lv_iconst (v := 1) hx hb dX6_readBit_115 (by decide) ?_
            refine lv_goto (tgt := 120) hx hb dX6_readBit_116 (by decide) ?_
            exact kJ120 _ _ _ _ hf w (lv_sub hl [1, 2, 3, 4] rfl)
        refine lv_if_eq (tgt := 99) hx hb dX6_readBit_70 (by decide) (fun c70 => ?_) (fun c70 => ?_)
        · have hf := pf_t c70 hf
          exact kJ99 _ _ _ _ _ _ hf w (lv_sub hl [1, 2, 3, 5, 0] rfl)
        · have hf := pf_e c70 hf
          refine lv_aload_n hx hb dX6_readBit_73 rfl (lv_at hl 1 rfl) ?_
          refine hm_get cb_X5 hx hb hown X w 0 2 fl_X6_38 dX6_readBit_74 rfl (by decide) rfl ?_
          refine lv_istore_n (lv' := [(3, .int x9), (5, .int 0), (0, .ref h0), (1, .ref h1), (2, .int t_at), (4, .int r2)]) hx hb dX6_readBit_77 rfl hl (by decide) rfl (fun ls hl => ?_)
          refine lv_aload_n hx hb dX6_readBit_78 rfl (lv_at hl 2 rfl) ?_
          obtain ⟨r23, x24, x25, hc79, hf⟩ := pf_bi_2 hf
          refine hm_aft_i (ws' := fun _ => [oc5 h0 r_t t_count x24 x25, oc2 h1 r_p1 d_p1 p1_bits p1_offset p1_band p1_rule p1_noise p1_step p1_draws p1_heat p1_hour p1_seenCount, ic E (r_t 0) 400 t_bytes, ic E (r_p1 2) 12 p1_off, ic E (r_p1 1) 12 p1_size, ic E (r_p1 4) 12 p1_stuck, ic E (r_p1 3) 12 p1_worth]) (hm_runV (rest := []) hx hb hml hown X hA Y w 0 (ci := 5) (T := TX5) (N := 4) rfl rfl mw_X5_signedNumber ml_X6_56 dX6_readBit_79 hm_ac0 [] rfl [0, 2] rfl rfl (ct_X5_signedNumber l E H.size h0 r_t t_count x9 x7 t_bytes (r23, x24, x25) hc79) rfl hl.1 ⟨⟨rfl, rfl⟩, ⟨Nat.le_of_ble_eq_true rfl, Nat.le_of_ble_eq_true rfl⟩, ⟨Nat.le_of_ble_eq_true rfl, Nat.le_of_ble_eq_true rfl⟩, Nat.le_of_ble_eq_true rfl⟩) hA w [0, 2] [1, 3, 4, 5, 6] [5, 0, 6, 1, 2, 3, 4] rfl rfl (by decide) (fun _ => rfl) (fun _ H locs w => ?_)
          refine lv_istore (lv' := [(5, .int r23), (3, .int x9), (0, .ref h0), (1, .ref h1), (2, .int t_at), (4, .int r2)]) hx hb dX6_readBit_82 hl (by decide) rfl (fun ls hl => ?_)
          refine lv_aload_n hx hb dX6_readBit_84 rfl (lv_at hl 2 rfl) ?_
          refine lv_iload hx hb dX6_readBit_85 (lv_at hl 0 rfl) ?_
          refine lv_bipush (v := (-99)) hx hb dX6_readBit_87 (by decide) ?_
          refine lv_bipush (v := 99) hx hb dX6_readBit_89 (by decide) ?_
          obtain ⟨r26, hc91, hf⟩ := pf_bi_0 hf
          refine hm_aft_i (ws' := fun _ => [oc5 h0 r_t t_count x24 x25, oc2 h1 r_p1 d_p1 p1_bits p1_offset p1_band p1_rule p1_noise p1_step p1_draws p1_heat p1_hour p1_seenCount, ic E (r_t 0) 400 t_bytes, ic E (r_p1 2) 12 p1_off, ic E (r_p1 1) 12 p1_size, ic E (r_p1 4) 12 p1_stuck, ic E (r_p1 3) 12 p1_worth]) (hm_runSN (rest := [.ref h0]) hx hb hml hown X hA Y w mw_X7_within ml_X6_59 dX6_readBit_91 hm_ac0 [.int r23, .int (-99), .int 99] rfl [] rfl rfl (ct_X7_within l E H.size r23 (-99) 99 (r26, ()) hc91) rfl hl.1 ⟨⟨rfl, rfl⟩, ⟨Nat.le_of_ble_eq_true rfl, Nat.le_of_ble_eq_true rfl⟩, ⟨Nat.le_of_ble_eq_true rfl, Nat.le_of_ble_eq_true rfl⟩, Nat.le_of_ble_eq_true rfl⟩) hA w [] [0, 1, 2, 3, 4, 5, 6] [0, 1, 2, 3, 4, 5, 6] rfl rfl (by decide) (fun _ => rfl) (fun _ H locs w => ?_)
          refine lv_iload_n hx hb dX6_readBit_94 rfl (lv_at hl 1 rfl) ?_
          obtain ⟨r27, x28, hc95, hf⟩ := pf_bi_1 hf
          refine hm_aft_i (ws' := fun _ => [oc5 h0 r_t t_count x24 x28, oc2 h1 r_p1 d_p1 p1_bits p1_offset p1_band p1_rule p1_noise p1_step p1_draws p1_heat p1_hour p1_seenCount, ic E (r_t 0) 400 t_bytes, ic E (r_p1 2) 12 p1_off, ic E (r_p1 1) 12 p1_size, ic E (r_p1 4) 12 p1_stuck, ic E (r_p1 3) 12 p1_worth]) (hm_runV (rest := []) hx hb hml hown X hA Y w 0 (ci := 5) (T := TX5) (N := 4) rfl rfl mw_X5_holds ml_X6_48 dX6_readBit_95 hm_ac0 [.int r26, .int x9] rfl [0] rfl rfl (ct_X5_holds l E H.size h0 r_t t_count x24 x25 r26 x9 (r27, x28) hc95) rfl hl.1 ⟨⟨rfl, rfl⟩, ⟨Nat.le_of_ble_eq_true rfl, Nat.le_of_ble_eq_true rfl⟩, ⟨Nat.le_of_ble_eq_true rfl, Nat.le_of_ble_eq_true rfl⟩, Nat.le_of_ble_eq_true rfl⟩) hA w [0] [1, 2, 3, 4, 5, 6] [6, 0, 1, 2, 3, 4, 5] rfl rfl (by decide) (fun _ => rfl) (fun _ H locs w => ?_)
          refine lv_pop hx hb dX6_readBit_98 rfl ?_
          exact kJ99 _ _ _ _ _ _ hf w (lv_sub hl [2, 3, 4, 5, 0] rfl)
      · have hf := pf_t c57 hf
        exact hQ _ _ _ _ (x3, x7, p1_bits, p1_size, p1_off, p1_worth, p1_stuck) (fun _ => 0) hf w dX6_readBit_60
    refine lv_icmp_lt (tgt := 52) hx hb dX6_readBit_45 (by decide) (fun c45 => ?_) (fun c45 => ?_)
    · have hf := pf_t c45 hf
      refine lv_iconst (v := 0) hx hb dX6_readBit_52 (by decide) ?_
      exact kJ53 _ _ _ _ hf w (lv_sub hl [3, 4, 2, 1, 0] rfl)
    · have hf := pf_e c45 hf
      refine lv_iconst (v := 1) hx hb dX6_readBit_48 (by decide) ?_
      refine lv_goto (tgt := 53) hx hb dX6_readBit_49 (by decide) ?_
      exact kJ53 _ _ _ _ hf w (lv_sub hl [3, 4, 2, 1, 0] rfl)
  · have hf := pf_e c11 hf
    refine lv_aload_n hx hb dX6_readBit_14 rfl (lv_at hl 1 rfl) ?_
    refine lv_iload_n hx hb dX6_readBit_15 rfl (lv_at hl 0 rfl) ?_
    obtain ⟨x29, hc16, hf⟩ := pf_bv_1 hf
    refine hm_aft_v (ws' := fun _ => [oc5 h0 r_t t_count t_at x29, oc2 h1 r_p1 d_p1 p1_bits p1_offset p1_band p1_rule p1_noise p1_step p1_draws p1_heat p1_hour p1_seenCount, ic E (r_t 0) 400 t_bytes, ic E (r_p1 2) 12 p1_off, ic E (r_p1 1) 12 p1_size, ic E (r_p1 4) 12 p1_stuck, ic E (r_p1 3) 12 p1_worth]) (hm_runV (rest := []) hx hb hml hown X hA Y w 0 (ci := 5) (T := TX5) (N := 4) rfl rfl mw_X5_blame ml_X6_41 dX6_readBit_16 hm_ac0 [.int t_at] rfl [0] rfl rfl (ct_X5_blame l E H.size h0 r_t t_count t_at t_fault t_at x29 hc16) rfl hl.1 ⟨⟨rfl, rfl⟩, ⟨Nat.le_of_ble_eq_true rfl, Nat.le_of_ble_eq_true rfl⟩, ⟨Nat.le_of_ble_eq_true rfl, Nat.le_of_ble_eq_true rfl⟩, Nat.le_of_ble_eq_true rfl⟩) hA w [0] [1, 2, 3, 4, 5, 6] [6, 0, 1, 2, 3, 4, 5] rfl rfl (by decide) (fun _ => rfl) (fun _ H locs w => ?_)
    exact hQ _ _ _ _ (t_at, x29, p1_bits, p1_size, p1_off, p1_worth, p1_stuck) (fun _ => 0) hf w dX6_readBit_19
set_option maxHeartbeats 8000000 in
set_option maxRecDepth 100000 in
theorem ct_X6_settingOf (l : Launch) (E : hm_E) (sz : Nat) (a0 : Int32) (R : Int32 × Unit) (hf : pf_X6_settingOf a0 = some R) : hm_Mi l E yX6_settingOf cX6_settingOf 2 .int [] (hm_rr 0 0 0 0) [.int a0] sz [] R.1 (fun _ => []) := by
  refine hm_ct_i R (fun u qs => []) (by decide) (Nat.le_of_ble_eq_true rfl) (Or.inl rfl) ?_
  intro p e s m args below meth c A Q ls H locs hx hb hml hown X hA Y hex w hl hQ
  have hl : lv_has ls 2 [(0, .int a0)] := hl
  unfold pf_X6_settingOf at hf
  refine lv_iconst (v := 0) hx hb dX6_settingOf_0 (by decide) ?_
  refine lv_istore_n (lv' := [(1, .int 0), (0, .int a0)]) hx hb dX6_settingOf_1 rfl hl (by decide) rfl (fun ls hl => ?_)
  have klp_X6_settingOf_2 : ∀ (n : Nat) (x1 : Int32) (H : Heap) (locs : List Loc) (ls : Array Slot), lp_X6_settingOf_2 a0 n x1 = some R → hm_W E A s.heap [] H locs → lv_has ls 2 [(0, .int a0), (1, .int x1)] → W p l e (hm_rr 0 0 0 0) s m args below meth c H locs 0 0 Q (F0 m 2 ls []) := by
    intro n
    induction n with
    | zero =>
      intro x1 H locs ls hf w hl
      exact pf_no hf
    | succ n ih2 =>
      intro x1 H locs ls hf w hl
      rw [lp_X6_settingOf_2] at hf
      refine lv_iload_n hx hb dX6_settingOf_2 rfl (lv_at hl 1 rfl) ?_
      refine va_gets hx hb Y.2.2.1 w.2.2 hown (X.use fl_X6_84 rfl) (fun _ h => h) dX6_settingOf_3 ?_
      refine va_tlen hx hb Y.2.2.2 w.2.2 (v := 5) rfl dX6_settingOf_6 ?_
      refine lv_icmp_ge (tgt := 27) hx hb dX6_settingOf_7 (by decide) (fun c7 => ?_) (fun c7 => ?_)
      · have hf := pf_t c7 hf
        refine lv_iconst (v := (-1)) hx hb dX6_settingOf_27 (by decide) ?_
        exact hQ _ _ _ _ _ () (fun _ => 0) hf rfl w dX6_settingOf_28
      · have hf := pf_e c7 hf
        refine va_gets hx hb Y.2.2.1 w.2.2 hown (X.use fl_X6_84 rfl) (fun _ h => h) dX6_settingOf_10 ?_
        refine lv_iload_n hx hb dX6_settingOf_13 rfl (lv_at hl 1 rfl) ?_
        obtain ⟨g14, hf⟩ := pf_ckI hf
        refine va_tc hx hb Y.2.2.2 w.2.2 g14 (v := .int (hm_letters x1.toNatClampNeg)) rfl dX6_settingOf_14 ?_
        refine lv_iload_n hx hb dX6_settingOf_15 rfl (lv_at hl 0 rfl) ?_
        refine lv_icmp_ne (tgt := 21) hx hb dX6_settingOf_16 (by decide) (fun c16 => ?_) (fun c16 => ?_)
        · have hf := pf_e c16 hf
          obtain ⟨x2, ex2⟩ : ∃ y : Int32, y = (x1 + 1) := ⟨_, rfl⟩
          have hf := pf_nm ex2 hf
          refine lv_iinc (v := x2) (lv' := [(1, .int x2), (0, .int a0)]) hx hb dX6_settingOf_21 hl (k := 1) rfl (by rw [ex2]; rfl) (by decide) rfl (fun ls hl => ?_)
          refine lv_goto (tgt := 2) hx hb dX6_settingOf_24 (by decide) ?_
          exact ih2 _ _ _ _ hf w (lv_sub hl [1, 0] rfl)
        · have hf := pf_t c16 hf
          refine lv_iload_n hx hb dX6_settingOf_19 rfl (lv_at hl 1 rfl) ?_
          exact hQ _ _ _ _ _ () (fun _ => 0) hf rfl w dX6_settingOf_20
  exact klp_X6_settingOf_2 FU _ _ _ _ hf w (lv_sub hl [1, 0] rfl)
set_option maxHeartbeats 8000000 in
set_option maxRecDepth 100000 in
theorem ct_X6_readSetting (l : Launch) (E : hm_E) (sz : Nat) (h0 : Nat) (h1 : Nat) (r_t : Nat → Nat) (r_p1 : Nat → Nat) (d_p1 : Nat) (t_count t_at t_fault p1_bits p1_offset p1_band p1_rule p1_noise p1_step p1_draws p1_heat p1_hour p1_seenCount : Int32) (t_bytes : Nat → Int32) (a2 : Int32) (R : Int32 × Int32 × Int32 × Int32 × Int32 × Int32 × Int32 × Int32) (hf : pf_X6_readSetting a2 t_bytes t_count t_at t_fault p1_offset p1_band p1_rule p1_noise p1_step = some R) : hm_Mi l E yX6_readSetting cX6_readSetting 6 .int [] (hm_rr 4 84 0 0) [.ref h0, .ref h1, .int a2] sz [oc5 h0 r_t t_count t_at t_fault, oc2 h1 r_p1 d_p1 p1_bits p1_offset p1_band p1_rule p1_noise p1_step p1_draws p1_heat p1_hour p1_seenCount, ic E (r_t 0) 400 t_bytes] R.1 (fun _ => [oc5 h0 r_t t_count (R.2.1) (R.2.2.1), oc2 h1 r_p1 d_p1 p1_bits (R.2.2.2.1) (R.2.2.2.2.1) (R.2.2.2.2.2.1) (R.2.2.2.2.2.2.1) (R.2.2.2.2.2.2.2) p1_draws p1_heat p1_hour p1_seenCount, ic E (r_t 0) 400 t_bytes]) := by
  refine hm_ct_i R (fun u qs => [oc5 h0 r_t t_count (u.1) (u.2.1), oc2 h1 r_p1 d_p1 p1_bits (u.2.2.1) (u.2.2.2.1) (u.2.2.2.2.1) (u.2.2.2.2.2.1) (u.2.2.2.2.2.2) p1_draws p1_heat p1_hour p1_seenCount, ic E (r_t 0) 400 t_bytes]) (by decide) (Nat.le_of_ble_eq_true rfl) (Or.inl rfl) ?_
  intro p e s m args below meth c A Q ls H locs hx hb hml hown X hA Y hex w hl hQ
  have hl : lv_has ls 6 [(0, .ref h0), (1, .ref h1), (2, .int a2)] := hl
  unfold pf_X6_readSetting at hf
  refine lv_aload_n hx hb dX6_readSetting_0 rfl (lv_at hl 0 rfl) ?_
  obtain ⟨r1, hc1, hf⟩ := pf_bi_0 hf
  refine hm_aft_i (ws' := fun _ => [oc5 h0 r_t t_count t_at t_fault, oc2 h1 r_p1 d_p1 p1_bits p1_offset p1_band p1_rule p1_noise p1_step p1_draws p1_heat p1_hour p1_seenCount, ic E (r_t 0) 400 t_bytes]) (hm_runV (rest := []) hx hb hml hown X hA Y w 0 (ci := 5) (T := TX5) (N := 4) rfl rfl mw_X5_peek ml_X6_18 dX6_readSetting_1 hm_ac0 [] rfl [0, 2] rfl rfl (ct_X5_peek l E H.size h0 r_t t_count t_at t_fault t_bytes (r1, ()) hc1) rfl hl.1 ⟨⟨rfl, rfl⟩, ⟨Nat.le_of_ble_eq_true rfl, Nat.le_of_ble_eq_true rfl⟩, ⟨Nat.le_of_ble_eq_true rfl, Nat.le_of_ble_eq_true rfl⟩, Nat.le_of_ble_eq_true rfl⟩) hA w [0, 2] [1] [1, 0, 2] rfl rfl (by decide) (fun _ => rfl) (fun _ H locs w => ?_)
  obtain ⟨r2, hc4, hf⟩ := pf_bi_0 hf
  refine hm_aft_i (ws' := fun _ => [oc5 h0 r_t t_count t_at t_fault, oc2 h1 r_p1 d_p1 p1_bits p1_offset p1_band p1_rule p1_noise p1_step p1_draws p1_heat p1_hour p1_seenCount, ic E (r_t 0) 400 t_bytes]) (hm_runS (rest := []) hx hb hml hown X hA Y w mw_X6_settingOf ml_X6_70 dX6_readSetting_4 hm_ac0 [.int r1] rfl [] rfl rfl (ct_X6_settingOf l E H.size r1 (r2, ()) hc4) rfl hl.1 ⟨⟨rfl, rfl⟩, ⟨Nat.le_of_ble_eq_true rfl, Nat.le_of_ble_eq_true rfl⟩, ⟨Nat.le_of_ble_eq_true rfl, Nat.le_of_ble_eq_true rfl⟩, Nat.le_of_ble_eq_true rfl⟩) hA w [] [0, 1, 2] [0, 1, 2] rfl rfl (by decide) (fun _ => rfl) (fun _ H locs w => ?_)
  refine lv_istore_n (lv' := [(3, .int r2), (0, .ref h0), (1, .ref h1), (2, .int a2)]) hx hb dX6_readSetting_7 rfl hl (by decide) rfl (fun ls hl => ?_)
  refine lv_iload_n hx hb dX6_readSetting_8 rfl (lv_at hl 0 rfl) ?_
  refine lv_iconst (v := (-1)) hx hb dX6_readSetting_9 (by decide) ?_
  refine lv_icmp_eq (tgt := 21) hx hb dX6_readSetting_10 (by decide) (fun c10 => ?_) (fun c10 => ?_)
  · have hf := pf_t c10 hf
    refine lv_aload_n hx hb dX6_readSetting_21 rfl (lv_at hl 1 rfl) ?_
    refine lv_aload_n hx hb dX6_readSetting_22 rfl (lv_at hl 1 rfl) ?_
    refine hm_get cb_X5 hx hb hown X w 0 2 fl_X6_38 dX6_readSetting_23 rfl (by decide) rfl ?_
    obtain ⟨x3, hc26, hf⟩ := pf_bv_1 hf
    refine hm_aft_v (ws' := fun _ => [oc5 h0 r_t t_count t_at x3, oc2 h1 r_p1 d_p1 p1_bits p1_offset p1_band p1_rule p1_noise p1_step p1_draws p1_heat p1_hour p1_seenCount, ic E (r_t 0) 400 t_bytes]) (hm_runV (rest := []) hx hb hml hown X hA Y w 0 (ci := 5) (T := TX5) (N := 4) rfl rfl mw_X5_blame ml_X6_41 dX6_readSetting_26 hm_ac0 [.int t_at] rfl [0] rfl rfl (ct_X5_blame l E H.size h0 r_t t_count t_at t_fault t_at x3 hc26) rfl hl.1 ⟨⟨rfl, rfl⟩, ⟨Nat.le_of_ble_eq_true rfl, Nat.le_of_ble_eq_true rfl⟩, ⟨Nat.le_of_ble_eq_true rfl, Nat.le_of_ble_eq_true rfl⟩, Nat.le_of_ble_eq_true rfl⟩) hA w [0] [1, 2] [2, 0, 1] rfl rfl (by decide) (fun _ => rfl) (fun _ H locs w => ?_)
    refine lv_iconst (v := 0) hx hb dX6_readSetting_29 (by decide) ?_
    exact hQ _ _ _ _ _ (t_at, x3, p1_offset, p1_band, p1_rule, p1_noise, p1_step) (fun _ => 0) hf rfl w dX6_readSetting_30
  · have hf := pf_e c10 hf
    refine lv_iload_n hx hb dX6_readSetting_13 rfl (lv_at hl 3 rfl) ?_
    refine lv_iconst (v := 1) hx hb dX6_readSetting_14 (by decide) ?_
    refine lv_iload_n hx hb dX6_readSetting_15 rfl (lv_at hl 0 rfl) ?_
    refine lv_ishl hx hb dX6_readSetting_16 ?_
    refine lv_iand hx hb dX6_readSetting_17 ?_
    refine lv_if_eq (tgt := 31) hx hb dX6_readSetting_18 (by decide) (fun c18 => ?_) (fun c18 => ?_)
    · have hf := pf_t c18 hf
      refine lv_aload_n hx hb dX6_readSetting_31 rfl (lv_at hl 1 rfl) ?_
      refine lv_dup hx hb dX6_readSetting_32 rfl ?_
      refine hm_get cb_X5 hx hb hown X w 0 2 fl_X6_38 dX6_readSetting_33 rfl (by decide) rfl ?_
      refine lv_iconst (v := 1) hx hb dX6_readSetting_36 (by decide) ?_
      refine lv_iadd hx hb dX6_readSetting_37 ?_
      refine lv_topi (fun x4 ex4 => ?_)
      have hf := pf_nm ex4 hf
      refine hm_put (ws' := [oc5 h0 r_t t_count x4 t_fault, oc2 h1 r_p1 d_p1 p1_bits p1_offset p1_band p1_rule p1_noise p1_step p1_draws p1_heat p1_hour p1_seenCount, ic E (r_t 0) 400 t_bytes]) cb_X5 hx hb hown X w 0 2 fl_X6_38 dX6_readSetting_38 rfl (by decide) (Nat.le_of_ble_eq_true rfl) rfl rfl rfl rfl (fun H locs w => ?_)
      refine lv_aload_n hx hb dX6_readSetting_41 rfl (lv_at hl 1 rfl) ?_
      refine hm_get cb_X5 hx hb hown X w 0 2 fl_X6_38 dX6_readSetting_42 rfl (by decide) rfl ?_
      refine lv_istore (lv' := [(4, .int x4), (3, .int r2), (0, .ref h0), (1, .ref h1), (2, .int a2)]) hx hb dX6_readSetting_45 hl (by decide) rfl (fun ls hl => ?_)
      refine lv_iload_n hx hb dX6_readSetting_47 rfl (lv_at hl 1 rfl) ?_
      obtain ⟨J62, hJ62, hf⟩ := pf_jn hf
      have kJ62 : ∀ (x5 : Int32) (x6 : Int32) (x7 : Int32) (H : Heap) (locs : List Loc) (ls : Array Slot), J62 x5 x6 x7 = some R → hm_W E A s.heap [oc5 h0 r_t t_count x6 x7, oc2 h1 r_p1 d_p1 p1_bits p1_offset p1_band p1_rule p1_noise p1_step p1_draws p1_heat p1_hour p1_seenCount, ic E (r_t 0) 400 t_bytes] H locs → lv_has ls 6 [(0, .ref h0), (1, .ref h1), (3, .int r2), (4, .int x4)] → W p l e (hm_rr 4 84 0 0) s m args below meth c H locs 0 0 Q (F0 m 62 ls [.int x5]) := by
        intro x5 x6 x7 H locs ls hf w hl
        have hf := pf_j3 hJ62 hf
        refine lv_istore (lv' := [(5, .int x5), (0, .ref h0), (1, .ref h1), (3, .int r2), (4, .int x4)]) hx hb dX6_readSetting_62 hl (by decide) rfl (fun ls hl => ?_)
        refine lv_aload_n hx hb dX6_readSetting_64 rfl (lv_at hl 1 rfl) ?_
        refine lv_iload_n hx hb dX6_readSetting_65 rfl (lv_at hl 3 rfl) ?_
        refine lv_iload hx hb dX6_readSetting_66 (lv_at hl 0 rfl) ?_
        obtain ⟨r8, hc68, hf⟩ := pf_bi_0 hf
        refine hm_aft_i (ws' := fun _ => [oc5 h0 r_t t_count x6 x7, oc2 h1 r_p1 d_p1 p1_bits p1_offset p1_band p1_rule p1_noise p1_step p1_draws p1_heat p1_hour p1_seenCount, ic E (r_t 0) 400 t_bytes]) (hm_runS (rest := [.ref h0]) hx hb hml hown X hA Y w mw_X2_mayBeSet ml_X6_74 dX6_readSetting_68 hm_ac0 [.int r2, .int x5] rfl [] rfl rfl (ct_X2_mayBeSet l E H.size r2 x5 (r8, ()) hc68) rfl hl.1 ⟨⟨rfl, rfl⟩, ⟨Nat.le_of_ble_eq_true rfl, Nat.le_of_ble_eq_true rfl⟩, ⟨Nat.le_of_ble_eq_true rfl, Nat.le_of_ble_eq_true rfl⟩, Nat.le_of_ble_eq_true rfl⟩) hA w [] [0, 1, 2] [0, 1, 2] rfl rfl (by decide) (fun _ => rfl) (fun _ H locs w => ?_)
        refine lv_iload hx hb dX6_readSetting_71 (lv_at hl 4 rfl) ?_
        obtain ⟨r9, x10, hc73, hf⟩ := pf_bi_1 hf
        refine hm_aft_i (ws' := fun _ => [oc5 h0 r_t t_count x6 x10, oc2 h1 r_p1 d_p1 p1_bits p1_offset p1_band p1_rule p1_noise p1_step p1_draws p1_heat p1_hour p1_seenCount, ic E (r_t 0) 400 t_bytes]) (hm_runV (rest := []) hx hb hml hown X hA Y w 0 (ci := 5) (T := TX5) (N := 4) rfl rfl mw_X5_holds ml_X6_48 dX6_readSetting_73 hm_ac0 [.int r8, .int x4] rfl [0] rfl rfl (ct_X5_holds l E H.size h0 r_t t_count x6 x7 r8 x4 (r9, x10) hc73) rfl hl.1 ⟨⟨rfl, rfl⟩, ⟨Nat.le_of_ble_eq_true rfl, Nat.le_of_ble_eq_true rfl⟩, ⟨Nat.le_of_ble_eq_true rfl, Nat.le_of_ble_eq_true rfl⟩, Nat.le_of_ble_eq_true rfl⟩) hA w [0] [1, 2] [2, 0, 1] rfl rfl (by decide) (fun _ => rfl) (fun _ H locs w => ?_)
        refine lv_pop hx hb dX6_readSetting_76 rfl ?_
        refine lv_aload_n hx hb dX6_readSetting_77 rfl (lv_at hl 1 rfl) ?_
        refine lv_bipush (v := 59) hx hb dX6_readSetting_78 (by decide) ?_
        obtain ⟨x11, x12, hc80, hf⟩ := pf_bv_2 hf
        refine hm_aft_v (ws' := fun _ => [oc5 h0 r_t t_count x11 x12, oc2 h1 r_p1 d_p1 p1_bits p1_offset p1_band p1_rule p1_noise p1_step p1_draws p1_heat p1_hour p1_seenCount, ic E (r_t 0) 400 t_bytes]) (hm_runV (rest := []) hx hb hml hown X hA Y w 0 (ci := 5) (T := TX5) (N := 4) rfl rfl mw_X5_needs ml_X6_63 dX6_readSetting_80 hm_ac0 [.int 59] rfl [0, 2] rfl rfl (ct_X5_needs l E H.size h0 r_t t_count x6 x10 t_bytes 59 (x11, x12) hc80) rfl hl.1 ⟨⟨rfl, rfl⟩, ⟨Nat.le_of_ble_eq_true rfl, Nat.le_of_ble_eq_true rfl⟩, ⟨Nat.le_of_ble_eq_true rfl, Nat.le_of_ble_eq_true rfl⟩, Nat.le_of_ble_eq_true rfl⟩) hA w [0, 2] [1] [1, 0, 2] rfl rfl (by decide) (fun _ => rfl) (fun _ H locs w => ?_)
        refine lv_aload_n hx hb dX6_readSetting_83 rfl (lv_at hl 1 rfl) ?_
        refine hm_get cb_X5 hx hb hown X w 0 3 fl_X6_78 dX6_readSetting_84 rfl (by decide) rfl ?_
        refine lv_iconst (v := (-1)) hx hb dX6_readSetting_87 (by decide) ?_
        refine lv_icmp_ne (tgt := 98) hx hb dX6_readSetting_88 (by decide) (fun c88 => ?_) (fun c88 => ?_)
        · have hf := pf_e c88 hf
          refine lv_iconst (v := 1) hx hb dX6_readSetting_98 (by decide) ?_
          refine lv_iload_n hx hb dX6_readSetting_99 rfl (lv_at hl 3 rfl) ?_
          refine lv_ishl hx hb dX6_readSetting_100 ?_
          exact hQ _ _ _ _ _ (x11, x12, p1_offset, p1_band, p1_rule, p1_noise, p1_step) (fun _ => 0) hf rfl w dX6_readSetting_101
        · have hf := pf_t c88 hf
          refine lv_aload_n hx hb dX6_readSetting_91 rfl (lv_at hl 2 rfl) ?_
          refine lv_iload_n hx hb dX6_readSetting_92 rfl (lv_at hl 3 rfl) ?_
          refine lv_iload hx hb dX6_readSetting_93 (lv_at hl 0 rfl) ?_
          obtain ⟨x13, x14, x15, x16, x17, hc95, hf⟩ := pf_bv_5 hf
          refine hm_aft_v (ws' := fun _ => [oc5 h0 r_t t_count x11 x12, oc2 h1 r_p1 d_p1 p1_bits x13 x14 x15 x16 x17 p1_draws p1_heat p1_hour p1_seenCount, ic E (r_t 0) 400 t_bytes]) (hm_runV (rest := []) hx hb hml hown X hA Y w 1 (ci := 2) (T := TX2) (N := 17) rfl rfl mw_X2_put ml_X6_81 dX6_readSetting_95 hm_ac0 [.int r2, .int x5] rfl [1] rfl rfl (ct_X2_put l E H.size h1 r_p1 d_p1 p1_bits p1_offset p1_band p1_rule p1_noise p1_step p1_draws p1_heat p1_hour p1_seenCount r2 x5 (x13, x14, x15, x16, x17) hc95) rfl hl.1 ⟨⟨rfl, rfl⟩, ⟨Nat.le_of_ble_eq_true rfl, Nat.le_of_ble_eq_true rfl⟩, ⟨Nat.le_of_ble_eq_true rfl, Nat.le_of_ble_eq_true rfl⟩, Nat.le_of_ble_eq_true rfl⟩) hA w [1] [0, 2] [0, 2, 1] rfl rfl (by decide) (fun _ => rfl) (fun _ H locs w => ?_)
          refine lv_iconst (v := 1) hx hb dX6_readSetting_98 (by decide) ?_
          refine lv_iload_n hx hb dX6_readSetting_99 rfl (lv_at hl 3 rfl) ?_
          refine lv_ishl hx hb dX6_readSetting_100 ?_
          exact hQ _ _ _ _ _ (x11, x12, x13, x14, x15, x16, x17) (fun _ => 0) hf rfl w dX6_readSetting_101
      refine lv_if_ne (tgt := 58) hx hb dX6_readSetting_48 (by decide) (fun c48 => ?_) (fun c48 => ?_)
      · have hf := pf_e c48 hf
        refine lv_aload_n hx hb dX6_readSetting_58 rfl (lv_at hl 2 rfl) ?_
        obtain ⟨r18, x19, x20, hc59, hf⟩ := pf_bi_2 hf
        refine hm_aft_i (ws' := fun _ => [oc5 h0 r_t t_count x19 x20, oc2 h1 r_p1 d_p1 p1_bits p1_offset p1_band p1_rule p1_noise p1_step p1_draws p1_heat p1_hour p1_seenCount, ic E (r_t 0) 400 t_bytes]) (hm_runV (rest := []) hx hb hml hown X hA Y w 0 (ci := 5) (T := TX5) (N := 4) rfl rfl mw_X5_number ml_X6_45 dX6_readSetting_59 hm_ac0 [] rfl [0, 2] rfl rfl (ct_X5_number l E H.size h0 r_t t_count x4 t_fault t_bytes (r18, x19, x20) hc59) rfl hl.1 ⟨⟨rfl, rfl⟩, ⟨Nat.le_of_ble_eq_true rfl, Nat.le_of_ble_eq_true rfl⟩, ⟨Nat.le_of_ble_eq_true rfl, Nat.le_of_ble_eq_true rfl⟩, Nat.le_of_ble_eq_true rfl⟩) hA w [0, 2] [1] [1, 0, 2] rfl rfl (by decide) (fun _ => rfl) (fun _ H locs w => ?_)
        exact kJ62 _ _ _ _ _ _ hf w (lv_sub hl [2, 3, 1, 0] rfl)
      · have hf := pf_t c48 hf
        refine lv_aload_n hx hb dX6_readSetting_51 rfl (lv_at hl 2 rfl) ?_
        obtain ⟨r21, x22, x23, hc52, hf⟩ := pf_bi_2 hf
        refine hm_aft_i (ws' := fun _ => [oc5 h0 r_t t_count x22 x23, oc2 h1 r_p1 d_p1 p1_bits p1_offset p1_band p1_rule p1_noise p1_step p1_draws p1_heat p1_hour p1_seenCount, ic E (r_t 0) 400 t_bytes]) (hm_runV (rest := []) hx hb hml hown X hA Y w 0 (ci := 5) (T := TX5) (N := 4) rfl rfl mw_X5_signedNumber ml_X6_56 dX6_readSetting_52 hm_ac0 [] rfl [0, 2] rfl rfl (ct_X5_signedNumber l E H.size h0 r_t t_count x4 t_fault t_bytes (r21, x22, x23) hc52) rfl hl.1 ⟨⟨rfl, rfl⟩, ⟨Nat.le_of_ble_eq_true rfl, Nat.le_of_ble_eq_true rfl⟩, ⟨Nat.le_of_ble_eq_true rfl, Nat.le_of_ble_eq_true rfl⟩, Nat.le_of_ble_eq_true rfl⟩) hA w [0, 2] [1] [1, 0, 2] rfl rfl (by decide) (fun _ => rfl) (fun _ H locs w => ?_)
        refine lv_goto (tgt := 62) hx hb dX6_readSetting_55 (by decide) ?_
        exact kJ62 _ _ _ _ _ _ hf w (lv_sub hl [2, 3, 1, 0] rfl)
    · have hf := pf_e c18 hf
      refine lv_aload_n hx hb dX6_readSetting_21 rfl (lv_at hl 1 rfl) ?_
      refine lv_aload_n hx hb dX6_readSetting_22 rfl (lv_at hl 1 rfl) ?_
      refine hm_get cb_X5 hx hb hown X w 0 2 fl_X6_38 dX6_readSetting_23 rfl (by decide) rfl ?_
      obtain ⟨x24, hc26, hf⟩ := pf_bv_1 hf
      refine hm_aft_v (ws' := fun _ => [oc5 h0 r_t t_count t_at x24, oc2 h1 r_p1 d_p1 p1_bits p1_offset p1_band p1_rule p1_noise p1_step p1_draws p1_heat p1_hour p1_seenCount, ic E (r_t 0) 400 t_bytes]) (hm_runV (rest := []) hx hb hml hown X hA Y w 0 (ci := 5) (T := TX5) (N := 4) rfl rfl mw_X5_blame ml_X6_41 dX6_readSetting_26 hm_ac0 [.int t_at] rfl [0] rfl rfl (ct_X5_blame l E H.size h0 r_t t_count t_at t_fault t_at x24 hc26) rfl hl.1 ⟨⟨rfl, rfl⟩, ⟨Nat.le_of_ble_eq_true rfl, Nat.le_of_ble_eq_true rfl⟩, ⟨Nat.le_of_ble_eq_true rfl, Nat.le_of_ble_eq_true rfl⟩, Nat.le_of_ble_eq_true rfl⟩) hA w [0] [1, 2] [2, 0, 1] rfl rfl (by decide) (fun _ => rfl) (fun _ H locs w => ?_)
      refine lv_iconst (v := 0) hx hb dX6_readSetting_29 (by decide) ?_
      exact hQ _ _ _ _ _ (t_at, x24, p1_offset, p1_band, p1_rule, p1_noise, p1_step) (fun _ => 0) hf rfl w dX6_readSetting_30
set_option maxHeartbeats 8000000 in
set_option maxRecDepth 100000 in
theorem ct_X6_read (l : Launch) (E : hm_E) (sz : Nat) (h0 : Nat) (h1 : Nat) (r_t : Nat → Nat) (r_p1 : Nat → Nat) (d_p1 : Nat) (t_count t_at t_fault p1_bits p1_offset p1_band p1_rule p1_noise p1_step p1_draws p1_heat p1_hour p1_seenCount : Int32) (t_bytes : Nat → Int32) (p1_off : Nat → Int32) (p1_size : Nat → Int32) (p1_stuck : Nat → Int32) (p1_worth : Nat → Int32) (R : Int32 × Int32 × Int32 × (Nat → Int32) × (Nat → Int32) × (Nat → Int32) × (Nat → Int32) × Int32 × Int32 × Int32 × Int32 × Int32) (hf : pf_X6_read t_bytes t_count p1_bits p1_size p1_off p1_worth p1_stuck p1_offset p1_band p1_rule p1_noise p1_step = some R) : hm_Mv l E yX6_read cX6_read 4 [] (hm_rr 5 109 0 0) [.ref h0, .ref h1] sz [oc5 h0 r_t t_count t_at t_fault, oc2 h1 r_p1 d_p1 p1_bits p1_offset p1_band p1_rule p1_noise p1_step p1_draws p1_heat p1_hour p1_seenCount, ic E (r_t 0) 400 t_bytes, ic E (r_p1 2) 12 p1_off, ic E (r_p1 1) 12 p1_size, ic E (r_p1 4) 12 p1_stuck, ic E (r_p1 3) 12 p1_worth] (fun _ => [oc5 h0 r_t t_count (R.1) (R.2.1), oc2 h1 r_p1 d_p1 (R.2.2.1) (R.2.2.2.2.2.2.2.1) (R.2.2.2.2.2.2.2.2.1) (R.2.2.2.2.2.2.2.2.2.1) (R.2.2.2.2.2.2.2.2.2.2.1) (R.2.2.2.2.2.2.2.2.2.2.2) p1_draws p1_heat p1_hour p1_seenCount, ic E (r_t 0) 400 t_bytes, ic E (r_p1 2) 12 (R.2.2.2.2.1), ic E (r_p1 1) 12 (R.2.2.2.1), ic E (r_p1 4) 12 (R.2.2.2.2.2.2.1), ic E (r_p1 3) 12 (R.2.2.2.2.2.1)]) := by
  refine hm_ct_v R (fun u _ => [oc5 h0 r_t t_count (u.1) (u.2.1), oc2 h1 r_p1 d_p1 (u.2.2.1) (u.2.2.2.2.2.2.2.1) (u.2.2.2.2.2.2.2.2.1) (u.2.2.2.2.2.2.2.2.2.1) (u.2.2.2.2.2.2.2.2.2.2.1) (u.2.2.2.2.2.2.2.2.2.2.2) p1_draws p1_heat p1_hour p1_seenCount, ic E (r_t 0) 400 t_bytes, ic E (r_p1 2) 12 (u.2.2.2.2.1), ic E (r_p1 1) 12 (u.2.2.2.1), ic E (r_p1 4) 12 (u.2.2.2.2.2.2.1), ic E (r_p1 3) 12 (u.2.2.2.2.2.1)]) (by decide) (Nat.le_of_ble_eq_true rfl) ?_
  intro p e s m args below meth c A Q ls H locs hx hb hml hown X hA Y hex hin w hl hQ
  have hl : lv_has ls 4 [(0, .ref h0), (1, .ref h1)] := hl
  unfold pf_X6_read at hf
  refine lv_aload_n hx hb dX6_read_0 rfl (lv_at hl 0 rfl) ?_
  obtain ⟨x1, x2, hc1, hf⟩ := pf_bv_2 hf
  refine hm_aft_v (ws' := fun _ => [oc5 h0 r_t t_count x1 x2, oc2 h1 r_p1 d_p1 p1_bits p1_offset p1_band p1_rule p1_noise p1_step p1_draws p1_heat p1_hour p1_seenCount, ic E (r_t 0) 400 t_bytes, ic E (r_p1 2) 12 p1_off, ic E (r_p1 1) 12 p1_size, ic E (r_p1 4) 12 p1_stuck, ic E (r_p1 3) 12 p1_worth]) (hm_runV (rest := []) hx hb hml hown X hA Y w 0 (ci := 5) (T := TX5) (N := 4) rfl rfl mw_X5_rewind ml_X6_9 dX6_read_1 hm_ac0 [] rfl [0] rfl rfl (ct_X5_rewind l E H.size h0 r_t t_count t_at t_fault (x1, x2) hc1) rfl hl.1 ⟨⟨rfl, rfl⟩, ⟨Nat.le_of_ble_eq_true rfl, Nat.le_of_ble_eq_true rfl⟩, ⟨Nat.le_of_ble_eq_true rfl, Nat.le_of_ble_eq_true rfl⟩, Nat.le_of_ble_eq_true rfl⟩) hA w [0] [1, 2, 3, 4, 5, 6] [6, 0, 1, 2, 3, 4, 5] rfl rfl (by decide) (fun _ => rfl) (fun _ H locs w => ?_)
  refine lv_iconst (v := 0) hx hb dX6_read_4 (by decide) ?_
  refine lv_istore_n (lv' := [(2, .int 0), (0, .ref h0), (1, .ref h1)]) hx hb dX6_read_5 rfl hl (by decide) rfl (fun ls hl => ?_)
  refine lv_iconst (v := 0) hx hb dX6_read_6 (by decide) ?_
  refine lv_istore_n (lv' := [(3, .int 0), (2, .int 0), (0, .ref h0), (1, .ref h1)]) hx hb dX6_read_7 rfl hl (by decide) rfl (fun ls hl => ?_)
  obtain ⟨J54, hJ54, hf⟩ := pf_jn hf
  have kJ54 : ∀ (x3 : Int32) (x4 : Int32) (x5 : Int32) (f6 : Nat → Int32) (f7 : Nat → Int32) (f8 : Nat → Int32) (f9 : Nat → Int32) (x10 : Int32) (x11 : Int32) (x12 : Int32) (x13 : Int32) (x14 : Int32) (H : Heap) (locs : List Loc) (ls : Array Slot), J54 x3 x4 x5 f6 f7 f8 f9 x10 x11 x12 x13 x14 = some R → hm_W E A s.heap [oc5 h0 r_t t_count x3 x4, oc2 h1 r_p1 d_p1 x5 x10 x11 x12 x13 x14 p1_draws p1_heat p1_hour p1_seenCount, ic E (r_t 0) 400 t_bytes, ic E (r_p1 2) 12 f7, ic E (r_p1 1) 12 f6, ic E (r_p1 4) 12 f9, ic E (r_p1 3) 12 f8] H locs → lv_has ls 4 [(0, .ref h0), (1, .ref h1)] → W p l e (hm_rr 5 109 0 0) s m args below meth c H locs 0 0 Q (F0 m 54 ls []) := by
    intro x3 x4 x5 f6 f7 f8 f9 x10 x11 x12 x13 x14 H locs ls hf w hl
    have hf := pf_j12 hJ54 hf
    refine lv_aload_n hx hb dX6_read_54 rfl (lv_at hl 1 rfl) ?_
    refine hm_get cb_X2 hx hb hown X w 1 0 fl_X6_32 dX6_read_55 rfl (by decide) rfl ?_
    refine lv_iconst (v := 2) hx hb dX6_read_58 (by decide) ?_
    refine lv_icmp_ge (tgt := 70) hx hb dX6_read_59 (by decide) (fun c59 => ?_) (fun c59 => ?_)
    · have hf := pf_t c59 hf
      exact hQ _ _ _ _ (x3, x4, x5, f6, f7, f8, f9, x10, x11, x12, x13, x14) (fun _ => 0) hf w dX6_read_70
    · have hf := pf_e c59 hf
      refine lv_aload_n hx hb dX6_read_62 rfl (lv_at hl 0 rfl) ?_
      refine lv_aload_n hx hb dX6_read_63 rfl (lv_at hl 0 rfl) ?_
      refine hm_get cb_X5 hx hb hown X w 0 2 fl_X6_38 dX6_read_64 rfl (by decide) rfl ?_
      obtain ⟨x15, hc67, hf⟩ := pf_bv_1 hf
      refine hm_aft_v (ws' := fun _ => [oc5 h0 r_t t_count x3 x15, oc2 h1 r_p1 d_p1 x5 x10 x11 x12 x13 x14 p1_draws p1_heat p1_hour p1_seenCount, ic E (r_t 0) 400 t_bytes, ic E (r_p1 2) 12 f7, ic E (r_p1 1) 12 f6, ic E (r_p1 4) 12 f9, ic E (r_p1 3) 12 f8]) (hm_runV (rest := []) hx hb hml hown X hA Y w 0 (ci := 5) (T := TX5) (N := 4) rfl rfl mw_X5_blame ml_X6_41 dX6_read_67 hm_ac0 [.int x3] rfl [0] rfl rfl (ct_X5_blame l E H.size h0 r_t t_count x3 x4 x3 x15 hc67) rfl hl.1 ⟨⟨rfl, rfl⟩, ⟨Nat.le_of_ble_eq_true rfl, Nat.le_of_ble_eq_true rfl⟩, ⟨Nat.le_of_ble_eq_true rfl, Nat.le_of_ble_eq_true rfl⟩, Nat.le_of_ble_eq_true rfl⟩) hA w [0] [1, 2, 3, 4, 5, 6] [6, 0, 1, 2, 3, 4, 5] rfl rfl (by decide) (fun _ => rfl) (fun _ H locs w => ?_)
      exact hQ _ _ _ _ (x3, x15, x5, f6, f7, f8, f9, x10, x11, x12, x13, x14) (fun _ => 0) hf w dX6_read_70
  have klp_X6_read_8 : ∀ (n : Nat) (x16 : Int32) (x17 : Int32) (x18 : Int32) (x19 : Int32) (x20 : Int32) (f21 : Nat → Int32) (f22 : Nat → Int32) (f23 : Nat → Int32) (f24 : Nat → Int32) (x25 : Int32) (x26 : Int32) (x27 : Int32) (x28 : Int32) (x29 : Int32) (H : Heap) (locs : List Loc) (ls : Array Slot), lp_X6_read_8 t_count t_bytes J54 n x16 x17 x18 x19 x20 f21 f22 f23 f24 x25 x26 x27 x28 x29 = some R → hm_W E A s.heap [oc5 h0 r_t t_count x18 x19, oc2 h1 r_p1 d_p1 x20 x25 x26 x27 x28 x29 p1_draws p1_heat p1_hour p1_seenCount, ic E (r_t 0) 400 t_bytes, ic E (r_p1 2) 12 f22, ic E (r_p1 1) 12 f21, ic E (r_p1 4) 12 f24, ic E (r_p1 3) 12 f23] H locs → lv_has ls 4 [(0, .ref h0), (1, .ref h1), (2, .int x16), (3, .int x17)] → W p l e (hm_rr 5 109 0 0) s m args below meth c H locs 0 0 Q (F0 m 8 ls []) := by
    intro n
    induction n with
    | zero =>
      intro x16 x17 x18 x19 x20 f21 f22 f23 f24 x25 x26 x27 x28 x29 H locs ls hf w hl
      exact pf_no hf
    | succ n ih8 =>
      intro x16 x17 x18 x19 x20 f21 f22 f23 f24 x25 x26 x27 x28 x29 H locs ls hf w hl
      rw [lp_X6_read_8] at hf
      refine lv_iload_n hx hb dX6_read_8 rfl (lv_at hl 3 rfl) ?_
      refine lv_sipush (v := 400) hx hb dX6_read_9 (by decide) ?_
      refine lv_icmp_ge (tgt := 54) hx hb dX6_read_12 (by decide) (fun c12 => ?_) (fun c12 => ?_)
      · have hf := pf_t c12 hf
        exact kJ54 _ _ _ _ _ _ _ _ _ _ _ _ _ _ _ hf w (lv_sub hl [0, 1] rfl)
      · have hf := pf_e c12 hf
        refine lv_aload_n hx hb dX6_read_15 rfl (lv_at hl 0 rfl) ?_
        obtain ⟨r30, hc16, hf⟩ := pf_bi_0 hf
        refine hm_aft_i (ws' := fun _ => [oc5 h0 r_t t_count x18 x19, oc2 h1 r_p1 d_p1 x20 x25 x26 x27 x28 x29 p1_draws p1_heat p1_hour p1_seenCount, ic E (r_t 0) 400 t_bytes, ic E (r_p1 2) 12 f22, ic E (r_p1 1) 12 f21, ic E (r_p1 4) 12 f24, ic E (r_p1 3) 12 f23]) (hm_runV (rest := []) hx hb hml hown X hA Y w 0 (ci := 5) (T := TX5) (N := 4) rfl rfl mw_X5_goesOn ml_X6_14 dX6_read_16 hm_ac0 [] rfl [0] rfl rfl (ct_X5_goesOn l E H.size h0 r_t t_count x18 x19 (r30, ()) hc16) rfl hl.1 ⟨⟨rfl, rfl⟩, ⟨Nat.le_of_ble_eq_true rfl, Nat.le_of_ble_eq_true rfl⟩, ⟨Nat.le_of_ble_eq_true rfl, Nat.le_of_ble_eq_true rfl⟩, Nat.le_of_ble_eq_true rfl⟩) hA w [0] [1, 2, 3, 4, 5, 6] [6, 0, 1, 2, 3, 4, 5] rfl rfl (by decide) (fun _ => rfl) (fun _ H locs w => ?_)
        refine lv_if_eq (tgt := 54) hx hb dX6_read_19 (by decide) (fun c19 => ?_) (fun c19 => ?_)
        · have hf := pf_t c19 hf
          exact kJ54 _ _ _ _ _ _ _ _ _ _ _ _ _ _ _ hf w (lv_sub hl [0, 1] rfl)
        · have hf := pf_e c19 hf
          refine lv_aload_n hx hb dX6_read_22 rfl (lv_at hl 0 rfl) ?_
          obtain ⟨r31, hc23, hf⟩ := pf_bi_0 hf
          refine hm_aft_i (ws' := fun _ => [oc5 h0 r_t t_count x18 x19, oc2 h1 r_p1 d_p1 x20 x25 x26 x27 x28 x29 p1_draws p1_heat p1_hour p1_seenCount, ic E (r_t 0) 400 t_bytes, ic E (r_p1 2) 12 f22, ic E (r_p1 1) 12 f21, ic E (r_p1 4) 12 f24, ic E (r_p1 3) 12 f23]) (hm_runV (rest := []) hx hb hml hown X hA Y w 0 (ci := 5) (T := TX5) (N := 4) rfl rfl mw_X5_peek ml_X6_18 dX6_read_23 hm_ac0 [] rfl [0, 2] rfl rfl (ct_X5_peek l E H.size h0 r_t t_count x18 x19 t_bytes (r31, ()) hc23) rfl hl.1 ⟨⟨rfl, rfl⟩, ⟨Nat.le_of_ble_eq_true rfl, Nat.le_of_ble_eq_true rfl⟩, ⟨Nat.le_of_ble_eq_true rfl, Nat.le_of_ble_eq_true rfl⟩, Nat.le_of_ble_eq_true rfl⟩) hA w [0, 2] [1, 3, 4, 5, 6] [5, 0, 6, 1, 2, 3, 4] rfl rfl (by decide) (fun _ => rfl) (fun _ H locs w => ?_)
          refine lv_bipush (v := 98) hx hb dX6_read_26 (by decide) ?_
          refine lv_icmp_ne (tgt := 39) hx hb dX6_read_28 (by decide) (fun c28 => ?_) (fun c28 => ?_)
          · have hf := pf_e c28 hf
            refine lv_iload_n hx hb dX6_read_39 rfl (lv_at hl 2 rfl) ?_
            refine lv_aload_n hx hb dX6_read_40 rfl (lv_at hl 0 rfl) ?_
            refine lv_aload_n hx hb dX6_read_41 rfl (lv_at hl 1 rfl) ?_
            refine lv_iload_n hx hb dX6_read_42 rfl (lv_at hl 2 rfl) ?_
            obtain ⟨r32, x33, x34, x35, x36, x37, x38, x39, hc43, hf⟩ := pf_bi_7 hf
            refine hm_aft_i (ws' := fun _ => [oc5 h0 r_t t_count x33 x34, oc2 h1 r_p1 d_p1 x20 x35 x36 x37 x38 x39 p1_draws p1_heat p1_hour p1_seenCount, ic E (r_t 0) 400 t_bytes, ic E (r_p1 2) 12 f22, ic E (r_p1 1) 12 f21, ic E (r_p1 4) 12 f24, ic E (r_p1 3) 12 f23]) (hm_runS (rest := [.int x16]) hx hb hml hown X hA Y w mw_X6_readSetting ml_X6_28 dX6_read_43 hm_ac0 [.ref h0, .ref h1, .int x16] rfl [0, 1, 2] rfl rfl (ct_X6_readSetting l E H.size h0 h1 r_t r_p1 d_p1 t_count x18 x19 x20 x25 x26 x27 x28 x29 p1_draws p1_heat p1_hour p1_seenCount t_bytes x16 (r32, x33, x34, x35, x36, x37, x38, x39) hc43) rfl hl.1 ⟨⟨rfl, rfl⟩, ⟨Nat.le_of_ble_eq_true rfl, Nat.le_of_ble_eq_true rfl⟩, ⟨Nat.le_of_ble_eq_true rfl, Nat.le_of_ble_eq_true rfl⟩, Nat.le_of_ble_eq_true rfl⟩) hA w [0, 1, 2] [3, 4, 5, 6] [4, 5, 6, 0, 1, 2, 3] rfl rfl (by decide) (fun _ => rfl) (fun _ H locs w => ?_)
            refine lv_ior hx hb dX6_read_46 ?_
            refine lv_topi (fun x40 ex40 => ?_)
            have hf := pf_nm ex40 hf
            refine lv_istore_n (lv' := [(2, .int x40), (0, .ref h0), (1, .ref h1), (3, .int x17)]) hx hb dX6_read_47 rfl hl (by decide) rfl (fun ls hl => ?_)
            obtain ⟨x41, ex41⟩ : ∃ y : Int32, y = (x17 + 1) := ⟨_, rfl⟩
            have hf := pf_nm ex41 hf
            refine lv_iinc (v := x41) (lv' := [(3, .int x41), (2, .int x40), (0, .ref h0), (1, .ref h1)]) hx hb dX6_read_48 hl (k := 3) rfl (by rw [ex41]; rfl) (by decide) rfl (fun ls hl => ?_)
            refine lv_goto (tgt := 8) hx hb dX6_read_51 (by decide) ?_
            exact ih8 _ _ _ _ _ _ _ _ _ _ _ _ _ _ _ _ _ hf w (lv_sub hl [2, 3, 1, 0] rfl)
          · have hf := pf_t c28 hf
            refine lv_aload_n hx hb dX6_read_31 rfl (lv_at hl 0 rfl) ?_
            refine lv_aload_n hx hb dX6_read_32 rfl (lv_at hl 1 rfl) ?_
            obtain ⟨x42, x43, x44, f45, f46, f47, f48, hc33, hf⟩ := pf_bv_7 hf
            refine hm_aft_v (ws' := fun _ => [oc5 h0 r_t t_count x42 x43, oc2 h1 r_p1 d_p1 x44 x25 x26 x27 x28 x29 p1_draws p1_heat p1_hour p1_seenCount, ic E (r_t 0) 400 t_bytes, ic E (r_p1 2) 12 f46, ic E (r_p1 1) 12 f45, ic E (r_p1 4) 12 f48, ic E (r_p1 3) 12 f47]) (hm_runS (rest := []) hx hb hml hown X hA Y w mw_X6_readBit ml_X6_22 dX6_read_33 hm_ac0 [.ref h0, .ref h1] rfl [0, 1, 2, 3, 4, 5, 6] rfl rfl (ct_X6_readBit l E H.size h0 h1 r_t r_p1 d_p1 t_count x18 x19 x20 x25 x26 x27 x28 x29 p1_draws p1_heat p1_hour p1_seenCount t_bytes f22 f21 f24 f23 (x42, x43, x44, f45, f46, f47, f48) hc33) rfl hl.1 ⟨⟨rfl, rfl⟩, ⟨Nat.le_of_ble_eq_true rfl, Nat.le_of_ble_eq_true rfl⟩, ⟨Nat.le_of_ble_eq_true rfl, Nat.le_of_ble_eq_true rfl⟩, Nat.le_of_ble_eq_true rfl⟩) hA w [0, 1, 2, 3, 4, 5, 6] [] [0, 1, 2, 3, 4, 5, 6] rfl rfl (by decide) (fun _ => rfl) (fun _ H locs w => ?_)
            refine lv_goto (tgt := 48) hx hb dX6_read_36 (by decide) ?_
            obtain ⟨x49, ex49⟩ : ∃ y : Int32, y = (x17 + 1) := ⟨_, rfl⟩
            have hf := pf_nm ex49 hf
            refine lv_iinc (v := x49) (lv' := [(3, .int x49), (0, .ref h0), (1, .ref h1), (2, .int x16)]) hx hb dX6_read_48 hl (k := 3) rfl (by rw [ex49]; rfl) (by decide) rfl (fun ls hl => ?_)
            refine lv_goto (tgt := 8) hx hb dX6_read_51 (by decide) ?_
            exact ih8 _ _ _ _ _ _ _ _ _ _ _ _ _ _ _ _ _ hf w (lv_sub hl [1, 2, 3, 0] rfl)
  exact klp_X6_read_8 FU _ _ _ _ _ _ _ _ _ _ _ _ _ _ _ _ _ hf w (lv_sub hl [2, 3, 1, 0] rfl)
set_option maxHeartbeats 8000000 in
set_option maxRecDepth 100000 in
theorem ct_X7_feed (l : Launch) (E : hm_E) (sz : Nat) (h0 : Nat) (r_t : Nat → Nat) (r_t_tape : Nat → Nat) (t_writtenCount t_faultPlace t_tape_count t_tape_at t_tape_fault : Int32) (t_tape_bytes : Nat → Int32) (a1 : Int32) (a2 : Int32) (a3 : Int32) (a4 : Int32) (a5 : Int32) (R : Int32 × (Nat → Int32) × Int32) (hf : pf_X7_feed a1 a2 a3 a4 a5 t_tape_bytes t_tape_count = some R) : hm_Mi l E yX7_feed cX7_feed 6 .int [] (hm_rr 1 22 0 0) [.ref h0, .int a1, .int a2, .int a3, .int a4, .int a5] sz [oc7 h0 r_t t_writtenCount t_faultPlace, oc5 (r_t 0) r_t_tape t_tape_count t_tape_at t_tape_fault, ic E (r_t_tape 0) 400 t_tape_bytes] R.1 (fun _ => [oc7 h0 r_t t_writtenCount t_faultPlace, oc5 (r_t 0) r_t_tape (R.2.2) t_tape_at t_tape_fault, ic E (r_t_tape 0) 400 (R.2.1)]) := by
  refine hm_ct_i R (fun u qs => [oc7 h0 r_t t_writtenCount t_faultPlace, oc5 (r_t 0) r_t_tape (u.2) t_tape_at t_tape_fault, ic E (r_t_tape 0) 400 (u.1)]) (by decide) (Nat.le_of_ble_eq_true rfl) (Or.inl rfl) ?_
  intro p e s m args below meth c A Q ls H locs hx hb hml hown X hA Y hex w hl hQ
  have hl : lv_has ls 6 [(0, .ref h0), (1, .int a1), (2, .int a2), (3, .int a3), (4, .int a4), (5, .int a5)] := hl
  unfold pf_X7_feed at hf
  refine lv_aload_n hx hb dX7_feed_0 rfl (lv_at hl 0 rfl) ?_
  refine hm_get cb_X7 hx hb hown X w 0 0 fl_X7_10 dX7_feed_1 rfl (by decide) rfl ?_
  refine hm_get cb_X5 hx hb hown X w 1 1 fl_X7_65 dX7_feed_4 rfl (by decide) rfl ?_
  refine lv_bipush (v := 20) hx hb dX7_feed_7 (by decide) ?_
  refine lv_iadd hx hb dX7_feed_9 ?_
  refine lv_sipush (v := 400) hx hb dX7_feed_10 (by decide) ?_
  refine lv_icmp_le (tgt := 18) hx hb dX7_feed_13 (by decide) (fun c13 => ?_) (fun c13 => ?_)
  · have hf := pf_t c13 hf
    refine lv_aload_n hx hb dX7_feed_18 rfl (lv_at hl 0 rfl) ?_
    refine hm_get cb_X7 hx hb hown X w 0 0 fl_X7_10 dX7_feed_19 rfl (by decide) rfl ?_
    refine lv_iload_n hx hb dX7_feed_22 rfl (lv_at hl 1 rfl) ?_
    obtain ⟨f1, x2, hc23, hf⟩ := pf_bv_2 hf
    refine hm_aft_v (ws' := fun _ => [oc7 h0 r_t t_writtenCount t_faultPlace, oc5 (r_t 0) r_t_tape x2 t_tape_at t_tape_fault, ic E (r_t_tape 0) 400 f1]) (hm_runV (rest := []) hx hb hml hown X hA Y w 1 (ci := 5) (T := TX5) (N := 4) rfl rfl mw_X5_append ml_X7_68 dX7_feed_23 hm_ac0 [.int a1] rfl [1, 2] rfl rfl (ct_X5_append l E H.size (r_t 0) r_t_tape t_tape_count t_tape_at t_tape_fault t_tape_bytes a1 (f1, x2) hc23) rfl hl.1 ⟨⟨rfl, rfl⟩, ⟨Nat.le_of_ble_eq_true rfl, Nat.le_of_ble_eq_true rfl⟩, ⟨Nat.le_of_ble_eq_true rfl, Nat.le_of_ble_eq_true rfl⟩, Nat.le_of_ble_eq_true rfl⟩) hA w [1, 2] [0] [0, 1, 2] rfl rfl (by decide) (fun _ => rfl) (fun _ H locs w => ?_)
    refine lv_aload_n hx hb dX7_feed_26 rfl (lv_at hl 0 rfl) ?_
    refine hm_get cb_X7 hx hb hown X w 0 0 fl_X7_10 dX7_feed_27 rfl (by decide) rfl ?_
    refine lv_iload_n hx hb dX7_feed_30 rfl (lv_at hl 2 rfl) ?_
    obtain ⟨f3, x4, hc31, hf⟩ := pf_bv_2 hf
    refine hm_aft_v (ws' := fun _ => [oc7 h0 r_t t_writtenCount t_faultPlace, oc5 (r_t 0) r_t_tape x4 t_tape_at t_tape_fault, ic E (r_t_tape 0) 400 f3]) (hm_runV (rest := []) hx hb hml hown X hA Y w 1 (ci := 5) (T := TX5) (N := 4) rfl rfl mw_X5_append ml_X7_68 dX7_feed_31 hm_ac0 [.int a2] rfl [1, 2] rfl rfl (ct_X5_append l E H.size (r_t 0) r_t_tape x2 t_tape_at t_tape_fault f1 a2 (f3, x4) hc31) rfl hl.1 ⟨⟨rfl, rfl⟩, ⟨Nat.le_of_ble_eq_true rfl, Nat.le_of_ble_eq_true rfl⟩, ⟨Nat.le_of_ble_eq_true rfl, Nat.le_of_ble_eq_true rfl⟩, Nat.le_of_ble_eq_true rfl⟩) hA w [1, 2] [0] [0, 1, 2] rfl rfl (by decide) (fun _ => rfl) (fun _ H locs w => ?_)
    refine lv_aload_n hx hb dX7_feed_34 rfl (lv_at hl 0 rfl) ?_
    refine hm_get cb_X7 hx hb hown X w 0 0 fl_X7_10 dX7_feed_35 rfl (by decide) rfl ?_
    refine lv_iload_n hx hb dX7_feed_38 rfl (lv_at hl 3 rfl) ?_
    obtain ⟨f5, x6, hc39, hf⟩ := pf_bv_2 hf
    refine hm_aft_v (ws' := fun _ => [oc7 h0 r_t t_writtenCount t_faultPlace, oc5 (r_t 0) r_t_tape x6 t_tape_at t_tape_fault, ic E (r_t_tape 0) 400 f5]) (hm_runV (rest := []) hx hb hml hown X hA Y w 1 (ci := 5) (T := TX5) (N := 4) rfl rfl mw_X5_append ml_X7_68 dX7_feed_39 hm_ac0 [.int a3] rfl [1, 2] rfl rfl (ct_X5_append l E H.size (r_t 0) r_t_tape x4 t_tape_at t_tape_fault f3 a3 (f5, x6) hc39) rfl hl.1 ⟨⟨rfl, rfl⟩, ⟨Nat.le_of_ble_eq_true rfl, Nat.le_of_ble_eq_true rfl⟩, ⟨Nat.le_of_ble_eq_true rfl, Nat.le_of_ble_eq_true rfl⟩, Nat.le_of_ble_eq_true rfl⟩) hA w [1, 2] [0] [0, 1, 2] rfl rfl (by decide) (fun _ => rfl) (fun _ H locs w => ?_)
    refine lv_aload_n hx hb dX7_feed_42 rfl (lv_at hl 0 rfl) ?_
    refine hm_get cb_X7 hx hb hown X w 0 0 fl_X7_10 dX7_feed_43 rfl (by decide) rfl ?_
    refine lv_iload hx hb dX7_feed_46 (lv_at hl 4 rfl) ?_
    obtain ⟨f7, x8, hc48, hf⟩ := pf_bv_2 hf
    refine hm_aft_v (ws' := fun _ => [oc7 h0 r_t t_writtenCount t_faultPlace, oc5 (r_t 0) r_t_tape x8 t_tape_at t_tape_fault, ic E (r_t_tape 0) 400 f7]) (hm_runV (rest := []) hx hb hml hown X hA Y w 1 (ci := 5) (T := TX5) (N := 4) rfl rfl mw_X5_append ml_X7_68 dX7_feed_48 hm_ac0 [.int a4] rfl [1, 2] rfl rfl (ct_X5_append l E H.size (r_t 0) r_t_tape x6 t_tape_at t_tape_fault f5 a4 (f7, x8) hc48) rfl hl.1 ⟨⟨rfl, rfl⟩, ⟨Nat.le_of_ble_eq_true rfl, Nat.le_of_ble_eq_true rfl⟩, ⟨Nat.le_of_ble_eq_true rfl, Nat.le_of_ble_eq_true rfl⟩, Nat.le_of_ble_eq_true rfl⟩) hA w [1, 2] [0] [0, 1, 2] rfl rfl (by decide) (fun _ => rfl) (fun _ H locs w => ?_)
    refine lv_aload_n hx hb dX7_feed_51 rfl (lv_at hl 0 rfl) ?_
    refine hm_get cb_X7 hx hb hown X w 0 0 fl_X7_10 dX7_feed_52 rfl (by decide) rfl ?_
    refine lv_iload hx hb dX7_feed_55 (lv_at hl 5 rfl) ?_
    obtain ⟨f9, x10, hc57, hf⟩ := pf_bv_2 hf
    refine hm_aft_v (ws' := fun _ => [oc7 h0 r_t t_writtenCount t_faultPlace, oc5 (r_t 0) r_t_tape x10 t_tape_at t_tape_fault, ic E (r_t_tape 0) 400 f9]) (hm_runV (rest := []) hx hb hml hown X hA Y w 1 (ci := 5) (T := TX5) (N := 4) rfl rfl mw_X5_append ml_X7_68 dX7_feed_57 hm_ac0 [.int a5] rfl [1, 2] rfl rfl (ct_X5_append l E H.size (r_t 0) r_t_tape x8 t_tape_at t_tape_fault f7 a5 (f9, x10) hc57) rfl hl.1 ⟨⟨rfl, rfl⟩, ⟨Nat.le_of_ble_eq_true rfl, Nat.le_of_ble_eq_true rfl⟩, ⟨Nat.le_of_ble_eq_true rfl, Nat.le_of_ble_eq_true rfl⟩, Nat.le_of_ble_eq_true rfl⟩) hA w [1, 2] [0] [0, 1, 2] rfl rfl (by decide) (fun _ => rfl) (fun _ H locs w => ?_)
    refine lv_aload_n hx hb dX7_feed_60 rfl (lv_at hl 0 rfl) ?_
    refine hm_get cb_X7 hx hb hown X w 0 0 fl_X7_10 dX7_feed_61 rfl (by decide) rfl ?_
    refine hm_get cb_X5 hx hb hown X w 1 1 fl_X7_65 dX7_feed_64 rfl (by decide) rfl ?_
    exact hQ _ _ _ _ _ (f9, x10) (fun _ => 0) hf rfl w dX7_feed_67
  · have hf := pf_e c13 hf
    refine lv_iconst (v := (-1)) hx hb dX7_feed_16 (by decide) ?_
    exact hQ _ _ _ _ _ (t_tape_bytes, t_tape_count) (fun _ => 0) hf rfl w dX7_feed_17
set_option maxHeartbeats 8000000 in
set_option maxRecDepth 100000 in
theorem ct_X7_end (l : Launch) (E : hm_E) (sz : Nat) (h0 : Nat) (r_t : Nat → Nat) (r_t_tape : Nat → Nat) (t_writtenCount t_faultPlace t_tape_count t_tape_at t_tape_fault : Int32) (a1 : Int32) (R : Int32 × Int32) (hf : pf_X7_end a1 t_tape_count = some R) : hm_Mi l E yX7_end cX7_end 2 .int [] (hm_rr 0 0 0 0) [.ref h0, .int a1] sz [oc7 h0 r_t t_writtenCount t_faultPlace, oc5 (r_t 0) r_t_tape t_tape_count t_tape_at t_tape_fault] R.1 (fun _ => [oc7 h0 r_t t_writtenCount t_faultPlace, oc5 (r_t 0) r_t_tape R.2 t_tape_at t_tape_fault]) := by
  refine hm_ct_i R (fun u qs => [oc7 h0 r_t t_writtenCount t_faultPlace, oc5 (r_t 0) r_t_tape u t_tape_at t_tape_fault]) (by decide) (Nat.le_of_ble_eq_true rfl) (Or.inl rfl) ?_
  intro p e s m args below meth c A Q ls H locs hx hb hml hown X hA Y hex w hl hQ
  have hl : lv_has ls 2 [(0, .ref h0), (1, .int a1)] := hl
  unfold pf_X7_end at hf
  refine lv_iload_n hx hb dX7_end_0 rfl (lv_at hl 1 rfl) ?_
  refine lv_if_lt (tgt := 15) hx hb dX7_end_1 (by decide) (fun c1 => ?_) (fun c1 => ?_)
  · have hf := pf_t c1 hf
    refine lv_iconst (v := (-1)) hx hb dX7_end_15 (by decide) ?_
    exact hQ _ _ _ _ _ t_tape_count (fun _ => 0) hf rfl w dX7_end_16
  · have hf := pf_e c1 hf
    refine lv_iload_n hx hb dX7_end_4 rfl (lv_at hl 1 rfl) ?_
    refine lv_aload_n hx hb dX7_end_5 rfl (lv_at hl 0 rfl) ?_
    refine hm_get cb_X7 hx hb hown X w 0 0 fl_X7_10 dX7_end_6 rfl (by decide) rfl ?_
    refine hm_get cb_X5 hx hb hown X w 1 1 fl_X7_65 dX7_end_9 rfl (by decide) rfl ?_
    refine lv_icmp_le (tgt := 17) hx hb dX7_end_12 (by decide) (fun c12 => ?_) (fun c12 => ?_)
    · have hf := pf_t c12 hf
      refine lv_aload_n hx hb dX7_end_17 rfl (lv_at hl 0 rfl) ?_
      refine hm_get cb_X7 hx hb hown X w 0 0 fl_X7_10 dX7_end_18 rfl (by decide) rfl ?_
      refine lv_iload_n hx hb dX7_end_21 rfl (lv_at hl 1 rfl) ?_
      refine hm_put (ws' := [oc7 h0 r_t t_writtenCount t_faultPlace, oc5 (r_t 0) r_t_tape a1 t_tape_at t_tape_fault]) cb_X5 hx hb hown X w 1 1 fl_X7_65 dX7_end_22 rfl (by decide) (Nat.le_of_ble_eq_true rfl) rfl rfl rfl rfl (fun H locs w => ?_)
      refine lv_iload_n hx hb dX7_end_25 rfl (lv_at hl 1 rfl) ?_
      exact hQ _ _ _ _ _ a1 (fun _ => 0) hf rfl w dX7_end_26
    · have hf := pf_e c12 hf
      refine lv_iconst (v := (-1)) hx hb dX7_end_15 (by decide) ?_
      exact hQ _ _ _ _ _ t_tape_count (fun _ => 0) hf rfl w dX7_end_16
set_option maxHeartbeats 8000000 in
set_option maxRecDepth 100000 in
theorem ct_X7_leaveTape (l : Launch) (E : hm_E) (sz : Nat) (h0 : Nat) (r_t : Nat → Nat) (r_t_tape : Nat → Nat) (t_writtenCount t_faultPlace t_tape_count t_tape_at t_tape_fault : Int32) (R : Int32 × Int32 × Int32) (hf : pf_X7_leaveTape t_tape_fault = some R) : hm_Mi l E yX7_leaveTape cX7_leaveTape 1 .boolean [] (hm_rr 0 0 0 0) [.ref h0] sz [oc7 h0 r_t t_writtenCount t_faultPlace, oc5 (r_t 0) r_t_tape t_tape_count t_tape_at t_tape_fault] R.1 (fun _ => [oc7 h0 r_t t_writtenCount (R.2.1), oc5 (r_t 0) r_t_tape (R.2.2) t_tape_at t_tape_fault]) := by
  refine hm_ct_i R (fun u qs => [oc7 h0 r_t t_writtenCount (u.1), oc5 (r_t 0) r_t_tape (u.2) t_tape_at t_tape_fault]) (by decide) (Nat.le_of_ble_eq_true rfl) (Or.inr rfl) ?_
  intro p e s m args below meth c A Q ls H locs hx hb hml hown X hA Y hex w hl hQ
  have hl : lv_has ls 1 [(0, .ref h0)] := hl
  unfold pf_X7_leaveTape at hf
  refine lv_aload_n hx hb dX7_leaveTape_0 rfl (lv_at hl 0 rfl) ?_
  refine lv_aload_n hx hb dX7_leaveTape_1 rfl (lv_at hl 0 rfl) ?_
  refine hm_get cb_X7 hx hb hown X w 0 0 fl_X7_10 dX7_leaveTape_2 rfl (by decide) rfl ?_
  refine hm_get cb_X5 hx hb hown X w 1 3 fl_X7_136 dX7_leaveTape_5 rfl (by decide) rfl ?_
  refine hm_put (ws' := [oc7 h0 r_t t_writtenCount t_tape_fault, oc5 (r_t 0) r_t_tape t_tape_count t_tape_at t_tape_fault]) cb_X7 hx hb hown X w 0 10 fl_X7_62 dX7_leaveTape_8 rfl (by decide) (Nat.le_of_ble_eq_true rfl) rfl rfl rfl rfl (fun H locs w => ?_)
  refine lv_aload_n hx hb dX7_leaveTape_11 rfl (lv_at hl 0 rfl) ?_
  refine hm_get cb_X7 hx hb hown X w 0 0 fl_X7_10 dX7_leaveTape_12 rfl (by decide) rfl ?_
  refine lv_iconst (v := 0) hx hb dX7_leaveTape_15 (by decide) ?_
  refine hm_put (ws' := [oc7 h0 r_t t_writtenCount t_tape_fault, oc5 (r_t 0) r_t_tape 0 t_tape_at t_tape_fault]) cb_X5 hx hb hown X w 1 1 fl_X7_65 dX7_leaveTape_16 rfl (by decide) (Nat.le_of_ble_eq_true rfl) rfl rfl rfl rfl (fun H locs w => ?_)
  refine lv_aload_n hx hb dX7_leaveTape_19 rfl (lv_at hl 0 rfl) ?_
  refine hm_get cb_X7 hx hb hown X w 0 10 fl_X7_62 dX7_leaveTape_20 rfl (by decide) rfl ?_
  refine lv_iconst (v := (-1)) hx hb dX7_leaveTape_23 (by decide) ?_
  refine lv_icmp_ne (tgt := 31) hx hb dX7_leaveTape_24 (by decide) (fun c24 => ?_) (fun c24 => ?_)
  · have hf := pf_e c24 hf
    refine lv_iconst (v := 0) hx hb dX7_leaveTape_31 (by decide) ?_
    exact hQ _ _ _ _ _ (t_tape_fault, 0) (fun _ => 0) hf rfl w dX7_leaveTape_32
  · have hf := pf_t c24 hf
    refine lv_iconst (v := 1) hx hb dX7_leaveTape_27 (by decide) ?_
    refine lv_goto (tgt := 32) hx hb dX7_leaveTape_28 (by decide) ?_
    exact hQ _ _ _ _ _ (t_tape_fault, 0) (fun _ => 0) hf rfl w dX7_leaveTape_32
set_option maxHeartbeats 8000000 in
set_option maxRecDepth 100000 in
theorem ct_X7_text (l : Launch) (E : hm_E) (sz : Nat) (h0 : Nat) (r_t : Nat → Nat) (r_t_aside : Nat → Nat) (d_t_aside : Nat) (r_t_latest : Nat → Nat) (r_t_now : Nat → Nat) (d_t_now : Nat) (r_t_tape : Nat → Nat) (t_writtenCount t_faultPlace t_aside_bits t_aside_offset t_aside_band t_aside_rule t_aside_noise t_aside_step t_aside_draws t_aside_heat t_aside_hour t_aside_seenCount t_latest_bits t_latest_sum t_latest_heldAtEnd t_latest_left t_latest_lates t_latest_ones t_latest_code t_now_bits t_now_offset t_now_band t_now_rule t_now_noise t_now_step t_now_draws t_now_heat t_now_hour t_now_seenCount t_tape_count t_tape_at t_tape_fault : Int32) (t_aside_off : Nat → Int32) (t_aside_size : Nat → Int32) (t_aside_stuck : Nat → Int32) (t_aside_worth : Nat → Int32) (t_now_off : Nat → Int32) (t_now_size : Nat → Int32) (t_now_stuck : Nat → Int32) (t_now_worth : Nat → Int32) (t_tape_bytes : Nat → Int32) (R : Int32 × Int32 × Int32 × (Nat → Int32) × (Nat → Int32) × (Nat → Int32) × (Nat → Int32) × Int32 × Int32 × Int32 × Int32 × Int32 × Int32 × Int32 × (Nat → Int32) × (Nat → Int32) × (Nat → Int32) × (Nat → Int32) × Int32 × Int32 × Int32 × Int32 × Int32 × Int32 × Int32 × Int32 × Int32) (hf : pf_X7_text t_aside_size t_aside_off t_aside_worth t_aside_stuck t_latest_bits t_now_bits t_now_size t_now_off t_now_worth t_now_stuck t_now_offset t_now_band t_now_rule t_now_noise t_now_step t_now_seenCount t_tape_bytes t_tape_count = some R) : hm_Mi l E yX7_text cX7_text 1 .int [] (hm_rr 6 132 0 0) [.ref h0] sz [oc7 h0 r_t t_writtenCount t_faultPlace, oc2 (r_t 2) r_t_aside d_t_aside t_aside_bits t_aside_offset t_aside_band t_aside_rule t_aside_noise t_aside_step t_aside_draws t_aside_heat t_aside_hour t_aside_seenCount, oc1 (r_t 4) r_t_latest t_latest_bits t_latest_sum t_latest_heldAtEnd t_latest_left t_latest_lates t_latest_ones t_latest_code, oc2 (r_t 1) r_t_now d_t_now t_now_bits t_now_offset t_now_band t_now_rule t_now_noise t_now_step t_now_draws t_now_heat t_now_hour t_now_seenCount, oc5 (r_t 0) r_t_tape t_tape_count t_tape_at t_tape_fault, ic E (r_t_aside 2) 12 t_aside_off, ic E (r_t_aside 1) 12 t_aside_size, ic E (r_t_aside 4) 12 t_aside_stuck, ic E (r_t_aside 3) 12 t_aside_worth, ic E (r_t_now 2) 12 t_now_off, ic E (r_t_now 1) 12 t_now_size, ic E (r_t_now 4) 12 t_now_stuck, ic E (r_t_now 3) 12 t_now_worth, ic E (r_t_tape 0) 400 t_tape_bytes] R.1 (fun _ => [oc7 h0 r_t t_writtenCount (R.2.1), oc2 (r_t 2) r_t_aside d_t_aside (R.2.2.1) (R.2.2.2.2.2.2.2.1) (R.2.2.2.2.2.2.2.2.1) (R.2.2.2.2.2.2.2.2.2.1) (R.2.2.2.2.2.2.2.2.2.2.1) (R.2.2.2.2.2.2.2.2.2.2.2.1) t_aside_draws t_aside_heat t_aside_hour t_aside_seenCount, oc1 (r_t 4) r_t_latest (R.2.2.2.2.2.2.2.2.2.2.2.2.1) t_latest_sum t_latest_heldAtEnd t_latest_left t_latest_lates t_latest_ones t_latest_code, oc2 (r_t 1) r_t_now d_t_now (R.2.2.2.2.2.2.2.2.2.2.2.2.2.1) (R.2.2.2.2.2.2.2.2.2.2.2.2.2.2.2.2.2.2.1) (R.2.2.2.2.2.2.2.2.2.2.2.2.2.2.2.2.2.2.2.1) (R.2.2.2.2.2.2.2.2.2.2.2.2.2.2.2.2.2.2.2.2.1) (R.2.2.2.2.2.2.2.2.2.2.2.2.2.2.2.2.2.2.2.2.2.1) (R.2.2.2.2.2.2.2.2.2.2.2.2.2.2.2.2.2.2.2.2.2.2.1) t_now_draws t_now_heat t_now_hour (R.2.2.2.2.2.2.2.2.2.2.2.2.2.2.2.2.2.2.2.2.2.2.2.1), oc5 (r_t 0) r_t_tape (R.2.2.2.2.2.2.2.2.2.2.2.2.2.2.2.2.2.2.2.2.2.2.2.2.1) (R.2.2.2.2.2.2.2.2.2.2.2.2.2.2.2.2.2.2.2.2.2.2.2.2.2.1) (R.2.2.2.2.2.2.2.2.2.2.2.2.2.2.2.2.2.2.2.2.2.2.2.2.2.2), ic E (r_t_aside 2) 12 (R.2.2.2.2.1), ic E (r_t_aside 1) 12 (R.2.2.2.1), ic E (r_t_aside 4) 12 (R.2.2.2.2.2.2.1), ic E (r_t_aside 3) 12 (R.2.2.2.2.2.1), ic E (r_t_now 2) 12 (R.2.2.2.2.2.2.2.2.2.2.2.2.2.2.2.1), ic E (r_t_now 1) 12 (R.2.2.2.2.2.2.2.2.2.2.2.2.2.2.1), ic E (r_t_now 4) 12 (R.2.2.2.2.2.2.2.2.2.2.2.2.2.2.2.2.2.1), ic E (r_t_now 3) 12 (R.2.2.2.2.2.2.2.2.2.2.2.2.2.2.2.2.1), ic E (r_t_tape 0) 400 t_tape_bytes]) := by
  refine hm_ct_i R (fun u qs => [oc7 h0 r_t t_writtenCount (u.1), oc2 (r_t 2) r_t_aside d_t_aside (u.2.1) (u.2.2.2.2.2.2.1) (u.2.2.2.2.2.2.2.1) (u.2.2.2.2.2.2.2.2.1) (u.2.2.2.2.2.2.2.2.2.1) (u.2.2.2.2.2.2.2.2.2.2.1) t_aside_draws t_aside_heat t_aside_hour t_aside_seenCount, oc1 (r_t 4) r_t_latest (u.2.2.2.2.2.2.2.2.2.2.2.1) t_latest_sum t_latest_heldAtEnd t_latest_left t_latest_lates t_latest_ones t_latest_code, oc2 (r_t 1) r_t_now d_t_now (u.2.2.2.2.2.2.2.2.2.2.2.2.1) (u.2.2.2.2.2.2.2.2.2.2.2.2.2.2.2.2.2.1) (u.2.2.2.2.2.2.2.2.2.2.2.2.2.2.2.2.2.2.1) (u.2.2.2.2.2.2.2.2.2.2.2.2.2.2.2.2.2.2.2.1) (u.2.2.2.2.2.2.2.2.2.2.2.2.2.2.2.2.2.2.2.2.1) (u.2.2.2.2.2.2.2.2.2.2.2.2.2.2.2.2.2.2.2.2.2.1) t_now_draws t_now_heat t_now_hour (u.2.2.2.2.2.2.2.2.2.2.2.2.2.2.2.2.2.2.2.2.2.2.1), oc5 (r_t 0) r_t_tape (u.2.2.2.2.2.2.2.2.2.2.2.2.2.2.2.2.2.2.2.2.2.2.2.1) (u.2.2.2.2.2.2.2.2.2.2.2.2.2.2.2.2.2.2.2.2.2.2.2.2.1) (u.2.2.2.2.2.2.2.2.2.2.2.2.2.2.2.2.2.2.2.2.2.2.2.2.2), ic E (r_t_aside 2) 12 (u.2.2.2.1), ic E (r_t_aside 1) 12 (u.2.2.1), ic E (r_t_aside 4) 12 (u.2.2.2.2.2.1), ic E (r_t_aside 3) 12 (u.2.2.2.2.1), ic E (r_t_now 2) 12 (u.2.2.2.2.2.2.2.2.2.2.2.2.2.2.1), ic E (r_t_now 1) 12 (u.2.2.2.2.2.2.2.2.2.2.2.2.2.1), ic E (r_t_now 4) 12 (u.2.2.2.2.2.2.2.2.2.2.2.2.2.2.2.2.1), ic E (r_t_now 3) 12 (u.2.2.2.2.2.2.2.2.2.2.2.2.2.2.2.1), ic E (r_t_tape 0) 400 t_tape_bytes]) (by decide) (Nat.le_of_ble_eq_true rfl) (Or.inl rfl) ?_
  intro p e s m args below meth c A Q ls H locs hx hb hml hown X hA Y hex w hl hQ
  have hl : lv_has ls 1 [(0, .ref h0)] := hl
  unfold pf_X7_text at hf
  refine lv_aload_n hx hb dX7_text_0 rfl (lv_at hl 0 rfl) ?_
  refine hm_get cb_X7 hx hb hown X w 0 2 fl_X7_23 dX7_text_1 rfl (by decide) rfl ?_
  obtain ⟨x1, x2, x3, x4, x5, x6, hc4, hf⟩ := pf_bv_6 hf
  refine hm_aft_v (ws' := fun _ => [oc7 h0 r_t t_writtenCount t_faultPlace, oc2 (r_t 2) r_t_aside d_t_aside x1 x2 x3 x4 x5 x6 t_aside_draws t_aside_heat t_aside_hour t_aside_seenCount, oc1 (r_t 4) r_t_latest t_latest_bits t_latest_sum t_latest_heldAtEnd t_latest_left t_latest_lates t_latest_ones t_latest_code, oc2 (r_t 1) r_t_now d_t_now t_now_bits t_now_offset t_now_band t_now_rule t_now_noise t_now_step t_now_draws t_now_heat t_now_hour t_now_seenCount, oc5 (r_t 0) r_t_tape t_tape_count t_tape_at t_tape_fault, ic E (r_t_aside 2) 12 t_aside_off, ic E (r_t_aside 1) 12 t_aside_size, ic E (r_t_aside 4) 12 t_aside_stuck, ic E (r_t_aside 3) 12 t_aside_worth, ic E (r_t_now 2) 12 t_now_off, ic E (r_t_now 1) 12 t_now_size, ic E (r_t_now 4) 12 t_now_stuck, ic E (r_t_now 3) 12 t_now_worth, ic E (r_t_tape 0) 400 t_tape_bytes]) (hm_runV (rest := []) hx hb hml hown X hA Y w 1 (ci := 2) (T := TX2) (N := 17) rfl rfl mw_X2_clear ml_X7_72 dX7_text_4 hm_ac0 [] rfl [1] rfl rfl (ct_X2_clear l E H.size (r_t 2) r_t_aside d_t_aside t_aside_bits t_aside_offset t_aside_band t_aside_rule t_aside_noise t_aside_step t_aside_draws t_aside_heat t_aside_hour t_aside_seenCount (x1, x2, x3, x4, x5, x6) hc4) rfl hl.1 ⟨⟨rfl, rfl⟩, ⟨Nat.le_of_ble_eq_true rfl, Nat.le_of_ble_eq_true rfl⟩, ⟨Nat.le_of_ble_eq_true rfl, Nat.le_of_ble_eq_true rfl⟩, Nat.le_of_ble_eq_true rfl⟩) hA w [1] [0, 2, 3, 4, 5, 6, 7, 8, 9, 10, 11, 12, 13] [0, 13, 1, 2, 3, 4, 5, 6, 7, 8, 9, 10, 11, 12] rfl rfl (by decide) (fun _ => rfl) (fun _ H locs w => ?_)
  refine lv_aload_n hx hb dX7_text_7 rfl (lv_at hl 0 rfl) ?_
  refine hm_get cb_X7 hx hb hown X w 0 0 fl_X7_10 dX7_text_8 rfl (by decide) rfl ?_
  refine lv_aload_n hx hb dX7_text_11 rfl (lv_at hl 0 rfl) ?_
  refine hm_get cb_X7 hx hb hown X w 0 2 fl_X7_23 dX7_text_12 rfl (by decide) rfl ?_
  obtain ⟨x7, x8, x9, f10, f11, f12, f13, x14, x15, x16, x17, x18, hc15, hf⟩ := pf_bv_12 hf
  refine hm_aft_v (ws' := fun _ => [oc7 h0 r_t t_writtenCount t_faultPlace, oc2 (r_t 2) r_t_aside d_t_aside x9 x14 x15 x16 x17 x18 t_aside_draws t_aside_heat t_aside_hour t_aside_seenCount, oc1 (r_t 4) r_t_latest t_latest_bits t_latest_sum t_latest_heldAtEnd t_latest_left t_latest_lates t_latest_ones t_latest_code, oc2 (r_t 1) r_t_now d_t_now t_now_bits t_now_offset t_now_band t_now_rule t_now_noise t_now_step t_now_draws t_now_heat t_now_hour t_now_seenCount, oc5 (r_t 0) r_t_tape t_tape_count x7 x8, ic E (r_t_aside 2) 12 f11, ic E (r_t_aside 1) 12 f10, ic E (r_t_aside 4) 12 f13, ic E (r_t_aside 3) 12 f12, ic E (r_t_now 2) 12 t_now_off, ic E (r_t_now 1) 12 t_now_size, ic E (r_t_now 4) 12 t_now_stuck, ic E (r_t_now 3) 12 t_now_worth, ic E (r_t_tape 0) 400 t_tape_bytes]) (hm_runS (rest := []) hx hb hml hown X hA Y w mw_X6_read ml_X7_75 dX7_text_15 hm_ac0 [.ref (r_t 0), .ref (r_t 2)] rfl [4, 1, 13, 5, 6, 7, 8] rfl rfl (ct_X6_read l E H.size (r_t 0) (r_t 2) r_t_tape r_t_aside d_t_aside t_tape_count t_tape_at t_tape_fault x1 x2 x3 x4 x5 x6 t_aside_draws t_aside_heat t_aside_hour t_aside_seenCount t_tape_bytes t_aside_off t_aside_size t_aside_stuck t_aside_worth (x7, x8, x9, f10, f11, f12, f13, x14, x15, x16, x17, x18) hc15) rfl hl.1 ⟨⟨rfl, rfl⟩, ⟨Nat.le_of_ble_eq_true rfl, Nat.le_of_ble_eq_true rfl⟩, ⟨Nat.le_of_ble_eq_true rfl, Nat.le_of_ble_eq_true rfl⟩, Nat.le_of_ble_eq_true rfl⟩) hA w [4, 1, 13, 5, 6, 7, 8] [0, 2, 3, 9, 10, 11, 12] [0, 8, 1, 2, 7, 10, 11, 12, 13, 3, 4, 5, 6, 9] rfl rfl (by decide) (fun _ => rfl) (fun _ H locs w => ?_)
  refine lv_aload_n hx hb dX7_text_18 rfl (lv_at hl 0 rfl) ?_
  obtain ⟨r19, x20, x21, hc19, hf⟩ := pf_bi_2 hf
  refine hm_aft_i (ws' := fun _ => [oc7 h0 r_t t_writtenCount x20, oc2 (r_t 2) r_t_aside d_t_aside x9 x14 x15 x16 x17 x18 t_aside_draws t_aside_heat t_aside_hour t_aside_seenCount, oc1 (r_t 4) r_t_latest t_latest_bits t_latest_sum t_latest_heldAtEnd t_latest_left t_latest_lates t_latest_ones t_latest_code, oc2 (r_t 1) r_t_now d_t_now t_now_bits t_now_offset t_now_band t_now_rule t_now_noise t_now_step t_now_draws t_now_heat t_now_hour t_now_seenCount, oc5 (r_t 0) r_t_tape x21 x7 x8, ic E (r_t_aside 2) 12 f11, ic E (r_t_aside 1) 12 f10, ic E (r_t_aside 4) 12 f13, ic E (r_t_aside 3) 12 f12, ic E (r_t_now 2) 12 t_now_off, ic E (r_t_now 1) 12 t_now_size, ic E (r_t_now 4) 12 t_now_stuck, ic E (r_t_now 3) 12 t_now_worth, ic E (r_t_tape 0) 400 t_tape_bytes]) (hm_runV (rest := []) hx hb hml hown X hA Y w 0 (ci := 6) (T := TX7) (N := 11) rfl rfl mw_X7_leaveTape ml_X7_81 dX7_text_19 hm_ac0 [] rfl [0, 4] rfl rfl (ct_X7_leaveTape l E H.size h0 r_t r_t_tape t_writtenCount t_faultPlace t_tape_count x7 x8 (r19, x20, x21) hc19) rfl hl.1 ⟨⟨rfl, rfl⟩, ⟨Nat.le_of_ble_eq_true rfl, Nat.le_of_ble_eq_true rfl⟩, ⟨Nat.le_of_ble_eq_true rfl, Nat.le_of_ble_eq_true rfl⟩, Nat.le_of_ble_eq_true rfl⟩) hA w [0, 4] [1, 2, 3, 5, 6, 7, 8, 9, 10, 11, 12, 13] [12, 0, 1, 2, 13, 3, 4, 5, 6, 7, 8, 9, 10, 11] rfl rfl (by decide) (fun _ => rfl) (fun _ H locs w => ?_)
  refine lv_if_ne (tgt := 27) hx hb dX7_text_22 (by decide) (fun c22 => ?_) (fun c22 => ?_)
  · have hf := pf_e c22 hf
    refine lv_aload_n hx hb dX7_text_27 rfl (lv_at hl 0 rfl) ?_
    refine hm_get cb_X7 hx hb hown X w 0 1 fl_X7_19 dX7_text_28 rfl (by decide) rfl ?_
    refine lv_aload_n hx hb dX7_text_31 rfl (lv_at hl 0 rfl) ?_
    refine hm_get cb_X7 hx hb hown X w 0 2 fl_X7_23 dX7_text_32 rfl (by decide) rfl ?_
    obtain ⟨x22, f23, f24, f25, f26, x27, x28, x29, x30, x31, hc35, hf⟩ := pf_bv_10 hf
    refine hm_aft_v (ws' := fun _ => [oc7 h0 r_t t_writtenCount x20, oc2 (r_t 2) r_t_aside d_t_aside x9 x14 x15 x16 x17 x18 t_aside_draws t_aside_heat t_aside_hour t_aside_seenCount, oc1 (r_t 4) r_t_latest t_latest_bits t_latest_sum t_latest_heldAtEnd t_latest_left t_latest_lates t_latest_ones t_latest_code, oc2 (r_t 1) r_t_now d_t_now x22 x27 x28 x29 x30 x31 t_now_draws t_now_heat t_now_hour t_now_seenCount, oc5 (r_t 0) r_t_tape x21 x7 x8, ic E (r_t_aside 2) 12 f11, ic E (r_t_aside 1) 12 f10, ic E (r_t_aside 4) 12 f13, ic E (r_t_aside 3) 12 f12, ic E (r_t_now 2) 12 f24, ic E (r_t_now 1) 12 f23, ic E (r_t_now 4) 12 f26, ic E (r_t_now 3) 12 f25, ic E (r_t_tape 0) 400 t_tape_bytes]) (hm_runV (rest := []) hx hb hml hown X hA Y w 3 (ci := 2) (T := TX2) (N := 17) rfl rfl mw_X2_takeForm ml_X7_85 dX7_text_35 hm_ac0 [.ref (r_t 2)] rfl [3, 1, 9, 10, 11, 12, 5, 6, 7, 8] rfl rfl (ct_X2_takeForm l E H.size (r_t 1) (r_t 2) r_t_now d_t_now r_t_aside d_t_aside t_now_bits t_now_offset t_now_band t_now_rule t_now_noise t_now_step t_now_draws t_now_heat t_now_hour t_now_seenCount x9 x14 x15 x16 x17 x18 t_aside_draws t_aside_heat t_aside_hour t_aside_seenCount t_now_off t_now_size t_now_stuck t_now_worth f11 f10 f13 f12 (x22, f23, f24, f25, f26, x27, x28, x29, x30, x31) hc35) rfl hl.1 ⟨⟨rfl, rfl⟩, ⟨Nat.le_of_ble_eq_true rfl, Nat.le_of_ble_eq_true rfl⟩, ⟨Nat.le_of_ble_eq_true rfl, Nat.le_of_ble_eq_true rfl⟩, Nat.le_of_ble_eq_true rfl⟩) hA w [3, 1, 9, 10, 11, 12, 5, 6, 7, 8] [0, 2, 4, 13] [0, 5, 1, 4, 2, 10, 11, 12, 13, 6, 7, 8, 9, 3] rfl rfl (by decide) (fun _ => rfl) (fun _ H locs w => ?_)
    refine lv_aload_n hx hb dX7_text_38 rfl (lv_at hl 0 rfl) ?_
    refine hm_get cb_X7 hx hb hown X w 0 1 fl_X7_19 dX7_text_39 rfl (by decide) rfl ?_
    refine lv_iconst (v := 0) hx hb dX7_text_42 (by decide) ?_
    refine hm_put (ws' := [oc7 h0 r_t t_writtenCount x20, oc2 (r_t 2) r_t_aside d_t_aside x9 x14 x15 x16 x17 x18 t_aside_draws t_aside_heat t_aside_hour t_aside_seenCount, oc1 (r_t 4) r_t_latest t_latest_bits t_latest_sum t_latest_heldAtEnd t_latest_left t_latest_lates t_latest_ones t_latest_code, oc2 (r_t 1) r_t_now d_t_now x22 x27 x28 x29 x30 x31 t_now_draws t_now_heat t_now_hour 0, oc5 (r_t 0) r_t_tape x21 x7 x8, ic E (r_t_aside 2) 12 f11, ic E (r_t_aside 1) 12 f10, ic E (r_t_aside 4) 12 f13, ic E (r_t_aside 3) 12 f12, ic E (r_t_now 2) 12 f24, ic E (r_t_now 1) 12 f23, ic E (r_t_now 4) 12 f26, ic E (r_t_now 3) 12 f25, ic E (r_t_tape 0) 400 t_tape_bytes]) cb_X2 hx hb hown X w 3 16 fl_X7_89 dX7_text_43 rfl (by decide) (Nat.le_of_ble_eq_true rfl) rfl rfl rfl rfl (fun H locs w => ?_)
    refine lv_aload_n hx hb dX7_text_46 rfl (lv_at hl 0 rfl) ?_
    refine hm_get cb_X7 hx hb hown X w 0 4 fl_X7_33 dX7_text_47 rfl (by decide) rfl ?_
    refine lv_iconst (v := 0) hx hb dX7_text_50 (by decide) ?_
    refine hm_put (ws' := [oc7 h0 r_t t_writtenCount x20, oc2 (r_t 2) r_t_aside d_t_aside x9 x14 x15 x16 x17 x18 t_aside_draws t_aside_heat t_aside_hour t_aside_seenCount, oc1 (r_t 4) r_t_latest 0 t_latest_sum t_latest_heldAtEnd t_latest_left t_latest_lates t_latest_ones t_latest_code, oc2 (r_t 1) r_t_now d_t_now x22 x27 x28 x29 x30 x31 t_now_draws t_now_heat t_now_hour 0, oc5 (r_t 0) r_t_tape x21 x7 x8, ic E (r_t_aside 2) 12 f11, ic E (r_t_aside 1) 12 f10, ic E (r_t_aside 4) 12 f13, ic E (r_t_aside 3) 12 f12, ic E (r_t_now 2) 12 f24, ic E (r_t_now 1) 12 f23, ic E (r_t_now 4) 12 f26, ic E (r_t_now 3) 12 f25, ic E (r_t_tape 0) 400 t_tape_bytes]) cb_X1 hx hb hown X w 2 0 fl_X7_92 dX7_text_51 rfl (by decide) (Nat.le_of_ble_eq_true rfl) rfl rfl rfl rfl (fun H locs w => ?_)
    refine lv_aload_n hx hb dX7_text_54 rfl (lv_at hl 0 rfl) ?_
    refine hm_get cb_X7 hx hb hown X w 0 1 fl_X7_19 dX7_text_55 rfl (by decide) rfl ?_
    refine hm_get cb_X2 hx hb hown X w 3 0 fl_X7_95 dX7_text_58 rfl (by decide) rfl ?_
    exact hQ _ _ _ _ _ (x20, x9, f10, f11, f12, f13, x14, x15, x16, x17, x18, 0, x22, f23, f24, f25, f26, x27, x28, x29, x30, x31, 0, x21, x7, x8) (fun _ => 0) hf rfl w dX7_text_61
  · have hf := pf_t c22 hf
    refine lv_iconst (v := (-1)) hx hb dX7_text_25 (by decide) ?_
    exact hQ _ _ _ _ _ (x20, x9, f10, f11, f12, f13, x14, x15, x16, x17, x18, t_latest_bits, t_now_bits, t_now_size, t_now_off, t_now_worth, t_now_stuck, t_now_offset, t_now_band, t_now_rule, t_now_noise, t_now_step, t_now_seenCount, x21, x7, x8) (fun _ => 0) hf rfl w dX7_text_26
set_option maxHeartbeats 8000000 in
set_option maxRecDepth 100000 in
theorem ct_X7_isNear (l : Launch) (E : hm_E) (sz : Nat) (a0 : Int32) (R : Int32 × Unit) (hf : pf_X7_isNear a0 = some R) : hm_Mi l E yX7_isNear cX7_isNear 1 .boolean [] (hm_rr 1 22 0 0) [.int a0] sz [] R.1 (fun _ => []) := by
  refine hm_ct_i R (fun u qs => []) (by decide) (Nat.le_of_ble_eq_true rfl) (Or.inr rfl) ?_
  intro p e s m args below meth c A Q ls H locs hx hb hml hown X hA Y hex w hl hQ
  have hl : lv_has ls 1 [(0, .int a0)] := hl
  unfold pf_X7_isNear at hf
  refine lv_iload_n hx hb dX7_isNear_0 rfl (lv_at hl 0 rfl) ?_
  refine lv_ldc (v := (-100000)) hx hb hown (X.use ck_X7_204 rfl) dX7_isNear_1 ?_
  refine lv_ldcw (v := 100000) hx hb hown (X.use ck_X7_385 rfl) dX7_isNear_3 ?_
  obtain ⟨r1, hc6, hf⟩ := pf_bi_0 hf
  refine hm_aft_i (ws' := fun _ => []) (hm_runS (rest := []) hx hb hml hown X hA Y w mw_X7_within ml_X7_225 dX7_isNear_6 hm_ac0 [.int a0, .int (-100000), .int 100000] rfl [] rfl rfl (ct_X7_within l E H.size a0 (-100000) 100000 (r1, ()) hc6) rfl hl.1 ⟨⟨rfl, rfl⟩, ⟨Nat.le_of_ble_eq_true rfl, Nat.le_of_ble_eq_true rfl⟩, ⟨Nat.le_of_ble_eq_true rfl, Nat.le_of_ble_eq_true rfl⟩, Nat.le_of_ble_eq_true rfl⟩) hA w [] [] [] rfl rfl (by decide) (fun _ => rfl) (fun _ H locs w => ?_)
  obtain ⟨g9, hf⟩ := pf_ckZ hf
  exact hQ _ _ _ _ _ () (fun _ => 0) hf (hm_z g9) w dX7_isNear_9
set_option maxHeartbeats 8000000 in
set_option maxRecDepth 100000 in
theorem ct_X7_convert (l : Launch) (E : hm_E) (sz : Nat) (h0 : Nat) (r_t : Nat → Nat) (r_t_latest : Nat → Nat) (r_t_now : Nat → Nat) (d_t_now : Nat) (t_writtenCount t_faultPlace t_latest_bits t_latest_sum t_latest_heldAtEnd t_latest_left t_latest_lates t_latest_ones t_latest_code t_now_bits t_now_offset t_now_band t_now_rule t_now_noise t_now_step t_now_draws t_now_heat t_now_hour t_now_seenCount : Int32) (t_latest_apart : Nat → Int32) (t_latest_held : Nat → Int32) (t_latest_late : Nat → Int32) (t_latest_one : Nat → Int32) (t_now_off : Nat → Int32) (t_now_size : Nat → Int32) (t_now_stuck : Nat → Int32) (t_now_worth : Nat → Int32) (a1 : Int32) (R : Int32 × Int32 × (Nat → Int32) × (Nat → Int32) × (Nat → Int32) × (Nat → Int32) × Int32 × Int32 × Int32 × Int32 × Int32 × Int32 × Int32) (hf : pf_X7_convert a1 t_latest_bits t_latest_one t_latest_late t_latest_apart t_latest_held t_latest_sum t_latest_heldAtEnd t_latest_left t_latest_lates t_latest_ones t_latest_code t_now_bits t_now_size t_now_off t_now_worth t_now_stuck t_now_offset t_now_band t_now_rule t_now_noise t_now_step t_now_draws = some R) : hm_Mi l E yX7_convert cX7_convert 2 .int [] (hm_rr 3 70 0 0) [.ref h0, .int a1] sz [oc7 h0 r_t t_writtenCount t_faultPlace, oc1 (r_t 4) r_t_latest t_latest_bits t_latest_sum t_latest_heldAtEnd t_latest_left t_latest_lates t_latest_ones t_latest_code, oc2 (r_t 1) r_t_now d_t_now t_now_bits t_now_offset t_now_band t_now_rule t_now_noise t_now_step t_now_draws t_now_heat t_now_hour t_now_seenCount, ic E (r_t_latest 3) 12 t_latest_apart, ic E (r_t_latest 4) 12 t_latest_held, ic E (r_t_latest 2) 12 t_latest_late, ic E (r_t_latest 1) 12 t_latest_one, ic E (r_t_now 2) 12 t_now_off, ic E (r_t_now 1) 12 t_now_size, ic E (r_t_now 4) 12 t_now_stuck, ic E (r_t_now 3) 12 t_now_worth] R.1 (fun _ => [oc7 h0 r_t t_writtenCount t_faultPlace, oc1 (r_t 4) r_t_latest (R.2.1) (R.2.2.2.2.2.2.1) (R.2.2.2.2.2.2.2.1) (R.2.2.2.2.2.2.2.2.1) (R.2.2.2.2.2.2.2.2.2.1) (R.2.2.2.2.2.2.2.2.2.2.1) (R.2.2.2.2.2.2.2.2.2.2.2.1), oc2 (r_t 1) r_t_now d_t_now t_now_bits t_now_offset t_now_band t_now_rule t_now_noise t_now_step (R.2.2.2.2.2.2.2.2.2.2.2.2) t_now_heat t_now_hour t_now_seenCount, ic E (r_t_latest 3) 12 (R.2.2.2.2.1), ic E (r_t_latest 4) 12 (R.2.2.2.2.2.1), ic E (r_t_latest 2) 12 (R.2.2.2.1), ic E (r_t_latest 1) 12 (R.2.2.1), ic E (r_t_now 2) 12 t_now_off, ic E (r_t_now 1) 12 t_now_size, ic E (r_t_now 4) 12 t_now_stuck, ic E (r_t_now 3) 12 t_now_worth]) := by
  refine hm_ct_i R (fun u qs => [oc7 h0 r_t t_writtenCount t_faultPlace, oc1 (r_t 4) r_t_latest (u.1) (u.2.2.2.2.2.1) (u.2.2.2.2.2.2.1) (u.2.2.2.2.2.2.2.1) (u.2.2.2.2.2.2.2.2.1) (u.2.2.2.2.2.2.2.2.2.1) (u.2.2.2.2.2.2.2.2.2.2.1), oc2 (r_t 1) r_t_now d_t_now t_now_bits t_now_offset t_now_band t_now_rule t_now_noise t_now_step (u.2.2.2.2.2.2.2.2.2.2.2) t_now_heat t_now_hour t_now_seenCount, ic E (r_t_latest 3) 12 (u.2.2.2.1), ic E (r_t_latest 4) 12 (u.2.2.2.2.1), ic E (r_t_latest 2) 12 (u.2.2.1), ic E (r_t_latest 1) 12 (u.2.1), ic E (r_t_now 2) 12 t_now_off, ic E (r_t_now 1) 12 t_now_size, ic E (r_t_now 4) 12 t_now_stuck, ic E (r_t_now 3) 12 t_now_worth]) (by decide) (Nat.le_of_ble_eq_true rfl) (Or.inl rfl) ?_
  intro p e s m args below meth c A Q ls H locs hx hb hml hown X hA Y hex w hl hQ
  have hl : lv_has ls 2 [(0, .ref h0), (1, .int a1)] := hl
  unfold pf_X7_convert at hf
  refine lv_aload_n hx hb dX7_convert_0 rfl (lv_at hl 0 rfl) ?_
  refine hm_get cb_X7 hx hb hown X w 0 1 fl_X7_19 dX7_convert_1 rfl (by decide) rfl ?_
  refine hm_get cb_X2 hx hb hown X w 2 0 fl_X7_95 dX7_convert_4 rfl (by decide) rfl ?_
  refine lv_if_eq (tgt := 17) hx hb dX7_convert_7 (by decide) (fun c7 => ?_) (fun c7 => ?_)
  · have hf := pf_t c7 hf
    refine lv_ldc (v := (-1000000)) hx hb hown (X.use ck_X7_143 rfl) dX7_convert_17 ?_
    exact hQ _ _ _ _ _ (t_latest_bits, t_latest_one, t_latest_late, t_latest_apart, t_latest_held, t_latest_sum, t_latest_heldAtEnd, t_latest_left, t_latest_lates, t_latest_ones, t_latest_code, t_now_draws) (fun _ => 0) hf rfl w dX7_convert_19
  · have hf := pf_e c7 hf
    refine lv_iload_n hx hb dX7_convert_10 rfl (lv_at hl 1 rfl) ?_
    obtain ⟨r1, hc11, hf⟩ := pf_bi_0 hf
    refine hm_aft_i (ws' := fun _ => [oc7 h0 r_t t_writtenCount t_faultPlace, oc1 (r_t 4) r_t_latest t_latest_bits t_latest_sum t_latest_heldAtEnd t_latest_left t_latest_lates t_latest_ones t_latest_code, oc2 (r_t 1) r_t_now d_t_now t_now_bits t_now_offset t_now_band t_now_rule t_now_noise t_now_step t_now_draws t_now_heat t_now_hour t_now_seenCount, ic E (r_t_latest 3) 12 t_latest_apart, ic E (r_t_latest 4) 12 t_latest_held, ic E (r_t_latest 2) 12 t_latest_late, ic E (r_t_latest 1) 12 t_latest_one, ic E (r_t_now 2) 12 t_now_off, ic E (r_t_now 1) 12 t_now_size, ic E (r_t_now 4) 12 t_now_stuck, ic E (r_t_now 3) 12 t_now_worth]) (hm_runS (rest := []) hx hb hml hown X hA Y w mw_X7_isNear ml_X7_236 dX7_convert_11 hm_ac0 [.int a1] rfl [] rfl rfl (ct_X7_isNear l E H.size a1 (r1, ()) hc11) rfl hl.1 ⟨⟨rfl, rfl⟩, ⟨Nat.le_of_ble_eq_true rfl, Nat.le_of_ble_eq_true rfl⟩, ⟨Nat.le_of_ble_eq_true rfl, Nat.le_of_ble_eq_true rfl⟩, Nat.le_of_ble_eq_true rfl⟩) hA w [] [0, 1, 2, 3, 4, 5, 6, 7, 8, 9, 10] [0, 1, 2, 3, 4, 5, 6, 7, 8, 9, 10] rfl rfl (by decide) (fun _ => rfl) (fun _ H locs w => ?_)
    refine lv_if_ne (tgt := 20) hx hb dX7_convert_14 (by decide) (fun c14 => ?_) (fun c14 => ?_)
    · have hf := pf_e c14 hf
      refine lv_aload_n hx hb dX7_convert_20 rfl (lv_at hl 0 rfl) ?_
      refine hm_get cb_X7 hx hb hown X w 0 1 fl_X7_19 dX7_convert_21 rfl (by decide) rfl ?_
      refine lv_iload_n hx hb dX7_convert_24 rfl (lv_at hl 1 rfl) ?_
      refine lv_aload_n hx hb dX7_convert_25 rfl (lv_at hl 0 rfl) ?_
      refine hm_get cb_X7 hx hb hown X w 0 1 fl_X7_19 dX7_convert_26 rfl (by decide) rfl ?_
      refine hm_get cb_X2 hx hb hown X w 2 5 fl_X7_175 dX7_convert_29 rfl (by decide) rfl ?_
      refine lv_aload_n hx hb dX7_convert_32 rfl (lv_at hl 0 rfl) ?_
      refine hm_get cb_X7 hx hb hown X w 0 1 fl_X7_19 dX7_convert_33 rfl (by decide) rfl ?_
      refine hm_get cb_X2 hx hb hown X w 2 0 fl_X7_95 dX7_convert_36 rfl (by decide) rfl ?_
      refine lv_aload_n hx hb dX7_convert_39 rfl (lv_at hl 0 rfl) ?_
      refine hm_get cb_X7 hx hb hown X w 0 4 fl_X7_33 dX7_convert_40 rfl (by decide) rfl ?_
      obtain ⟨x2, x3, f4, f5, f6, f7, x8, x9, x10, x11, x12, x13, hc43, hf⟩ := pf_bv_12 hf
      refine hm_aft_v (ws' := fun _ => [oc7 h0 r_t t_writtenCount t_faultPlace, oc1 (r_t 4) r_t_latest x3 x8 x9 x10 x11 x12 x13, oc2 (r_t 1) r_t_now d_t_now t_now_bits t_now_offset t_now_band t_now_rule t_now_noise t_now_step x2 t_now_heat t_now_hour t_now_seenCount, ic E (r_t_latest 3) 12 f6, ic E (r_t_latest 4) 12 f7, ic E (r_t_latest 2) 12 f5, ic E (r_t_latest 1) 12 f4, ic E (r_t_now 2) 12 t_now_off, ic E (r_t_now 1) 12 t_now_size, ic E (r_t_now 4) 12 t_now_stuck, ic E (r_t_now 3) 12 t_now_worth]) (hm_runV (rest := []) hx hb hml hown X hA Y w 2 (ci := 2) (T := TX2) (N := 17) rfl rfl mw_X2_run ml_X7_239 dX7_convert_43 hm_ac0 [.int a1, .int t_now_offset, .int t_now_bits, .ref (r_t 4)] rfl [2, 1, 7, 8, 9, 10, 3, 4, 5, 6] rfl rfl (ct_X2_run l E H.size (r_t 1) (r_t 4) r_t_now d_t_now r_t_latest t_now_bits t_now_offset t_now_band t_now_rule t_now_noise t_now_step t_now_draws t_now_heat t_now_hour t_now_seenCount t_latest_bits t_latest_sum t_latest_heldAtEnd t_latest_left t_latest_lates t_latest_ones t_latest_code t_now_off t_now_size t_now_stuck t_now_worth t_latest_apart t_latest_held t_latest_late t_latest_one a1 t_now_offset t_now_bits (x2, x3, f4, f5, f6, f7, x8, x9, x10, x11, x12, x13) hc43) rfl hl.1 ⟨⟨rfl, rfl⟩, ⟨Nat.le_of_ble_eq_true rfl, Nat.le_of_ble_eq_true rfl⟩, ⟨Nat.le_of_ble_eq_true rfl, Nat.le_of_ble_eq_true rfl⟩, Nat.le_of_ble_eq_true rfl⟩) hA w [2, 1, 7, 8, 9, 10, 3, 4, 5, 6] [0] [0, 2, 1, 7, 8, 9, 10, 3, 4, 5, 6] rfl rfl (by decide) (fun _ => rfl) (fun _ H locs w => ?_)
      refine lv_aload_n hx hb dX7_convert_46 rfl (lv_at hl 0 rfl) ?_
      refine hm_get cb_X7 hx hb hown X w 0 4 fl_X7_33 dX7_convert_47 rfl (by decide) rfl ?_
      refine hm_get cb_X1 hx hb hown X w 1 10 fl_X7_243 dX7_convert_50 rfl (by decide) rfl ?_
      exact hQ _ _ _ _ _ (x3, f4, f5, f6, f7, x8, x9, x10, x11, x12, x13, x2) (fun _ => 0) hf rfl w dX7_convert_53
    · have hf := pf_t c14 hf
      refine lv_ldc (v := (-1000000)) hx hb hown (X.use ck_X7_143 rfl) dX7_convert_17 ?_
      exact hQ _ _ _ _ _ (t_latest_bits, t_latest_one, t_latest_late, t_latest_apart, t_latest_held, t_latest_sum, t_latest_heldAtEnd, t_latest_left, t_latest_lates, t_latest_ones, t_latest_code, t_now_draws) (fun _ => 0) hf rfl w dX7_convert_19
set_option maxHeartbeats 8000000 in
set_option maxRecDepth 100000 in
theorem ct_X7_toldUnless (l : Launch) (E : hm_E) (sz : Nat) (a0 : Int32) (a1 : Int32) (R : Int32 × Unit) (hf : pf_X7_toldUnless a0 a1 = some R) : hm_Mi l E yX7_toldUnless cX7_toldUnless 2 .int [] (hm_rr 0 0 0 0) [.int a0, .int a1] sz [] R.1 (fun _ => []) := by
  refine hm_ct_i R (fun u qs => []) (by decide) (Nat.le_of_ble_eq_true rfl) (Or.inl rfl) ?_
  intro p e s m args below meth c A Q ls H locs hx hb hml hown X hA Y hex w hl hQ
  have hl : lv_has ls 2 [(0, .int a0), (1, .int a1)] := hl
  unfold pf_X7_toldUnless at hf
  refine lv_iload_n hx hb dX7_toldUnless_0 rfl (lv_at hl 0 rfl) ?_
  refine lv_iload_n hx hb dX7_toldUnless_1 rfl (lv_at hl 1 rfl) ?_
  refine lv_icmp_ne (tgt := 9) hx hb dX7_toldUnless_2 (by decide) (fun c2 => ?_) (fun c2 => ?_)
  · have hf := pf_e c2 hf
    refine lv_iload_n hx hb dX7_toldUnless_9 rfl (lv_at hl 0 rfl) ?_
    exact hQ _ _ _ _ _ () (fun _ => 0) hf rfl w dX7_toldUnless_10
  · have hf := pf_t c2 hf
    refine lv_iconst (v := (-1)) hx hb dX7_toldUnless_5 (by decide) ?_
    refine lv_goto (tgt := 10) hx hb dX7_toldUnless_6 (by decide) ?_
    exact hQ _ _ _ _ _ () (fun _ => 0) hf rfl w dX7_toldUnless_10
set_option maxHeartbeats 8000000 in
set_option maxRecDepth 100000 in
theorem ct_X7_learn (l : Launch) (E : hm_E) (sz : Nat) (h0 : Nat) (r_t : Nat → Nat) (r_t_now : Nat → Nat) (d_t_now : Nat) (r_t_passing : Nat → Nat) (t_writtenCount t_faultPlace t_now_bits t_now_offset t_now_band t_now_rule t_now_noise t_now_step t_now_draws t_now_heat t_now_hour t_now_seenCount t_passing_bits t_passing_sum t_passing_heldAtEnd t_passing_left t_passing_lates t_passing_ones t_passing_code : Int32) (t_now_off : Nat → Int32) (t_now_size : Nat → Int32) (t_now_stuck : Nat → Int32) (t_now_worth : Nat → Int32) (t_passing_apart : Nat → Int32) (t_passing_held : Nat → Int32) (t_passing_late : Nat → Int32) (t_passing_one : Nat → Int32) (a1 : Int32) (a2 : Int32) (R : Int32 × (Nat → Int32) × Int32 × Int32 × (Nat → Int32) × (Nat → Int32) × (Nat → Int32) × (Nat → Int32) × Int32 × Int32 × Int32 × Int32 × Int32 × Int32) (hf : pf_X7_learn a1 a2 t_now_bits t_now_size t_now_off t_now_worth t_now_stuck t_now_offset t_now_band t_now_rule t_now_noise t_now_step t_now_draws t_passing_bits t_passing_one t_passing_late t_passing_apart t_passing_held t_passing_sum t_passing_heldAtEnd t_passing_left t_passing_lates t_passing_ones t_passing_code = some R) : hm_Mi l E yX7_learn cX7_learn 5 .int [] (hm_rr 4 97 0 0) [.ref h0, .int a1, .int a2] sz [oc7 h0 r_t t_writtenCount t_faultPlace, oc2 (r_t 1) r_t_now d_t_now t_now_bits t_now_offset t_now_band t_now_rule t_now_noise t_now_step t_now_draws t_now_heat t_now_hour t_now_seenCount, oc1 (r_t 5) r_t_passing t_passing_bits t_passing_sum t_passing_heldAtEnd t_passing_left t_passing_lates t_passing_ones t_passing_code, ic E (r_t_now 2) 12 t_now_off, ic E (r_t_now 1) 12 t_now_size, ic E (r_t_now 4) 12 t_now_stuck, ic E (r_t_now 3) 12 t_now_worth, ic E (r_t_passing 3) 12 t_passing_apart, ic E (r_t_passing 4) 12 t_passing_held, ic E (r_t_passing 2) 12 t_passing_late, ic E (r_t_passing 1) 12 t_passing_one] R.1 (fun _ => [oc7 h0 r_t t_writtenCount t_faultPlace, oc2 (r_t 1) r_t_now d_t_now t_now_bits t_now_offset t_now_band t_now_rule t_now_noise t_now_step (R.2.2.1) t_now_heat t_now_hour t_now_seenCount, oc1 (r_t 5) r_t_passing (R.2.2.2.1) (R.2.2.2.2.2.2.2.2.1) (R.2.2.2.2.2.2.2.2.2.1) (R.2.2.2.2.2.2.2.2.2.2.1) (R.2.2.2.2.2.2.2.2.2.2.2.1) (R.2.2.2.2.2.2.2.2.2.2.2.2.1) (R.2.2.2.2.2.2.2.2.2.2.2.2.2), ic E (r_t_now 2) 12 t_now_off, ic E (r_t_now 1) 12 t_now_size, ic E (r_t_now 4) 12 t_now_stuck, ic E (r_t_now 3) 12 (R.2.1), ic E (r_t_passing 3) 12 (R.2.2.2.2.2.2.1), ic E (r_t_passing 4) 12 (R.2.2.2.2.2.2.2.1), ic E (r_t_passing 2) 12 (R.2.2.2.2.2.1), ic E (r_t_passing 1) 12 (R.2.2.2.2.1)]) := by
  refine hm_ct_i R (fun u qs => [oc7 h0 r_t t_writtenCount t_faultPlace, oc2 (r_t 1) r_t_now d_t_now t_now_bits t_now_offset t_now_band t_now_rule t_now_noise t_now_step (u.2.1) t_now_heat t_now_hour t_now_seenCount, oc1 (r_t 5) r_t_passing (u.2.2.1) (u.2.2.2.2.2.2.2.1) (u.2.2.2.2.2.2.2.2.1) (u.2.2.2.2.2.2.2.2.2.1) (u.2.2.2.2.2.2.2.2.2.2.1) (u.2.2.2.2.2.2.2.2.2.2.2.1) (u.2.2.2.2.2.2.2.2.2.2.2.2), ic E (r_t_now 2) 12 t_now_off, ic E (r_t_now 1) 12 t_now_size, ic E (r_t_now 4) 12 t_now_stuck, ic E (r_t_now 3) 12 (u.1), ic E (r_t_passing 3) 12 (u.2.2.2.2.2.1), ic E (r_t_passing 4) 12 (u.2.2.2.2.2.2.1), ic E (r_t_passing 2) 12 (u.2.2.2.2.1), ic E (r_t_passing 1) 12 (u.2.2.2.1)]) (by decide) (Nat.le_of_ble_eq_true rfl) (Or.inl rfl) ?_
  intro p e s m args below meth c A Q ls H locs hx hb hml hown X hA Y hex w hl hQ
  have hl : lv_has ls 5 [(0, .ref h0), (1, .int a1), (2, .int a2)] := hl
  unfold pf_X7_learn at hf
  refine lv_iload_n hx hb dX7_learn_0 rfl (lv_at hl 1 rfl) ?_
  refine lv_iconst (v := 1) hx hb dX7_learn_1 (by decide) ?_
  refine lv_aload_n hx hb dX7_learn_2 rfl (lv_at hl 0 rfl) ?_
  refine hm_get cb_X7 hx hb hown X w 0 1 fl_X7_19 dX7_learn_3 rfl (by decide) rfl ?_
  refine hm_get cb_X2 hx hb hown X w 1 0 fl_X7_95 dX7_learn_6 rfl (by decide) rfl ?_
  obtain ⟨r1, hc9, hf⟩ := pf_bi_0 hf
  refine hm_aft_i (ws' := fun _ => [oc7 h0 r_t t_writtenCount t_faultPlace, oc2 (r_t 1) r_t_now d_t_now t_now_bits t_now_offset t_now_band t_now_rule t_now_noise t_now_step t_now_draws t_now_heat t_now_hour t_now_seenCount, oc1 (r_t 5) r_t_passing t_passing_bits t_passing_sum t_passing_heldAtEnd t_passing_left t_passing_lates t_passing_ones t_passing_code, ic E (r_t_now 2) 12 t_now_off, ic E (r_t_now 1) 12 t_now_size, ic E (r_t_now 4) 12 t_now_stuck, ic E (r_t_now 3) 12 t_now_worth, ic E (r_t_passing 3) 12 t_passing_apart, ic E (r_t_passing 4) 12 t_passing_held, ic E (r_t_passing 2) 12 t_passing_late, ic E (r_t_passing 1) 12 t_passing_one]) (hm_runS (rest := []) hx hb hml hown X hA Y w mw_X7_within ml_X7_225 dX7_learn_9 hm_ac0 [.int a1, .int 1, .int t_now_bits] rfl [] rfl rfl (ct_X7_within l E H.size a1 1 t_now_bits (r1, ()) hc9) rfl hl.1 ⟨⟨rfl, rfl⟩, ⟨Nat.le_of_ble_eq_true rfl, Nat.le_of_ble_eq_true rfl⟩, ⟨Nat.le_of_ble_eq_true rfl, Nat.le_of_ble_eq_true rfl⟩, Nat.le_of_ble_eq_true rfl⟩) hA w [] [0, 1, 2, 3, 4, 5, 6, 7, 8, 9, 10] [0, 1, 2, 3, 4, 5, 6, 7, 8, 9, 10] rfl rfl (by decide) (fun _ => rfl) (fun _ H locs w => ?_)
  refine lv_if_eq (tgt := 25) hx hb dX7_learn_12 (by decide) (fun c12 => ?_) (fun c12 => ?_)
  · have hf := pf_t c12 hf
    refine lv_iconst (v := (-1)) hx hb dX7_learn_25 (by decide) ?_
    exact hQ _ _ _ _ _ (t_now_worth, t_now_draws, t_passing_bits, t_passing_one, t_passing_late, t_passing_apart, t_passing_held, t_passing_sum, t_passing_heldAtEnd, t_passing_left, t_passing_lates, t_passing_ones, t_passing_code) (fun _ => 0) hf rfl w dX7_learn_26
  · have hf := pf_e c12 hf
    refine lv_iload_n hx hb dX7_learn_15 rfl (lv_at hl 2 rfl) ?_
    refine lv_iconst (v := 1) hx hb dX7_learn_16 (by decide) ?_
    refine lv_bipush (v := 8) hx hb dX7_learn_17 (by decide) ?_
    obtain ⟨r2, hc19, hf⟩ := pf_bi_0 hf
    refine hm_aft_i (ws' := fun _ => [oc7 h0 r_t t_writtenCount t_faultPlace, oc2 (r_t 1) r_t_now d_t_now t_now_bits t_now_offset t_now_band t_now_rule t_now_noise t_now_step t_now_draws t_now_heat t_now_hour t_now_seenCount, oc1 (r_t 5) r_t_passing t_passing_bits t_passing_sum t_passing_heldAtEnd t_passing_left t_passing_lates t_passing_ones t_passing_code, ic E (r_t_now 2) 12 t_now_off, ic E (r_t_now 1) 12 t_now_size, ic E (r_t_now 4) 12 t_now_stuck, ic E (r_t_now 3) 12 t_now_worth, ic E (r_t_passing 3) 12 t_passing_apart, ic E (r_t_passing 4) 12 t_passing_held, ic E (r_t_passing 2) 12 t_passing_late, ic E (r_t_passing 1) 12 t_passing_one]) (hm_runS (rest := []) hx hb hml hown X hA Y w mw_X7_within ml_X7_225 dX7_learn_19 hm_ac0 [.int a2, .int 1, .int 8] rfl [] rfl rfl (ct_X7_within l E H.size a2 1 8 (r2, ()) hc19) rfl hl.1 ⟨⟨rfl, rfl⟩, ⟨Nat.le_of_ble_eq_true rfl, Nat.le_of_ble_eq_true rfl⟩, ⟨Nat.le_of_ble_eq_true rfl, Nat.le_of_ble_eq_true rfl⟩, Nat.le_of_ble_eq_true rfl⟩) hA w [] [0, 1, 2, 3, 4, 5, 6, 7, 8, 9, 10] [0, 1, 2, 3, 4, 5, 6, 7, 8, 9, 10] rfl rfl (by decide) (fun _ => rfl) (fun _ H locs w => ?_)
    refine lv_if_ne (tgt := 27) hx hb dX7_learn_22 (by decide) (fun c22 => ?_) (fun c22 => ?_)
    · have hf := pf_e c22 hf
      refine lv_aload_n hx hb dX7_learn_27 rfl (lv_at hl 0 rfl) ?_
      refine hm_get cb_X7 hx hb hown X w 0 1 fl_X7_19 dX7_learn_28 rfl (by decide) rfl ?_
      refine lv_iload_n hx hb dX7_learn_31 rfl (lv_at hl 1 rfl) ?_
      refine lv_iload_n hx hb dX7_learn_32 rfl (lv_at hl 2 rfl) ?_
      refine lv_aload_n hx hb dX7_learn_33 rfl (lv_at hl 0 rfl) ?_
      refine hm_get cb_X7 hx hb hown X w 0 5 fl_X7_37 dX7_learn_34 rfl (by decide) rfl ?_
      obtain ⟨f3, x4, x5, f6, f7, f8, f9, x10, x11, x12, x13, x14, x15, hc37, hf⟩ := pf_bv_13 hf
      refine hm_aft_v (ws' := fun _ => [oc7 h0 r_t t_writtenCount t_faultPlace, oc2 (r_t 1) r_t_now d_t_now t_now_bits t_now_offset t_now_band t_now_rule t_now_noise t_now_step x4 t_now_heat t_now_hour t_now_seenCount, oc1 (r_t 5) r_t_passing x5 x10 x11 x12 x13 x14 x15, ic E (r_t_now 2) 12 t_now_off, ic E (r_t_now 1) 12 t_now_size, ic E (r_t_now 4) 12 t_now_stuck, ic E (r_t_now 3) 12 f3, ic E (r_t_passing 3) 12 f8, ic E (r_t_passing 4) 12 f9, ic E (r_t_passing 2) 12 f7, ic E (r_t_passing 1) 12 f6]) (hm_runV (rest := []) hx hb hml hown X hA Y w 1 (ci := 2) (T := TX2) (N := 17) rfl rfl mw_X2_learnFrom ml_X7_278 dX7_learn_37 hm_ac0 [.int a1, .int a2, .ref (r_t 5)] rfl [1, 2, 3, 4, 5, 6, 7, 8, 9, 10] rfl rfl (ct_X2_learnFrom l E H.size (r_t 1) (r_t 5) r_t_now d_t_now r_t_passing t_now_bits t_now_offset t_now_band t_now_rule t_now_noise t_now_step t_now_draws t_now_heat t_now_hour t_now_seenCount t_passing_bits t_passing_sum t_passing_heldAtEnd t_passing_left t_passing_lates t_passing_ones t_passing_code t_now_off t_now_size t_now_stuck t_now_worth t_passing_apart t_passing_held t_passing_late t_passing_one a1 a2 (f3, x4, x5, f6, f7, f8, f9, x10, x11, x12, x13, x14, x15) hc37) rfl hl.1 ⟨⟨rfl, rfl⟩, ⟨Nat.le_of_ble_eq_true rfl, Nat.le_of_ble_eq_true rfl⟩, ⟨Nat.le_of_ble_eq_true rfl, Nat.le_of_ble_eq_true rfl⟩, Nat.le_of_ble_eq_true rfl⟩) hA w [1, 2, 3, 4, 5, 6, 7, 8, 9, 10] [0] [0, 1, 2, 3, 4, 5, 6, 7, 8, 9, 10] rfl rfl (by decide) (fun _ => rfl) (fun _ H locs w => ?_)
      refine lv_iconst (v := 0) hx hb dX7_learn_40 (by decide) ?_
      refine lv_istore_n (lv' := [(3, .int 0), (0, .ref h0), (1, .int a1), (2, .int a2)]) hx hb dX7_learn_41 rfl hl (by decide) rfl (fun ls hl => ?_)
      refine lv_iload_n hx hb dX7_learn_42 rfl (lv_at hl 2 rfl) ?_
      refine lv_istore (lv' := [(4, .int a1), (3, .int 0), (0, .ref h0), (1, .int a1), (2, .int a2)]) hx hb dX7_learn_43 hl (by decide) rfl (fun ls hl => ?_)
      have klp_X7_learn_45 : ∀ (n : Nat) (x16 : Int32) (x17 : Int32) (H : Heap) (locs : List Loc) (ls : Array Slot), lp_X7_learn_45 t_now_bits t_now_off t_now_size f3 x4 x5 f6 f7 f8 f9 x10 x11 x12 x13 x14 x15 n x16 x17 = some R → hm_W E A s.heap [oc7 h0 r_t t_writtenCount t_faultPlace, oc2 (r_t 1) r_t_now d_t_now t_now_bits t_now_offset t_now_band t_now_rule t_now_noise t_now_step x4 t_now_heat t_now_hour t_now_seenCount, oc1 (r_t 5) r_t_passing x5 x10 x11 x12 x13 x14 x15, ic E (r_t_now 2) 12 t_now_off, ic E (r_t_now 1) 12 t_now_size, ic E (r_t_now 4) 12 t_now_stuck, ic E (r_t_now 3) 12 f3, ic E (r_t_passing 3) 12 f8, ic E (r_t_passing 4) 12 f9, ic E (r_t_passing 2) 12 f7, ic E (r_t_passing 1) 12 f6] H locs → lv_has ls 5 [(0, .ref h0), (3, .int x16), (4, .int x17)] → W p l e (hm_rr 4 97 0 0) s m args below meth c H locs 0 0 Q (F0 m 45 ls []) := by
        intro n
        induction n with
        | zero =>
          intro x16 x17 H locs ls hf w hl
          exact pf_no hf
        | succ n ih45 =>
          intro x16 x17 H locs ls hf w hl
          rw [lp_X7_learn_45] at hf
          refine lv_iload hx hb dX7_learn_45 (lv_at hl 2 rfl) ?_
          refine lv_aload_n hx hb dX7_learn_47 rfl (lv_at hl 0 rfl) ?_
          refine hm_get cb_X7 hx hb hown X w 0 1 fl_X7_19 dX7_learn_48 rfl (by decide) rfl ?_
          refine hm_get cb_X2 hx hb hown X w 1 0 fl_X7_95 dX7_learn_51 rfl (by decide) rfl ?_
          refine lv_icmp_ge (tgt := 78) hx hb dX7_learn_54 (by decide) (fun c54 => ?_) (fun c54 => ?_)
          · have hf := pf_t c54 hf
            refine lv_iload_n hx hb dX7_learn_78 rfl (lv_at hl 1 rfl) ?_
            exact hQ _ _ _ _ _ (f3, x4, x5, f6, f7, f8, f9, x10, x11, x12, x13, x14, x15) (fun _ => 0) hf rfl w dX7_learn_79
          · have hf := pf_e c54 hf
            refine lv_aload_n hx hb dX7_learn_57 rfl (lv_at hl 0 rfl) ?_
            refine hm_get cb_X7 hx hb hown X w 0 1 fl_X7_19 dX7_learn_58 rfl (by decide) rfl ?_
            refine lv_iload hx hb dX7_learn_61 (lv_at hl 2 rfl) ?_
            obtain ⟨r18, hc63, hf⟩ := pf_bi_0 hf
            refine hm_aft_i (ws' := fun _ => [oc7 h0 r_t t_writtenCount t_faultPlace, oc2 (r_t 1) r_t_now d_t_now t_now_bits t_now_offset t_now_band t_now_rule t_now_noise t_now_step x4 t_now_heat t_now_hour t_now_seenCount, oc1 (r_t 5) r_t_passing x5 x10 x11 x12 x13 x14 x15, ic E (r_t_now 2) 12 t_now_off, ic E (r_t_now 1) 12 t_now_size, ic E (r_t_now 4) 12 t_now_stuck, ic E (r_t_now 3) 12 f3, ic E (r_t_passing 3) 12 f8, ic E (r_t_passing 4) 12 f9, ic E (r_t_passing 2) 12 f7, ic E (r_t_passing 1) 12 f6]) (hm_runV (rest := []) hx hb hml hown X hA Y w 1 (ci := 2) (T := TX2) (N := 17) rfl rfl mw_X2_isShort ml_X7_222 dX7_learn_63 hm_ac0 [.int x17] rfl [1, 3, 4] rfl rfl (ct_X2_isShort l E H.size (r_t 1) r_t_now d_t_now t_now_bits t_now_offset t_now_band t_now_rule t_now_noise t_now_step x4 t_now_heat t_now_hour t_now_seenCount t_now_off t_now_size x17 (r18, ()) hc63) rfl hl.1 ⟨⟨rfl, rfl⟩, ⟨Nat.le_of_ble_eq_true rfl, Nat.le_of_ble_eq_true rfl⟩, ⟨Nat.le_of_ble_eq_true rfl, Nat.le_of_ble_eq_true rfl⟩, Nat.le_of_ble_eq_true rfl⟩) hA w [1, 3, 4] [0, 2, 5, 6, 7, 8, 9, 10] [0, 8, 1, 9, 10, 2, 3, 4, 5, 6, 7] rfl rfl (by decide) (fun _ => rfl) (fun _ H locs w => ?_)
            refine lv_if_eq (tgt := 72) hx hb dX7_learn_66 (by decide) (fun c66 => ?_) (fun c66 => ?_)
            · have hf := pf_t c66 hf
              obtain ⟨x19, ex19⟩ : ∃ y : Int32, y = (x17 + 1) := ⟨_, rfl⟩
              have hf := pf_nm ex19 hf
              refine lv_iinc (v := x19) (lv' := [(4, .int x19), (0, .ref h0), (3, .int x16)]) hx hb dX7_learn_72 hl (k := 2) rfl (by rw [ex19]; rfl) (by decide) rfl (fun ls hl => ?_)
              refine lv_goto (tgt := 45) hx hb dX7_learn_75 (by decide) ?_
              exact ih45 _ _ _ _ _ hf w (lv_sub hl [1, 2, 0] rfl)
            · have hf := pf_e c66 hf
              obtain ⟨x20, ex20⟩ : ∃ y : Int32, y = (x16 + 1) := ⟨_, rfl⟩
              have hf := pf_nm ex20 hf
              refine lv_iinc (v := x20) (lv' := [(3, .int x20), (0, .ref h0), (4, .int x17)]) hx hb dX7_learn_69 hl (k := 1) rfl (by rw [ex20]; rfl) (by decide) rfl (fun ls hl => ?_)
              obtain ⟨x21, ex21⟩ : ∃ y : Int32, y = (x17 + 1) := ⟨_, rfl⟩
              have hf := pf_nm ex21 hf
              refine lv_iinc (v := x21) (lv' := [(4, .int x21), (3, .int x20), (0, .ref h0)]) hx hb dX7_learn_72 hl (k := 2) rfl (by rw [ex21]; rfl) (by decide) rfl (fun ls hl => ?_)
              refine lv_goto (tgt := 45) hx hb dX7_learn_75 (by decide) ?_
              exact ih45 _ _ _ _ _ hf w (lv_sub hl [2, 1, 0] rfl)
      exact klp_X7_learn_45 FU _ _ _ _ _ hf w (lv_sub hl [2, 1, 0] rfl)
    · have hf := pf_t c22 hf
      refine lv_iconst (v := (-1)) hx hb dX7_learn_25 (by decide) ?_
      exact hQ _ _ _ _ _ (t_now_worth, t_now_draws, t_passing_bits, t_passing_one, t_passing_late, t_passing_apart, t_passing_held, t_passing_sum, t_passing_heldAtEnd, t_passing_left, t_passing_lates, t_passing_ones, t_passing_code) (fun _ => 0) hf rfl w dX7_learn_26
set_option maxHeartbeats 8000000 in
set_option maxRecDepth 100000 in
theorem ct_X7_pass (l : Launch) (E : hm_E) (sz : Nat) (h0 : Nat) (r_t : Nat → Nat) (r_t_now : Nat → Nat) (d_t_now : Nat) (r_t_now_drift : Nat → Nat) (t_writtenCount t_faultPlace t_now_bits t_now_offset t_now_band t_now_rule t_now_noise t_now_step t_now_draws t_now_heat t_now_hour t_now_seenCount t_now_drift_steps t_now_drift_height t_now_drift_things : Int32) (t_now_drift_kind : Nat → Int32) (t_now_drift_stack : Nat → Int32) (t_now_drift_value : Nat → Int32) (t_now_off : Nat → Int32) (t_now_size : Nat → Int32) (a1 : Int32) (R : Int32 × (Nat → Int32) × Int32 × (Nat → Int32) × Int32) (hf : pf_X7_pass a1 t_now_bits t_now_size t_now_off t_now_heat t_now_hour t_now_drift_kind t_now_drift_value t_now_drift_stack t_now_drift_steps t_now_drift_height = some R) : hm_Mi l E yX7_pass cX7_pass 4 .int [] (hm_rr 4 94 0 0) [.ref h0, .int a1] sz [oc7 h0 r_t t_writtenCount t_faultPlace, oc2 (r_t 1) r_t_now d_t_now t_now_bits t_now_offset t_now_band t_now_rule t_now_noise t_now_step t_now_draws t_now_heat t_now_hour t_now_seenCount, oc3 d_t_now r_t_now_drift t_now_drift_steps t_now_drift_height t_now_drift_things, ic E (r_t_now_drift 0) 80 t_now_drift_kind, ic E (r_t_now_drift 2) 40 t_now_drift_stack, ic E (r_t_now_drift 1) 80 t_now_drift_value, ic E (r_t_now 2) 12 t_now_off, ic E (r_t_now 1) 12 t_now_size] R.1 (fun _ => [oc7 h0 r_t t_writtenCount t_faultPlace, oc2 (r_t 1) r_t_now d_t_now t_now_bits t_now_offset t_now_band t_now_rule t_now_noise t_now_step t_now_draws t_now_heat (R.2.2.1) t_now_seenCount, oc3 d_t_now r_t_now_drift t_now_drift_steps (R.2.2.2.2) t_now_drift_things, ic E (r_t_now_drift 0) 80 t_now_drift_kind, ic E (r_t_now_drift 2) 40 (R.2.2.2.1), ic E (r_t_now_drift 1) 80 t_now_drift_value, ic E (r_t_now 2) 12 (R.2.1), ic E (r_t_now 1) 12 t_now_size]) := by
  refine hm_ct_i R (fun u qs => [oc7 h0 r_t t_writtenCount t_faultPlace, oc2 (r_t 1) r_t_now d_t_now t_now_bits t_now_offset t_now_band t_now_rule t_now_noise t_now_step t_now_draws t_now_heat (u.2.1) t_now_seenCount, oc3 d_t_now r_t_now_drift t_now_drift_steps (u.2.2.2) t_now_drift_things, ic E (r_t_now_drift 0) 80 t_now_drift_kind, ic E (r_t_now_drift 2) 40 (u.2.2.1), ic E (r_t_now_drift 1) 80 t_now_drift_value, ic E (r_t_now 2) 12 (u.1), ic E (r_t_now 1) 12 t_now_size]) (by decide) (Nat.le_of_ble_eq_true rfl) (Or.inl rfl) ?_
  intro p e s m args below meth c A Q ls H locs hx hb hml hown X hA Y hex w hl hQ
  have hl : lv_has ls 4 [(0, .ref h0), (1, .int a1)] := hl
  unfold pf_X7_pass at hf
  refine lv_iload_n hx hb dX7_pass_0 rfl (lv_at hl 1 rfl) ?_
  refine lv_iconst (v := 1) hx hb dX7_pass_1 (by decide) ?_
  refine lv_bipush (v := 100) hx hb dX7_pass_2 (by decide) ?_
  obtain ⟨r1, hc4, hf⟩ := pf_bi_0 hf
  refine hm_aft_i (ws' := fun _ => [oc7 h0 r_t t_writtenCount t_faultPlace, oc2 (r_t 1) r_t_now d_t_now t_now_bits t_now_offset t_now_band t_now_rule t_now_noise t_now_step t_now_draws t_now_heat t_now_hour t_now_seenCount, oc3 d_t_now r_t_now_drift t_now_drift_steps t_now_drift_height t_now_drift_things, ic E (r_t_now_drift 0) 80 t_now_drift_kind, ic E (r_t_now_drift 2) 40 t_now_drift_stack, ic E (r_t_now_drift 1) 80 t_now_drift_value, ic E (r_t_now 2) 12 t_now_off, ic E (r_t_now 1) 12 t_now_size]) (hm_runS (rest := []) hx hb hml hown X hA Y w mw_X7_within ml_X7_225 dX7_pass_4 hm_ac0 [.int a1, .int 1, .int 100] rfl [] rfl rfl (ct_X7_within l E H.size a1 1 100 (r1, ()) hc4) rfl hl.1 ⟨⟨rfl, rfl⟩, ⟨Nat.le_of_ble_eq_true rfl, Nat.le_of_ble_eq_true rfl⟩, ⟨Nat.le_of_ble_eq_true rfl, Nat.le_of_ble_eq_true rfl⟩, Nat.le_of_ble_eq_true rfl⟩) hA w [] [0, 1, 2, 3, 4, 5, 6, 7] [0, 1, 2, 3, 4, 5, 6, 7] rfl rfl (by decide) (fun _ => rfl) (fun _ H locs w => ?_)
  refine lv_if_ne (tgt := 12) hx hb dX7_pass_7 (by decide) (fun c7 => ?_) (fun c7 => ?_)
  · have hf := pf_e c7 hf
    refine lv_iconst (v := 0) hx hb dX7_pass_12 (by decide) ?_
    refine lv_istore_n (lv' := [(2, .int 0), (0, .ref h0), (1, .int a1)]) hx hb dX7_pass_13 rfl hl (by decide) rfl (fun ls hl => ?_)
    refine lv_iconst (v := 0) hx hb dX7_pass_14 (by decide) ?_
    refine lv_istore_n (lv' := [(3, .int 0), (2, .int 0), (0, .ref h0), (1, .int a1)]) hx hb dX7_pass_15 rfl hl (by decide) rfl (fun ls hl => ?_)
    have klp_X7_pass_16 : ∀ (n : Nat) (x2 : Int32) (x3 : Int32) (f4 : Nat → Int32) (x5 : Int32) (f6 : Nat → Int32) (x7 : Int32) (H : Heap) (locs : List Loc) (ls : Array Slot), lp_X7_pass_16 a1 t_now_bits t_now_heat t_now_drift_steps t_now_drift_kind t_now_drift_value t_now_size n x2 x3 f4 x5 f6 x7 = some R → hm_W E A s.heap [oc7 h0 r_t t_writtenCount t_faultPlace, oc2 (r_t 1) r_t_now d_t_now t_now_bits t_now_offset t_now_band t_now_rule t_now_noise t_now_step t_now_draws t_now_heat x5 t_now_seenCount, oc3 d_t_now r_t_now_drift t_now_drift_steps x7 t_now_drift_things, ic E (r_t_now_drift 0) 80 t_now_drift_kind, ic E (r_t_now_drift 2) 40 f6, ic E (r_t_now_drift 1) 80 t_now_drift_value, ic E (r_t_now 2) 12 f4, ic E (r_t_now 1) 12 t_now_size] H locs → lv_has ls 4 [(0, .ref h0), (1, .int a1), (2, .int x2), (3, .int x3)] → W p l e (hm_rr 4 94 0 0) s m args below meth c H locs 0 0 Q (F0 m 16 ls []) := by
      intro n
      induction n with
      | zero =>
        intro x2 x3 f4 x5 f6 x7 H locs ls hf w hl
        exact pf_no hf
      | succ n ih16 =>
        intro x2 x3 f4 x5 f6 x7 H locs ls hf w hl
        rw [lp_X7_pass_16] at hf
        refine lv_iload_n hx hb dX7_pass_16 rfl (lv_at hl 3 rfl) ?_
        refine lv_iload_n hx hb dX7_pass_17 rfl (lv_at hl 1 rfl) ?_
        refine lv_icmp_ge (tgt := 37) hx hb dX7_pass_18 (by decide) (fun c18 => ?_) (fun c18 => ?_)
        · have hf := pf_t c18 hf
          refine lv_iload_n hx hb dX7_pass_37 rfl (lv_at hl 2 rfl) ?_
          exact hQ _ _ _ _ _ (f4, x5, f6, x7) (fun _ => 0) hf rfl w dX7_pass_38
        · have hf := pf_e c18 hf
          refine lv_iload_n hx hb dX7_pass_21 rfl (lv_at hl 2 rfl) ?_
          refine lv_aload_n hx hb dX7_pass_22 rfl (lv_at hl 0 rfl) ?_
          refine hm_get cb_X7 hx hb hown X w 0 1 fl_X7_19 dX7_pass_23 rfl (by decide) rfl ?_
          obtain ⟨r8, f9, x10, f11, x12, hc26, hf⟩ := pf_bi_4 hf
          refine hm_aft_i (ws' := fun _ => [oc7 h0 r_t t_writtenCount t_faultPlace, oc2 (r_t 1) r_t_now d_t_now t_now_bits t_now_offset t_now_band t_now_rule t_now_noise t_now_step t_now_draws t_now_heat x10 t_now_seenCount, oc3 d_t_now r_t_now_drift t_now_drift_steps x12 t_now_drift_things, ic E (r_t_now_drift 0) 80 t_now_drift_kind, ic E (r_t_now_drift 2) 40 f11, ic E (r_t_now_drift 1) 80 t_now_drift_value, ic E (r_t_now 2) 12 f9, ic E (r_t_now 1) 12 t_now_size]) (hm_runV (rest := [.int x2]) hx hb hml hown X hA Y w 1 (ci := 2) (T := TX2) (N := 17) rfl rfl mw_X2_passHour ml_X7_367 dX7_pass_26 hm_ac0 [] rfl [1, 2, 3, 4, 5, 6, 7] rfl rfl (ct_X2_passHour l E H.size (r_t 1) r_t_now d_t_now r_t_now_drift t_now_bits t_now_offset t_now_band t_now_rule t_now_noise t_now_step t_now_draws t_now_heat x5 t_now_seenCount t_now_drift_steps x7 t_now_drift_things t_now_drift_kind f6 t_now_drift_value f4 t_now_size (r8, f9, x10, f11, x12) hc26) rfl hl.1 ⟨⟨rfl, rfl⟩, ⟨Nat.le_of_ble_eq_true rfl, Nat.le_of_ble_eq_true rfl⟩, ⟨Nat.le_of_ble_eq_true rfl, Nat.le_of_ble_eq_true rfl⟩, Nat.le_of_ble_eq_true rfl⟩) hA w [1, 2, 3, 4, 5, 6, 7] [0] [0, 1, 2, 3, 4, 5, 6, 7] rfl rfl (by decide) (fun _ => rfl) (fun _ H locs w => ?_)
          refine lv_iadd hx hb dX7_pass_29 ?_
          refine lv_topi (fun x13 ex13 => ?_)
          have hf := pf_nm ex13 hf
          refine lv_istore_n (lv' := [(2, .int x13), (0, .ref h0), (1, .int a1), (3, .int x3)]) hx hb dX7_pass_30 rfl hl (by decide) rfl (fun ls hl => ?_)
          obtain ⟨x14, ex14⟩ : ∃ y : Int32, y = (x3 + 1) := ⟨_, rfl⟩
          have hf := pf_nm ex14 hf
          refine lv_iinc (v := x14) (lv' := [(3, .int x14), (2, .int x13), (0, .ref h0), (1, .int a1)]) hx hb dX7_pass_31 hl (k := 3) rfl (by rw [ex14]; rfl) (by decide) rfl (fun ls hl => ?_)
          refine lv_goto (tgt := 16) hx hb dX7_pass_34 (by decide) ?_
          exact ih16 _ _ _ _ _ _ _ _ _ hf w (lv_sub hl [2, 3, 1, 0] rfl)
    exact klp_X7_pass_16 FU _ _ _ _ _ _ _ _ _ hf w (lv_sub hl [2, 3, 1, 0] rfl)
  · have hf := pf_t c7 hf
    refine lv_iconst (v := (-1)) hx hb dX7_pass_10 (by decide) ?_
    exact hQ _ _ _ _ _ (t_now_off, t_now_hour, t_now_drift_stack, t_now_drift_height) (fun _ => 0) hf rfl w dX7_pass_11
set_option maxHeartbeats 8000000 in
set_option maxRecDepth 100000 in
theorem ct_X7_heat (l : Launch) (E : hm_E) (sz : Nat) (h0 : Nat) (r_t : Nat → Nat) (r_t_now : Nat → Nat) (d_t_now : Nat) (t_writtenCount t_faultPlace t_now_bits t_now_offset t_now_band t_now_rule t_now_noise t_now_step t_now_draws t_now_heat t_now_hour t_now_seenCount : Int32) (a1 : Int32) (R : Int32 × Int32) (hf : pf_X7_heat a1 t_now_heat = some R) : hm_Mi l E yX7_heat cX7_heat 2 .boolean [] (hm_rr 1 22 0 0) [.ref h0, .int a1] sz [oc7 h0 r_t t_writtenCount t_faultPlace, oc2 (r_t 1) r_t_now d_t_now t_now_bits t_now_offset t_now_band t_now_rule t_now_noise t_now_step t_now_draws t_now_heat t_now_hour t_now_seenCount] R.1 (fun _ => [oc7 h0 r_t t_writtenCount t_faultPlace, oc2 (r_t 1) r_t_now d_t_now t_now_bits t_now_offset t_now_band t_now_rule t_now_noise t_now_step t_now_draws R.2 t_now_hour t_now_seenCount]) := by
  refine hm_ct_i R (fun u qs => [oc7 h0 r_t t_writtenCount t_faultPlace, oc2 (r_t 1) r_t_now d_t_now t_now_bits t_now_offset t_now_band t_now_rule t_now_noise t_now_step t_now_draws u t_now_hour t_now_seenCount]) (by decide) (Nat.le_of_ble_eq_true rfl) (Or.inr rfl) ?_
  intro p e s m args below meth c A Q ls H locs hx hb hml hown X hA Y hex w hl hQ
  have hl : lv_has ls 2 [(0, .ref h0), (1, .int a1)] := hl
  unfold pf_X7_heat at hf
  refine lv_iload_n hx hb dX7_heat_0 rfl (lv_at hl 1 rfl) ?_
  refine lv_iconst (v := 0) hx hb dX7_heat_1 (by decide) ?_
  refine lv_bipush (v := 99) hx hb dX7_heat_2 (by decide) ?_
  obtain ⟨r1, hc4, hf⟩ := pf_bi_0 hf
  refine hm_aft_i (ws' := fun _ => [oc7 h0 r_t t_writtenCount t_faultPlace, oc2 (r_t 1) r_t_now d_t_now t_now_bits t_now_offset t_now_band t_now_rule t_now_noise t_now_step t_now_draws t_now_heat t_now_hour t_now_seenCount]) (hm_runS (rest := []) hx hb hml hown X hA Y w mw_X7_within ml_X7_225 dX7_heat_4 hm_ac0 [.int a1, .int 0, .int 99] rfl [] rfl rfl (ct_X7_within l E H.size a1 0 99 (r1, ()) hc4) rfl hl.1 ⟨⟨rfl, rfl⟩, ⟨Nat.le_of_ble_eq_true rfl, Nat.le_of_ble_eq_true rfl⟩, ⟨Nat.le_of_ble_eq_true rfl, Nat.le_of_ble_eq_true rfl⟩, Nat.le_of_ble_eq_true rfl⟩) hA w [] [0, 1] [0, 1] rfl rfl (by decide) (fun _ => rfl) (fun _ H locs w => ?_)
  refine lv_if_ne (tgt := 12) hx hb dX7_heat_7 (by decide) (fun c7 => ?_) (fun c7 => ?_)
  · have hf := pf_e c7 hf
    refine lv_aload_n hx hb dX7_heat_12 rfl (lv_at hl 0 rfl) ?_
    refine hm_get cb_X7 hx hb hown X w 0 1 fl_X7_19 dX7_heat_13 rfl (by decide) rfl ?_
    refine lv_iload_n hx hb dX7_heat_16 rfl (lv_at hl 1 rfl) ?_
    refine hm_put (ws' := [oc7 h0 r_t t_writtenCount t_faultPlace, oc2 (r_t 1) r_t_now d_t_now t_now_bits t_now_offset t_now_band t_now_rule t_now_noise t_now_step t_now_draws a1 t_now_hour t_now_seenCount]) cb_X2 hx hb hown X w 1 11 fl_X7_199 dX7_heat_17 rfl (by decide) (Nat.le_of_ble_eq_true rfl) rfl rfl rfl rfl (fun H locs w => ?_)
    refine lv_iconst (v := 1) hx hb dX7_heat_20 (by decide) ?_
    exact hQ _ _ _ _ _ a1 (fun _ => 0) hf rfl w dX7_heat_21
  · have hf := pf_t c7 hf
    refine lv_iconst (v := 0) hx hb dX7_heat_10 (by decide) ?_
    exact hQ _ _ _ _ _ t_now_heat (fun _ => 0) hf rfl w dX7_heat_11
set_option maxHeartbeats 8000000 in
set_option maxRecDepth 100000 in
theorem ct_X7_hasBit (l : Launch) (E : hm_E) (sz : Nat) (h0 : Nat) (r_t : Nat → Nat) (r_t_now : Nat → Nat) (d_t_now : Nat) (t_writtenCount t_faultPlace t_now_bits t_now_offset t_now_band t_now_rule t_now_noise t_now_step t_now_draws t_now_heat t_now_hour t_now_seenCount : Int32) (a1 : Int32) (R : Int32 × Unit) (hf : pf_X7_hasBit a1 t_now_bits = some R) : hm_Mi l E yX7_hasBit cX7_hasBit 2 .boolean [] (hm_rr 0 0 0 0) [.ref h0, .int a1] sz [oc7 h0 r_t t_writtenCount t_faultPlace, oc2 (r_t 1) r_t_now d_t_now t_now_bits t_now_offset t_now_band t_now_rule t_now_noise t_now_step t_now_draws t_now_heat t_now_hour t_now_seenCount] R.1 (fun _ => [oc7 h0 r_t t_writtenCount t_faultPlace, oc2 (r_t 1) r_t_now d_t_now t_now_bits t_now_offset t_now_band t_now_rule t_now_noise t_now_step t_now_draws t_now_heat t_now_hour t_now_seenCount]) := by
  refine hm_ct_i R (fun u qs => [oc7 h0 r_t t_writtenCount t_faultPlace, oc2 (r_t 1) r_t_now d_t_now t_now_bits t_now_offset t_now_band t_now_rule t_now_noise t_now_step t_now_draws t_now_heat t_now_hour t_now_seenCount]) (by decide) (Nat.le_of_ble_eq_true rfl) (Or.inr rfl) ?_
  intro p e s m args below meth c A Q ls H locs hx hb hml hown X hA Y hex w hl hQ
  have hl : lv_has ls 2 [(0, .ref h0), (1, .int a1)] := hl
  unfold pf_X7_hasBit at hf
  refine lv_iload_n hx hb dX7_hasBit_0 rfl (lv_at hl 1 rfl) ?_
  refine lv_if_lt (tgt := 19) hx hb dX7_hasBit_1 (by decide) (fun c1 => ?_) (fun c1 => ?_)
  · have hf := pf_t c1 hf
    refine lv_iconst (v := 0) hx hb dX7_hasBit_19 (by decide) ?_
    exact hQ _ _ _ _ _ () (fun _ => 0) hf rfl w dX7_hasBit_20
  · have hf := pf_e c1 hf
    refine lv_iload_n hx hb dX7_hasBit_4 rfl (lv_at hl 1 rfl) ?_
    refine lv_aload_n hx hb dX7_hasBit_5 rfl (lv_at hl 0 rfl) ?_
    refine hm_get cb_X7 hx hb hown X w 0 1 fl_X7_19 dX7_hasBit_6 rfl (by decide) rfl ?_
    refine hm_get cb_X2 hx hb hown X w 1 0 fl_X7_95 dX7_hasBit_9 rfl (by decide) rfl ?_
    refine lv_icmp_ge (tgt := 19) hx hb dX7_hasBit_12 (by decide) (fun c12 => ?_) (fun c12 => ?_)
    · have hf := pf_t c12 hf
      refine lv_iconst (v := 0) hx hb dX7_hasBit_19 (by decide) ?_
      exact hQ _ _ _ _ _ () (fun _ => 0) hf rfl w dX7_hasBit_20
    · have hf := pf_e c12 hf
      refine lv_iconst (v := 1) hx hb dX7_hasBit_15 (by decide) ?_
      refine lv_goto (tgt := 20) hx hb dX7_hasBit_16 (by decide) ?_
      exact hQ _ _ _ _ _ () (fun _ => 0) hf rfl w dX7_hasBit_20
set_option maxHeartbeats 8000000 in
set_option maxRecDepth 100000 in
theorem ct_X7_stick (l : Launch) (E : hm_E) (sz : Nat) (h0 : Nat) (r_t : Nat → Nat) (r_t_now : Nat → Nat) (d_t_now : Nat) (t_writtenCount t_faultPlace t_now_bits t_now_offset t_now_band t_now_rule t_now_noise t_now_step t_now_draws t_now_heat t_now_hour t_now_seenCount : Int32) (t_now_stuck : Nat → Int32) (a1 : Int32) (a2 : Int32) (R : Int32 × (Nat → Int32)) (hf : pf_X7_stick a1 a2 t_now_bits t_now_stuck = some R) : hm_Mi l E yX7_stick cX7_stick 3 .boolean [] (hm_rr 1 22 0 0) [.ref h0, .int a1, .int a2] sz [oc7 h0 r_t t_writtenCount t_faultPlace, oc2 (r_t 1) r_t_now d_t_now t_now_bits t_now_offset t_now_band t_now_rule t_now_noise t_now_step t_now_draws t_now_heat t_now_hour t_now_seenCount, ic E (r_t_now 4) 12 t_now_stuck] R.1 (fun _ => [oc7 h0 r_t t_writtenCount t_faultPlace, oc2 (r_t 1) r_t_now d_t_now t_now_bits t_now_offset t_now_band t_now_rule t_now_noise t_now_step t_now_draws t_now_heat t_now_hour t_now_seenCount, ic E (r_t_now 4) 12 R.2]) := by
  refine hm_ct_i R (fun u qs => [oc7 h0 r_t t_writtenCount t_faultPlace, oc2 (r_t 1) r_t_now d_t_now t_now_bits t_now_offset t_now_band t_now_rule t_now_noise t_now_step t_now_draws t_now_heat t_now_hour t_now_seenCount, ic E (r_t_now 4) 12 u]) (by decide) (Nat.le_of_ble_eq_true rfl) (Or.inr rfl) ?_
  intro p e s m args below meth c A Q ls H locs hx hb hml hown X hA Y hex w hl hQ
  have hl : lv_has ls 3 [(0, .ref h0), (1, .int a1), (2, .int a2)] := hl
  unfold pf_X7_stick at hf
  refine lv_aload_n hx hb dX7_stick_0 rfl (lv_at hl 0 rfl) ?_
  refine lv_iload_n hx hb dX7_stick_1 rfl (lv_at hl 1 rfl) ?_
  obtain ⟨r1, hc2, hf⟩ := pf_bi_0 hf
  refine hm_aft_i (ws' := fun _ => [oc7 h0 r_t t_writtenCount t_faultPlace, oc2 (r_t 1) r_t_now d_t_now t_now_bits t_now_offset t_now_band t_now_rule t_now_noise t_now_step t_now_draws t_now_heat t_now_hour t_now_seenCount, ic E (r_t_now 4) 12 t_now_stuck]) (hm_runV (rest := []) hx hb hml hown X hA Y w 0 (ci := 6) (T := TX7) (N := 11) rfl rfl mw_X7_hasBit ml_X7_205 dX7_stick_2 hm_ac0 [.int a1] rfl [0, 1] rfl rfl (ct_X7_hasBit l E H.size h0 r_t r_t_now d_t_now t_writtenCount t_faultPlace t_now_bits t_now_offset t_now_band t_now_rule t_now_noise t_now_step t_now_draws t_now_heat t_now_hour t_now_seenCount a1 (r1, ()) hc2) rfl hl.1 ⟨⟨rfl, rfl⟩, ⟨Nat.le_of_ble_eq_true rfl, Nat.le_of_ble_eq_true rfl⟩, ⟨Nat.le_of_ble_eq_true rfl, Nat.le_of_ble_eq_true rfl⟩, Nat.le_of_ble_eq_true rfl⟩) hA w [0, 1] [2] [1, 2, 0] rfl rfl (by decide) (fun _ => rfl) (fun _ H locs w => ?_)
  refine lv_if_eq (tgt := 17) hx hb dX7_stick_5 (by decide) (fun c5 => ?_) (fun c5 => ?_)
  · have hf := pf_t c5 hf
    refine lv_iconst (v := 0) hx hb dX7_stick_17 (by decide) ?_
    exact hQ _ _ _ _ _ t_now_stuck (fun _ => 0) hf rfl w dX7_stick_18
  · have hf := pf_e c5 hf
    refine lv_iload_n hx hb dX7_stick_8 rfl (lv_at hl 2 rfl) ?_
    refine lv_iconst (v := (-1)) hx hb dX7_stick_9 (by decide) ?_
    refine lv_iconst (v := 1) hx hb dX7_stick_10 (by decide) ?_
    obtain ⟨r2, hc11, hf⟩ := pf_bi_0 hf
    refine hm_aft_i (ws' := fun _ => [oc7 h0 r_t t_writtenCount t_faultPlace, oc2 (r_t 1) r_t_now d_t_now t_now_bits t_now_offset t_now_band t_now_rule t_now_noise t_now_step t_now_draws t_now_heat t_now_hour t_now_seenCount, ic E (r_t_now 4) 12 t_now_stuck]) (hm_runS (rest := []) hx hb hml hown X hA Y w mw_X7_within ml_X7_225 dX7_stick_11 hm_ac0 [.int a2, .int (-1), .int 1] rfl [] rfl rfl (ct_X7_within l E H.size a2 (-1) 1 (r2, ()) hc11) rfl hl.1 ⟨⟨rfl, rfl⟩, ⟨Nat.le_of_ble_eq_true rfl, Nat.le_of_ble_eq_true rfl⟩, ⟨Nat.le_of_ble_eq_true rfl, Nat.le_of_ble_eq_true rfl⟩, Nat.le_of_ble_eq_true rfl⟩) hA w [] [0, 1, 2] [0, 1, 2] rfl rfl (by decide) (fun _ => rfl) (fun _ H locs w => ?_)
    refine lv_if_ne (tgt := 19) hx hb dX7_stick_14 (by decide) (fun c14 => ?_) (fun c14 => ?_)
    · have hf := pf_e c14 hf
      refine lv_aload_n hx hb dX7_stick_19 rfl (lv_at hl 0 rfl) ?_
      refine hm_get cb_X7 hx hb hown X w 0 1 fl_X7_19 dX7_stick_20 rfl (by decide) rfl ?_
      refine hm_get cb_X2 hx hb hown X w 1 4 fl_X7_216 dX7_stick_23 rfl (by decide) rfl ?_
      refine lv_iload_n hx hb dX7_stick_26 rfl (lv_at hl 1 rfl) ?_
      refine lv_iload_n hx hb dX7_stick_27 rfl (lv_at hl 2 rfl) ?_
      obtain ⟨g28, hf⟩ := pf_ckI hf
      refine hm_iast (ws' := [oc7 h0 r_t t_writtenCount t_faultPlace, oc2 (r_t 1) r_t_now d_t_now t_now_bits t_now_offset t_now_band t_now_rule t_now_noise t_now_step t_now_draws t_now_heat t_now_hour t_now_seenCount, ic E (r_t_now 4) 12 (upd t_now_stuck a1.toNatClampNeg a2)]) hx hb X w 2 dX7_stick_28 rfl g28 rfl (fun H locs w => ?_)
      refine lv_iconst (v := 1) hx hb dX7_stick_29 (by decide) ?_
      exact hQ _ _ _ _ _ (upd t_now_stuck a1.toNatClampNeg a2) (fun _ => 0) hf rfl w dX7_stick_30
    · have hf := pf_t c14 hf
      refine lv_iconst (v := 0) hx hb dX7_stick_17 (by decide) ?_
      exact hQ _ _ _ _ _ t_now_stuck (fun _ => 0) hf rfl w dX7_stick_18
set_option maxHeartbeats 8000000 in
set_option maxRecDepth 100000 in
theorem ct_X7_off (l : Launch) (E : hm_E) (sz : Nat) (h0 : Nat) (r_t : Nat → Nat) (r_t_now : Nat → Nat) (d_t_now : Nat) (t_writtenCount t_faultPlace t_now_bits t_now_offset t_now_band t_now_rule t_now_noise t_now_step t_now_draws t_now_heat t_now_hour t_now_seenCount : Int32) (t_now_off : Nat → Int32) (t_now_size : Nat → Int32) (a1 : Int32) (a2 : Int32) (R : Int32 × (Nat → Int32)) (hf : pf_X7_off a1 a2 t_now_bits t_now_size t_now_off = some R) : hm_Mi l E yX7_off cX7_off 3 .boolean [] (hm_rr 1 22 0 0) [.ref h0, .int a1, .int a2] sz [oc7 h0 r_t t_writtenCount t_faultPlace, oc2 (r_t 1) r_t_now d_t_now t_now_bits t_now_offset t_now_band t_now_rule t_now_noise t_now_step t_now_draws t_now_heat t_now_hour t_now_seenCount, ic E (r_t_now 2) 12 t_now_off, ic E (r_t_now 1) 12 t_now_size] R.1 (fun _ => [oc7 h0 r_t t_writtenCount t_faultPlace, oc2 (r_t 1) r_t_now d_t_now t_now_bits t_now_offset t_now_band t_now_rule t_now_noise t_now_step t_now_draws t_now_heat t_now_hour t_now_seenCount, ic E (r_t_now 2) 12 R.2, ic E (r_t_now 1) 12 t_now_size]) := by
  refine hm_ct_i R (fun u qs => [oc7 h0 r_t t_writtenCount t_faultPlace, oc2 (r_t 1) r_t_now d_t_now t_now_bits t_now_offset t_now_band t_now_rule t_now_noise t_now_step t_now_draws t_now_heat t_now_hour t_now_seenCount, ic E (r_t_now 2) 12 u, ic E (r_t_now 1) 12 t_now_size]) (by decide) (Nat.le_of_ble_eq_true rfl) (Or.inr rfl) ?_
  intro p e s m args below meth c A Q ls H locs hx hb hml hown X hA Y hex w hl hQ
  have hl : lv_has ls 3 [(0, .ref h0), (1, .int a1), (2, .int a2)] := hl
  unfold pf_X7_off at hf
  refine lv_aload_n hx hb dX7_off_0 rfl (lv_at hl 0 rfl) ?_
  refine lv_iload_n hx hb dX7_off_1 rfl (lv_at hl 1 rfl) ?_
  obtain ⟨r1, hc2, hf⟩ := pf_bi_0 hf
  refine hm_aft_i (ws' := fun _ => [oc7 h0 r_t t_writtenCount t_faultPlace, oc2 (r_t 1) r_t_now d_t_now t_now_bits t_now_offset t_now_band t_now_rule t_now_noise t_now_step t_now_draws t_now_heat t_now_hour t_now_seenCount, ic E (r_t_now 2) 12 t_now_off, ic E (r_t_now 1) 12 t_now_size]) (hm_runV (rest := []) hx hb hml hown X hA Y w 0 (ci := 6) (T := TX7) (N := 11) rfl rfl mw_X7_hasBit ml_X7_205 dX7_off_2 hm_ac0 [.int a1] rfl [0, 1] rfl rfl (ct_X7_hasBit l E H.size h0 r_t r_t_now d_t_now t_writtenCount t_faultPlace t_now_bits t_now_offset t_now_band t_now_rule t_now_noise t_now_step t_now_draws t_now_heat t_now_hour t_now_seenCount a1 (r1, ()) hc2) rfl hl.1 ⟨⟨rfl, rfl⟩, ⟨Nat.le_of_ble_eq_true rfl, Nat.le_of_ble_eq_true rfl⟩, ⟨Nat.le_of_ble_eq_true rfl, Nat.le_of_ble_eq_true rfl⟩, Nat.le_of_ble_eq_true rfl⟩) hA w [0, 1] [2, 3] [2, 3, 0, 1] rfl rfl (by decide) (fun _ => rfl) (fun _ H locs w => ?_)
  refine lv_if_eq (tgt := 34) hx hb dX7_off_5 (by decide) (fun c5 => ?_) (fun c5 => ?_)
  · have hf := pf_t c5 hf
    refine lv_iconst (v := 0) hx hb dX7_off_34 (by decide) ?_
    exact hQ _ _ _ _ _ t_now_off (fun _ => 0) hf rfl w dX7_off_35
  · have hf := pf_e c5 hf
    refine lv_iload_n hx hb dX7_off_8 rfl (lv_at hl 2 rfl) ?_
    refine lv_bipush (v := (-99)) hx hb dX7_off_9 (by decide) ?_
    refine lv_bipush (v := 99) hx hb dX7_off_11 (by decide) ?_
    obtain ⟨r2, hc13, hf⟩ := pf_bi_0 hf
    refine hm_aft_i (ws' := fun _ => [oc7 h0 r_t t_writtenCount t_faultPlace, oc2 (r_t 1) r_t_now d_t_now t_now_bits t_now_offset t_now_band t_now_rule t_now_noise t_now_step t_now_draws t_now_heat t_now_hour t_now_seenCount, ic E (r_t_now 2) 12 t_now_off, ic E (r_t_now 1) 12 t_now_size]) (hm_runS (rest := []) hx hb hml hown X hA Y w mw_X7_within ml_X7_225 dX7_off_13 hm_ac0 [.int a2, .int (-99), .int 99] rfl [] rfl rfl (ct_X7_within l E H.size a2 (-99) 99 (r2, ()) hc13) rfl hl.1 ⟨⟨rfl, rfl⟩, ⟨Nat.le_of_ble_eq_true rfl, Nat.le_of_ble_eq_true rfl⟩, ⟨Nat.le_of_ble_eq_true rfl, Nat.le_of_ble_eq_true rfl⟩, Nat.le_of_ble_eq_true rfl⟩) hA w [] [0, 1, 2, 3] [0, 1, 2, 3] rfl rfl (by decide) (fun _ => rfl) (fun _ H locs w => ?_)
    refine lv_if_eq (tgt := 34) hx hb dX7_off_16 (by decide) (fun c16 => ?_) (fun c16 => ?_)
    · have hf := pf_t c16 hf
      refine lv_iconst (v := 0) hx hb dX7_off_34 (by decide) ?_
      exact hQ _ _ _ _ _ t_now_off (fun _ => 0) hf rfl w dX7_off_35
    · have hf := pf_e c16 hf
      refine lv_aload_n hx hb dX7_off_19 rfl (lv_at hl 0 rfl) ?_
      refine hm_get cb_X7 hx hb hown X w 0 1 fl_X7_19 dX7_off_20 rfl (by decide) rfl ?_
      refine hm_get cb_X2 hx hb hown X w 1 1 fl_X7_208 dX7_off_23 rfl (by decide) rfl ?_
      refine lv_iload_n hx hb dX7_off_26 rfl (lv_at hl 1 rfl) ?_
      obtain ⟨g27, hf⟩ := pf_ckI hf
      refine hm_iald hx hb X w 3 dX7_off_27 rfl g27 ?_
      refine lv_iload_n hx hb dX7_off_28 rfl (lv_at hl 2 rfl) ?_
      refine lv_iadd hx hb dX7_off_29 ?_
      refine lv_iconst (v := 1) hx hb dX7_off_30 (by decide) ?_
      refine lv_icmp_ge (tgt := 36) hx hb dX7_off_31 (by decide) (fun c31 => ?_) (fun c31 => ?_)
      · have hf := pf_t c31 hf
        refine lv_aload_n hx hb dX7_off_36 rfl (lv_at hl 0 rfl) ?_
        refine hm_get cb_X7 hx hb hown X w 0 1 fl_X7_19 dX7_off_37 rfl (by decide) rfl ?_
        refine hm_get cb_X2 hx hb hown X w 1 2 fl_X7_211 dX7_off_40 rfl (by decide) rfl ?_
        refine lv_iload_n hx hb dX7_off_43 rfl (lv_at hl 1 rfl) ?_
        refine lv_iload_n hx hb dX7_off_44 rfl (lv_at hl 2 rfl) ?_
        obtain ⟨g45, hf⟩ := pf_ckI hf
        refine hm_iast (ws' := [oc7 h0 r_t t_writtenCount t_faultPlace, oc2 (r_t 1) r_t_now d_t_now t_now_bits t_now_offset t_now_band t_now_rule t_now_noise t_now_step t_now_draws t_now_heat t_now_hour t_now_seenCount, ic E (r_t_now 2) 12 (upd t_now_off a1.toNatClampNeg a2), ic E (r_t_now 1) 12 t_now_size]) hx hb X w 2 dX7_off_45 rfl g45 rfl (fun H locs w => ?_)
        refine lv_iconst (v := 1) hx hb dX7_off_46 (by decide) ?_
        exact hQ _ _ _ _ _ (upd t_now_off a1.toNatClampNeg a2) (fun _ => 0) hf rfl w dX7_off_47
      · have hf := pf_e c31 hf
        refine lv_iconst (v := 0) hx hb dX7_off_34 (by decide) ?_
        exact hQ _ _ _ _ _ t_now_off (fun _ => 0) hf rfl w dX7_off_35
set_option maxHeartbeats 8000000 in
set_option maxRecDepth 100000 in
theorem ct_X7_forget (l : Launch) (E : hm_E) (sz : Nat) (h0 : Nat) (r_t : Nat → Nat) (r_t_now : Nat → Nat) (d_t_now : Nat) (t_writtenCount t_faultPlace t_now_bits t_now_offset t_now_band t_now_rule t_now_noise t_now_step t_now_draws t_now_heat t_now_hour t_now_seenCount : Int32) (t_now_size : Nat → Int32) (t_now_worth : Nat → Int32) (R : Int32 × (Nat → Int32)) (hf : pf_X7_forget t_now_bits t_now_size t_now_worth = some R) : hm_Mi l E yX7_forget cX7_forget 3 .int [] (hm_rr 0 0 0 0) [.ref h0] sz [oc7 h0 r_t t_writtenCount t_faultPlace, oc2 (r_t 1) r_t_now d_t_now t_now_bits t_now_offset t_now_band t_now_rule t_now_noise t_now_step t_now_draws t_now_heat t_now_hour t_now_seenCount, ic E (r_t_now 1) 12 t_now_size, ic E (r_t_now 3) 12 t_now_worth] R.1 (fun _ => [oc7 h0 r_t t_writtenCount t_faultPlace, oc2 (r_t 1) r_t_now d_t_now t_now_bits t_now_offset t_now_band t_now_rule t_now_noise t_now_step t_now_draws t_now_heat t_now_hour t_now_seenCount, ic E (r_t_now 1) 12 t_now_size, ic E (r_t_now 3) 12 R.2]) := by
  refine hm_ct_i R (fun u qs => [oc7 h0 r_t t_writtenCount t_faultPlace, oc2 (r_t 1) r_t_now d_t_now t_now_bits t_now_offset t_now_band t_now_rule t_now_noise t_now_step t_now_draws t_now_heat t_now_hour t_now_seenCount, ic E (r_t_now 1) 12 t_now_size, ic E (r_t_now 3) 12 u]) (by decide) (Nat.le_of_ble_eq_true rfl) (Or.inl rfl) ?_
  intro p e s m args below meth c A Q ls H locs hx hb hml hown X hA Y hex w hl hQ
  have hl : lv_has ls 3 [(0, .ref h0)] := hl
  unfold pf_X7_forget at hf
  refine lv_iconst (v := 0) hx hb dX7_forget_0 (by decide) ?_
  refine lv_istore_n (lv' := [(1, .int 0), (0, .ref h0)]) hx hb dX7_forget_1 rfl hl (by decide) rfl (fun ls hl => ?_)
  refine lv_iconst (v := 0) hx hb dX7_forget_2 (by decide) ?_
  refine lv_istore_n (lv' := [(2, .int 0), (1, .int 0), (0, .ref h0)]) hx hb dX7_forget_3 rfl hl (by decide) rfl (fun ls hl => ?_)
  have klp_X7_forget_4 : ∀ (n : Nat) (x1 : Int32) (x2 : Int32) (f3 : Nat → Int32) (H : Heap) (locs : List Loc) (ls : Array Slot), lp_X7_forget_4 t_now_bits t_now_size n x1 x2 f3 = some R → hm_W E A s.heap [oc7 h0 r_t t_writtenCount t_faultPlace, oc2 (r_t 1) r_t_now d_t_now t_now_bits t_now_offset t_now_band t_now_rule t_now_noise t_now_step t_now_draws t_now_heat t_now_hour t_now_seenCount, ic E (r_t_now 1) 12 t_now_size, ic E (r_t_now 3) 12 f3] H locs → lv_has ls 3 [(0, .ref h0), (1, .int x1), (2, .int x2)] → W p l e (hm_rr 0 0 0 0) s m args below meth c H locs 0 0 Q (F0 m 4 ls []) := by
    intro n
    induction n with
    | zero =>
      intro x1 x2 f3 H locs ls hf w hl
      exact pf_no hf
    | succ n ih4 =>
      intro x1 x2 f3 H locs ls hf w hl
      rw [lp_X7_forget_4] at hf
      refine lv_iload_n hx hb dX7_forget_4 rfl (lv_at hl 2 rfl) ?_
      refine lv_aload_n hx hb dX7_forget_5 rfl (lv_at hl 0 rfl) ?_
      refine hm_get cb_X7 hx hb hown X w 0 1 fl_X7_19 dX7_forget_6 rfl (by decide) rfl ?_
      refine hm_get cb_X2 hx hb hown X w 1 0 fl_X7_95 dX7_forget_9 rfl (by decide) rfl ?_
      refine lv_icmp_ge (tgt := 63) hx hb dX7_forget_12 (by decide) (fun c12 => ?_) (fun c12 => ?_)
      · have hf := pf_t c12 hf
        refine lv_iload_n hx hb dX7_forget_63 rfl (lv_at hl 1 rfl) ?_
        exact hQ _ _ _ _ _ f3 (fun _ => 0) hf rfl w dX7_forget_64
      · have hf := pf_e c12 hf
        refine lv_aload_n hx hb dX7_forget_15 rfl (lv_at hl 0 rfl) ?_
        refine hm_get cb_X7 hx hb hown X w 0 1 fl_X7_19 dX7_forget_16 rfl (by decide) rfl ?_
        refine hm_get cb_X2 hx hb hown X w 1 3 fl_X7_213 dX7_forget_19 rfl (by decide) rfl ?_
        refine lv_iload_n hx hb dX7_forget_22 rfl (lv_at hl 2 rfl) ?_
        obtain ⟨g23, hf⟩ := pf_ckI hf
        refine hm_iald hx hb X w 3 dX7_forget_23 rfl g23 ?_
        refine lv_aload_n hx hb dX7_forget_24 rfl (lv_at hl 0 rfl) ?_
        refine hm_get cb_X7 hx hb hown X w 0 1 fl_X7_19 dX7_forget_25 rfl (by decide) rfl ?_
        refine hm_get cb_X2 hx hb hown X w 1 1 fl_X7_208 dX7_forget_28 rfl (by decide) rfl ?_
        refine lv_iload_n hx hb dX7_forget_31 rfl (lv_at hl 2 rfl) ?_
        obtain ⟨g32, hf⟩ := pf_ckI hf
        refine hm_iald hx hb X w 2 dX7_forget_32 rfl g32 ?_
        obtain ⟨J39, hJ39, hf⟩ := pf_jn hf
        have kJ39 : ∀ (x4 : Int32) (H : Heap) (locs : List Loc) (ls : Array Slot), J39 x4 = some R → hm_W E A s.heap [oc7 h0 r_t t_writtenCount t_faultPlace, oc2 (r_t 1) r_t_now d_t_now t_now_bits t_now_offset t_now_band t_now_rule t_now_noise t_now_step t_now_draws t_now_heat t_now_hour t_now_seenCount, ic E (r_t_now 1) 12 t_now_size, ic E (r_t_now 3) 12 f3] H locs → lv_has ls 3 [(0, .ref h0), (1, .int x4), (2, .int x2)] → W p l e (hm_rr 0 0 0 0) s m args below meth c H locs 0 0 Q (F0 m 39 ls []) := by
          intro x4 H locs ls hf w hl
          have hf := pf_j1 hJ39 hf
          refine lv_aload_n hx hb dX7_forget_39 rfl (lv_at hl 0 rfl) ?_
          refine hm_get cb_X7 hx hb hown X w 0 1 fl_X7_19 dX7_forget_40 rfl (by decide) rfl ?_
          refine hm_get cb_X2 hx hb hown X w 1 3 fl_X7_213 dX7_forget_43 rfl (by decide) rfl ?_
          refine lv_iload_n hx hb dX7_forget_46 rfl (lv_at hl 2 rfl) ?_
          refine lv_aload_n hx hb dX7_forget_47 rfl (lv_at hl 0 rfl) ?_
          refine hm_get cb_X7 hx hb hown X w 0 1 fl_X7_19 dX7_forget_48 rfl (by decide) rfl ?_
          refine hm_get cb_X2 hx hb hown X w 1 1 fl_X7_208 dX7_forget_51 rfl (by decide) rfl ?_
          refine lv_iload_n hx hb dX7_forget_54 rfl (lv_at hl 2 rfl) ?_
          obtain ⟨g55, hf⟩ := pf_ckI hf
          refine hm_iald hx hb X w 2 dX7_forget_55 rfl g55 ?_
          refine lv_topi (fun x5 ex5 => ?_)
          have hf := pf_nm ex5 hf
          obtain ⟨g56, hf⟩ := pf_ckI hf
          refine hm_iast (ws' := [oc7 h0 r_t t_writtenCount t_faultPlace, oc2 (r_t 1) r_t_now d_t_now t_now_bits t_now_offset t_now_band t_now_rule t_now_noise t_now_step t_now_draws t_now_heat t_now_hour t_now_seenCount, ic E (r_t_now 1) 12 t_now_size, ic E (r_t_now 3) 12 (upd f3 x2.toNatClampNeg x5)]) hx hb X w 3 dX7_forget_56 rfl g56 rfl (fun H locs w => ?_)
          obtain ⟨x6, ex6⟩ : ∃ y : Int32, y = (x2 + 1) := ⟨_, rfl⟩
          have hf := pf_nm ex6 hf
          refine lv_iinc (v := x6) (lv' := [(2, .int x6), (0, .ref h0), (1, .int x4)]) hx hb dX7_forget_57 hl (k := 2) rfl (by rw [ex6]; rfl) (by decide) rfl (fun ls hl => ?_)
          refine lv_goto (tgt := 4) hx hb dX7_forget_60 (by decide) ?_
          exact ih4 _ _ _ _ _ _ hf w (lv_sub hl [1, 2, 0] rfl)
        refine lv_icmp_eq (tgt := 39) hx hb dX7_forget_33 (by decide) (fun c33 => ?_) (fun c33 => ?_)
        · have hf := pf_t c33 hf
          exact kJ39 _ _ _ _ hf w (lv_sub hl [0, 1, 2] rfl)
        · have hf := pf_e c33 hf
          obtain ⟨x7, ex7⟩ : ∃ y : Int32, y = (x1 + 1) := ⟨_, rfl⟩
          have hf := pf_nm ex7 hf
          refine lv_iinc (v := x7) (lv' := [(1, .int x7), (0, .ref h0), (2, .int x2)]) hx hb dX7_forget_36 hl (k := 1) rfl (by rw [ex7]; rfl) (by decide) rfl (fun ls hl => ?_)
          exact kJ39 _ _ _ _ hf w (lv_sub hl [1, 0, 2] rfl)
  exact klp_X7_forget_4 FU _ _ _ _ _ _ hf w (lv_sub hl [2, 1, 0] rfl)
set_option maxHeartbeats 8000000 in
set_option maxRecDepth 100000 in
theorem ct_X7_seed (l : Launch) (E : hm_E) (sz : Nat) (h0 : Nat) (r_t : Nat → Nat) (r_t_now : Nat → Nat) (d_t_now : Nat) (t_writtenCount t_faultPlace t_now_bits t_now_offset t_now_band t_now_rule t_now_noise t_now_step t_now_draws t_now_heat t_now_hour t_now_seenCount : Int32) (a1 : Int32) (R : Int32 × Int32) (hf : pf_X7_seed a1 t_now_draws = some R) : hm_Mi l E yX7_seed cX7_seed 3 .int [] (hm_rr 0 0 0 0) [.ref h0, .int a1] sz [oc7 h0 r_t t_writtenCount t_faultPlace, oc2 (r_t 1) r_t_now d_t_now t_now_bits t_now_offset t_now_band t_now_rule t_now_noise t_now_step t_now_draws t_now_heat t_now_hour t_now_seenCount] R.1 (fun _ => [oc7 h0 r_t t_writtenCount t_faultPlace, oc2 (r_t 1) r_t_now d_t_now t_now_bits t_now_offset t_now_band t_now_rule t_now_noise t_now_step R.2 t_now_heat t_now_hour t_now_seenCount]) := by
  refine hm_ct_i R (fun u qs => [oc7 h0 r_t t_writtenCount t_faultPlace, oc2 (r_t 1) r_t_now d_t_now t_now_bits t_now_offset t_now_band t_now_rule t_now_noise t_now_step u t_now_heat t_now_hour t_now_seenCount]) (by decide) (Nat.le_of_ble_eq_true rfl) (Or.inl rfl) ?_
  intro p e s m args below meth c A Q ls H locs hx hb hml hown X hA Y hex w hl hQ
  have hl : lv_has ls 3 [(0, .ref h0), (1, .int a1)] := hl
  unfold pf_X7_seed at hf
  refine lv_aload_n hx hb dX7_seed_0 rfl (lv_at hl 0 rfl) ?_
  refine hm_get cb_X7 hx hb hown X w 0 1 fl_X7_19 dX7_seed_1 rfl (by decide) rfl ?_
  refine hm_get cb_X2 hx hb hown X w 1 10 fl_X7_190 dX7_seed_4 rfl (by decide) rfl ?_
  refine lv_istore_n (lv' := [(2, .int t_now_draws), (0, .ref h0), (1, .int a1)]) hx hb dX7_seed_7 rfl hl (by decide) rfl (fun ls hl => ?_)
  refine lv_aload_n hx hb dX7_seed_8 rfl (lv_at hl 1 rfl) ?_
  refine hm_get cb_X7 hx hb hown X w 0 1 fl_X7_19 dX7_seed_9 rfl (by decide) rfl ?_
  refine lv_iload_n hx hb dX7_seed_12 rfl (lv_at hl 2 rfl) ?_
  refine hm_put (ws' := [oc7 h0 r_t t_writtenCount t_faultPlace, oc2 (r_t 1) r_t_now d_t_now t_now_bits t_now_offset t_now_band t_now_rule t_now_noise t_now_step a1 t_now_heat t_now_hour t_now_seenCount]) cb_X2 hx hb hown X w 1 10 fl_X7_190 dX7_seed_13 rfl (by decide) (Nat.le_of_ble_eq_true rfl) rfl rfl rfl rfl (fun H locs w => ?_)
  refine lv_iload_n hx hb dX7_seed_16 rfl (lv_at hl 0 rfl) ?_
  exact hQ _ _ _ _ _ a1 (fun _ => 0) hf rfl w dX7_seed_17
set_option maxHeartbeats 8000000 in
set_option maxRecDepth 100000 in
theorem ct_X7_perform (l : Launch) (E : hm_E) (sz : Nat) (h0 : Nat) (r_t : Nat → Nat) (r_t_latest : Nat → Nat) (r_t_now : Nat → Nat) (d_t_now : Nat) (r_t_passing : Nat → Nat) (r_t_now_drift : Nat → Nat) (t_writtenCount t_faultPlace t_latest_bits t_latest_sum t_latest_heldAtEnd t_latest_left t_latest_lates t_latest_ones t_latest_code t_now_bits t_now_offset t_now_band t_now_rule t_now_noise t_now_step t_now_draws t_now_heat t_now_hour t_now_seenCount t_passing_bits t_passing_sum t_passing_heldAtEnd t_passing_left t_passing_lates t_passing_ones t_passing_code t_now_drift_steps t_now_drift_height t_now_drift_things : Int32) (t_latest_apart : Nat → Int32) (t_latest_held : Nat → Int32) (t_latest_late : Nat → Int32) (t_latest_one : Nat → Int32) (t_now_drift_kind : Nat → Int32) (t_now_drift_stack : Nat → Int32) (t_now_drift_value : Nat → Int32) (t_now_off : Nat → Int32) (t_now_size : Nat → Int32) (t_now_stuck : Nat → Int32) (t_now_worth : Nat → Int32) (t_passing_apart : Nat → Int32) (t_passing_held : Nat → Int32) (t_passing_late : Nat → Int32) (t_passing_one : Nat → Int32) (a1 : Int32) (a2 : Int32) (a3 : Int32) (a4 : Int32) (R : Int32 × Int32 × (Nat → Int32) × (Nat → Int32) × (Nat → Int32) × (Nat → Int32) × Int32 × Int32 × Int32 × Int32 × Int32 × Int32 × (Nat → Int32) × (Nat → Int32) × (Nat → Int32) × Int32 × Int32 × Int32 × (Nat → Int32) × Int32 × Int32 × (Nat → Int32) × (Nat → Int32) × (Nat → Int32) × (Nat → Int32) × Int32 × Int32 × Int32 × Int32 × Int32 × Int32) (hf : pf_X7_perform a1 a2 a3 a4 t_latest_bits t_latest_one t_latest_late t_latest_apart t_latest_held t_latest_sum t_latest_heldAtEnd t_latest_left t_latest_lates t_latest_ones t_latest_code t_now_bits t_now_size t_now_off t_now_worth t_now_stuck t_now_offset t_now_band t_now_rule t_now_noise t_now_step t_now_draws t_now_heat t_now_hour t_now_drift_kind t_now_drift_value t_now_drift_stack t_now_drift_steps t_now_drift_height t_passing_bits t_passing_one t_passing_late t_passing_apart t_passing_held t_passing_sum t_passing_heldAtEnd t_passing_left t_passing_lates t_passing_ones t_passing_code = some R) : hm_Mi l E yX7_perform cX7_perform 5 .int [] (hm_rr 5 121 0 0) [.ref h0, .int a1, .int a2, .int a3, .int a4] sz [oc7 h0 r_t t_writtenCount t_faultPlace, oc1 (r_t 4) r_t_latest t_latest_bits t_latest_sum t_latest_heldAtEnd t_latest_left t_latest_lates t_latest_ones t_latest_code, oc2 (r_t 1) r_t_now d_t_now t_now_bits t_now_offset t_now_band t_now_rule t_now_noise t_now_step t_now_draws t_now_heat t_now_hour t_now_seenCount, oc1 (r_t 5) r_t_passing t_passing_bits t_passing_sum t_passing_heldAtEnd t_passing_left t_passing_lates t_passing_ones t_passing_code, oc3 d_t_now r_t_now_drift t_now_drift_steps t_now_drift_height t_now_drift_things, ic E (r_t_latest 3) 12 t_latest_apart, ic E (r_t_latest 4) 12 t_latest_held, ic E (r_t_latest 2) 12 t_latest_late, ic E (r_t_latest 1) 12 t_latest_one, ic E (r_t_now_drift 0) 80 t_now_drift_kind, ic E (r_t_now_drift 2) 40 t_now_drift_stack, ic E (r_t_now_drift 1) 80 t_now_drift_value, ic E (r_t_now 2) 12 t_now_off, ic E (r_t_now 1) 12 t_now_size, ic E (r_t_now 4) 12 t_now_stuck, ic E (r_t_now 3) 12 t_now_worth, ic E (r_t_passing 3) 12 t_passing_apart, ic E (r_t_passing 4) 12 t_passing_held, ic E (r_t_passing 2) 12 t_passing_late, ic E (r_t_passing 1) 12 t_passing_one] R.1 (fun _ => [oc7 h0 r_t t_writtenCount t_faultPlace, oc1 (r_t 4) r_t_latest (R.2.1) (R.2.2.2.2.2.2.1) (R.2.2.2.2.2.2.2.1) (R.2.2.2.2.2.2.2.2.1) (R.2.2.2.2.2.2.2.2.2.1) (R.2.2.2.2.2.2.2.2.2.2.1) (R.2.2.2.2.2.2.2.2.2.2.2.1), oc2 (r_t 1) r_t_now d_t_now t_now_bits t_now_offset t_now_band t_now_rule t_now_noise t_now_step (R.2.2.2.2.2.2.2.2.2.2.2.2.2.2.2.1) (R.2.2.2.2.2.2.2.2.2.2.2.2.2.2.2.2.1) (R.2.2.2.2.2.2.2.2.2.2.2.2.2.2.2.2.2.1) t_now_seenCount, oc1 (r_t 5) r_t_passing (R.2.2.2.2.2.2.2.2.2.2.2.2.2.2.2.2.2.2.2.2.1) (R.2.2.2.2.2.2.2.2.2.2.2.2.2.2.2.2.2.2.2.2.2.2.2.2.2.1) (R.2.2.2.2.2.2.2.2.2.2.2.2.2.2.2.2.2.2.2.2.2.2.2.2.2.2.1) (R.2.2.2.2.2.2.2.2.2.2.2.2.2.2.2.2.2.2.2.2.2.2.2.2.2.2.2.1) (R.2.2.2.2.2.2.2.2.2.2.2.2.2.2.2.2.2.2.2.2.2.2.2.2.2.2.2.2.1) (R.2.2.2.2.2.2.2.2.2.2.2.2.2.2.2.2.2.2.2.2.2.2.2.2.2.2.2.2.2.1) (R.2.2.2.2.2.2.2.2.2.2.2.2.2.2.2.2.2.2.2.2.2.2.2.2.2.2.2.2.2.2), oc3 d_t_now r_t_now_drift t_now_drift_steps (R.2.2.2.2.2.2.2.2.2.2.2.2.2.2.2.2.2.2.2.1) t_now_drift_things, ic E (r_t_latest 3) 12 (R.2.2.2.2.1), ic E (r_t_latest 4) 12 (R.2.2.2.2.2.1), ic E (r_t_latest 2) 12 (R.2.2.2.1), ic E (r_t_latest 1) 12 (R.2.2.1), ic E (r_t_now_drift 0) 80 t_now_drift_kind, ic E (r_t_now_drift 2) 40 (R.2.2.2.2.2.2.2.2.2.2.2.2.2.2.2.2.2.2.1), ic E (r_t_now_drift 1) 80 t_now_drift_value, ic E (r_t_now 2) 12 (R.2.2.2.2.2.2.2.2.2.2.2.2.1), ic E (r_t_now 1) 12 t_now_size, ic E (r_t_now 4) 12 (R.2.2.2.2.2.2.2.2.2.2.2.2.2.2.1), ic E (r_t_now 3) 12 (R.2.2.2.2.2.2.2.2.2.2.2.2.2.1), ic E (r_t_passing 3) 12 (R.2.2.2.2.2.2.2.2.2.2.2.2.2.2.2.2.2.2.2.2.2.2.2.1), ic E (r_t_passing 4) 12 (R.2.2.2.2.2.2.2.2.2.2.2.2.2.2.2.2.2.2.2.2.2.2.2.2.1), ic E (r_t_passing 2) 12 (R.2.2.2.2.2.2.2.2.2.2.2.2.2.2.2.2.2.2.2.2.2.2.1), ic E (r_t_passing 1) 12 (R.2.2.2.2.2.2.2.2.2.2.2.2.2.2.2.2.2.2.2.2.2.1)]) := by
  refine hm_ct_i R (fun u qs => [oc7 h0 r_t t_writtenCount t_faultPlace, oc1 (r_t 4) r_t_latest (u.1) (u.2.2.2.2.2.1) (u.2.2.2.2.2.2.1) (u.2.2.2.2.2.2.2.1) (u.2.2.2.2.2.2.2.2.1) (u.2.2.2.2.2.2.2.2.2.1) (u.2.2.2.2.2.2.2.2.2.2.1), oc2 (r_t 1) r_t_now d_t_now t_now_bits t_now_offset t_now_band t_now_rule t_now_noise t_now_step (u.2.2.2.2.2.2.2.2.2.2.2.2.2.2.1) (u.2.2.2.2.2.2.2.2.2.2.2.2.2.2.2.1) (u.2.2.2.2.2.2.2.2.2.2.2.2.2.2.2.2.1) t_now_seenCount, oc1 (r_t 5) r_t_passing (u.2.2.2.2.2.2.2.2.2.2.2.2.2.2.2.2.2.2.2.1) (u.2.2.2.2.2.2.2.2.2.2.2.2.2.2.2.2.2.2.2.2.2.2.2.2.1) (u.2.2.2.2.2.2.2.2.2.2.2.2.2.2.2.2.2.2.2.2.2.2.2.2.2.1) (u.2.2.2.2.2.2.2.2.2.2.2.2.2.2.2.2.2.2.2.2.2.2.2.2.2.2.1) (u.2.2.2.2.2.2.2.2.2.2.2.2.2.2.2.2.2.2.2.2.2.2.2.2.2.2.2.1) (u.2.2.2.2.2.2.2.2.2.2.2.2.2.2.2.2.2.2.2.2.2.2.2.2.2.2.2.2.1) (u.2.2.2.2.2.2.2.2.2.2.2.2.2.2.2.2.2.2.2.2.2.2.2.2.2.2.2.2.2), oc3 d_t_now r_t_now_drift t_now_drift_steps (u.2.2.2.2.2.2.2.2.2.2.2.2.2.2.2.2.2.2.1) t_now_drift_things, ic E (r_t_latest 3) 12 (u.2.2.2.1), ic E (r_t_latest 4) 12 (u.2.2.2.2.1), ic E (r_t_latest 2) 12 (u.2.2.1), ic E (r_t_latest 1) 12 (u.2.1), ic E (r_t_now_drift 0) 80 t_now_drift_kind, ic E (r_t_now_drift 2) 40 (u.2.2.2.2.2.2.2.2.2.2.2.2.2.2.2.2.2.1), ic E (r_t_now_drift 1) 80 t_now_drift_value, ic E (r_t_now 2) 12 (u.2.2.2.2.2.2.2.2.2.2.2.1), ic E (r_t_now 1) 12 t_now_size, ic E (r_t_now 4) 12 (u.2.2.2.2.2.2.2.2.2.2.2.2.2.1), ic E (r_t_now 3) 12 (u.2.2.2.2.2.2.2.2.2.2.2.2.1), ic E (r_t_passing 3) 12 (u.2.2.2.2.2.2.2.2.2.2.2.2.2.2.2.2.2.2.2.2.2.2.1), ic E (r_t_passing 4) 12 (u.2.2.2.2.2.2.2.2.2.2.2.2.2.2.2.2.2.2.2.2.2.2.2.1), ic E (r_t_passing 2) 12 (u.2.2.2.2.2.2.2.2.2.2.2.2.2.2.2.2.2.2.2.2.2.1), ic E (r_t_passing 1) 12 (u.2.2.2.2.2.2.2.2.2.2.2.2.2.2.2.2.2.2.2.2.1)]) (by decide) (Nat.le_of_ble_eq_true rfl) (Or.inl rfl) ?_
  intro p e s m args below meth c A Q ls H locs hx hb hml hown X hA Y hex w hl hQ
  have hl : lv_has ls 5 [(0, .ref h0), (1, .int a1), (2, .int a2), (3, .int a3), (4, .int a4)] := hl
  unfold pf_X7_perform at hf
  refine lv_iload_n hx hb dX7_perform_0 rfl (lv_at hl 1 rfl) ?_
  by_cases c1_61 : a1 = 61
  · have hf := pf_t c1_61 hf
    refine lv_lookup (off := 172) (tgt := 173) hx hb dX7_perform_1 (by decide) (by rw [c1_61]; rfl) (by decide) ?_
    refine lv_iload_n hx hb dX7_perform_173 rfl (lv_at hl 2 rfl) ?_
    refine lv_iload hx hb dX7_perform_174 (lv_at hl 4 rfl) ?_
    refine lv_icmp_ne (tgt := 183) hx hb dX7_perform_176 (by decide) (fun c176 => ?_) (fun c176 => ?_)
    · have hf := pf_e c176 hf
      refine lv_iconst (v := (-1)) hx hb dX7_perform_183 (by decide) ?_
      exact hQ _ _ _ _ _ (t_latest_bits, t_latest_one, t_latest_late, t_latest_apart, t_latest_held, t_latest_sum, t_latest_heldAtEnd, t_latest_left, t_latest_lates, t_latest_ones, t_latest_code, t_now_off, t_now_worth, t_now_stuck, t_now_draws, t_now_heat, t_now_hour, t_now_drift_stack, t_now_drift_height, t_passing_bits, t_passing_one, t_passing_late, t_passing_apart, t_passing_held, t_passing_sum, t_passing_heldAtEnd, t_passing_left, t_passing_lates, t_passing_ones, t_passing_code) (fun _ => 0) hf rfl w dX7_perform_184
    · have hf := pf_t c176 hf
      refine lv_iload_n hx hb dX7_perform_179 rfl (lv_at hl 2 rfl) ?_
      refine lv_goto (tgt := 184) hx hb dX7_perform_180 (by decide) ?_
      exact hQ _ _ _ _ _ (t_latest_bits, t_latest_one, t_latest_late, t_latest_apart, t_latest_held, t_latest_sum, t_latest_heldAtEnd, t_latest_left, t_latest_lates, t_latest_ones, t_latest_code, t_now_off, t_now_worth, t_now_stuck, t_now_draws, t_now_heat, t_now_hour, t_now_drift_stack, t_now_drift_height, t_passing_bits, t_passing_one, t_passing_late, t_passing_apart, t_passing_held, t_passing_sum, t_passing_heldAtEnd, t_passing_left, t_passing_lates, t_passing_ones, t_passing_code) (fun _ => 0) hf rfl w dX7_perform_184
  · have hf := pf_e c1_61 hf
    by_cases c1_99 : a1 = 99
    · have hf := pf_t c1_99 hf
      refine lv_lookup (off := 83) (tgt := 84) hx hb dX7_perform_1 (by decide) (by rw [c1_99]; rfl) (by decide) ?_
      refine lv_aload_n hx hb dX7_perform_84 rfl (lv_at hl 0 rfl) ?_
      refine lv_iload_n hx hb dX7_perform_85 rfl (lv_at hl 2 rfl) ?_
      obtain ⟨r1, x2, f3, f4, f5, f6, x7, x8, x9, x10, x11, x12, x13, hc86, hf⟩ := pf_bi_12 hf
      refine hm_aft_i (ws' := fun _ => [oc7 h0 r_t t_writtenCount t_faultPlace, oc1 (r_t 4) r_t_latest x2 x7 x8 x9 x10 x11 x12, oc2 (r_t 1) r_t_now d_t_now t_now_bits t_now_offset t_now_band t_now_rule t_now_noise t_now_step x13 t_now_heat t_now_hour t_now_seenCount, oc1 (r_t 5) r_t_passing t_passing_bits t_passing_sum t_passing_heldAtEnd t_passing_left t_passing_lates t_passing_ones t_passing_code, oc3 d_t_now r_t_now_drift t_now_drift_steps t_now_drift_height t_now_drift_things, ic E (r_t_latest 3) 12 f5, ic E (r_t_latest 4) 12 f6, ic E (r_t_latest 2) 12 f4, ic E (r_t_latest 1) 12 f3, ic E (r_t_now_drift 0) 80 t_now_drift_kind, ic E (r_t_now_drift 2) 40 t_now_drift_stack, ic E (r_t_now_drift 1) 80 t_now_drift_value, ic E (r_t_now 2) 12 t_now_off, ic E (r_t_now 1) 12 t_now_size, ic E (r_t_now 4) 12 t_now_stuck, ic E (r_t_now 3) 12 t_now_worth, ic E (r_t_passing 3) 12 t_passing_apart, ic E (r_t_passing 4) 12 t_passing_held, ic E (r_t_passing 2) 12 t_passing_late, ic E (r_t_passing 1) 12 t_passing_one]) (hm_runV (rest := []) hx hb hml hown X hA Y w 0 (ci := 6) (T := TX7) (N := 11) rfl rfl mw_X7_convert ml_X7_139 dX7_perform_86 hm_ac0 [.int a2] rfl [0, 1, 2, 5, 6, 7, 8, 12, 13, 14, 15] rfl rfl (ct_X7_convert l E H.size h0 r_t r_t_latest r_t_now d_t_now t_writtenCount t_faultPlace t_latest_bits t_latest_sum t_latest_heldAtEnd t_latest_left t_latest_lates t_latest_ones t_latest_code t_now_bits t_now_offset t_now_band t_now_rule t_now_noise t_now_step t_now_draws t_now_heat t_now_hour t_now_seenCount t_latest_apart t_latest_held t_latest_late t_latest_one t_now_off t_now_size t_now_stuck t_now_worth a2 (r1, x2, f3, f4, f5, f6, x7, x8, x9, x10, x11, x12, x13) hc86) rfl hl.1 ⟨⟨rfl, rfl⟩, ⟨Nat.le_of_ble_eq_true rfl, Nat.le_of_ble_eq_true rfl⟩, ⟨Nat.le_of_ble_eq_true rfl, Nat.le_of_ble_eq_true rfl⟩, Nat.le_of_ble_eq_true rfl⟩) hA w [0, 1, 2, 5, 6, 7, 8, 12, 13, 14, 15] [3, 4, 9, 10, 11, 16, 17, 18, 19] [9, 10, 11, 0, 1, 12, 13, 14, 15, 2, 3, 4, 16, 17, 18, 19, 5, 6, 7, 8] rfl rfl (by decide) (fun _ => rfl) (fun _ H locs w => ?_)
      refine lv_ldc (v := (-1000000)) hx hb hown (X.use ck_X7_143 rfl) dX7_perform_89 ?_
      obtain ⟨r14, hc91, hf⟩ := pf_bi_0 hf
      refine hm_aft_i (ws' := fun _ => [oc7 h0 r_t t_writtenCount t_faultPlace, oc1 (r_t 4) r_t_latest x2 x7 x8 x9 x10 x11 x12, oc2 (r_t 1) r_t_now d_t_now t_now_bits t_now_offset t_now_band t_now_rule t_now_noise t_now_step x13 t_now_heat t_now_hour t_now_seenCount, oc1 (r_t 5) r_t_passing t_passing_bits t_passing_sum t_passing_heldAtEnd t_passing_left t_passing_lates t_passing_ones t_passing_code, oc3 d_t_now r_t_now_drift t_now_drift_steps t_now_drift_height t_now_drift_things, ic E (r_t_latest 3) 12 f5, ic E (r_t_latest 4) 12 f6, ic E (r_t_latest 2) 12 f4, ic E (r_t_latest 1) 12 f3, ic E (r_t_now_drift 0) 80 t_now_drift_kind, ic E (r_t_now_drift 2) 40 t_now_drift_stack, ic E (r_t_now_drift 1) 80 t_now_drift_value, ic E (r_t_now 2) 12 t_now_off, ic E (r_t_now 1) 12 t_now_size, ic E (r_t_now 4) 12 t_now_stuck, ic E (r_t_now 3) 12 t_now_worth, ic E (r_t_passing 3) 12 t_passing_apart, ic E (r_t_passing 4) 12 t_passing_held, ic E (r_t_passing 2) 12 t_passing_late, ic E (r_t_passing 1) 12 t_passing_one]) (hm_runS (rest := []) hx hb hml hown X hA Y w mw_X7_toldUnless ml_X7_144 dX7_perform_91 hm_ac0 [.int r1, .int (-1000000)] rfl [] rfl rfl (ct_X7_toldUnless l E H.size r1 (-1000000) (r14, ()) hc91) rfl hl.1 ⟨⟨rfl, rfl⟩, ⟨Nat.le_of_ble_eq_true rfl, Nat.le_of_ble_eq_true rfl⟩, ⟨Nat.le_of_ble_eq_true rfl, Nat.le_of_ble_eq_true rfl⟩, Nat.le_of_ble_eq_true rfl⟩) hA w [] [0, 1, 2, 3, 4, 5, 6, 7, 8, 9, 10, 11, 12, 13, 14, 15, 16, 17, 18, 19] [0, 1, 2, 3, 4, 5, 6, 7, 8, 9, 10, 11, 12, 13, 14, 15, 16, 17, 18, 19] rfl rfl (by decide) (fun _ => rfl) (fun _ H locs w => ?_)
      exact hQ _ _ _ _ _ (x2, f3, f4, f5, f6, x7, x8, x9, x10, x11, x12, t_now_off, t_now_worth, t_now_stuck, x13, t_now_heat, t_now_hour, t_now_drift_stack, t_now_drift_height, t_passing_bits, t_passing_one, t_passing_late, t_passing_apart, t_passing_held, t_passing_sum, t_passing_heldAtEnd, t_passing_left, t_passing_lates, t_passing_ones, t_passing_code) (fun _ => 0) hf rfl w dX7_perform_94
    · have hf := pf_e c1_99 hf
      by_cases c1_102 : a1 = 102
      · have hf := pf_t c1_102 hf
        refine lv_lookup (off := 159) (tgt := 160) hx hb dX7_perform_1 (by decide) (by rw [c1_102]; rfl) (by decide) ?_
        refine lv_aload_n hx hb dX7_perform_160 rfl (lv_at hl 0 rfl) ?_
        obtain ⟨r15, f16, hc161, hf⟩ := pf_bi_1 hf
        refine hm_aft_i (ws' := fun _ => [oc7 h0 r_t t_writtenCount t_faultPlace, oc1 (r_t 4) r_t_latest t_latest_bits t_latest_sum t_latest_heldAtEnd t_latest_left t_latest_lates t_latest_ones t_latest_code, oc2 (r_t 1) r_t_now d_t_now t_now_bits t_now_offset t_now_band t_now_rule t_now_noise t_now_step t_now_draws t_now_heat t_now_hour t_now_seenCount, oc1 (r_t 5) r_t_passing t_passing_bits t_passing_sum t_passing_heldAtEnd t_passing_left t_passing_lates t_passing_ones t_passing_code, oc3 d_t_now r_t_now_drift t_now_drift_steps t_now_drift_height t_now_drift_things, ic E (r_t_latest 3) 12 t_latest_apart, ic E (r_t_latest 4) 12 t_latest_held, ic E (r_t_latest 2) 12 t_latest_late, ic E (r_t_latest 1) 12 t_latest_one, ic E (r_t_now_drift 0) 80 t_now_drift_kind, ic E (r_t_now_drift 2) 40 t_now_drift_stack, ic E (r_t_now_drift 1) 80 t_now_drift_value, ic E (r_t_now 2) 12 t_now_off, ic E (r_t_now 1) 12 t_now_size, ic E (r_t_now 4) 12 t_now_stuck, ic E (r_t_now 3) 12 f16, ic E (r_t_passing 3) 12 t_passing_apart, ic E (r_t_passing 4) 12 t_passing_held, ic E (r_t_passing 2) 12 t_passing_late, ic E (r_t_passing 1) 12 t_passing_one]) (hm_runV (rest := []) hx hb hml hown X hA Y w 0 (ci := 6) (T := TX7) (N := 11) rfl rfl mw_X7_forget ml_X7_165 dX7_perform_161 hm_ac0 [] rfl [0, 2, 13, 15] rfl rfl (ct_X7_forget l E H.size h0 r_t r_t_now d_t_now t_writtenCount t_faultPlace t_now_bits t_now_offset t_now_band t_now_rule t_now_noise t_now_step t_now_draws t_now_heat t_now_hour t_now_seenCount t_now_size t_now_worth (r15, f16) hc161) rfl hl.1 ⟨⟨rfl, rfl⟩, ⟨Nat.le_of_ble_eq_true rfl, Nat.le_of_ble_eq_true rfl⟩, ⟨Nat.le_of_ble_eq_true rfl, Nat.le_of_ble_eq_true rfl⟩, Nat.le_of_ble_eq_true rfl⟩) hA w [0, 2, 13, 15] [1, 3, 4, 5, 6, 7, 8, 9, 10, 11, 12, 14, 16, 17, 18, 19] [16, 0, 17, 1, 2, 3, 4, 5, 6, 7, 8, 9, 10, 18, 11, 19, 12, 13, 14, 15] rfl rfl (by decide) (fun _ => rfl) (fun _ H locs w => ?_)
        exact hQ _ _ _ _ _ (t_latest_bits, t_latest_one, t_latest_late, t_latest_apart, t_latest_held, t_latest_sum, t_latest_heldAtEnd, t_latest_left, t_latest_lates, t_latest_ones, t_latest_code, t_now_off, f16, t_now_stuck, t_now_draws, t_now_heat, t_now_hour, t_now_drift_stack, t_now_drift_height, t_passing_bits, t_passing_one, t_passing_late, t_passing_apart, t_passing_held, t_passing_sum, t_passing_heldAtEnd, t_passing_left, t_passing_lates, t_passing_ones, t_passing_code) (fun _ => 0) hf rfl w dX7_perform_164
      · have hf := pf_e c1_102 hf
        by_cases c1_104 : a1 = 104
        · have hf := pf_t c1_104 hf
          refine lv_lookup (off := 115) (tgt := 116) hx hb dX7_perform_1 (by decide) (by rw [c1_104]; rfl) (by decide) ?_
          refine lv_aload_n hx hb dX7_perform_116 rfl (lv_at hl 0 rfl) ?_
          refine lv_iload_n hx hb dX7_perform_117 rfl (lv_at hl 2 rfl) ?_
          obtain ⟨r17, x18, hc118, hf⟩ := pf_bi_1 hf
          refine hm_aft_i (ws' := fun _ => [oc7 h0 r_t t_writtenCount t_faultPlace, oc1 (r_t 4) r_t_latest t_latest_bits t_latest_sum t_latest_heldAtEnd t_latest_left t_latest_lates t_latest_ones t_latest_code, oc2 (r_t 1) r_t_now d_t_now t_now_bits t_now_offset t_now_band t_now_rule t_now_noise t_now_step t_now_draws x18 t_now_hour t_now_seenCount, oc1 (r_t 5) r_t_passing t_passing_bits t_passing_sum t_passing_heldAtEnd t_passing_left t_passing_lates t_passing_ones t_passing_code, oc3 d_t_now r_t_now_drift t_now_drift_steps t_now_drift_height t_now_drift_things, ic E (r_t_latest 3) 12 t_latest_apart, ic E (r_t_latest 4) 12 t_latest_held, ic E (r_t_latest 2) 12 t_latest_late, ic E (r_t_latest 1) 12 t_latest_one, ic E (r_t_now_drift 0) 80 t_now_drift_kind, ic E (r_t_now_drift 2) 40 t_now_drift_stack, ic E (r_t_now_drift 1) 80 t_now_drift_value, ic E (r_t_now 2) 12 t_now_off, ic E (r_t_now 1) 12 t_now_size, ic E (r_t_now 4) 12 t_now_stuck, ic E (r_t_now 3) 12 t_now_worth, ic E (r_t_passing 3) 12 t_passing_apart, ic E (r_t_passing 4) 12 t_passing_held, ic E (r_t_passing 2) 12 t_passing_late, ic E (r_t_passing 1) 12 t_passing_one]) (hm_runV (rest := []) hx hb hml hown X hA Y w 0 (ci := 6) (T := TX7) (N := 11) rfl rfl mw_X7_heat ml_X7_154 dX7_perform_118 hm_ac0 [.int a2] rfl [0, 2] rfl rfl (ct_X7_heat l E H.size h0 r_t r_t_now d_t_now t_writtenCount t_faultPlace t_now_bits t_now_offset t_now_band t_now_rule t_now_noise t_now_step t_now_draws t_now_heat t_now_hour t_now_seenCount a2 (r17, x18) hc118) rfl hl.1 ⟨⟨rfl, rfl⟩, ⟨Nat.le_of_ble_eq_true rfl, Nat.le_of_ble_eq_true rfl⟩, ⟨Nat.le_of_ble_eq_true rfl, Nat.le_of_ble_eq_true rfl⟩, Nat.le_of_ble_eq_true rfl⟩) hA w [0, 2] [1, 3, 4, 5, 6, 7, 8, 9, 10, 11, 12, 13, 14, 15, 16, 17, 18, 19] [18, 0, 19, 1, 2, 3, 4, 5, 6, 7, 8, 9, 10, 11, 12, 13, 14, 15, 16, 17] rfl rfl (by decide) (fun _ => rfl) (fun _ H locs w => ?_)
          refine lv_if_eq (tgt := 128) hx hb dX7_perform_121 (by decide) (fun c121 => ?_) (fun c121 => ?_)
          · have hf := pf_t c121 hf
            refine lv_iconst (v := (-1)) hx hb dX7_perform_128 (by decide) ?_
            exact hQ _ _ _ _ _ (t_latest_bits, t_latest_one, t_latest_late, t_latest_apart, t_latest_held, t_latest_sum, t_latest_heldAtEnd, t_latest_left, t_latest_lates, t_latest_ones, t_latest_code, t_now_off, t_now_worth, t_now_stuck, t_now_draws, x18, t_now_hour, t_now_drift_stack, t_now_drift_height, t_passing_bits, t_passing_one, t_passing_late, t_passing_apart, t_passing_held, t_passing_sum, t_passing_heldAtEnd, t_passing_left, t_passing_lates, t_passing_ones, t_passing_code) (fun _ => 0) hf rfl w dX7_perform_129
          · have hf := pf_e c121 hf
            refine lv_iconst (v := 1) hx hb dX7_perform_124 (by decide) ?_
            refine lv_goto (tgt := 129) hx hb dX7_perform_125 (by decide) ?_
            exact hQ _ _ _ _ _ (t_latest_bits, t_latest_one, t_latest_late, t_latest_apart, t_latest_held, t_latest_sum, t_latest_heldAtEnd, t_latest_left, t_latest_lates, t_latest_ones, t_latest_code, t_now_off, t_now_worth, t_now_stuck, t_now_draws, x18, t_now_hour, t_now_drift_stack, t_now_drift_height, t_passing_bits, t_passing_one, t_passing_late, t_passing_apart, t_passing_held, t_passing_sum, t_passing_heldAtEnd, t_passing_left, t_passing_lates, t_passing_ones, t_passing_code) (fun _ => 0) hf rfl w dX7_perform_129
        · have hf := pf_e c1_104 hf
          by_cases c1_108 : a1 = 108
          · have hf := pf_t c1_108 hf
            refine lv_lookup (off := 94) (tgt := 95) hx hb dX7_perform_1 (by decide) (by rw [c1_108]; rfl) (by decide) ?_
            refine lv_aload_n hx hb dX7_perform_95 rfl (lv_at hl 0 rfl) ?_
            refine lv_iload_n hx hb dX7_perform_96 rfl (lv_at hl 2 rfl) ?_
            refine lv_iload_n hx hb dX7_perform_97 rfl (lv_at hl 3 rfl) ?_
            obtain ⟨r19, f20, x21, x22, f23, f24, f25, f26, x27, x28, x29, x30, x31, x32, hc98, hf⟩ := pf_bi_13 hf
            refine hm_aft_i (ws' := fun _ => [oc7 h0 r_t t_writtenCount t_faultPlace, oc1 (r_t 4) r_t_latest t_latest_bits t_latest_sum t_latest_heldAtEnd t_latest_left t_latest_lates t_latest_ones t_latest_code, oc2 (r_t 1) r_t_now d_t_now t_now_bits t_now_offset t_now_band t_now_rule t_now_noise t_now_step x21 t_now_heat t_now_hour t_now_seenCount, oc1 (r_t 5) r_t_passing x22 x27 x28 x29 x30 x31 x32, oc3 d_t_now r_t_now_drift t_now_drift_steps t_now_drift_height t_now_drift_things, ic E (r_t_latest 3) 12 t_latest_apart, ic E (r_t_latest 4) 12 t_latest_held, ic E (r_t_latest 2) 12 t_latest_late, ic E (r_t_latest 1) 12 t_latest_one, ic E (r_t_now_drift 0) 80 t_now_drift_kind, ic E (r_t_now_drift 2) 40 t_now_drift_stack, ic E (r_t_now_drift 1) 80 t_now_drift_value, ic E (r_t_now 2) 12 t_now_off, ic E (r_t_now 1) 12 t_now_size, ic E (r_t_now 4) 12 t_now_stuck, ic E (r_t_now 3) 12 f20, ic E (r_t_passing 3) 12 f25, ic E (r_t_passing 4) 12 f26, ic E (r_t_passing 2) 12 f24, ic E (r_t_passing 1) 12 f23]) (hm_runV (rest := []) hx hb hml hown X hA Y w 0 (ci := 6) (T := TX7) (N := 11) rfl rfl mw_X7_learn ml_X7_148 dX7_perform_98 hm_ac0 [.int a2, .int a3] rfl [0, 2, 3, 12, 13, 14, 15, 16, 17, 18, 19] rfl rfl (ct_X7_learn l E H.size h0 r_t r_t_now d_t_now r_t_passing t_writtenCount t_faultPlace t_now_bits t_now_offset t_now_band t_now_rule t_now_noise t_now_step t_now_draws t_now_heat t_now_hour t_now_seenCount t_passing_bits t_passing_sum t_passing_heldAtEnd t_passing_left t_passing_lates t_passing_ones t_passing_code t_now_off t_now_size t_now_stuck t_now_worth t_passing_apart t_passing_held t_passing_late t_passing_one a2 a3 (r19, f20, x21, x22, f23, f24, f25, f26, x27, x28, x29, x30, x31, x32) hc98) rfl hl.1 ⟨⟨rfl, rfl⟩, ⟨Nat.le_of_ble_eq_true rfl, Nat.le_of_ble_eq_true rfl⟩, ⟨Nat.le_of_ble_eq_true rfl, Nat.le_of_ble_eq_true rfl⟩, Nat.le_of_ble_eq_true rfl⟩) hA w [0, 2, 3, 12, 13, 14, 15, 16, 17, 18, 19] [1, 4, 5, 6, 7, 8, 9, 10, 11] [9, 0, 10, 11, 1, 2, 3, 4, 5, 6, 7, 8, 12, 13, 14, 15, 16, 17, 18, 19] rfl rfl (by decide) (fun _ => rfl) (fun _ H locs w => ?_)
            refine lv_iconst (v := (-1)) hx hb dX7_perform_101 (by decide) ?_
            obtain ⟨r33, hc102, hf⟩ := pf_bi_0 hf
            refine hm_aft_i (ws' := fun _ => [oc7 h0 r_t t_writtenCount t_faultPlace, oc1 (r_t 4) r_t_latest t_latest_bits t_latest_sum t_latest_heldAtEnd t_latest_left t_latest_lates t_latest_ones t_latest_code, oc2 (r_t 1) r_t_now d_t_now t_now_bits t_now_offset t_now_band t_now_rule t_now_noise t_now_step x21 t_now_heat t_now_hour t_now_seenCount, oc1 (r_t 5) r_t_passing x22 x27 x28 x29 x30 x31 x32, oc3 d_t_now r_t_now_drift t_now_drift_steps t_now_drift_height t_now_drift_things, ic E (r_t_latest 3) 12 t_latest_apart, ic E (r_t_latest 4) 12 t_latest_held, ic E (r_t_latest 2) 12 t_latest_late, ic E (r_t_latest 1) 12 t_latest_one, ic E (r_t_now_drift 0) 80 t_now_drift_kind, ic E (r_t_now_drift 2) 40 t_now_drift_stack, ic E (r_t_now_drift 1) 80 t_now_drift_value, ic E (r_t_now 2) 12 t_now_off, ic E (r_t_now 1) 12 t_now_size, ic E (r_t_now 4) 12 t_now_stuck, ic E (r_t_now 3) 12 f20, ic E (r_t_passing 3) 12 f25, ic E (r_t_passing 4) 12 f26, ic E (r_t_passing 2) 12 f24, ic E (r_t_passing 1) 12 f23]) (hm_runS (rest := []) hx hb hml hown X hA Y w mw_X7_toldUnless ml_X7_144 dX7_perform_102 hm_ac0 [.int r19, .int (-1)] rfl [] rfl rfl (ct_X7_toldUnless l E H.size r19 (-1) (r33, ()) hc102) rfl hl.1 ⟨⟨rfl, rfl⟩, ⟨Nat.le_of_ble_eq_true rfl, Nat.le_of_ble_eq_true rfl⟩, ⟨Nat.le_of_ble_eq_true rfl, Nat.le_of_ble_eq_true rfl⟩, Nat.le_of_ble_eq_true rfl⟩) hA w [] [0, 1, 2, 3, 4, 5, 6, 7, 8, 9, 10, 11, 12, 13, 14, 15, 16, 17, 18, 19] [0, 1, 2, 3, 4, 5, 6, 7, 8, 9, 10, 11, 12, 13, 14, 15, 16, 17, 18, 19] rfl rfl (by decide) (fun _ => rfl) (fun _ H locs w => ?_)
            exact hQ _ _ _ _ _ (t_latest_bits, t_latest_one, t_latest_late, t_latest_apart, t_latest_held, t_latest_sum, t_latest_heldAtEnd, t_latest_left, t_latest_lates, t_latest_ones, t_latest_code, t_now_off, f20, t_now_stuck, x21, t_now_heat, t_now_hour, t_now_drift_stack, t_now_drift_height, x22, f23, f24, f25, f26, x27, x28, x29, x30, x31, x32) (fun _ => 0) hf rfl w dX7_perform_105
          · have hf := pf_e c1_108 hf
            by_cases c1_111 : a1 = 111
            · have hf := pf_t c1_111 hf
              refine lv_lookup (off := 144) (tgt := 145) hx hb dX7_perform_1 (by decide) (by rw [c1_111]; rfl) (by decide) ?_
              refine lv_aload_n hx hb dX7_perform_145 rfl (lv_at hl 0 rfl) ?_
              refine lv_iload_n hx hb dX7_perform_146 rfl (lv_at hl 2 rfl) ?_
              refine lv_iload_n hx hb dX7_perform_147 rfl (lv_at hl 3 rfl) ?_
              obtain ⟨r34, f35, hc148, hf⟩ := pf_bi_1 hf
              refine hm_aft_i (ws' := fun _ => [oc7 h0 r_t t_writtenCount t_faultPlace, oc1 (r_t 4) r_t_latest t_latest_bits t_latest_sum t_latest_heldAtEnd t_latest_left t_latest_lates t_latest_ones t_latest_code, oc2 (r_t 1) r_t_now d_t_now t_now_bits t_now_offset t_now_band t_now_rule t_now_noise t_now_step t_now_draws t_now_heat t_now_hour t_now_seenCount, oc1 (r_t 5) r_t_passing t_passing_bits t_passing_sum t_passing_heldAtEnd t_passing_left t_passing_lates t_passing_ones t_passing_code, oc3 d_t_now r_t_now_drift t_now_drift_steps t_now_drift_height t_now_drift_things, ic E (r_t_latest 3) 12 t_latest_apart, ic E (r_t_latest 4) 12 t_latest_held, ic E (r_t_latest 2) 12 t_latest_late, ic E (r_t_latest 1) 12 t_latest_one, ic E (r_t_now_drift 0) 80 t_now_drift_kind, ic E (r_t_now_drift 2) 40 t_now_drift_stack, ic E (r_t_now_drift 1) 80 t_now_drift_value, ic E (r_t_now 2) 12 f35, ic E (r_t_now 1) 12 t_now_size, ic E (r_t_now 4) 12 t_now_stuck, ic E (r_t_now 3) 12 t_now_worth, ic E (r_t_passing 3) 12 t_passing_apart, ic E (r_t_passing 4) 12 t_passing_held, ic E (r_t_passing 2) 12 t_passing_late, ic E (r_t_passing 1) 12 t_passing_one]) (hm_runV (rest := []) hx hb hml hown X hA Y w 0 (ci := 6) (T := TX7) (N := 11) rfl rfl mw_X7_off ml_X7_162 dX7_perform_148 hm_ac0 [.int a2, .int a3] rfl [0, 2, 12, 13] rfl rfl (ct_X7_off l E H.size h0 r_t r_t_now d_t_now t_writtenCount t_faultPlace t_now_bits t_now_offset t_now_band t_now_rule t_now_noise t_now_step t_now_draws t_now_heat t_now_hour t_now_seenCount t_now_off t_now_size a2 a3 (r34, f35) hc148) rfl hl.1 ⟨⟨rfl, rfl⟩, ⟨Nat.le_of_ble_eq_true rfl, Nat.le_of_ble_eq_true rfl⟩, ⟨Nat.le_of_ble_eq_true rfl, Nat.le_of_ble_eq_true rfl⟩, Nat.le_of_ble_eq_true rfl⟩) hA w [0, 2, 12, 13] [1, 3, 4, 5, 6, 7, 8, 9, 10, 11, 14, 15, 16, 17, 18, 19] [16, 0, 17, 1, 2, 3, 4, 5, 6, 7, 8, 9, 18, 19, 10, 11, 12, 13, 14, 15] rfl rfl (by decide) (fun _ => rfl) (fun _ H locs w => ?_)
              refine lv_if_eq (tgt := 158) hx hb dX7_perform_151 (by decide) (fun c151 => ?_) (fun c151 => ?_)
              · have hf := pf_t c151 hf
                refine lv_iconst (v := (-1)) hx hb dX7_perform_158 (by decide) ?_
                exact hQ _ _ _ _ _ (t_latest_bits, t_latest_one, t_latest_late, t_latest_apart, t_latest_held, t_latest_sum, t_latest_heldAtEnd, t_latest_left, t_latest_lates, t_latest_ones, t_latest_code, f35, t_now_worth, t_now_stuck, t_now_draws, t_now_heat, t_now_hour, t_now_drift_stack, t_now_drift_height, t_passing_bits, t_passing_one, t_passing_late, t_passing_apart, t_passing_held, t_passing_sum, t_passing_heldAtEnd, t_passing_left, t_passing_lates, t_passing_ones, t_passing_code) (fun _ => 0) hf rfl w dX7_perform_159
              · have hf := pf_e c151 hf
                refine lv_iconst (v := 1) hx hb dX7_perform_154 (by decide) ?_
                refine lv_goto (tgt := 159) hx hb dX7_perform_155 (by decide) ?_
                exact hQ _ _ _ _ _ (t_latest_bits, t_latest_one, t_latest_late, t_latest_apart, t_latest_held, t_latest_sum, t_latest_heldAtEnd, t_latest_left, t_latest_lates, t_latest_ones, t_latest_code, f35, t_now_worth, t_now_stuck, t_now_draws, t_now_heat, t_now_hour, t_now_drift_stack, t_now_drift_height, t_passing_bits, t_passing_one, t_passing_late, t_passing_apart, t_passing_held, t_passing_sum, t_passing_heldAtEnd, t_passing_left, t_passing_lates, t_passing_ones, t_passing_code) (fun _ => 0) hf rfl w dX7_perform_159
            · have hf := pf_e c1_111 hf
              by_cases c1_112 : a1 = 112
              · have hf := pf_t c1_112 hf
                refine lv_lookup (off := 105) (tgt := 106) hx hb dX7_perform_1 (by decide) (by rw [c1_112]; rfl) (by decide) ?_
                refine lv_aload_n hx hb dX7_perform_106 rfl (lv_at hl 0 rfl) ?_
                refine lv_iload_n hx hb dX7_perform_107 rfl (lv_at hl 2 rfl) ?_
                obtain ⟨r36, f37, x38, f39, x40, hc108, hf⟩ := pf_bi_4 hf
                refine hm_aft_i (ws' := fun _ => [oc7 h0 r_t t_writtenCount t_faultPlace, oc1 (r_t 4) r_t_latest t_latest_bits t_latest_sum t_latest_heldAtEnd t_latest_left t_latest_lates t_latest_ones t_latest_code, oc2 (r_t 1) r_t_now d_t_now t_now_bits t_now_offset t_now_band t_now_rule t_now_noise t_now_step t_now_draws t_now_heat x38 t_now_seenCount, oc1 (r_t 5) r_t_passing t_passing_bits t_passing_sum t_passing_heldAtEnd t_passing_left t_passing_lates t_passing_ones t_passing_code, oc3 d_t_now r_t_now_drift t_now_drift_steps x40 t_now_drift_things, ic E (r_t_latest 3) 12 t_latest_apart, ic E (r_t_latest 4) 12 t_latest_held, ic E (r_t_latest 2) 12 t_latest_late, ic E (r_t_latest 1) 12 t_latest_one, ic E (r_t_now_drift 0) 80 t_now_drift_kind, ic E (r_t_now_drift 2) 40 f39, ic E (r_t_now_drift 1) 80 t_now_drift_value, ic E (r_t_now 2) 12 f37, ic E (r_t_now 1) 12 t_now_size, ic E (r_t_now 4) 12 t_now_stuck, ic E (r_t_now 3) 12 t_now_worth, ic E (r_t_passing 3) 12 t_passing_apart, ic E (r_t_passing 4) 12 t_passing_held, ic E (r_t_passing 2) 12 t_passing_late, ic E (r_t_passing 1) 12 t_passing_one]) (hm_runV (rest := []) hx hb hml hown X hA Y w 0 (ci := 6) (T := TX7) (N := 11) rfl rfl mw_X7_pass ml_X7_151 dX7_perform_108 hm_ac0 [.int a2] rfl [0, 2, 4, 9, 10, 11, 12, 13] rfl rfl (ct_X7_pass l E H.size h0 r_t r_t_now d_t_now r_t_now_drift t_writtenCount t_faultPlace t_now_bits t_now_offset t_now_band t_now_rule t_now_noise t_now_step t_now_draws t_now_heat t_now_hour t_now_seenCount t_now_drift_steps t_now_drift_height t_now_drift_things t_now_drift_kind t_now_drift_stack t_now_drift_value t_now_off t_now_size a2 (r36, f37, x38, f39, x40) hc108) rfl hl.1 ⟨⟨rfl, rfl⟩, ⟨Nat.le_of_ble_eq_true rfl, Nat.le_of_ble_eq_true rfl⟩, ⟨Nat.le_of_ble_eq_true rfl, Nat.le_of_ble_eq_true rfl⟩, Nat.le_of_ble_eq_true rfl⟩) hA w [0, 2, 4, 9, 10, 11, 12, 13] [1, 3, 5, 6, 7, 8, 14, 15, 16, 17, 18, 19] [12, 0, 13, 1, 14, 2, 3, 4, 5, 15, 16, 17, 18, 19, 6, 7, 8, 9, 10, 11] rfl rfl (by decide) (fun _ => rfl) (fun _ H locs w => ?_)
                refine lv_iconst (v := (-1)) hx hb dX7_perform_111 (by decide) ?_
                obtain ⟨r41, hc112, hf⟩ := pf_bi_0 hf
                refine hm_aft_i (ws' := fun _ => [oc7 h0 r_t t_writtenCount t_faultPlace, oc1 (r_t 4) r_t_latest t_latest_bits t_latest_sum t_latest_heldAtEnd t_latest_left t_latest_lates t_latest_ones t_latest_code, oc2 (r_t 1) r_t_now d_t_now t_now_bits t_now_offset t_now_band t_now_rule t_now_noise t_now_step t_now_draws t_now_heat x38 t_now_seenCount, oc1 (r_t 5) r_t_passing t_passing_bits t_passing_sum t_passing_heldAtEnd t_passing_left t_passing_lates t_passing_ones t_passing_code, oc3 d_t_now r_t_now_drift t_now_drift_steps x40 t_now_drift_things, ic E (r_t_latest 3) 12 t_latest_apart, ic E (r_t_latest 4) 12 t_latest_held, ic E (r_t_latest 2) 12 t_latest_late, ic E (r_t_latest 1) 12 t_latest_one, ic E (r_t_now_drift 0) 80 t_now_drift_kind, ic E (r_t_now_drift 2) 40 f39, ic E (r_t_now_drift 1) 80 t_now_drift_value, ic E (r_t_now 2) 12 f37, ic E (r_t_now 1) 12 t_now_size, ic E (r_t_now 4) 12 t_now_stuck, ic E (r_t_now 3) 12 t_now_worth, ic E (r_t_passing 3) 12 t_passing_apart, ic E (r_t_passing 4) 12 t_passing_held, ic E (r_t_passing 2) 12 t_passing_late, ic E (r_t_passing 1) 12 t_passing_one]) (hm_runS (rest := []) hx hb hml hown X hA Y w mw_X7_toldUnless ml_X7_144 dX7_perform_112 hm_ac0 [.int r36, .int (-1)] rfl [] rfl rfl (ct_X7_toldUnless l E H.size r36 (-1) (r41, ()) hc112) rfl hl.1 ⟨⟨rfl, rfl⟩, ⟨Nat.le_of_ble_eq_true rfl, Nat.le_of_ble_eq_true rfl⟩, ⟨Nat.le_of_ble_eq_true rfl, Nat.le_of_ble_eq_true rfl⟩, Nat.le_of_ble_eq_true rfl⟩) hA w [] [0, 1, 2, 3, 4, 5, 6, 7, 8, 9, 10, 11, 12, 13, 14, 15, 16, 17, 18, 19] [0, 1, 2, 3, 4, 5, 6, 7, 8, 9, 10, 11, 12, 13, 14, 15, 16, 17, 18, 19] rfl rfl (by decide) (fun _ => rfl) (fun _ H locs w => ?_)
                exact hQ _ _ _ _ _ (t_latest_bits, t_latest_one, t_latest_late, t_latest_apart, t_latest_held, t_latest_sum, t_latest_heldAtEnd, t_latest_left, t_latest_lates, t_latest_ones, t_latest_code, f37, t_now_worth, t_now_stuck, t_now_draws, t_now_heat, x38, f39, x40, t_passing_bits, t_passing_one, t_passing_late, t_passing_apart, t_passing_held, t_passing_sum, t_passing_heldAtEnd, t_passing_left, t_passing_lates, t_passing_ones, t_passing_code) (fun _ => 0) hf rfl w dX7_perform_115
              · have hf := pf_e c1_112 hf
                by_cases c1_115 : a1 = 115
                · have hf := pf_t c1_115 hf
                  refine lv_lookup (off := 129) (tgt := 130) hx hb dX7_perform_1 (by decide) (by rw [c1_115]; rfl) (by decide) ?_
                  refine lv_aload_n hx hb dX7_perform_130 rfl (lv_at hl 0 rfl) ?_
                  refine lv_iload_n hx hb dX7_perform_131 rfl (lv_at hl 2 rfl) ?_
                  refine lv_iload_n hx hb dX7_perform_132 rfl (lv_at hl 3 rfl) ?_
                  obtain ⟨r42, f43, hc133, hf⟩ := pf_bi_1 hf
                  refine hm_aft_i (ws' := fun _ => [oc7 h0 r_t t_writtenCount t_faultPlace, oc1 (r_t 4) r_t_latest t_latest_bits t_latest_sum t_latest_heldAtEnd t_latest_left t_latest_lates t_latest_ones t_latest_code, oc2 (r_t 1) r_t_now d_t_now t_now_bits t_now_offset t_now_band t_now_rule t_now_noise t_now_step t_now_draws t_now_heat t_now_hour t_now_seenCount, oc1 (r_t 5) r_t_passing t_passing_bits t_passing_sum t_passing_heldAtEnd t_passing_left t_passing_lates t_passing_ones t_passing_code, oc3 d_t_now r_t_now_drift t_now_drift_steps t_now_drift_height t_now_drift_things, ic E (r_t_latest 3) 12 t_latest_apart, ic E (r_t_latest 4) 12 t_latest_held, ic E (r_t_latest 2) 12 t_latest_late, ic E (r_t_latest 1) 12 t_latest_one, ic E (r_t_now_drift 0) 80 t_now_drift_kind, ic E (r_t_now_drift 2) 40 t_now_drift_stack, ic E (r_t_now_drift 1) 80 t_now_drift_value, ic E (r_t_now 2) 12 t_now_off, ic E (r_t_now 1) 12 t_now_size, ic E (r_t_now 4) 12 f43, ic E (r_t_now 3) 12 t_now_worth, ic E (r_t_passing 3) 12 t_passing_apart, ic E (r_t_passing 4) 12 t_passing_held, ic E (r_t_passing 2) 12 t_passing_late, ic E (r_t_passing 1) 12 t_passing_one]) (hm_runV (rest := []) hx hb hml hown X hA Y w 0 (ci := 6) (T := TX7) (N := 11) rfl rfl mw_X7_stick ml_X7_158 dX7_perform_133 hm_ac0 [.int a2, .int a3] rfl [0, 2, 14] rfl rfl (ct_X7_stick l E H.size h0 r_t r_t_now d_t_now t_writtenCount t_faultPlace t_now_bits t_now_offset t_now_band t_now_rule t_now_noise t_now_step t_now_draws t_now_heat t_now_hour t_now_seenCount t_now_stuck a2 a3 (r42, f43) hc133) rfl hl.1 ⟨⟨rfl, rfl⟩, ⟨Nat.le_of_ble_eq_true rfl, Nat.le_of_ble_eq_true rfl⟩, ⟨Nat.le_of_ble_eq_true rfl, Nat.le_of_ble_eq_true rfl⟩, Nat.le_of_ble_eq_true rfl⟩) hA w [0, 2, 14] [1, 3, 4, 5, 6, 7, 8, 9, 10, 11, 12, 13, 15, 16, 17, 18, 19] [17, 0, 18, 1, 2, 3, 4, 5, 6, 7, 8, 9, 10, 11, 19, 12, 13, 14, 15, 16] rfl rfl (by decide) (fun _ => rfl) (fun _ H locs w => ?_)
                  refine lv_if_eq (tgt := 143) hx hb dX7_perform_136 (by decide) (fun c136 => ?_) (fun c136 => ?_)
                  · have hf := pf_t c136 hf
                    refine lv_iconst (v := (-1)) hx hb dX7_perform_143 (by decide) ?_
                    exact hQ _ _ _ _ _ (t_latest_bits, t_latest_one, t_latest_late, t_latest_apart, t_latest_held, t_latest_sum, t_latest_heldAtEnd, t_latest_left, t_latest_lates, t_latest_ones, t_latest_code, t_now_off, t_now_worth, f43, t_now_draws, t_now_heat, t_now_hour, t_now_drift_stack, t_now_drift_height, t_passing_bits, t_passing_one, t_passing_late, t_passing_apart, t_passing_held, t_passing_sum, t_passing_heldAtEnd, t_passing_left, t_passing_lates, t_passing_ones, t_passing_code) (fun _ => 0) hf rfl w dX7_perform_144
                  · have hf := pf_e c136 hf
                    refine lv_iconst (v := 1) hx hb dX7_perform_139 (by decide) ?_
                    refine lv_goto (tgt := 144) hx hb dX7_perform_140 (by decide) ?_
                    exact hQ _ _ _ _ _ (t_latest_bits, t_latest_one, t_latest_late, t_latest_apart, t_latest_held, t_latest_sum, t_latest_heldAtEnd, t_latest_left, t_latest_lates, t_latest_ones, t_latest_code, t_now_off, t_now_worth, f43, t_now_draws, t_now_heat, t_now_hour, t_now_drift_stack, t_now_drift_height, t_passing_bits, t_passing_one, t_passing_late, t_passing_apart, t_passing_held, t_passing_sum, t_passing_heldAtEnd, t_passing_left, t_passing_lates, t_passing_ones, t_passing_code) (fun _ => 0) hf rfl w dX7_perform_144
                · have hf := pf_e c1_115 hf
                  by_cases c1_120 : a1 = 120
                  · have hf := pf_t c1_120 hf
                    refine lv_lookup (off := 164) (tgt := 165) hx hb dX7_perform_1 (by decide) (by rw [c1_120]; rfl) (by decide) ?_
                    refine lv_aload_n hx hb dX7_perform_165 rfl (lv_at hl 0 rfl) ?_
                    refine lv_iload_n hx hb dX7_perform_166 rfl (lv_at hl 2 rfl) ?_
                    obtain ⟨r44, x45, hc167, hf⟩ := pf_bi_1 hf
                    refine hm_aft_i (ws' := fun _ => [oc7 h0 r_t t_writtenCount t_faultPlace, oc1 (r_t 4) r_t_latest t_latest_bits t_latest_sum t_latest_heldAtEnd t_latest_left t_latest_lates t_latest_ones t_latest_code, oc2 (r_t 1) r_t_now d_t_now t_now_bits t_now_offset t_now_band t_now_rule t_now_noise t_now_step x45 t_now_heat t_now_hour t_now_seenCount, oc1 (r_t 5) r_t_passing t_passing_bits t_passing_sum t_passing_heldAtEnd t_passing_left t_passing_lates t_passing_ones t_passing_code, oc3 d_t_now r_t_now_drift t_now_drift_steps t_now_drift_height t_now_drift_things, ic E (r_t_latest 3) 12 t_latest_apart, ic E (r_t_latest 4) 12 t_latest_held, ic E (r_t_latest 2) 12 t_latest_late, ic E (r_t_latest 1) 12 t_latest_one, ic E (r_t_now_drift 0) 80 t_now_drift_kind, ic E (r_t_now_drift 2) 40 t_now_drift_stack, ic E (r_t_now_drift 1) 80 t_now_drift_value, ic E (r_t_now 2) 12 t_now_off, ic E (r_t_now 1) 12 t_now_size, ic E (r_t_now 4) 12 t_now_stuck, ic E (r_t_now 3) 12 t_now_worth, ic E (r_t_passing 3) 12 t_passing_apart, ic E (r_t_passing 4) 12 t_passing_held, ic E (r_t_passing 2) 12 t_passing_late, ic E (r_t_passing 1) 12 t_passing_one]) (hm_runV (rest := []) hx hb hml hown X hA Y w 0 (ci := 6) (T := TX7) (N := 11) rfl rfl mw_X7_seed ml_X7_169 dX7_perform_167 hm_ac0 [.int a2] rfl [0, 2] rfl rfl (ct_X7_seed l E H.size h0 r_t r_t_now d_t_now t_writtenCount t_faultPlace t_now_bits t_now_offset t_now_band t_now_rule t_now_noise t_now_step t_now_draws t_now_heat t_now_hour t_now_seenCount a2 (r44, x45) hc167) rfl hl.1 ⟨⟨rfl, rfl⟩, ⟨Nat.le_of_ble_eq_true rfl, Nat.le_of_ble_eq_true rfl⟩, ⟨Nat.le_of_ble_eq_true rfl, Nat.le_of_ble_eq_true rfl⟩, Nat.le_of_ble_eq_true rfl⟩) hA w [0, 2] [1, 3, 4, 5, 6, 7, 8, 9, 10, 11, 12, 13, 14, 15, 16, 17, 18, 19] [18, 0, 19, 1, 2, 3, 4, 5, 6, 7, 8, 9, 10, 11, 12, 13, 14, 15, 16, 17] rfl rfl (by decide) (fun _ => rfl) (fun _ H locs w => ?_)
                    refine lv_pop hx hb dX7_perform_170 rfl ?_
                    refine lv_iconst (v := 1) hx hb dX7_perform_171 (by decide) ?_
                    exact hQ _ _ _ _ _ (t_latest_bits, t_latest_one, t_latest_late, t_latest_apart, t_latest_held, t_latest_sum, t_latest_heldAtEnd, t_latest_left, t_latest_lates, t_latest_ones, t_latest_code, t_now_off, t_now_worth, t_now_stuck, x45, t_now_heat, t_now_hour, t_now_drift_stack, t_now_drift_height, t_passing_bits, t_passing_one, t_passing_late, t_passing_apart, t_passing_held, t_passing_sum, t_passing_heldAtEnd, t_passing_left, t_passing_lates, t_passing_ones, t_passing_code) (fun _ => 0) hf rfl w dX7_perform_172
                  · have hf := pf_e c1_120 hf
                    refine lv_lookup (off := 184) (tgt := 185) hx hb dX7_perform_1 (by decide) (by rw [lv_osw c1_61 (by decide), lv_osw c1_99 (by decide), lv_osw c1_102 (by decide), lv_osw c1_104 (by decide), lv_osw c1_108 (by decide), lv_osw c1_111 (by decide), lv_osw c1_112 (by decide), lv_osw c1_115 (by decide), lv_osw c1_120 (by decide)]; rfl) (by decide) ?_
                    refine lv_iconst (v := (-1)) hx hb dX7_perform_185 (by decide) ?_
                    exact hQ _ _ _ _ _ (t_latest_bits, t_latest_one, t_latest_late, t_latest_apart, t_latest_held, t_latest_sum, t_latest_heldAtEnd, t_latest_left, t_latest_lates, t_latest_ones, t_latest_code, t_now_off, t_now_worth, t_now_stuck, t_now_draws, t_now_heat, t_now_hour, t_now_drift_stack, t_now_drift_height, t_passing_bits, t_passing_one, t_passing_late, t_passing_apart, t_passing_held, t_passing_sum, t_passing_heldAtEnd, t_passing_left, t_passing_lates, t_passing_ones, t_passing_code) (fun _ => 0) hf rfl w dX7_perform_186