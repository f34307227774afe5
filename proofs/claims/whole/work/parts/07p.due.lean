/-! due, plan. -/
theorem hp_RD_to {kd vl all all' : Nat → Int32} {steps : Int32} {B B' : Nat} (hd : hp_RD kd vl steps all B) (e : ∀ i, 75 ≤ i → i < 156 → all' (B' + i) = all (B + i)) : hp_RD kd vl steps all' B' := by
  obtain ⟨N, h, hN, h1, h2, h3, h4⟩ := hd
  refine ⟨N, h, hN, h1, by rw [e 75 (by omega) (by omega)]; exact h2, ⟨h3.1, fun k hk => ?_⟩, h4⟩
  have := h3.2 k hk
  show hd_st (kd k) (vl k) (all' (B' + (76 + k))) (h k) (h (k + 1))
  rw [e (76 + k) (by omega) (by omega)]
  exact this
theorem hg_o3 {a g step : Int32} {all cd s8 : Nat → Int32} {N B : Nat} (hB : B ≤ 640) (h5 : all (B + 5) = step) (h0 : 1 ≤ N) (hN : N ≤ 2000) : pf_X8_ofHistogram a g 3 all (nI B) cd s8 (nI N) = some (hg_f a g step cd (hg_bi (hg_f a g step cd) N), ()) := by
  have hbl := hg_bi_lt (hg_f a g step cd) N (by omega)
  unfold pf_X8_ofHistogram
  rw [if_neg (show ¬ (3 : Int32) = 0 by decide), if_neg (show ¬ (3 : Int32) = 1 by decide), if_neg (show ¬ (3 : Int32) = 2 by decide), if_pos rfl, hg_mo8 hB h5 h0 hN, hp_bi0, hg_ob8 hB h5 (by omega), hp_bi0]
theorem hq_if3 {α : Type} {P1 P2 P3 : Prop} {d1 : Decidable (¬ P1)} {d2 : Decidable (¬ P2)} {d3 : Decidable (¬ P3)} {N G : α} (H : ¬ (P1 ∧ P2 ∧ P3)) : (if ¬ P1 then N else if ¬ P2 then N else if ¬ P3 then N else G) = N := by
  by_cases h1 : P1
  · rw [if_neg (not_not_intro h1)]
    by_cases h2 : P2
    · rw [if_neg (not_not_intro h2)]
      rw [if_pos (fun h3 => H ⟨h1, h2, h3⟩)]
    · rw [if_pos h2]
  · rw [if_pos h1]
theorem hq_due {b : Nat} {a1 a2 steps X : Int32} {c : Nat → Int32} {A : Nat → Nat → Int32} {kd vl : Nat → Int32} (hs : -100000 ≤ (0 : Int32).toInt ∧ a2.toInt ≤ 200000 ∧ (0 : Int32).toInt ≤ a2.toInt ∧ 1 ≤ (c 9).toInt ∧ (a2.toInt - (0 : Int32).toInt) / (c 9).toInt < 2000) (x12 x17 : Int32) (f15 f16 : Nat → Int32) :
    ∀ (n k j : Nat) (hr x t1 t2 t3 t4 s hd cm : Int32) (fo sk en all g no dec wl ao hb cd so : Nat → Int32), j + k = 101 → k < n → hp_RQ b (hq_c2 c X hr) (hq_u3 A fo (A 3) (A 4)) all 640 → hp_CI b (hq_c2 c X hr) (hq_u3 A fo (A 3) (A 4)) → hp_RD kd vl steps all 640 →
    ∃ r R7 all' g' no' dec' wl' ao' hb' s' hd' cd' so' cm', lp_X7_due_45 a1 a2 steps kd vl (nI b) (A 1) (A 3) (A 4) (c 5) (c 6) (c 7) (c 8) (c 9) x12 (c 11) f15 f16 x17 n (nI j) fo hr sk x en t1 t2 t3 t4 = some (r, R7) ∧
      lp_X8_due_41 a1 a2 (-1) (nI 640) n (-1) (nI j) all g no dec wl ao hb s hd 0 cd so cm = some (r, all', 0, g', no', dec', wl', ao', hb', s', hd', 0, cd', so', cm') ∧ (∀ i, i < 640 → all' i = all i) := by
  intro n
  induction n with
  | zero => intro k j hr x t1 t2 t3 t4 s hd cm fo sk en all g no dec wl ao hb cd so h1 h2; omega
  | succ n ih =>
    intro k j hr x t1 t2 t3 t4 s hd cm fo sk en all g no dec wl ao hb cd so h1 h2 h hc hdr
    rw [lp_X7_due_45, lp_X8_due_41]
    by_cases d : 100 < j
    · have d' : (100 : Int32) < nI j := (hp_lI (a := 100) (by omega) (by omega)).mpr d
      rw [if_pos d', if_pos d', show pf_X8_comeBack = some 0 from rfl, hp_bv1]
      exact ⟨_, _, all, g, no, dec, wl, ao, hb, s, hd, cd, so, cm, rfl, rfl, fun i _ => rfl⟩
    · have d' : ¬ (100 : Int32) < nI j := fun e => d ((hp_lI (a := 100) (by omega) (by omega)).mp e)
      have g5 : all (640 + 5) = c 9 := h.2.2.2.2.1.2.2.1
      obtain ⟨N, en', s7, ob, oa, dec1, wl1, ao1, hb1, cd1, s8, s1, hd1, n0, n1, m1, m2, m3, m4, m5, m6, m7, m8, m9, m10, m11⟩ := hg_both (a := 0) (e := a2) (g := c 9) h hc (by omega) hs en dec wl ao hb cd so s hd
      have m1 : pf_X4_measure 0 a2 (c 9) en (nI b) (A 1) fo (A 3) (A 4) (c 5) (c 9) = _ := m1
      have m10 : ob = hg_f 0 (c 9) (c 9) cd1 (hg_bi (hg_f 0 (c 9) (c 9) cd1) N) := m10
      have o3 := hg_o3 (a := 0) (g := c 9) (step := c 9) (all := all) (cd := cd1) (s8 := s8) (B := 640) (by omega) g5 n0 n1
      rw [← m10] at o3
      have gg5 : pf_X8_get 5 all (nI 640) = some (c 9, ()) := by rw [hp_getl 5 (by omega), g5]
      rw [if_neg d', if_neg d', if_pos rfl, m1, hp_bv5, gg5, hp_bi0, m3, hp_bv11, gg5, hp_bi0, o3, hp_bi0, hp_jn]
      by_cases c1 : ob ≤ a1
      · rw [if_pos c1, if_pos c1]
        dsimp only
        rw [if_pos rfl]
        obtain ⟨t, fo', sk', x', all2, g', no', y1, y2, y3, y4, y5, y6⟩ := hq_hour h hc hdr (by omega) sk g no x
        have y1 : pf_X2_passHour (nI b) (A 1) fo (c 11) hr kd vl sk steps x = some (t, fo', hr + 1, sk', x') := y1
        have e12 : hq_c2 c X hr 12 = hr := rfl
        rw [e12, hq_c2b, hq_u3a] at y3 y4
        rw [y1, hp_bi4, hp_nm, y2, hp_bi3, hp_nm, hp_i1]
        obtain ⟨r, R7, all', g2, no2, dec', wl', ao', hb', s', hd', cd', so', cm', z1, z2, z3⟩ := ih (k - 1) (j + 1) (hr + 1) x' (nI N) (hg_fl cd1 N) ob oa s1 hd1 (nI N) fo' sk' en' all2 g' no' dec1 wl1 ao1 hb1 cd1 s8 (by omega) (by omega) y3 y4 y5
        exact ⟨r, R7, all', g2, no2, dec', wl', ao', hb', s', hd', cd', so', cm', z1, z2, fun i hi => by rw [z3 i hi]; exact y6 i (by omega) (by omega)⟩
      · have em : ¬ nI j = -1 := by rw [hp_eq, hp_nT (by omega), show (-1 : Int32).toInt = -1 from by decide]; omega
        rw [if_neg c1, if_neg c1]
        dsimp only
        rw [if_neg em, hp_nm]
        obtain ⟨n', rfl⟩ : ∃ n', n = n' + 1 := ⟨n - 1, by omega⟩
        rw [lp_X8_due_41, if_neg em, show pf_X8_comeBack = some 0 from rfl, hp_bv1]
        refine ⟨_, _, all, g, no, dec1, wl1, ao1, hb1, s1, hd1, cd1, s8, nI N, rfl, ?_, fun i _ => rfl⟩
        split <;> rfl
theorem hp_spanN {b g : Int32} (hb : b < 0) : pf_X7_isSpan 0 b g = some (0, ()) := by
  obtain ⟨t, ht, e1, e2⟩ := hp_span 0 b g
  rw [e1, hp_bf]
  intro h
  have := (e2 h).2.2.1
  rw [hp_lt] at hb
  omega
theorem op_due {b : Nat} {c : Nat → Int32} {A : Nat → Nat → Int32} {all kd vl : Nat → Int32} {steps : Int32} (a1 a2 : Int32) (h : hp_RC b c A all 0) (hc : hp_CI b c A) (hdr : hp_RD kd vl steps all 0) (ca : Nat → Int32) (Z : Nat → Nat → Int32) (x t1 t2 t3 t4 s hd cm : Int32) (sk en g no dec wl ao hb cd so : Nat → Int32) :
    ∃ r R7 all' g' no' dec' wl' ao' hb' s' hd' cd' so' cm', pf_X7_due a1 a2 (ca 0) (Z 1) (Z 2) (Z 3) (Z 4) (ca 5) (ca 6) (ca 7) (ca 8) (ca 9) (ca 10) (ca 11) (ca 12) (Z 14) (Z 15) (ca 16) (c 0) (A 1) (A 2) (A 3) (A 4) (c 5) (c 6) (c 7) (c 8) (c 9) (c 10) (c 11) (c 12) (A 14) (A 15) (c 16) kd vl sk steps x en t1 t2 t3 t4 = some (r, R7) ∧
      pf_X8_due a1 a2 all 0 g no dec wl ao hb s hd 0 (-1) cd so cm = some (r, all', 0, g', no', dec', wl', ao', hb', s', hd', 0, cd', so', cm') ∧ (∀ i, i < 640 → all' i = all i) := by
  obtain ⟨q1, q2, q3, q4, ⟨q5, q6, q7, q8, q9, -⟩, -⟩ := id h
  rw [Nat.zero_add] at q9
  have hF : 101 < FU := by unfold FU; omega
  unfold pf_X7_due pf_X8_due
  rw [q1, hp_get0l 0 (by omega), q2, hp_bi0, hp_get0l 5 (by omega), hp_bi0, q9, hp_isRow]
  have nop : ∃ r R7 all' g' no' dec' wl' ao' hb' s' hd' cd' so' cm', some ((-2 : Int32), ca 0, Z 1, Z 2, Z 3, Z 4, ca 5, ca 6, ca 7, ca 8, ca 9, ca 10, ca 11, ca 12, Z 14, Z 15, ca 16, sk, x, en, t1, t2, t3, t4) = some (r, R7) ∧
      some ((-2 : Int32), all, (0 : Int32), g, no, dec, wl, ao, hb, s, hd, (0 : Int32), cd, so, cm) = some (r, all', 0, g', no', dec', wl', ao', hb', s', hd', 0, cd', so', cm') ∧ (∀ i, i < 640 → all' i = all i) :=
    ⟨_, _, all, g, no, dec, wl, ao, hb, s, hd, cd, so, cm, rfl, rfl, fun i _ => rfl⟩
  by_cases c1 : nI b = 0
  · rw [if_pos c1, if_pos c1]; exact nop
  · rw [if_neg c1, if_neg c1]
    by_cases c2 : a1 < 0
    · rw [if_pos c2, if_pos c2]; exact nop
    · rw [if_neg c2, if_neg c2]
      by_cases c3 : a2 < 0
      · rw [if_pos c3, hp_spanN c3, hp_bi0, if_pos rfl]; exact nop
      · rw [if_neg c3]
        obtain ⟨t, ht, e1, e2⟩ := hp_span 0 a2 (c 9)
        rw [e1, hp_bi0, hp_bi0]
        simp only [hp_b0]
        by_cases c4 : t
        · rw [if_neg (not_not_intro c4), if_neg (not_not_intro c4)]
          obtain ⟨all1, o1, o2, o3, -, -, o4, o5, o6⟩ := hq_go (Z := Z) h hc
          have D := hp_RD_to (B' := 640) hdr (fun i i1 i2 => by rw [Nat.zero_add]; exact o5 i (by omega))
          have e2' : hq_c2 c (c 10) (c 12) = c := hq_c2i
          have e3 : hq_u3 (hq_cp A Z) (hq_cp A Z 2) (hq_cp A Z 3) (hq_cp A Z 4) = hq_cp A Z := hq_u3i
          obtain ⟨r, R7, all2, g2, no2, dec2, wl2, ao2, hb2, s2, hd2, cd2, so2, cm2, y1, y2, y3⟩ := hq_due (b := b) (a1 := a1) (a2 := a2) (steps := steps) (X := c 10) (c := c) (A := hq_cp A Z) (kd := kd) (vl := vl) (hg_wi (e2 c4)) (c 10) (c 16) (va_cpy (A 14) (Z 14) 0 0 8) (va_cpy (A 15) (Z 15) 0 0 8) FU 101 0 (c 12) x t1 t2 t3 t4 s hd cm (hq_cp A Z 2) sk en all1 g no dec wl ao hb cd so (by omega) (by omega) (by rw [e2', e3]; exact o2) (by rw [e2', e3]; exact o3) D
          refine ⟨r, R7, all2, g2, no2, dec2, wl2, ao2, hb2, s2, hd2, cd2, so2, cm2, ?_, ?_, fun i hi => by rw [y3 i hi]; exact o6 i hi⟩
          · unfold pf_X2_copyFrom pf_X2_takeForm
            generalize FU = F at *
            rw [hp_bv10, hp_bv16]
            exact y1
          · generalize FU = F at *
            rw [o1, hp_bv2]
            exact y2
        · rw [if_pos c4, if_pos c4]; exact nop
theorem hq_plan {b m q : Nat} {steps : Int32} {c : Nat → Int32} {A : Nat → Nat → Int32} {kd vl fs : Nat → Int32} (hm : m ≤ 40) (hqb : q ≤ b) (hs : (hp_sum (A 1) b).toInt / (c 9).toInt < 2000) (h7 : c 7 = 3) (h8 : c 8 = 0) :
    ∀ (n k j o : Nat) (fi va X hr x pbits psum phd pleft plates pones pcode t1 t2 t3 t4 t5 t6 t7 t8 t9 t10 t11 s hd cm : Int32) (fo fw sk all g no pone plate pap pheld en dec wl ao hb cd so : Nat → Int32), j + k = m → k < n → o ≤ j → ((o = 0 ∧ fi = -1) ∨ (0 < o ∧ ¬ fi = -1)) → hp_RQ b (hq_c2 c X hr) (hq_u3 A fo fw fs) all 640 → hp_CI b (hq_c2 c X hr) (hq_u3 A fo fw fs) → hp_RD kd vl steps all 640 → (0 ≤ (all 644).toInt ∧ (all 644).toInt ≤ 20) →
    ∃ o' fi' va' fo' fw' X' hr' sk' x' pbits' pone' plate' pap' pheld' psum' phd' pleft' plates' pones' pcode' en' t1' t2' t3' t4' t5' t6' t7' t8' t9' t10' t11' all' g' no' dec' wl' ao' hb' s' hd' cd' so' cm', (∀ J, lp_X7_plan_45 (nI q) (nI m) steps kd vl (nI b) (A 1) fs (c 5) (c 6) (c 7) (c 8) (c 9) (c 11) J n (nI o) fi va (nI j) fo fw X hr sk x pbits pone plate pap pheld psum phd pleft plates pones pcode en t1 t2 t3 t4 t5 t6 t7 t8 t9 t10 t11 = J o' fi' va' fo' fw' X' hr' sk' x' pbits' pone' plate' pap' pheld' psum' phd' pleft' plates' pones' pcode' en' t1' t2' t3' t4' t5' t6' t7' t8' t9' t10' t11') ∧
      (∀ J, lp_X8_plan_57 (nI q) (nI m) (-1) (nI 640) J n (nI o) fi va (nI j) all g no dec wl ao hb s hd 0 cd so cm = J o' fi' va' all' g' no' dec' wl' ao' hb' s' hd' 0 cd' so' cm') ∧ (∀ i, i < 640 → all' i = all i) := by
  intro n
  induction n with
  | zero => intro k j o fi va X hr x pbits psum phd pleft plates pones pcode t1 t2 t3 t4 t5 t6 t7 t8 t9 t10 t11 s hd cm fo fw sk all g no pone plate pap pheld en dec wl ao hb cd so h1 h2; omega
  | succ n ih =>
    intro k j o fi va X hr x pbits psum phd pleft plates pones pcode t1 t2 t3 t4 t5 t6 t7 t8 t9 t10 t11 s hd cm fo fw sk all g no pone plate pap pheld en dec wl ao hb cd so h1 h2 ho hfi h hc hdr h4
    by_cases d : m ≤ j
    · have d' := (hp_eI (show m < 2147483648 by omega) (show j < 2147483648 by omega)).mpr d
      refine ⟨nI o, fi, va, fo, fw, X, hr, sk, x, pbits, pone, plate, pap, pheld, psum, phd, pleft, plates, pones, pcode, en, t1, t2, t3, t4, t5, t6, t7, t8, t9, t10, t11, all, g, no, dec, wl, ao, hb, s, hd, cd, so, cm, fun J => ?_, fun J => ?_, fun i _ => rfl⟩
      · rw [lp_X7_plan_45, if_pos d']
      · rw [lp_X8_plan_57, if_pos d']
    · have d' : ¬ nI m ≤ nI j := fun d' => d ((hp_eI (by omega) (by omega)).mp d')
      obtain ⟨w1, _, en1, z1, z2, z3, z4, z5, z6, z7, z8, z9, z10, z11, dec1, wl1, ao1, hb1, cd1, so1, s1, hd1, cm1, v1, v2⟩ := hg_wh h hc (by omega) hs en dec wl ao hb cd so s hd
      have v1 : pf_X4_isWhole en (nI b) (A 1) fo fw fs (c 5) (c 9) = _ := v1
      have em : ¬ nI j = -1 := by rw [hp_eq, hp_nT (by omega), show (-1 : Int32).toInt = -1 from by decide]; omega
      by_cases c1 : w1
      · obtain ⟨t, fo2, sk2, x2, all2, g2, no2, y1, y2, y3, y4, y5, y6⟩ := hq_hour h hc hdr (by omega) sk g no x
        have y1 : pf_X2_passHour (nI b) (A 1) fo (c 11) hr kd vl sk steps x = some (t, fo2, hr + 1, sk2, x2) := y1
        have e12 : hq_c2 c X hr 12 = hr := rfl
        rw [e12, hq_c2b, hq_u3a] at y3 y4
        obtain ⟨o', fi', va', fo', fw', X', hr', sk', x', pbits', pone', plate', pap', pheld', psum', phd', pleft', plates', pones', pcode', en', t1', t2', t3', t4', t5', t6', t7', t8', t9', t10', t11', all', g', no', dec', wl', ao', hb', s', hd', cd', so', cm', r1, r2, r3⟩ := ih (k - 1) (j + 1) o fi va X (hr + 1) x2 pbits psum phd pleft plates pones pcode z1 z2 z3 z4 z5 z6 z7 z8 z9 z10 z11 s1 hd1 cm1 fo2 fw sk2 all2 g2 no2 pone plate pap pheld en1 dec1 wl1 ao1 hb1 cd1 so1 (by omega) (by omega) (by omega) hfi y3 y4 y5 (by rw [y6 644 (by omega) (by omega)]; exact h4)
        refine ⟨o', fi', va', fo', fw', X', hr', sk', x', pbits', pone', plate', pap', pheld', psum', phd', pleft', plates', pones', pcode', en', t1', t2', t3', t4', t5', t6', t7', t8', t9', t10', t11', all', g', no', dec', wl', ao', hb', s', hd', cd', so', cm', fun J => ?_, fun J => ?_, fun i hi => by rw [r3 i hi]; exact y6 i (by omega) (by omega)⟩
        · rw [lp_X7_plan_45, if_neg d', v1, hp_bi12, hp_jn, hp_bt c1, if_neg (show ¬ (1 : Int32) = 0 by decide)]
          dsimp only
          rw [y1, hp_bi4, hp_nm, hp_i1]
          exact r1 J
        · rw [lp_X8_plan_57, if_neg d', v2, hp_bi11, hp_jn, hp_bf (not_not_intro c1), if_pos rfl]
          dsimp only
          rw [y2, hp_bi3, hp_nm, hp_i1]
          exact r2 J
      · obtain ⟨fw2, all1, X2, bits2, sum2, hd2, left2, lates2, ones2, code2, s82, hd82, one2, late2, ap2, held2, dec2, wl2, ao2, hb2, u1, u2, u3, u4, u5⟩ := hq_lnP (m := q) h (hq_rn1 (c := hq_c2 c X hr) h7 h8) hc (by omega) h4 hqb pbits psum phd pleft plates pones pcode s1 hd1 pone plate pap pheld dec1 wl1 ao1 hb1
        have u1 : pf_X2_learnFrom (nI q) 1 (nI b) (A 1) fo fw fs (c 5) (c 6) (c 7) (c 8) (c 9) X pbits pone plate pap pheld psum phd pleft plates pones pcode = _ := u1
        rw [hq_c2a, hq_u3b] at u3 u4
        have D1 := hp_RD_row (all' := all1) (B := 640) hdr (fun i i1 i2 => u5 _ (by omega) (by omega))
        obtain ⟨w2, _, en3, k1, k2, k3, k4, k5, k6, k7, k8, k9, k10, k11, dec3, wl3, ao3, hb3, cd3, so3, s3, hd3, cm3, v3, v4⟩ := hg_wh u3 u4 (by omega) hs en1 dec2 wl2 ao2 hb2 cd1 so1 s82 hd82
        have v3 : pf_X4_isWhole en1 (nI b) (A 1) fo fw2 fs (c 5) (c 9) = _ := v3
        obtain ⟨t, fo2, sk2, x2, all2, g2, no2, y1, y2, y3, y4, y5, y6⟩ := hq_hour u3 u4 D1 (by omega) sk g no x
        have y1 : pf_X2_passHour (nI b) (A 1) fo (c 11) hr kd vl sk steps x = some (t, fo2, hr + 1, sk2, x2) := y1
        have e12 : hq_c2 c X2 hr 12 = hr := rfl
        rw [e12, hq_c2b, hq_u3a] at y3 y4
        obtain ⟨o', fi', va', fo', fw', X', hr', sk', x', pbits', pone', plate', pap', pheld', psum', phd', pleft', plates', pones', pcode', en', t1', t2', t3', t4', t5', t6', t7', t8', t9', t10', t11', all', g', no', dec', wl', ao', hb', s', hd', cd', so', cm', r1, r2, r3⟩ := ih (k - 1) (j + 1) (o + 1) (if o = 0 then nI j else fi) (va + if w2 then 0 else 1) X2 (hr + 1) x2 bits2 sum2 hd2 left2 lates2 ones2 code2 k1 k2 k3 k4 k5 k6 k7 k8 k9 k10 k11 s3 hd3 cm3 fo2 fw2 sk2 all2 g2 no2 one2 late2 ap2 held2 en3 dec3 wl3 ao3 hb3 cd3 so3 (by omega) (by omega) (by omega) (Or.inr ⟨by omega, by
          rcases hfi with ⟨e1, e2⟩ | ⟨e1, e2⟩
          · rw [if_pos e1]; exact em
          · rw [if_neg (by omega)]; exact e2⟩) y3 y4 y5 (by rw [y6 644 (by omega) (by omega), u5 644 (by omega) (by omega)]; exact h4)
        refine ⟨o', fi', va', fo', fw', X', hr', sk', x', pbits', pone', plate', pap', pheld', psum', phd', pleft', plates', pones', pcode', en', t1', t2', t3', t4', t5', t6', t7', t8', t9', t10', t11', all', g', no', dec', wl', ao', hb', s', hd', cd', so', cm', fun J => ?_, fun J => ?_, fun i hi => by rw [r3 i hi, y6 i (by omega) (by omega)]; exact u5 i (by omega) (by omega)⟩
        · rw [lp_X7_plan_45, if_neg d', v1, hp_bi12, hp_jn, hp_bf c1, if_pos rfl, hp_jn]
          have r1 := r1 J
          have eo : (nI o = 0) = (o = 0) := hp_nz (by omega)
          simp only [eo, hp_nm, hp_i1, u1, hp_bv13, v3, hp_bi12, hp_jn, y1, hp_bi4]
          by_cases c2 : w2
          · simp only [if_pos c2] at r1
            simp only [hp_bt c2, hp_ne_1_0, if_false]
            by_cases c3 : o = 0
            · simp only [if_pos c3] at r1 ⊢; exact r1
            · simp only [if_neg c3] at r1 ⊢; exact r1
          · simp only [if_neg c2] at r1
            simp only [hp_bf c2, if_true]
            by_cases c3 : o = 0
            · simp only [if_pos c3] at r1 ⊢; exact r1
            · simp only [if_neg c3] at r1 ⊢; exact r1
        · rw [lp_X8_plan_57, if_neg d', v2, hp_bi11, hp_jn, hp_bt c1, if_neg (show ¬ (1 : Int32) = 0 by decide)]
          have r2 := r2 J
          have eo : (fi = -1) = (o = 0) := by
            apply propext
            rcases hfi with ⟨e1, e2⟩ | ⟨e1, e2⟩
            · exact ⟨fun _ => e1, fun _ => e2⟩
            · exact ⟨fun e => absurd e e2, fun e => by omega⟩
          simp only [eo, hp_nm, hp_i1, u2, hp_bv8, v4, hp_bi11, hp_jn, y2, hp_bi3]
          by_cases c2 : w2
          · simp only [if_pos c2] at r2
            simp only [hp_bf (not_not_intro c2), if_true]
            by_cases c3 : o = 0
            · simp only [if_pos c3] at r2 ⊢; exact r2
            · simp only [if_neg c3] at r2 ⊢; exact r2
          · simp only [if_neg c2] at r2
            simp only [hp_bt c2, hp_ne_1_0, if_false]
            by_cases c3 : o = 0
            · simp only [if_pos c3] at r2 ⊢; exact r2
            · simp only [if_neg c3] at r2 ⊢; exact r2
theorem op_plan {b : Nat} {c : Nat → Int32} {A : Nat → Nat → Int32} {all kd vl : Nat → Int32} {steps : Int32} (a1 a2 a3 : Int32) (h : hp_RC b c A all 0) (hc : hp_CI b c A) (hdr : hp_RD kd vl steps all 0) (ca : Nat → Int32) (Z : Nat → Nat → Int32) (x pbits psum phd pleft plates pones pcode t1 t2 t3 t4 t5 t6 t7 t8 t9 t10 t11 s hd cm : Int32) (sk pone plate pap pheld en g no dec wl ao hb cd so : Nat → Int32) :
    ∃ r R7 all' g' no' dec' wl' ao' hb' s' hd' cd' so' cm', pf_X7_plan a1 a2 a3 (ca 0) (Z 1) (Z 2) (Z 3) (Z 4) (ca 5) (ca 6) (ca 7) (ca 8) (ca 9) (ca 10) (ca 11) (ca 12) (Z 14) (Z 15) (ca 16) (c 0) (A 1) (A 2) (A 3) (A 4) (c 5) (c 6) (c 7) (c 8) (c 9) (c 10) (c 11) (c 12) (A 14) (A 15) (c 16) kd vl sk steps x pbits pone plate pap pheld psum phd pleft plates pones pcode en t1 t2 t3 t4 t5 t6 t7 t8 t9 t10 t11 = some (r, R7) ∧
      pf_X8_plan a1 a2 a3 all 0 g no dec wl ao hb s hd 0 (-1) cd so cm = some (r, all', 0, g', no', dec', wl', ao', hb', s', hd', 0, cd', so', cm') ∧ (∀ i, i < 640 → all' i = all i) := by
  obtain ⟨q1, q2, q3, q4, -⟩ := id h
  have hF : 40 < FU := by unfold FU; omega
  unfold pf_X7_plan pf_X8_plan
  rw [hp_within, hp_within, hp_isIn, hp_isIn, q1, hq_can q3 hc, hq_shr h hc, hp_get0l 0 (by omega), q2]
  simp only [hp_bi0, hp_isIn, hp_b0]
  by_cases H : ((1 : Int32) ≤ a2 ∧ a2 ≤ 40) ∧ ((0 : Int32) ≤ a3 ∧ a3 ≤ 2) ∧ (((1 : Int32) ≤ a1 ∧ a1 ≤ nI b) ∧ ¬ (2000 : Int32) ≤ hp_sum (A 1) b / c 9)
  · obtain ⟨H1, H3, H4, H5⟩ := H
    have H0 : ¬ nI b ≤ 0 ∧ ¬ (2000 : Int32) ≤ hp_sum (A 1) b / c 9 := ⟨fun e => by
      obtain ⟨l1, l2⟩ := H4
      rw [hp_le] at l1 l2 e
      rw [show (1 : Int32).toInt = 1 from by decide] at l1
      rw [show (0 : Int32).toInt = 0 from by decide] at e
      omega, H5⟩
    rw [if_neg (not_not_intro H1), if_neg (not_not_intro H3), if_neg (not_not_intro (And.intro H4 H5)), if_neg (not_not_intro H0), if_neg (not_not_intro H4), if_neg (not_not_intro H1), if_neg (not_not_intro H3)]
    obtain ⟨l1, l2⟩ := H1
    obtain ⟨l5, l6⟩ := H4
    rw [hp_le] at l1 l2 l5 l6
    rw [show (1 : Int32).toInt = 1 from by decide] at l1 l5
    rw [show (40 : Int32).toInt = 40 from by decide] at l2
    rw [hp_nT (by omega)] at l6
    obtain ⟨m, m1, rfl, m2⟩ := hp_of (x := a2) (by omega)
    obtain ⟨q, g1, rfl, g2⟩ := hp_of (x := a1) (by omega)
    obtain ⟨all1, o1, -, -, o2, o3, o4, o5, o6⟩ := hq_go (Z := Z) h hc
    have D := hp_RD_to (B' := 640) hdr (fun i i1 i2 => by rw [Nat.zero_add]; exact o5 i (by omega))
    have e2 : hq_c2 (hq_pa c) (hq_pa c 10) (hq_pa c 12) = hq_pa c := hq_c2i
    have e3 : hq_u3 (hq_cp A Z) (hq_cp A Z 2) (hq_cp A Z 3) (hq_cp A Z 4) = hq_cp A Z := hq_u3i
    have es : (hp_sum (hq_cp A Z 1) b).toInt / (hq_pa c 9).toInt < 2000 := by
      rw [hp_sum_congr (g := A 1) (fun i hi => hq_cpi (by omega) (by omega))]
      show (hp_sum (A 1) b).toInt / (c 9).toInt < 2000
      exact hq_sdiv q3 hc H5
    obtain ⟨o', fi', va', fo', fw', X', hr', sk', x', pbits', pone', plate', pap', pheld', psum', phd', pleft', plates', pones', pcode', en', t1', t2', t3', t4', t5', t6', t7', t8', t9', t10', t11', all', g', no', dec', wl', ao', hb', s', hd', cd', so', cm', r1, r2, r3⟩ := hq_plan (m := m) (q := q) (steps := steps) (c := hq_pa c) (A := hq_cp A Z) (kd := kd) (vl := vl) (fs := hq_cp A Z 4) (by omega) (by omega) es rfl rfl FU m 0 0 (-1) 0 (hq_pa c 10) (hq_pa c 12) x pbits psum phd pleft plates pones pcode t1 t2 t3 t4 t5 t6 t7 t8 t9 t10 t11 s hd cm (hq_cp A Z 2) (hq_cp A Z 3) sk all1 g no pone plate pap pheld en dec wl ao hb cd so (by omega) (by omega) (by omega) (Or.inl ⟨rfl, rfl⟩) (by rw [e2, e3]; exact o2) (by rw [e2, e3]; exact o3) D o4
    unfold pf_X7_setAsideOnPaper pf_X2_copyFrom pf_X2_takeForm
    generalize FU = F at *
    rw [hp_bv10, hp_bv16, hp_bv16, hp_jn, o1, hp_bv2, hp_jn]
    erw [r1, r2]
    rw [show pf_X8_comeBack = some 0 from rfl, hp_bv1]
    have fr := fun i (hi : i < 640) => (r3 i hi).trans (o6 i hi)
    by_cases k0 : a3 = 0
    · simp only [if_pos k0]; exact ⟨_, _, all', g', no', dec', wl', ao', hb', s', hd', cd', so', cm', rfl, rfl, fr⟩
    · simp only [if_neg k0]
      by_cases k1 : a3 = 1
      · simp only [if_pos k1]; exact ⟨_, _, all', g', no', dec', wl', ao', hb', s', hd', cd', so', cm', rfl, rfl, fr⟩
      · simp only [if_neg k1]; exact ⟨_, _, all', g', no', dec', wl', ao', hb', s', hd', cd', so', cm', rfl, rfl, fr⟩
  · have H' : ¬ (((1 : Int32) ≤ a2 ∧ a2 ≤ 40) ∧ ((0 : Int32) ≤ a3 ∧ a3 ≤ 2) ∧ (((1 : Int32) ≤ a1 ∧ a1 ≤ nI b) ∧ ¬ (2000 : Int32) ≤ hp_sum (A 1) b / c 9)) := H
    rw [hq_if3 H, hq_if4 (fun e => H ⟨e.2.2.1, e.2.2.2, e.2.1, e.1.2⟩)]
    exact ⟨_, _, all, g, no, dec, wl, ao, hb, s, hd, cd, so, cm, rfl, rfl, fun i _ => rfl⟩
