/-! learn. -/
theorem hq_learnFrom {b m r B : Nat} {p : Int32} {c : Nat → Int32} {A : Nat → Nat → Int32} {all : Nat → Int32} (h : hp_RQ b c A all B) (hn : hp_RN p c all B) (hc : hp_CI b c A) (hB : B ≤ 640) (h4 : 0 ≤ (all (B + 4)).toInt ∧ (all (B + 4)).toInt ≤ 20) (hm : m ≤ b) (hr : 1 ≤ r ∧ r ≤ 8) (bits sum hd left lates ones code s8 hd8 : Int32) (one late ap held dec wl ao hb : Nat → Int32) :
    ∃ f' all' X' bits' sum' hd' left' lates' ones' code' s8' hd8' one' late' ap' held' dec' wl' ao' hb',
      pf_X2_learnFrom (nI m) (nI r) (nI b) (A 1) (A 2) (A 3) (A 4) (c 5) (c 6) (c 7) (c 8) (c 9) (c 10) bits one late ap held sum hd left lates ones code = some (f', X', bits', one', late', ap', held', sum', hd', left', lates', ones', code') ∧
      pf_X8_learnNow (nI m) (nI r) all (nI B) dec wl ao hb s8 hd8 p (-1) = some (all', dec', wl', ao', hb', s8', hd8') ∧
      hp_RQ b (upd c 10 X') (hp_ua A 3 f') all' B ∧ hp_CI b (upd c 10 X') (hp_ua A 3 f') ∧ (∀ i, i ≠ B + 6 → i < B + 33 ∨ B + 45 ≤ i → all' i = all i) := by
  have hbb := h.2.2.1
  have q2 := h.2.1
  have hF : b < FU := by unfold FU; omega
  have hF8 : r < FU := by unfold FU; omega
  obtain ⟨f1, all1, b1, b2, b3, b4, b5⟩ := hq_ln1 (m := m) (B := B) hbb hm hB FU m 0 (A 3) all (by omega) (by omega) (by rw [hp_uai]; exact h) (by rw [hp_uai]; exact hc)
  have n1 : hp_RN p c all1 B := by
    unfold hp_RN
    rw [b5 (B + 3) (by omega), b5 (B + 4) (by omega)]; exact hn
  have e10 : upd c 10 (c 10) = c := hp_ui
  obtain ⟨f2, all2, X2, bits2, sum2, hd2, left2, lates2, ones2, code2, s82, hd82, one2, late2, ap2, held2, dec2, wl2, ao2, hb2, y1, y2, y3, y4, y5⟩ := hq_ln3 (r := r) (p := p) (c := c) (A := A) hbb hB hr FU hF8 rfl FU (b - m) m f1 all1 (c 10) bits sum hd left lates ones code s8 hd8 one late ap held dec wl ao hb (by omega) (by omega) (by rw [e10]; exact b3) n1 (by rw [e10]; exact b4) (by rw [b5 (B + 4) (by omega)]; exact h4)
  refine ⟨f2, all2, X2, bits2, sum2, hd2, left2, lates2, ones2, code2, s82, hd82, one2, late2, ap2, held2, dec2, wl2, ao2, hb2, ?_, ?_, y3, y4, fun i i1 i2 => (y5 i i1 i2).trans (b5 i i2)⟩
  · unfold pf_X2_learnFrom
    generalize FU = F at *
    rw [hp_jn]
    refine Eq.trans (b1 _) ?_
    exact y1
  · unfold pf_X8_learnNow
    generalize FU = F at *
    rw [hp_getl 0 (by omega), hp_bi0, Nat.add_zero, q2, hp_jn]
    refine Eq.trans (b2 _) ?_
    exact y2
theorem hq_lnP {b m B : Nat} {c : Nat → Int32} {A : Nat → Nat → Int32} {all : Nat → Int32} (h : hp_RQ b c A all B) (hn : hp_RN 1 c all B) (hc : hp_CI b c A) (hB : B ≤ 640) (h4 : 0 ≤ (all (B + 4)).toInt ∧ (all (B + 4)).toInt ≤ 20) (hm : m ≤ b) (bits sum hd left lates ones code s8 hd8 : Int32) (one late ap held dec wl ao hb : Nat → Int32) :
    ∃ f' all' X' bits' sum' hd' left' lates' ones' code' s8' hd8' one' late' ap' held' dec' wl' ao' hb',
      pf_X2_learnFrom (nI m) 1 (nI b) (A 1) (A 2) (A 3) (A 4) (c 5) (c 6) (c 7) (c 8) (c 9) (c 10) bits one late ap held sum hd left lates ones code = some (f', X', bits', one', late', ap', held', sum', hd', left', lates', ones', code') ∧
      pf_X8_learnOnPaper (nI m) all (nI B) dec wl ao hb s8 hd8 (-1) = some (all', dec', wl', ao', hb', s8', hd8', 0) ∧
      hp_RQ b (upd c 10 X') (hp_ua A 3 f') all' B ∧ hp_CI b (upd c 10 X') (hp_ua A 3 f') ∧ (∀ i, i ≠ B + 6 → i < B + 33 ∨ B + 45 ≤ i → all' i = all i) := by
  obtain ⟨f2, all2, X2, bits2, sum2, hd2, left2, lates2, ones2, code2, s82, hd82, one2, late2, ap2, held2, dec2, wl2, ao2, hb2, y1, y2, y3, y4, y5⟩ := hq_learnFrom (r := 1) h hn hc hB h4 hm (by omega) bits sum hd left lates ones code s8 hd8 one late ap held dec wl ao hb
  have y1 : pf_X2_learnFrom (nI m) 1 (nI b) (A 1) (A 2) (A 3) (A 4) (c 5) (c 6) (c 7) (c 8) (c 9) (c 10) bits one late ap held sum hd left lates ones code = _ := y1
  have y2 : pf_X8_learnNow (nI m) 1 all (nI B) dec wl ao hb s8 hd8 1 (-1) = _ := y2
  refine ⟨f2, all2, X2, bits2, sum2, hd2, left2, lates2, ones2, code2, s82, hd82, one2, late2, ap2, held2, dec2, wl2, ao2, hb2, y1, ?_, y3, y4, y5⟩
  unfold pf_X8_learnOnPaper
  rw [y2, hp_bv7]
theorem hp_lnc {b : Nat} {c : Nat → Int32} {A : Nat → Nat → Int32} {all : Nat → Int32} (h : hp_RC b c A all 0) (f3 f6 f7 f8 f9 g5 g6 g7 g8 : Nat → Int32) (x4 x5 x10 x11 x12 x13 x14 x15 y9 y10 : Int32) :
    ∀ (n k j : Nat) (t : Int32), j + k = b → k < n → ∃ t', lp_X7_learn_45 (nI b) (A 2) (A 1) f3 x4 x5 f6 f7 f8 f9 x10 x11 x12 x13 x14 x15 n t (nI j) = some (t', f3, x4, x5, f6, f7, f8, f9, x10, x11, x12, x13, x14, x15) ∧ lp_X8_learn_39 0 (nI b) all g5 g6 g7 g8 y9 y10 n t (nI j) = some (t', all, g5, g6, g7, g8, y9, y10) := by
  intro n
  induction n with
  | zero => intro k j t h1 h2; omega
  | succ n ih =>
    intro k j t h1 h2
    have hb := h.2.2.1
    rw [lp_X7_learn_45, lp_X8_learn_39]
    by_cases d : b ≤ j
    · have d' := (hp_eI (show b < 2147483648 by omega) (show j < 2147483648 by omega)).mpr d
      rw [if_pos d', if_pos d']
      exact ⟨t, rfl, rfl⟩
    · have d' : ¬ nI b ≤ nI j := fun d' => d ((hp_eI (by omega) (by omega)).mp d')
      obtain ⟨s1, s2⟩ := hp_short h (show j < b by omega)
      rw [if_neg d', if_neg d', s1, s2, hp_bi0, hp_bi0]
      simp only [hp_b0, hp_nm, hp_i1, Int32.add_zero]
      by_cases e : ¬ ¬ hp_w A j ≤ hp_sum (hp_w A) j
      · rw [if_pos e, if_pos e]
        exact ih (k - 1) (j + 1) t (by omega) (by omega)
      · rw [if_neg e, if_neg e]
        exact ih (k - 1) (j + 1) (t + 1) (by omega) (by omega)
theorem op_learn {b : Nat} {c : Nat → Int32} {A : Nat → Nat → Int32} {all : Nat → Int32} (a1 a2 : Int32) (h : hp_RC b c A all 0) (hc : hp_CI b c A) (bits sum hd left lates ones code s8 hd8 : Int32) (one late ap held dec wl ao hb : Nat → Int32) :
    ∃ v f' all' X' bits' sum' hd' left' lates' ones' code' s8' hd8' one' late' ap' held' dec' wl' ao' hb',
      pf_X7_learn a1 a2 (c 0) (A 1) (A 2) (A 3) (A 4) (c 5) (c 6) (c 7) (c 8) (c 9) (c 10) bits one late ap held sum hd left lates ones code = some (v, f', X', bits', one', late', ap', held', sum', hd', left', lates', ones', code') ∧
      pf_X8_learn a1 a2 all 0 dec wl ao hb s8 hd8 0 (-1) = some (v, all', dec', wl', ao', hb', s8', hd8') ∧
      hp_RC b (upd c 10 X') (hp_ua A 3 f') all' 0 ∧ hp_CI b (upd c 10 X') (hp_ua A 3 f') ∧ (∀ i, 57 ≤ i → all' i = all i) := by
  obtain ⟨q1, q2, q3, q4, ⟨q5, q6, q7, q8, q9, q10, q11, q12⟩, q⟩ := id h
  have nop : ∃ v f' all' X' bits' sum' hd' left' lates' ones' code' s8' hd8' one' late' ap' held' dec' wl' ao' hb',
      some ((-1 : Int32), A 3, c 10, bits, one, late, ap, held, sum, hd, left, lates, ones, code) = some (v, f', X', bits', one', late', ap', held', sum', hd', left', lates', ones', code') ∧
      some ((-1 : Int32), all, dec, wl, ao, hb, s8, hd8) = some (v, all', dec', wl', ao', hb', s8', hd8') ∧
      hp_RC b (upd c 10 X') (hp_ua A 3 f') all' 0 ∧ hp_CI b (upd c 10 X') (hp_ua A 3 f') ∧ (∀ i, 57 ≤ i → all' i = all i) := by
    refine ⟨-1, A 3, all, c 10, bits, sum, hd, left, lates, ones, code, s8, hd8, one, late, ap, held, dec, wl, ao, hb, rfl, rfl, ?_, ?_, fun i hi => rfl⟩
    · rw [hp_ui, hp_uai]; exact h
    · rw [hp_ui, hp_uai]; exact hc
  have hF : b < FU := by unfold FU; omega
  unfold pf_X7_learn pf_X8_learn
  generalize FU = F at *
  rw [hp_get0l 0 (by omega), hp_bi0, q2, q1, hp_within, hp_isIn, hp_bi0, hp_bi0]
  simp only [hp_within, hp_isIn, hp_bi0, hp_b0]
  by_cases k1 : (1 : Int32) ≤ a1 ∧ a1 ≤ nI b
  · rw [if_neg (not_not_intro k1), if_neg (not_not_intro k1)]
    by_cases k2 : (1 : Int32) ≤ a2 ∧ a2 ≤ 8
    · rw [if_neg (not_not_intro k2), if_neg (not_not_intro k2)]
      have z1 : (1 : Int32).toInt = 1 := by decide
      obtain ⟨l1, l2⟩ := k1
      obtain ⟨l3, l4⟩ := k2
      rw [hp_le, z1] at l1 l3
      rw [hp_le, hp_nT (by omega)] at l2
      rw [hp_le, show (8 : Int32).toInt = 8 from by decide] at l4
      obtain ⟨m, m1, rfl, m2⟩ := hp_of (x := a1) (by omega)
      obtain ⟨r, r1, rfl, r2⟩ := hp_of (x := a2) (by omega)
      obtain ⟨hq, hn⟩ := hq_of h
      obtain ⟨f2, all2, X2, bits2, sum2, hd2, left2, lates2, ones2, code2, s82, hd82, one2, late2, ap2, held2, dec2, wl2, ao2, hb2, y1, y2, y3, y4, y5⟩ := hq_learnFrom (m := m) (r := r) (B := 0) hq hn hc (by omega) (by rw [q8]; exact hc.2.2.2.1) (by omega) (by omega) bits sum hd left lates ones code s8 hd8 one late ap held dec wl ao hb
      have y2 : pf_X8_learnNow (nI m) (nI r) all 0 dec wl ao hb s8 hd8 0 (-1) = _ := y2
      rw [y1, hp_bv13, y2, hp_bv7]
      have hR : hp_RC b (upd c 10 X2) (hp_ua A 3 f2) all2 0 := by
        refine hq_to y3 ?_
        unfold hp_RN
        rw [y5 (0 + 3) (by omega) (by omega), y5 (0 + 4) (by omega) (by omega), hp_un (by decide), hp_un (by decide)]
        exact hn
      obtain ⟨t', t1, t2⟩ := hp_lnc hR f2 one2 late2 ap2 held2 dec2 wl2 ao2 hb2 X2 bits2 sum2 hd2 left2 lates2 ones2 code2 s82 hd82 F (b - m) m 0 (by omega) (by omega)
      rw [hp_uan (by decide), hp_uan (by decide)] at t1
      exact ⟨t', f2, all2, X2, bits2, sum2, hd2, left2, lates2, ones2, code2, s82, hd82, one2, late2, ap2, held2, dec2, wl2, ao2, hb2, t1, t2, hR, y4, fun i hi => y5 i (by omega) (by omega)⟩
    · rw [if_pos k2, if_pos k2]; exact nop
  · rw [if_pos k1, if_pos k1]; exact nop
