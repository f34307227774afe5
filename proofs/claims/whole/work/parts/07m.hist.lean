/-! histogram, often; whether a code is missing. -/
theorem hq_rok {b : Nat} {c : Nat → Int32} {A : Nat → Nat → Int32} {all : Nat → Int32} {B : Nat} (h : hp_RQ b c A all B) (hc : hp_CI b c A) : hp_ok (hp_rw all B) (hp_rst all B) b := by
  refine ⟨h.2.2.1, fun i hi => ?_⟩
  obtain ⟨e1, -, e3⟩ := hq_rw h i hi
  obtain ⟨-, w1, w2⟩ := hp_wI hc hi
  obtain ⟨-, -, -, -, -, hc⟩ := hc
  rw [e1, e3]
  exact ⟨by omega, by omega, (hc i hi).2.2.2.2⟩
theorem hq_pc8 {b : Nat} {c : Nat → Int32} {A : Nat → Nat → Int32} {all : Nat → Int32} {B : Nat} {x turned : Int32} (h : hp_RQ b c A all B) (hc : hp_CI b c A) (hB : B ≤ 640) (hx : -900000 ≤ x.toInt ∧ x.toInt ≤ 900000) (dec wl ao hb : Nat → Int32) :
    ∃ dec' wl' ao' hb' s' h', pf_X8_paperCode x all (nI B) dec wl ao hb turned = some (hp_PC b c A turned x, all, dec', wl', ao', hb', s', h', 0) := by
  obtain ⟨q1, q2, q3, q4, ⟨q5, -, q9, -⟩, q⟩ := id h
  obtain ⟨⟨o1, o2⟩, -, -, -, ⟨s1, s2⟩, -⟩ := id hc
  unfold pf_X8_paperCode
  rw [hp_getl 0 (by omega), bi_0_s, hp_getl 1 (by omega), bi_0_s, Nat.add_zero, q2, q5]
  unfold pf_X8_goThrough
  have e10 : ((1 : Int32) = 0) = False := by simp
  simp only [e10, if_false, jn, nm]
  have ex : (x + c 5).toInt = x.toInt + (c 5).toInt := hp_add (by omega) (by omega)
  obtain ⟨dec', wl', ao', hb', held', hg⟩ := hp_go8 (turned := turned) (x := x) (offset := c 5) (all := all) (B := B) (b := b) (by omega) (hq_rok h hc) FU b dec wl ao hb 0 0 (Nat.le_refl b) (by unfold FU; omega) ⟨_, rfl, by rw [ex]; show _ ≤ x.toInt + (c 5).toInt - 0; omega, by rw [ex]; show x.toInt + (c 5).toInt - 0 ≤ _; omega⟩ (by decide) (by show (0 : Int) ≤ _; omega) (by omega) (by omega)
  rw [show nI b - 1 = hp_p b from rfl, hg]
  simp only [bv_7_s]
  rw [hp_code8 (by omega) q9 s1 s2, bi_0_s]
  have e : hp_code (c 9) (hp_ps (hp_rw all B) (hp_rwo all B) (hp_rst all B) turned b (x + c 5 - 0) 0) = hp_PC b c A turned x := by
    unfold hp_PC hp_pc
    rw [hp_ps_congr b (x + c 5 - 0) 0 (hq_rw h), Int32.sub_zero]
  rw [e]
  exact ⟨_, _, _, _, _, _, rfl⟩
theorem hg_lay {b : Nat} {c : Nat → Int32} {A : Nat → Nat → Int32} {all : Nat → Int32} {B N : Nat} {a g : Int32} (h : hp_RQ b c A all B) (hc : hp_CI b c A) (hB : B ≤ 640) (hN : N ≤ 2000) (hx : ∀ k, k < N → -900000 ≤ (a + g * nI k).toInt ∧ (a + g * nI k).toInt ≤ 900000) :
    ∀ (n k j : Nat) (dec wl ao hb cd so : Nat → Int32) (s hd : Int32), j + k = N → k < n → (∀ i, i < j → cd i = hp_PC b c A (-1) (a + g * nI i) ∧ so i = hp_PC b c A (-1) (a + g * nI i)) →
    ∃ dec' wl' ao' hb' cd' so' s' hd', (∀ J, lp_X8_layCodes_14 a g (nI B) (-1) (nI N) J n (nI j) all dec wl ao hb s hd 0 cd so = J all dec' wl' ao' hb' s' hd' 0 cd' so') ∧ (∀ i, i < N → cd' i = hp_PC b c A (-1) (a + g * nI i) ∧ so' i = hp_PC b c A (-1) (a + g * nI i)) := by
  intro n
  induction n with
  | zero => intro k j dec wl ao hb cd so s hd h1 h2; omega
  | succ n ih =>
    intro k j dec wl ao hb cd so s hd h1 h2 hi
    by_cases d : N ≤ j
    · have ej : j = N := by omega
      subst ej
      refine ⟨dec, wl, ao, hb, cd, so, s, hd, fun J => ?_, hi⟩
      rw [lp_X8_layCodes_14, if_pos ((hp_eI (by omega) (by omega)).mpr d)]
    · have d' : ¬ nI N ≤ nI j := fun e => d ((hp_eI (by omega) (by omega)).mp e)
      obtain ⟨d1, w1, a1, b1, s1, h1', e1⟩ := hq_pc8 (turned := -1) h hc hB (hx j (by omega)) dec wl ao hb
      obtain ⟨dec', wl', ao', hb', cd', so', s', hd', y1, y2⟩ := ih (k - 1) (j + 1) d1 w1 a1 b1 (upd cd j (hp_PC b c A (-1) (a + g * nI j))) (upd so j (hp_PC b c A (-1) (a + g * nI j))) s1 h1' (by omega) (by omega) (fun i hi2 => by
        by_cases e : i = j
        · subst e; rw [hp_us, hp_us]; exact ⟨rfl, rfl⟩
        · rw [hp_un e, hp_un e]; exact hi i (by omega))
      refine ⟨dec', wl', ao', hb', cd', so', s', hd', fun J => ?_, y2⟩
      rw [lp_X8_layCodes_14, if_neg d', e1, hp_bi8, hp_ck (show j < 2000 by omega) (by decide), hp_ck (show j < 2000 by omega) (by decide), hp_nm, hp_ck (show j < 2000 by omega) (by decide), hp_nm, hp_i1, hp_cl (show j < 2147483648 by omega), hp_us]
      exact y1 J
/-- a span's numbers -/
theorem hg_sp {a e g : Int32} (h : -100000 ≤ a.toInt ∧ e.toInt ≤ 200000 ∧ a.toInt ≤ e.toInt ∧ 1 ≤ g.toInt ∧ (e.toInt - a.toInt) / g.toInt < 2000) :
    ∃ N : Nat, 1 ≤ N ∧ N ≤ 2000 ∧ (e - a) / g + 1 = nI N ∧ ¬ g = 0 ∧ (1 : Int32) ≤ g ∧ ∀ k, k < N → -100000 ≤ (a + g * nI k).toInt ∧ (a + g * nI k).toInt ≤ 200000 := by
  obtain ⟨h1, h2, h3, h4, h5⟩ := h
  have l1 : (1 : Int32).toInt = 1 := by decide
  have e1 : (e - a).toInt = e.toInt - a.toInt := hp_sub (by omega) (by omega)
  have e2 : ((e - a) / g).toInt = (e.toInt - a.toInt) / g.toInt := by rw [hp_div (by omega) (by omega), e1]
  have q0 : 0 ≤ (e.toInt - a.toInt) / g.toInt := Int.ediv_nonneg (by omega) (by omega)
  have q1 := Int.ediv_mul_le (e.toInt - a.toInt) (show g.toInt ≠ 0 by omega)
  have e3 : ((e - a) / g + 1).toInt = (e.toInt - a.toInt) / g.toInt + 1 := by rw [hp_add (by rw [e2, l1]; omega) (by rw [e2, l1]; omega), e2, l1]
  obtain ⟨N, n1, n2, n3⟩ := hp_of (x := (e - a) / g + 1) (by omega)
  refine ⟨N, by omega, by omega, n2, fun z => ?_, ?_, fun k hk => ?_⟩
  · rw [z] at h4; exact absurd h4 (by decide)
  · rw [hp_le, l1]; exact h4
  · have ek : (nI k).toInt = (k : Int) := hp_nT (by omega)
    generalize (e.toInt - a.toInt) / g.toInt = q at *
    have m1 : g.toInt * k ≤ q * g.toInt := by
      rw [Int.mul_comm]
      exact Int.mul_le_mul_of_nonneg_right (by omega) (by omega)
    have m0 : 0 ≤ g.toInt * (k : Int) := Int.mul_nonneg (by omega) (by omega)
    have em : (g * nI k).toInt = g.toInt * k := by rw [hp_mul (by rw [ek]; omega) (by rw [ek]; omega), ek]
    rw [hp_add (by rw [em]; omega) (by rw [em]; omega), em]
    omega
theorem hg_wi {a e g : Int32} (h : -100000 ≤ a.toInt ∧ e.toInt ≤ 100000 ∧ a.toInt ≤ e.toInt ∧ 1 ≤ g.toInt ∧ (e.toInt - a.toInt) / g.toInt < 2000) : -100000 ≤ a.toInt ∧ e.toInt ≤ 200000 ∧ a.toInt ≤ e.toInt ∧ 1 ≤ g.toInt ∧ (e.toInt - a.toInt) / g.toInt < 2000 := ⟨h.1, by omega, h.2.2⟩
/-- both lay and sort alike -/
theorem hg_both {b : Nat} {c : Nat → Int32} {A : Nat → Nat → Int32} {all : Nat → Int32} {B : Nat} {a e g : Int32} (h : hp_RQ b c A all B) (hc : hp_CI b c A) (hB : B ≤ 640) (hs : -100000 ≤ a.toInt ∧ e.toInt ≤ 200000 ∧ a.toInt ≤ e.toInt ∧ 1 ≤ g.toInt ∧ (e.toInt - a.toInt) / g.toInt < 2000) (en dec wl ao hb cd so : Nat → Int32) (s hd : Int32) :
    ∃ (N : Nat) (en' s7 : Nat → Int32) (ob oa : Int32) (dec' wl' ao' hb' cd' s8 : Nat → Int32) (s' hd' : Int32), 1 ≤ N ∧ N ≤ 2000 ∧
      pf_X4_measure a e g en (nI b) (A 1) (A 2) (A 3) (A 4) (c 5) (c 9) = some (en', nI N, hg_fl cd' N, ob, oa) ∧
      pf_X4_sort en' (nI N) = some s7 ∧
      pf_X8_layCodes a e g all (nI B) dec wl ao hb s hd 0 (-1) cd so = some (all, dec', wl', ao', hb', s', hd', 0, cd', s8, nI N) ∧
      hs_so s7 N ∧ hs_so s8 N ∧ hg_rng s7 N ∧ hg_rng s8 N ∧ (∀ i, i < N → s7 i = s8 i) ∧ (∀ w, hs_cnt en' w N = hs_cnt s8 w N) ∧
      ob = hg_f a g (c 9) cd' (hg_bi (hg_f a g (c 9) cd') N) ∧ oa = a + g * nI (hg_bi (hg_f a g (c 9) cd') N) := by
  obtain ⟨N, n0, n1, n2, g0, g1, hx⟩ := hg_sp hs
  have hbb := h.2.2.1
  have hF : N < FU := by unfold FU; omega
  have hF8 : 7 < FU := by unfold FU; omega
  have hcd := fun k => hg_PCb (t := -1) (x := a + g * nI k) hbb hc
  have hfar : ∀ k, k < N → 0 ≤ (hg_f a g (c 9) (fun k => hp_PC b c A (-1) (a + g * nI k)) k).toInt := by
    intro k hk
    obtain ⟨x1, x2⟩ := hx k hk
    obtain ⟨p1, p2, p3⟩ := hcd k
    have e1 : hg_v a g (c 9) (fun k => hp_PC b c A (-1) (a + g * nI k)) k = hp_PC b c A (-1) (a + g * nI k) * c 9 - (a + g * nI k) := by
      unfold hg_v
      simp only [Int32.sub_eq_add_neg, Int32.neg_add]; ac_rfl
    unfold hg_f
    rw [e1]
    have p0 : 0 ≤ (hp_PC b c A (-1) (a + g * nI k)).toInt * (c 9).toInt := Int.mul_nonneg p1 (by have := hc.2.2.2.2.1; omega)
    have m : (hp_PC b c A (-1) (a + g * nI k) * c 9).toInt = (hp_PC b c A (-1) (a + g * nI k)).toInt * (c 9).toInt := hp_mul (by omega) (by omega)
    have m2 : (hp_PC b c A (-1) (a + g * nI k) * c 9 - (a + g * nI k)).toInt = (hp_PC b c A (-1) (a + g * nI k)).toInt * (c 9).toInt - (a + g * nI k).toInt := by rw [hp_sub (by rw [m]; omega) (by rw [m]; omega), m]
    by_cases cc : (0 : Int32) ≤ hp_PC b c A (-1) (a + g * nI k) * c 9 - (a + g * nI k)
    · rw [if_pos cc]; rw [hp_le, show (0 : Int32).toInt = 0 from by decide] at cc; exact cc
    · rw [if_neg cc]; rw [hp_le, show (0 : Int32).toInt = 0 from by decide] at cc
      rw [hp_neg (by rw [m2]; omega)]; omega
  obtain ⟨en', fl', ob', oa', y1, y2, y3, y4⟩ := hg_m7 (a := a) (cc := g) (N := N) hbb hc n1 hfar FU N 0 en 0 (-1) a (by omega) hF (fun i hi => by omega) rfl (Or.inl ⟨rfl, rfl⟩)
  obtain ⟨dec', wl', ao', hb', cd', so', s', hd', z1, z2⟩ := hg_lay (a := a) (g := g) (N := N) h hc hB n1 (fun k hk => by have := hx k hk; omega) FU N 0 dec wl ao hb cd so s hd (by omega) hF (fun i hi => by omega)
  obtain ⟨s7, t1, t2, t3⟩ := hs_sort (N := N) (by omega) en'
  obtain ⟨s8, v1, v2, v3⟩ := hs_r65 (N := N) n1 all dec' wl' ao' hb' cd' s' hd' 0 7 FU so' (by omega) hF8
  have v3 := v3 (Or.inl (by omega))
  have ecnt : ∀ w, hs_cnt en' w N = hs_cnt s8 w N := fun w => by
    rw [v2 w]; exact hs_cnt_congr N (fun i hi => (y2 i hi).trans (z2 i hi).2.symm)
  have euni : ∀ i, i < N → s7 i = s8 i := hs_uni N t3 v3 (fun w => by rw [t2 w, ecnt w])
  have r8 : hg_rng s8 N := by
    intro i hi
    obtain ⟨j, j1, j2⟩ := (hs_cnt_pos (f := so') (w := s8 i) N).mp (by rw [← v2]; exact (hs_cnt_pos (f := s8) (w := s8 i) N).mpr ⟨i, hi, rfl⟩)
    rw [← j2, (z2 j j1).2]
    exact ⟨(hcd j).1, (hcd j).2.2⟩
  have r7 : hg_rng s7 N := fun i hi => by rw [euni i hi]; exact r8 i hi
  have ecd : ∀ i, i < N → cd' i = (fun k => hp_PC b c A (-1) (a + g * nI k)) i := fun i hi => (z2 i hi).1
  have ef : ∀ i, i < N → hg_f a g (c 9) cd' i = hg_f a g (c 9) (fun k => hp_PC b c A (-1) (a + g * nI k)) i := fun i hi => by
    unfold hg_f hg_v
    rw [ecd i hi]
  have ebi := hg_bi_congr N ef
  have hbl := hg_bi_lt (hg_f a g (c 9) cd') N (by omega)
  obtain ⟨y5, y6⟩ := y4 (by omega)
  refine ⟨N, en', s7, ob', oa', dec', wl', ao', hb', cd', s8, s', hd', n0, n1, ?_, t1, ?_, t3, v3, r7, r8, euni, ecnt, ?_, ?_⟩
  · unfold pf_X4_measure
    generalize FU = F at *
    rw [hp_jn, if_pos g1, hp_ckD g0, n2]
    have y1' := y1
    rw [y3, ← hg_fl_congr N ecd] at y1'
    exact y1'
  · unfold pf_X8_layCodes
    generalize FU = F at *
    rw [hp_ckD g0, n2, hp_nm, hp_jn]
    refine (z1 _).trans ?_
    exact v1
  · rw [y5, ← ebi, ef _ hbl]
  · rw [y6, ← ebi]
theorem hg_tell {a g step w : Int32} {all cd s7 s8 en : Nat → Int32} {N B : Nat} (hB : B ≤ 640) (h5 : all (B + 5) = step) (h0 : 1 ≤ N) (hN : N ≤ 2000) (hw : 0 ≤ w.toInt ∧ w.toInt ≤ 9) (t1 : pf_X4_sort en (nI N) = some s7) (o7 : hs_so s7 N) (o8 : hs_so s8 N) (r7 : hg_rng s7 N) (r8 : hg_rng s8 N) (e78 : ∀ i, i < N → s7 i = s8 i) :
    ∃ r x1 x2 x3 x4 x5 x6 x7, pf_X4_sortOut en (nI N) = some (s7, x1, x2, x3, x4, x5, x6, x7) ∧ pf_X4_tell w (hg_fl cd N) (hg_f a g step cd (hg_bi (hg_f a g step cd) N)) (a + g * nI (hg_bi (hg_f a g step cd) N)) x1 x2 x3 x4 x5 x6 x7 = some (r, ()) ∧
      pf_X8_ofHistogram a g w all (nI B) cd s8 (nI N) = some (r, ()) := by
  have so := hg_so7 h0 (by omega) r7 t1
  have es : nI N - 1 = nI (N - 1) := by rw [show (1 : Int32) = nI 1 from rfl, hp_sI (by omega)]
  have hmc := (hg_mc o8 N (Nat.le_refl N) h0).1
  have hbl := hg_bi_lt (hg_f a g step cd) N (by omega)
  rw [hg_un_congr N e78, hg_mo_congr N e78, hg_fm_congr N e78, e78 0 (by omega), e78 (N - 1) (by omega)] at so
  have ck0 : ∀ z : Option (Int32 × Unit), ckI 0 2000 z = z := fun z => hp_ck (i := 0) (by decide) (by decide)
  have e : pf_X8_ofHistogram a g w all (nI B) cd s8 (nI N) = pf_X4_tell w (hg_fl cd N) (hg_f a g step cd (hg_bi (hg_f a g step cd) N)) (a + g * nI (hg_bi (hg_f a g step cd) N)) (nI (hg_un s8 N)) (nI (hg_mo s8 N).1) (hg_mo s8 N).2 (s8 0) (s8 (N - 1)) (s8 (N - 1) - s8 0 + 1 - nI (hg_un s8 N)) (hg_fm s8 N) := by
    unfold pf_X8_ofHistogram pf_X4_tell
    rw [hg_un8 h0 hN, hg_fl8 h0 hN, hg_mo8 hB h5 h0 hN, hg_mf8 h0 hN, hg_fm8 h0 hN r8, es, hp_cl (show N - 1 < 2147483648 by omega)]
    simp only [hp_bi0, hg_ob8 hB h5 (show hg_bi (hg_f a g step cd) N < 2000 by omega), hg_co8 hN, ← hmc, hp_ck (show N - 1 < 2000 by omega) (show 2000 < 2147483648 by decide), ck0, show Int32.toNatClampNeg 0 = 0 from rfl]
  obtain ⟨r, hr⟩ : ∃ r, pf_X4_tell w (hg_fl cd N) (hg_f a g step cd (hg_bi (hg_f a g step cd) N)) (a + g * nI (hg_bi (hg_f a g step cd) N)) (nI (hg_un s8 N)) (nI (hg_mo s8 N).1) (hg_mo s8 N).2 (s8 0) (s8 (N - 1)) (s8 (N - 1) - s8 0 + 1 - nI (hg_un s8 N)) (hg_fm s8 N) = some (r, ()) := by
    unfold pf_X4_tell
    repeat' split
    all_goals exact ⟨_, rfl⟩
  exact ⟨r, _, _, _, _, _, _, _, so, hr, e.trans hr⟩
theorem op_histogram {b : Nat} {c : Nat → Int32} {A : Nat → Nat → Int32} {all : Nat → Int32} (a e g w : Int32) (h : hp_RC b c A all 0) (hc : hp_CI b c A) (en dec wl ao hb cd so : Nat → Int32) (s hd cm y1 y2 y3 y4 y5 y6 y7 y8 y9 y10 y11 : Int32) :
    ∃ r en' z1 z2 z3 z4 z5 z6 z7 z8 z9 z10 z11 dec' wl' ao' hb' cd' so' s' hd' cm', pf_X7_histogram a e g w (c 0) (A 1) (A 2) (A 3) (A 4) (c 5) (c 9) en y1 y2 y3 y4 y5 y6 y7 y8 y9 y10 y11 = some (r, en', z1, z2, z3, z4, z5, z6, z7, z8, z9, z10, z11) ∧
      pf_X8_histogram a e g w all 0 dec wl ao hb s hd 0 (-1) cd so cm = some (r, all, dec', wl', ao', hb', s', hd', 0, cd', so', cm') := by
  obtain ⟨q1, q2, q3, q4, -⟩ := id h
  unfold pf_X7_histogram pf_X8_histogram
  rw [q1, hp_get0l 0 (by omega), q2, hp_bi0, hp_isRow]
  obtain ⟨t, ht, e1, e2⟩ := hp_span a e g
  rw [e1]
  simp only [hp_bi0, hp_b0, hp_within, hp_isIn]
  by_cases c1 : nI b = 0
  · simp only [if_pos c1]; exact ⟨_, _, _, _, _, _, _, _, _, _, _, _, _, _, _, _, _, _, _, _, _, _, rfl, rfl⟩
  · simp only [if_neg c1]
    by_cases c2 : t
    · simp only [if_neg (not_not_intro c2)]
      by_cases c3 : (0 : Int32) ≤ w ∧ w ≤ 9
      · simp only [if_neg (not_not_intro c3)]
        obtain ⟨hq, hn⟩ := hq_of h
        obtain ⟨N, en', s7, ob, oa, dec', wl', ao', hb', cd', s8, s', hd', n0, n1, m1, m2, m3, m4, m5, m6, m7, m8, m9, rfl, rfl⟩ := hg_both (B := 0) (a := a) (e := e) (g := g) hq hc (by omega) (hg_wi (e2 c2)) en dec wl ao hb cd so s hd
        have m3 : pf_X8_layCodes a e g all 0 dec wl ao hb s hd 0 (-1) cd so = _ := m3
        obtain ⟨k1, k2⟩ := c3
        rw [hp_le, show (0 : Int32).toInt = 0 from by decide] at k1
        rw [hp_le, show (9 : Int32).toInt = 9 from by decide] at k2
        obtain ⟨r, x1, x2, x3, x4, x5, x6, x7, u1, u2, u3⟩ := hg_tell (a := a) (g := g) (step := c 9) (w := w) (cd := cd') (all := all) (B := 0) (by omega) hq.2.2.2.2.1.2.2.1 n0 n1 ⟨k1, k2⟩ m2 m4 m5 m6 m7 m8
        have u3 : pf_X8_ofHistogram a g w all 0 cd' s8 (nI N) = _ := u3
        rw [m1, hp_bv5, u1, hp_bv8, u2, hp_bi0, m3, hp_bv11, u3, hp_bi0]
        exact ⟨_, _, _, _, _, _, _, _, _, _, _, _, _, _, _, _, _, _, _, _, _, _, rfl, rfl⟩
      · simp only [if_pos c3]; exact ⟨_, _, _, _, _, _, _, _, _, _, _, _, _, _, _, _, _, _, _, _, _, _, rfl, rfl⟩
    · simp only [if_pos c2]; exact ⟨_, _, _, _, _, _, _, _, _, _, _, _, _, _, _, _, _, _, _, _, _, _, rfl, rfl⟩
theorem op_often {b : Nat} {c : Nat → Int32} {A : Nat → Nat → Int32} {all : Nat → Int32} (a e g w : Int32) (h : hp_RC b c A all 0) (hc : hp_CI b c A) (en dec wl ao hb cd so : Nat → Int32) (s hd cm y1 y2 y3 y4 : Int32) :
    ∃ r en' z1 z2 z3 z4 dec' wl' ao' hb' cd' so' s' hd' cm', pf_X7_often a e g w (c 0) (A 1) (A 2) (A 3) (A 4) (c 5) (c 9) en y1 y2 y3 y4 = some (r, en', z1, z2, z3, z4) ∧
      pf_X8_often a e g w all 0 dec wl ao hb s hd 0 (-1) cd so cm = some (r, all, dec', wl', ao', hb', s', hd', 0, cd', so', cm') := by
  obtain ⟨q1, q2, q3, q4, -⟩ := id h
  unfold pf_X7_often pf_X8_often
  rw [q1, hp_get0l 0 (by omega), q2, hp_bi0, hp_isRow]
  obtain ⟨t, ht, e1, e2⟩ := hp_span a e g
  rw [e1]
  simp only [hp_bi0, hp_b0]
  by_cases c1 : nI b = 0
  · simp only [if_pos c1]; exact ⟨_, _, _, _, _, _, _, _, _, _, _, _, _, _, _, rfl, rfl⟩
  · simp only [if_neg c1]
    by_cases c2 : t
    · simp only [if_neg (not_not_intro c2)]
      obtain ⟨hq, hn⟩ := hq_of h
      obtain ⟨N, en', s7, ob, oa, dec', wl', ao', hb', cd', s8, s', hd', n0, n1, m1, m2, m3, m4, m5, m6, m7, m8, m9, rfl, rfl⟩ := hg_both (B := 0) (a := a) (e := e) (g := g) hq hc (by omega) (hg_wi (e2 c2)) en dec wl ao hb cd so s hd
      have m3 : pf_X8_layCodes a e g all 0 dec wl ao hb s hd 0 (-1) cd so = _ := m3
      rw [m1, hp_bv5, hg_co7 (by omega), hp_bi0, m3, hp_bv11, hg_co8 n1, hp_bi0, m9]
      exact ⟨_, _, _, _, _, _, _, _, _, _, _, _, _, _, _, rfl, rfl⟩
    · simp only [if_pos c2]; exact ⟨_, _, _, _, _, _, _, _, _, _, _, _, _, _, _, rfl, rfl⟩
/-- whether a code is missing: both alike -/
theorem hg_wh {b : Nat} {c : Nat → Int32} {A : Nat → Nat → Int32} {all : Nat → Int32} {B : Nat} (h : hp_RQ b c A all B) (hc : hp_CI b c A) (hB : B ≤ 640) (hs : (hp_sum (A 1) b).toInt / (c 9).toInt < 2000) (en dec wl ao hb cd so : Nat → Int32) (s hd : Int32) :
    ∃ (t : Prop) (_ : Decidable t), ∃ en' z1 z2 z3 z4 z5 z6 z7 z8 z9 z10 z11 dec' wl' ao' hb' cd' so' s' hd' cm', pf_X4_isWhole en (nI b) (A 1) (A 2) (A 3) (A 4) (c 5) (c 9) = some (hp_b t, en', z1, z2, z3, z4, z5, z6, z7, z8, z9, z10, z11) ∧
      pf_X8_isMissing all (nI B) dec wl ao hb s hd 0 (-1) cd so = some (hp_b (¬ t), all, dec', wl', ao', hb', s', hd', 0, cd', so', cm') := by
  obtain ⟨q1, q2, q3, q4, ⟨q5, q6, q9, -⟩, q⟩ := id h
  have hcA := hc.2.2.2.2.2
  have hst := hc.2.2.2.2.1
  have so9 : pf_X8_sumOf 9 (nI b) all (nI B) = some (hp_sum (A 1) b, ()) := by
    have := hp_so (all := all) (B := B) (a := 9) (k := b) (by omega)
    rw [show hp_sum (fun i => all (B + (9 + i))) b = hp_sum (A 1) b from hp_sum_congr (fun i hi => (q i hi).1)] at this
    exact this
  have hbi : (b : Int) ≤ 12 := by omega
  obtain ⟨k1, k2⟩ := hp_sum_rng (f := A 1) (lo := 0) (hi := 9999) (n := b) (fun i hi => by have := (hcA i hi).1; omega) (by omega) (by omega) (by omega) (by omega)
  have l0 : (0 : Int32).toInt = 0 := by decide
  obtain ⟨N, en', s7, ob, oa, dec', wl', ao', hb', cd', s8, s', hd', n0, n1, m1, m2, m3, m4, m5, m6, m7, m8, m9, rfl, rfl⟩ := hg_both (B := B) (a := 0) (e := hp_sum (A 1) b) (g := c 9) h hc hB ⟨by rw [l0]; omega, by omega, by rw [l0]; omega, hst.1, by rw [l0, Int.sub_zero]; exact hs⟩ en dec wl ao hb cd so s hd
  have t := hg_so7 n0 (by omega) m6 m2
  obtain ⟨g1, g2⟩ := hg_gap m5 m7 N (Nat.le_refl N) n0
  have hul := hg_un_le s8 N
  have r0 := m7 0 (by omega)
  have rN := m7 (N - 1) (by omega)
  have l1 : (1 : Int32).toInt = 1 := by decide
  have eu : (nI (hg_un s8 N)).toInt = (hg_un s8 N : Int) := hp_nT (by omega)
  have f1 : (s8 (N - 1) - s8 0).toInt = (s8 (N - 1)).toInt - (s8 0).toInt := hp_sub (by omega) (by omega)
  have f2 : (s8 (N - 1) - s8 0 + 1).toInt = (s8 (N - 1)).toInt - (s8 0).toInt + 1 := by rw [hp_add (by rw [f1, l1]; omega) (by rw [f1, l1]; omega), f1, l1]
  have f3 : (s8 (N - 1) - s8 0 + 1 - nI (hg_un s8 N)).toInt = (s8 (N - 1)).toInt - (s8 0).toInt + 1 - hg_un s8 N := by rw [hp_sub (by rw [f2, eu]; omega) (by rw [f2, eu]; omega), f2, eu]
  rw [hg_un_congr N m8, hg_mo_congr N m8, hg_fm_congr N m8, m8 0 (by omega), m8 (N - 1) (by omega)] at t
  refine ⟨hg_fm s8 N = -1, inferInstance, ?_⟩
  unfold pf_X4_isWhole pf_X8_isMissing pf_X8_allSizes
  rw [hp_as q3, hp_bi0, m1, hp_bv5, t, hp_bv8, hp_getl 0 (by omega), hp_bi0, Nat.add_zero, q2, so9, hp_bi0, hp_bi0, hp_getl 5 (by omega), hp_bi0, q9, m3, hp_bv11, hg_fm8 n0 n1 m7, hp_bi0]
  by_cases cc : hg_fm s8 N = -1
  · rw [if_pos (show s8 (N - 1) - s8 0 + 1 - nI (hg_un s8 N) = 0 from by rw [hp_eq, f3, l0]; exact g2.mpr cc), if_pos cc, hp_bt cc, hp_bf (not_not_intro cc)]
    exact ⟨_, _, _, _, _, _, _, _, _, _, _, _, _, _, _, _, _, _, _, _, _, rfl, rfl⟩
  · rw [if_neg (show ¬ s8 (N - 1) - s8 0 + 1 - nI (hg_un s8 N) = 0 from fun z => by rw [hp_eq, f3, l0] at z; exact cc (g2.mp z)), if_neg cc, hp_bf cc, hp_bt cc]
    exact ⟨_, _, _, _, _, _, _, _, _, _, _, _, _, _, _, _, _, _, _, _, _, rfl, rfl⟩
