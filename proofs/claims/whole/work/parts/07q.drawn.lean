/-! DRAWN WEIGHTS: drawn, fewest, loosest, draw. -/
def hw_b (a : Int32) : Nat → Int32
  | 0 => 0
  | n + 1 => hw_b a n + (1 + a * hw_b a n / 100)
def hw_s (a : Int32) (i : Nat) : Int32 := 1 + a * hw_b a i / 100
theorem hw_b0 {a : Int32} : hw_s a 0 = 1 := by
  unfold hw_s
  rw [show hw_b a 0 = 0 from rfl, Int32.mul_zero]
  rfl
theorem hw_bd {a : Int32} (h : 0 ≤ a.toInt ∧ a.toInt ≤ 100) : ∀ n, n ≤ 12 → 0 ≤ (hw_b a n).toInt ∧ (hw_b a n).toInt ≤ 2 ^ n - 1 ∧ 1 ≤ (hw_s a n).toInt ∧ (hw_s a n).toInt ≤ 2 ^ n := by
  have sb : ∀ n, n ≤ 12 → 0 ≤ (hw_b a n).toInt → (hw_b a n).toInt ≤ 2 ^ n - 1 → 1 ≤ (hw_s a n).toInt ∧ (hw_s a n).toInt ≤ (hw_b a n).toInt + 1 := by
    intro n hn h1 h2
    have p1 := hp_2k n (by omega)
    have l1 : (1 : Int32).toInt = 1 := by decide
    have l100 : (100 : Int32).toInt = 100 := by decide
    have m1 : a.toInt * (hw_b a n).toInt ≤ 100 * (hw_b a n).toInt := Int.mul_le_mul_of_nonneg_right h.2 h1
    have m0 : 0 ≤ a.toInt * (hw_b a n).toInt := Int.mul_nonneg h.1 h1
    have e1 : (a * hw_b a n).toInt = a.toInt * (hw_b a n).toInt := hp_mul (by omega) (by omega)
    have e2 : (a * hw_b a n / 100).toInt = a.toInt * (hw_b a n).toInt / 100 := by rw [hp_div (by rw [e1]; exact m0) (by decide), e1, l100]
    have q0 : 0 ≤ a.toInt * (hw_b a n).toInt / 100 := Int.ediv_nonneg m0 (by omega)
    have q1 : a.toInt * (hw_b a n).toInt / 100 ≤ (hw_b a n).toInt := by omega
    unfold hw_s
    rw [hp_add (by rw [l1, e2]; omega) (by rw [l1, e2]; omega), l1, e2]
    omega
  intro n
  induction n with
  | zero =>
    intro _
    have l0 : (hw_b a 0).toInt = 0 := by rw [show hw_b a 0 = 0 from rfl]; decide
    have := sb 0 (by omega) (by omega) (by rw [l0]; decide)
    refine ⟨by omega, by rw [l0]; decide, this.1, ?_⟩
    rw [show ((2 : Int) ^ 0) = 1 from rfl]; omega
  | succ n ih =>
    intro hn
    obtain ⟨i1, i2, i3, i4⟩ := ih (by omega)
    have p1 := hp_2k n (by omega)
    have pp : (2 : Int) ^ (n + 1) = 2 * 2 ^ n := by rw [Int.pow_succ]; omega
    have := sb n (by omega) i1 i2
    have e : (hw_b a (n + 1)).toInt = (hw_b a n).toInt + (hw_s a n).toInt := by
      rw [show hw_b a (n + 1) = hw_b a n + hw_s a n from rfl, hp_add (by omega) (by omega)]
    have b1 : 0 ≤ (hw_b a (n + 1)).toInt := by omega
    have b2 : (hw_b a (n + 1)).toInt ≤ 2 ^ (n + 1) - 1 := by omega
    have := sb (n + 1) hn b1 b2
    exact ⟨b1, b2, this.1, by omega⟩
theorem hw_sum {a : Int32} {f : Nat → Int32} : ∀ n, (∀ i, i < n → f i = hw_s a i) → hp_sum f n = hw_b a n := by
  intro n
  induction n with
  | zero => intro _; rfl
  | succ n ih =>
    intro h
    rw [hp_sum, ih (fun i hi => h i (by omega)), h n (by omega)]
    rfl
theorem hw_7 {a : Int32} {m : Nat} (hm : m ≤ 12) : ∀ (n k j : Nat) (fs fo fw ft : Nat → Int32), j + k = m → k < n → (∀ i, i < j → fs i = hw_s a i ∧ fo i = 0 ∧ fw i = hw_s a i ∧ ft i = -1) →
    ∃ fs' fo' fw' ft', lp_X2_drawWeights_10 (nI m) a n (hw_b a j) (nI j) (nI j) fs fo fw ft = some (nI m, fs', fo', fw', ft') ∧ (∀ i, i < m → fs' i = hw_s a i ∧ fo' i = 0 ∧ fw' i = hw_s a i ∧ ft' i = -1) := by
  intro n
  induction n with
  | zero => intro k j fs fo fw ft h1 h2; omega
  | succ n ih =>
    intro k j fs fo fw ft h1 h2 h
    rw [lp_X2_drawWeights_10]
    by_cases d : m ≤ j
    · have ej : j = m := by omega
      subst ej
      rw [if_pos ((hp_eI (by omega) (by omega)).mpr d)]
      exact ⟨fs, fo, fw, ft, rfl, h⟩
    · have d' : ¬ nI m ≤ nI j := fun e => d ((hp_eI (by omega) (by omega)).mp e)
      have d2 : ¬ (12 : Int32) ≤ nI j := fun e => by
        have := (hp_eI (a := 12) (by omega) (by omega)).mp e
        omega
      have ea : ∀ v, pf_X2_addBit v 0 (nI j) fs fo fw ft = some (nI (j + 1), upd fs j v, upd fo j 0, upd fw j v, upd ft j (-1)) := by
        intro v
        unfold pf_X2_addBit
        simp only [if_neg d2, hp_ck (show j < 12 by omega) (show 12 < 2147483648 by decide), hp_nm, hp_i1, hp_cl (show j < 2147483648 by omega)]
      have core : ∀ v, v = hw_s a j → ∃ fs' fo' fw' ft', (bv_5 (pf_X2_addBit v 0 (nI j) fs fo fw ft) fun x9 f10 f11 f12 f13 => nm (hw_b a j + v) fun x14 => nm (nI j + 1) fun x15 => lp_X2_drawWeights_10 (nI m) a n x14 x15 x9 f10 f11 f12 f13) = some (nI m, fs', fo', fw', ft') ∧ (∀ i, i < m → fs' i = hw_s a i ∧ fo' i = 0 ∧ fw' i = hw_s a i ∧ ft' i = -1) := by
        intro v hv
        rw [ea, hp_bv5, hp_nm, hp_nm, hp_i1, hv]
        refine ih (k - 1) (j + 1) _ _ _ _ (by omega) (by omega) (fun i hi => ?_)
        by_cases e : i = j
        · subst e; rw [hp_us, hp_us, hp_us, hp_us]; exact ⟨rfl, rfl, rfl, rfl⟩
        · rw [hp_un e, hp_un e, hp_un e, hp_un e]; exact h i (by omega)
      rw [if_neg d', hp_jn]
      by_cases c0 : j = 0
      · rw [if_pos (show nI j = 0 by rw [c0]; rfl)]
        exact core 1 (by rw [c0]; exact hw_b0.symm)
      · rw [if_neg (show ¬ nI j = 0 by rw [hp_nz (by omega)]; exact c0)]
        exact core _ rfl
theorem hw_8 {a : Int32} {m : Nat} (hm : m ≤ 12) : ∀ (n k j : Nat) (f : Nat → Int32), j + k = m → k < n → (∀ i, i < j → f i = hw_s a i) →
    ∃ f', lp_X8_layDrawn_5 (nI m) a n (hw_b a j) (nI j) f = some (hw_b a m, f') ∧ (∀ i, i < m → f' i = hw_s a i) := by
  intro n
  induction n with
  | zero => intro k j f h1 h2; omega
  | succ n ih =>
    intro k j f h1 h2 h
    rw [lp_X8_layDrawn_5]
    by_cases d : m ≤ j
    · have ej : j = m := by omega
      subst ej
      rw [if_pos ((hp_eI (by omega) (by omega)).mpr d)]
      exact ⟨f, rfl, h⟩
    · have d' : ¬ nI m ≤ nI j := fun e => d ((hp_eI (by omega) (by omega)).mp e)
      rw [if_neg d', hp_nm, hp_ck (show j < 12 by omega) (by decide), hp_ck (show j < 12 by omega) (by decide), hp_nm, hp_nm, hp_i1, hp_cl (show j < 2147483648 by omega), hp_us]
      refine ih (k - 1) (j + 1) _ (by omega) (by omega) (fun i hi => ?_)
      by_cases e : i = j
      · subst e; rw [hp_us]; rfl
      · rw [hp_un e]; exact h i (by omega)
theorem hw_d7 {a : Int32} {m : Nat} (hm : m ≤ 12) (fs fo fw ft : Nat → Int32) : ∃ fs' fo' fw' ft', pf_X2_drawWeights (nI m) a fs fo fw ft = some (nI m, fs', fo', fw', ft') ∧ (∀ i, i < m → fs' i = hw_s a i ∧ fo' i = 0 ∧ fw' i = hw_s a i ∧ ft' i = -1) := by
  have hF : m < FU := by unfold FU; omega
  unfold pf_X2_drawWeights
  generalize FU = F at *
  exact hw_7 hm F m 0 fs fo fw ft (by omega) hF (fun i hi => by omega)
theorem hw_d8 {a : Int32} {m : Nat} (hm : m ≤ 12) (f : Nat → Int32) : ∃ f', pf_X8_layDrawn (nI m) a f = some (hw_b a m, f') ∧ (∀ i, i < m → f' i = hw_s a i) := by
  have hF : m < FU := by unfold FU; omega
  unfold pf_X8_layDrawn
  generalize FU = F at *
  exact hw_8 hm F m 0 f (by omega) hF (fun i hi => by omega)
theorem hw_dr (n a : Int32) : pf_X7_isDrawable n a = some (hp_b (((2 : Int32) ≤ n ∧ n ≤ 12) ∧ ((0 : Int32) ≤ a ∧ a ≤ 100)), ()) := by
  unfold pf_X7_isDrawable
  rw [hp_within, hp_bi0, hp_within, hp_bi0]
  simp only [hp_b0]
  by_cases h1 : (2 : Int32) ≤ n ∧ n ≤ 12
  · rw [if_neg (not_not_intro h1)]
    by_cases h2 : (0 : Int32) ≤ a ∧ a ≤ 100
    · rw [if_neg (not_not_intro h2), hp_bt ⟨h1, h2⟩]
    · rw [if_pos h2, hp_bf (fun e => h2 e.2)]
  · rw [if_pos h1, hp_bf (fun e => h1 e.1)]
theorem hw_re (r : Int32) : pf_X7_isReach r = some (hp_b ((1 : Int32) ≤ r ∧ r ≤ 4095), ()) := by
  unfold pf_X7_isReach
  rw [hp_within, hp_bi0, hp_ckZ]
theorem hw_re8 (r : Int32) : pf_X8_isReach r = some (hp_b ((1 : Int32) ≤ r ∧ r ≤ 4095), ()) := by
  unfold pf_X8_isReach
  rw [hp_isIn, hp_bi0, hp_ckZ]
theorem hw_wi8 (r : Int32) : pf_X8_isWide r = some (hp_b ((2 : Int32) ≤ r ∧ r ≤ 12), ()) := by
  unfold pf_X8_isWide
  rw [hp_isIn, hp_bi0, hp_ckZ]
theorem hw_pa8 (r : Int32) : pf_X8_isPart r = some (hp_b ((0 : Int32) ≤ r ∧ r ≤ 100), ()) := by
  unfold pf_X8_isPart
  rw [hp_isIn, hp_bi0, hp_ckZ]
theorem hw_wd {n : Int32} (h : (2 : Int32) ≤ n ∧ n ≤ 12) : ∃ m : Nat, 2 ≤ m ∧ m ≤ 12 ∧ n = nI m := by
  obtain ⟨l1, l2⟩ := h
  rw [hp_le, show (2 : Int32).toInt = 2 from by decide] at l1
  rw [hp_le, show (12 : Int32).toInt = 12 from by decide] at l2
  obtain ⟨m, m1, m2, m3⟩ := hp_of (x := n) (by omega)
  exact ⟨m, by omega, by omega, m2⟩
theorem hw_wdI {m : Nat} (h : 2 ≤ m ∧ m ≤ 12) : (2 : Int32) ≤ nI m ∧ nI m ≤ 12 :=
  ⟨(hp_eI (a := 2) (by omega) (by omega)).mpr h.1, (hp_eI (b := 12) (by omega) (by omega)).mpr h.2⟩
theorem hw_wb {a : Int32} {m : Nat} (hm : m ≤ 12) {fs fo : Nat → Int32} (h : ∀ i, i < m → fs i = hw_s a i ∧ fo i = 0) : pf_X2_weightsBelow (nI m) (nI m) fs fo = some (hw_b a m, ()) := by
  rw [hp_wb (by omega) (by omega) (by omega), Nat.min_self]
  rw [hw_sum (a := a) m (fun i hi => by rw [(h i hi).1, (h i hi).2, Int32.add_zero])]
theorem hw_rd {a : Int32} {m : Nat} (hm : 2 ≤ m ∧ m ≤ 12) (ha : (0 : Int32) ≤ a ∧ a ≤ 100) (x : Int32) (fs fo fw ft : Nat → Int32) : ∃ x' fs' fo' fw' ft', pf_X7_reachDrawn (nI m) a x fs fo fw ft = some (hw_b a m, x', fs', fo', fw', ft') := by
  obtain ⟨fs', fo', fw', ft', e, h⟩ := hw_d7 (a := a) hm.2 fs fo fw ft
  unfold pf_X7_reachDrawn
  rw [hw_dr, hp_bi0, hp_bt ⟨hw_wdI hm, ha⟩, if_neg (by decide), e, hp_bv5, hw_wb hm.2 (fun i hi => ⟨(h i hi).1, (h i hi).2.1⟩), hp_bi0]
  exact ⟨_, _, _, _, _, rfl⟩
theorem hw_rdn {n a : Int32} (h : ¬ (((2 : Int32) ≤ n ∧ n ≤ 12) ∧ ((0 : Int32) ≤ a ∧ a ≤ 100))) (x : Int32) (fs fo fw ft : Nat → Int32) : pf_X7_reachDrawn n a x fs fo fw ft = some (-1, x, fs, fo, fw, ft) := by
  unfold pf_X7_reachDrawn
  rw [hw_dr, hp_bi0, hp_bf h, if_pos rfl]
theorem op_fewest (a reach x : Int32) (fs fo fw ft ds : Nat → Int32) : ∃ r R7 ds', pf_X7_fewest a reach x fs fo fw ft = some (r, R7) ∧ pf_X8_fewest a reach ds = some (r, ds') := by
  have hF : 13 < FU := by unfold FU; omega
  unfold pf_X7_fewest pf_X8_fewest
  generalize FU = F at *
  rw [hw_re, hw_re8, hw_pa8, hp_bi0, hp_bi0, hp_bi0]
  simp only [hp_b0]
  by_cases h2 : (1 : Int32) ≤ reach ∧ reach ≤ 4095
  · rw [if_neg (not_not_intro h2), if_neg (not_not_intro h2)]
    by_cases h1 : (0 : Int32) ≤ a ∧ a ≤ 100
    · rw [if_neg (not_not_intro h1)]
      have key : ∀ (n k j : Nat) (x : Int32) (fs fo fw ft ds : Nat → Int32), j + k = 13 → k < n → 2 ≤ j → ∃ r R7 ds', lp_X7_fewest_11 a reach n (nI j) x fs fo fw ft = some (r, R7) ∧ lp_X8_fewest_18 a reach n (nI j) ds = some (r, ds') := by
        intro n
        induction n with
        | zero => intro k j x fs fo fw ft ds h1 h2; omega
        | succ n ih =>
          intro k j x fs fo fw ft ds g1 g2 g3
          rw [lp_X7_fewest_11, lp_X8_fewest_18]
          by_cases d : 12 < j
          · have d' : (12 : Int32) < nI j := (hp_lI (a := 12) (by omega) (by omega)).mpr d
            rw [if_pos d', if_pos d']
            exact ⟨_, _, _, rfl, rfl⟩
          · have d' : ¬ (12 : Int32) < nI j := fun e => d ((hp_lI (a := 12) (by omega) (by omega)).mp e)
            obtain ⟨x', fs', fo', fw', ft', e7⟩ := hw_rd (m := j) ⟨g3, by omega⟩ h1 x fs fo fw ft
            obtain ⟨f', e8, -⟩ := hw_d8 (a := a) (m := j) (by omega) ds
            rw [if_neg d', if_neg d', e7, e8, hp_bi5, hp_bi1]
            by_cases k1 : hw_b a j < reach
            · rw [if_pos k1, if_pos k1, hp_nm, hp_nm, hp_i1]
              exact ih (k - 1) (j + 1) _ _ _ _ _ _ (by omega) (by omega) (by omega)
            · rw [if_neg k1, if_neg k1]
              exact ⟨_, _, _, rfl, rfl⟩
      exact key F 11 2 x fs fo fw ft ds (by omega) (by omega) (by omega)
    · rw [if_pos h1]
      have key : ∀ (n k j : Nat), j + k = 13 → k < n → lp_X7_fewest_11 a reach n (nI j) x fs fo fw ft = some (-1, x, fs, fo, fw, ft) := by
        intro n
        induction n with
        | zero => intro k j h1 h2; omega
        | succ n ih =>
          intro k j g1 g2
          rw [lp_X7_fewest_11]
          by_cases d : 12 < j
          · have d' : (12 : Int32) < nI j := (hp_lI (a := 12) (by omega) (by omega)).mpr d
            rw [if_pos d']
          · have d' : ¬ (12 : Int32) < nI j := fun e => d ((hp_lI (a := 12) (by omega) (by omega)).mp e)
            rw [if_neg d', hw_rdn (fun e => h1 e.2), hp_bi5]
            have k1 : (-1 : Int32) < reach := by
              have := h2.1
              rw [hp_le, show (1 : Int32).toInt = 1 from by decide] at this
              rw [hp_lt, show (-1 : Int32).toInt = -1 from by decide]; omega
            rw [if_pos k1, hp_nm, hp_i1]
            exact ih (k - 1) (j + 1) (by omega) (by omega)
      have t := key F 11 2 (by omega) (by omega)
      have t : lp_X7_fewest_11 a reach F 2 x fs fo fw ft = _ := t
      rw [t]
      exact ⟨_, _, _, rfl, rfl⟩
  · rw [if_pos h2]
    by_cases h1 : (0 : Int32) ≤ a ∧ a ≤ 100
    · rw [if_neg (not_not_intro h1), if_pos h2]
      exact ⟨_, _, _, rfl, rfl⟩
    · rw [if_pos h1]
      exact ⟨_, _, _, rfl, rfl⟩
theorem op_loosest (n0 reach x : Int32) (fs fo fw ft ds : Nat → Int32) : ∃ r R7 ds', pf_X7_loosest n0 reach x fs fo fw ft = some (r, R7) ∧ pf_X8_loosest n0 reach ds = some (r, ds') := by
  have hF : 101 < FU := by unfold FU; omega
  unfold pf_X7_loosest pf_X8_loosest
  generalize FU = F at *
  rw [hw_re, hw_re8, hw_wi8, hp_bi0, hp_bi0, hp_bi0]
  simp only [hp_b0]
  by_cases h2 : (1 : Int32) ≤ reach ∧ reach ≤ 4095
  · rw [if_neg (not_not_intro h2), if_neg (not_not_intro h2)]
    by_cases h1 : (2 : Int32) ≤ n0 ∧ n0 ≤ 12
    · rw [if_neg (not_not_intro h1)]
      obtain ⟨m, m1, m2, rfl⟩ := hw_wd h1
      have key : ∀ (n k j : Nat) (x : Int32) (fs fo fw ft ds : Nat → Int32), j + k = 101 → k < n → ∃ r R7 ds', lp_X7_loosest_11 (nI m) reach n (nI j) x fs fo fw ft = some (r, R7) ∧ lp_X8_loosest_18 (nI m) reach n (nI j) ds = some (r, ds') := by
        intro n
        induction n with
        | zero => intro k j x fs fo fw ft ds h1 h2; omega
        | succ n ih =>
          intro k j x fs fo fw ft ds g1 g2
          rw [lp_X7_loosest_11, lp_X8_loosest_18]
          by_cases d : 100 < j
          · have d' : (100 : Int32) < nI j := (hp_lI (a := 100) (by omega) (by omega)).mpr d
            rw [if_pos d', if_pos d']
            exact ⟨_, _, _, rfl, rfl⟩
          · have d' : ¬ (100 : Int32) < nI j := fun e => d ((hp_lI (a := 100) (by omega) (by omega)).mp e)
            have ha : (0 : Int32) ≤ nI j ∧ nI j ≤ 100 := ⟨(hp_eI (a := 0) (by omega) (by omega)).mpr (by omega), (hp_eI (b := 100) (by omega) (by omega)).mpr (by omega)⟩
            obtain ⟨x', fs', fo', fw', ft', e7⟩ := hw_rd (m := m) ⟨m1, m2⟩ ha x fs fo fw ft
            obtain ⟨f', e8, -⟩ := hw_d8 (a := nI j) (m := m) m2 ds
            rw [if_neg d', if_neg d', e7, e8, hp_bi5, hp_bi1]
            by_cases k1 : hw_b (nI j) m < reach
            · rw [if_pos k1, if_pos k1, hp_nm, hp_nm, hp_i1]
              exact ih (k - 1) (j + 1) _ _ _ _ _ _ (by omega) (by omega)
            · rw [if_neg k1, if_neg k1]
              exact ⟨_, _, _, rfl, rfl⟩
      exact key F 101 0 x fs fo fw ft ds (by omega) (by omega)
    · rw [if_pos h1]
      have key : ∀ (n k j : Nat), j + k = 101 → k < n → lp_X7_loosest_11 n0 reach n (nI j) x fs fo fw ft = some (-1, x, fs, fo, fw, ft) := by
        intro n
        induction n with
        | zero => intro k j h1 h2; omega
        | succ n ih =>
          intro k j g1 g2
          rw [lp_X7_loosest_11]
          by_cases d : 100 < j
          · have d' : (100 : Int32) < nI j := (hp_lI (a := 100) (by omega) (by omega)).mpr d
            rw [if_pos d']
          · have d' : ¬ (100 : Int32) < nI j := fun e => d ((hp_lI (a := 100) (by omega) (by omega)).mp e)
            rw [if_neg d', hw_rdn (fun e => h1 e.1), hp_bi5]
            have k1 : (-1 : Int32) < reach := by
              have := h2.1
              rw [hp_le, show (1 : Int32).toInt = 1 from by decide] at this
              rw [hp_lt, show (-1 : Int32).toInt = -1 from by decide]; omega
            rw [if_pos k1, hp_nm, hp_i1]
            exact ih (k - 1) (j + 1) (by omega) (by omega)
      have t := key F 101 0 (by omega) (by omega)
      have t : lp_X7_loosest_11 n0 reach F 0 x fs fo fw ft = _ := t
      rw [t]
      exact ⟨_, _, _, rfl, rfl⟩
  · rw [if_pos h2]
    by_cases h1 : (2 : Int32) ≤ n0 ∧ n0 ≤ 12
    · rw [if_neg (not_not_intro h1), if_pos h2]
      exact ⟨_, _, _, rfl, rfl⟩
    · rw [if_pos h1]
      exact ⟨_, _, _, rfl, rfl⟩
theorem op_drawn (n0 a i w x : Int32) (fs fo fw ft ds : Nat → Int32) : ∃ r R7 ds', pf_X7_drawn n0 a i w x fs fo fw ft = some (r, R7) ∧ pf_X8_drawn n0 a i w ds = some (r, ds') := by
  unfold pf_X7_drawn pf_X8_drawn
  rw [hw_dr, hw_wi8, hw_pa8, hp_bi0, hp_bi0, hp_bi0]
  simp only [hp_b0, hp_within, hp_isIn, hp_bi0]
  by_cases h1 : (2 : Int32) ≤ n0 ∧ n0 ≤ 12
  · rw [if_neg (not_not_intro h1)]
    by_cases h2 : (0 : Int32) ≤ a ∧ a ≤ 100
    · rw [if_neg (not_not_intro (And.intro h1 h2)), if_neg (not_not_intro h2)]
      obtain ⟨m, m1, m2, rfl⟩ := hw_wd h1
      obtain ⟨fs', fo', fw', ft', e7, h7⟩ := hw_d7 (a := a) m2 fs fo fw ft
      obtain ⟨f', e8, h8⟩ := hw_d8 (a := a) (m := m) m2 ds
      have em : nI m - 1 = nI (m - 1) := by rw [show (1 : Int32) = nI 1 from rfl, hp_sI (by omega)]
      rw [e7, e8, hp_bv5, hp_bi1, hp_jn, hw_wb m2 (fun i hi => ⟨(h7 i hi).1, (h7 i hi).2.1⟩), hp_bi0, em]
      by_cases w1 : w = 1
      · rw [if_neg (not_not_intro (show (0 : Int32) ≤ w ∧ w ≤ 1 by rw [w1]; decide))]
        rw [if_pos w1, if_pos w1, if_pos w1]
        exact ⟨_, _, _, rfl, rfl⟩
      · by_cases w0 : w = 0
        · rw [if_neg (not_not_intro (show (0 : Int32) ≤ w ∧ w ≤ 1 by rw [w0]; decide))]
          rw [if_neg w1, if_neg w1, if_neg w1, if_pos w0]
          by_cases hi : (0 : Int32) ≤ i ∧ i ≤ nI (m - 1)
          · rw [if_neg (not_not_intro hi), if_neg (not_not_intro hi)]
            obtain ⟨i1, i2⟩ := hi
            rw [hp_le, show (0 : Int32).toInt = 0 from by decide] at i1
            rw [hp_le, hp_nT (by omega)] at i2
            obtain ⟨k, k1, rfl, k3⟩ := hp_of (x := i) (by omega)
            rw [hp_ck (show k < 12 by omega) (by decide), hp_ck (show k < 12 by omega) (by decide), hp_cl (by omega), (h7 k (by omega)).1, h8 k (by omega)]
            exact ⟨_, _, _, rfl, rfl⟩
          · rw [if_pos hi, if_pos hi]
            exact ⟨_, _, _, rfl, rfl⟩
        · have hw : ¬ ((0 : Int32) ≤ w ∧ w ≤ 1) := by
            rintro ⟨a1, a2⟩
            rw [hp_le, show (0 : Int32).toInt = 0 from by decide] at a1
            rw [hp_le, show (1 : Int32).toInt = 1 from by decide] at a2
            have : w.toInt = 0 ∨ w.toInt = 1 := by omega
            rcases this with e | e
            · exact w0 (by rw [hp_eq, e]; decide)
            · exact w1 (by rw [hp_eq, e]; decide)
          rw [if_pos hw, if_neg w1, if_neg w0]
          exact ⟨_, _, _, rfl, rfl⟩
    · rw [if_pos (show ¬ (((2 : Int32) ≤ n0 ∧ n0 ≤ 12) ∧ ((0 : Int32) ≤ a ∧ a ≤ 100)) from fun e => h2 e.2), if_pos h2]
      exact ⟨_, _, _, rfl, rfl⟩
  · rw [if_pos (show ¬ (((2 : Int32) ≤ n0 ∧ n0 ≤ 12) ∧ ((0 : Int32) ≤ a ∧ a ≤ 100)) from fun e => h1 e.1), if_pos h1]
    exact ⟨_, _, _, rfl, rfl⟩
/-- rows 1 to 4 given anew -/
def hp_u4 (A : Nat → Nat → Int32) (f1 f2 f3 f4 : Nat → Int32) : Nat → Nat → Int32 := fun i => if i = 1 then f1 else if i = 2 then f2 else if i = 3 then f3 else if i = 4 then f4 else A i
theorem hp_u4i (A : Nat → Nat → Int32) : hp_u4 A (A 1) (A 2) (A 3) (A 4) = A := by
  funext i
  unfold hp_u4
  by_cases e : i = 1
  · subst e; rfl
  · rw [if_neg e]
    by_cases e : i = 2
    · subst e; rfl
    · rw [if_neg e]
      by_cases e : i = 3
      · subst e; rfl
      · rw [if_neg e]
        by_cases e : i = 4
        · subst e; rfl
        · rw [if_neg e]
theorem hp_lb {i : Nat} {v o : Int32} {all : Nat → Int32} (h : i < 12) : pf_X8_layBit (nI i) v o all 0 = some (upd (upd (upd (upd all (9 + i) v) (21 + i) o) (33 + i) v) (45 + i) (-1)) := by
  unfold pf_X8_layBit
  rw [hp_a9, hp_a21, hp_a33, hp_a45, hp_put0 (by omega), hp_bv1, hp_put0 (by omega), hp_bv1, hp_put0 (by omega), hp_bv1, hp_put0 (by omega), hp_bv1]
theorem hw_dl {m : Nat} {f : Nat → Int32} (hm : m ≤ 12) : ∀ (n k j : Nat) (all : Nat → Int32), j + k = m → k < n → ∃ all', (∀ J, lp_X8_draw__32 (nI m) 0 f J n (nI j) all = J all') ∧ (∀ i, i < m → j ≤ i → all' (9 + i) = f i ∧ all' (21 + i) = 0 ∧ all' (33 + i) = f i ∧ all' (45 + i) = -1) ∧ (∀ i, i < j → all' (9 + i) = all (9 + i) ∧ all' (21 + i) = all (21 + i) ∧ all' (33 + i) = all (33 + i) ∧ all' (45 + i) = all (45 + i)) ∧ (∀ q, q < 9 ∨ 57 ≤ q → all' q = all q) := by
  intro n
  induction n with
  | zero => intro k j all h1 h2; omega
  | succ n ih =>
    intro k j all h1 h2
    by_cases d : m ≤ j
    · refine ⟨all, fun J => ?_, fun i h1 h2 => by omega, fun i hi => ⟨rfl, rfl, rfl, rfl⟩, fun q hq => rfl⟩
      rw [lp_X8_draw__32, if_pos ((hp_eI (by omega) (by omega)).mpr d)]
    · have d' : ¬ nI m ≤ nI j := fun e => d ((hp_eI (by omega) (by omega)).mp e)
      obtain ⟨all', v1, v2, v3, v4⟩ := ih (k - 1) (j + 1) (upd (upd (upd (upd all (9 + j) (f j)) (21 + j) 0) (33 + j) (f j)) (45 + j) (-1)) (by omega) (by omega)
      refine ⟨all', fun J => ?_, fun i h1 h2 => ?_, fun i hi => ?_, fun q hq => ?_⟩
      · rw [lp_X8_draw__32, if_neg d', hp_ck (show j < 12 by omega) (by decide), hp_lb (by omega), hp_bv1, hp_nm, hp_i1, hp_cl (by omega)]
        exact v1 J
      · by_cases e : i = j
        · subst e
          obtain ⟨a1, a2, a3, a4⟩ := v3 i (by omega)
          rw [a1, a2, a3, a4]
          refine ⟨?_, ?_, ?_, ?_⟩
          · rw [hp_un (by omega), hp_un (by omega), hp_un (by omega), hp_us]
          · rw [hp_un (by omega), hp_un (by omega), hp_us]
          · rw [hp_un (by omega), hp_us]
          · rw [hp_us]
        · exact v2 i h1 (by omega)
      · obtain ⟨a1, a2, a3, a4⟩ := v3 i (by omega)
        rw [a1, a2, a3, a4]
        refine ⟨?_, ?_, ?_, ?_⟩ <;> rw [hp_un (by omega), hp_un (by omega), hp_un (by omega), hp_un (by omega)]
      · rw [v4 q hq, hp_un (by omega), hp_un (by omega), hp_un (by omega), hp_un (by omega)]
theorem op_draw {b : Nat} {c : Nat → Int32} {A : Nat → Nat → Int32} {all : Nat → Int32} (n0 a lb was : Int32) (ds : Nat → Int32) (h : hp_RC b c A all 0) (hc : hp_CI b c A) (hs : hp_RS c A all 0) :
    ∃ b' r lb' n' f1 f2 f3 f4 sc' all' was' ds', pf_X7_draw n0 a lb (c 0) (A 1) (A 2) (A 3) (A 4) (c 16) = some (r, lb', n', f1, f2, f3, f4, sc') ∧ pf_X8_draw_ n0 a all 0 was ds = some (r, all', was', ds') ∧
      hp_RC b' (upd (upd c 0 n') 16 sc') (hp_u4 A f1 f2 f3 f4) all' 0 ∧ hp_CI b' (upd (upd c 0 n') 16 sc') (hp_u4 A f1 f2 f3 f4) ∧ hp_RS (upd (upd c 0 n') 16 sc') (hp_u4 A f1 f2 f3 f4) all' 0 ∧ ((lb' = lb ∧ was' = was) ∨ (lb' = 0 ∧ was' = 0)) ∧ (∀ i, 74 ≤ i → all' i = all i) := by
  have hF : 13 < FU := by unfold FU; omega
  obtain ⟨q1, q2, q3, q4, ⟨q5, q6, q7, q8, q9, q10, q11, q12⟩, q⟩ := id h
  unfold pf_X7_draw pf_X8_draw_
  generalize FU = F at *
  rw [hw_dr, hw_wi8, hw_pa8, hp_bi0, hp_bi0, hp_bi0]
  simp only [hp_b0]
  have nop : ∃ b' r lb' n' f1 f2 f3 f4 sc' all' was' ds', some ((0 : Int32), lb, c 0, A 1, A 2, A 3, A 4, c 16) = some (r, lb', n', f1, f2, f3, f4, sc') ∧ some ((0 : Int32), all, was, ds) = some (r, all', was', ds') ∧
      hp_RC b' (upd (upd c 0 n') 16 sc') (hp_u4 A f1 f2 f3 f4) all' 0 ∧ hp_CI b' (upd (upd c 0 n') 16 sc') (hp_u4 A f1 f2 f3 f4) ∧ hp_RS (upd (upd c 0 n') 16 sc') (hp_u4 A f1 f2 f3 f4) all' 0 ∧ ((lb' = lb ∧ was' = was) ∨ (lb' = 0 ∧ was' = 0)) ∧ (∀ i, 74 ≤ i → all' i = all i) := by
    refine ⟨b, 0, lb, c 0, A 1, A 2, A 3, A 4, c 16, all, was, ds, rfl, rfl, ?_, ?_, ?_, Or.inl ⟨rfl, rfl⟩, fun i _ => rfl⟩
    · rw [hp_ui, hp_ui, hp_u4i]; exact h
    · rw [hp_ui, hp_ui, hp_u4i]; exact hc
    · rw [hp_ui, hp_ui, hp_u4i]; exact hs
  by_cases h1 : (2 : Int32) ≤ n0 ∧ n0 ≤ 12
  · by_cases h2 : (0 : Int32) ≤ a ∧ a ≤ 100
    · rw [if_neg (not_not_intro (And.intro h1 h2)), if_neg (not_not_intro h1), if_neg (not_not_intro h2)]
      obtain ⟨m, m1, m2, rfl⟩ := hw_wd h1
      obtain ⟨fs', fo', fw', ft', e7, h7⟩ := hw_d7 (a := a) m2 (A 1) (A 2) (A 3) (A 4)
      obtain ⟨f', e8, h8⟩ := hw_d8 (a := a) (m := m) m2 ds
      obtain ⟨all', v1, v2, v3, v4⟩ := hw_dl (f := f') m2 F m 0 (upd all 0 (nI m)) (by omega) (by omega)
      rw [e7, hp_bv5, e8, hp_bi1, show pf_X8_put 0 (nI m) all 0 = some (upd all 0 (nI m)) from hp_put0 (a := 0) (by omega), hp_bv1, hp_jn]
      have v1 : ∀ J, lp_X8_draw__32 (nI m) 0 f' J F 0 (upd all 0 (nI m)) = J all' := v1
      rw [v1, show pf_X8_put 57 0 all' 0 = some (upd all' 57 0) from hp_put0 (a := 57) (by omega), hp_bv1]
      have ha : 0 ≤ a.toInt ∧ a.toInt ≤ 100 := by
        obtain ⟨a1, a2⟩ := h2
        rw [hp_le, show (0 : Int32).toInt = 0 from by decide] at a1
        rw [hp_le, show (100 : Int32).toInt = 100 from by decide] at a2
        exact ⟨a1, a2⟩
      have cs : ∀ i, i ≠ 0 → i ≠ 16 → upd (upd c 0 (nI m)) 16 0 i = c i := fun i i1 i2 => by rw [hp_un i2, hp_un i1]
      have as : ∀ i, 1 ≤ i → i ≤ 8 → upd all' 57 0 (0 + i) = all i := fun i i1 i2 => by rw [Nat.zero_add, hp_un (by omega), v4 i (by omega), hp_un (by omega)]
      rw [Nat.zero_add] at q5 q6 q7 q8 q9 q10 q11 q12
      refine ⟨m, 1, 0, nI m, fs', fo', fw', ft', 0, upd all' 57 0, 0, f', rfl, rfl, ⟨?_, ?_, m2, Or.inr m1, ⟨?_, ?_, ?_, ?_, ?_, ?_, ?_, ?_⟩, fun i hi => ?_⟩, ?_, ?_, Or.inr ⟨rfl, rfl⟩, fun i hi => ?_⟩
      · rw [hp_un (by decide), hp_us]
      · rw [hp_un (by decide), v4 0 (by omega), hp_us]
      · rw [as 1 (by omega) (by omega), cs 5 (by omega) (by omega)]; exact q5
      · rw [as 2 (by omega) (by omega), cs 6 (by omega) (by omega)]; exact q6
      · rw [as 3 (by omega) (by omega), cs 7 (by omega) (by omega)]; exact q7
      · rw [as 4 (by omega) (by omega), cs 8 (by omega) (by omega)]; exact q8
      · rw [as 5 (by omega) (by omega), cs 9 (by omega) (by omega)]; exact q9
      · rw [as 6 (by omega) (by omega), cs 10 (by omega) (by omega)]; exact q10
      · rw [as 7 (by omega) (by omega), cs 11 (by omega) (by omega)]; exact q11
      · rw [as 8 (by omega) (by omega), cs 12 (by omega) (by omega)]; exact q12
      · obtain ⟨a1, a2, a3, a4⟩ := v2 i hi (by omega)
        obtain ⟨b1, b2, b3, b4⟩ := h7 i hi
        have b5 := h8 i hi
        rw [Nat.zero_add, Nat.zero_add, Nat.zero_add, Nat.zero_add, hp_un (by omega), hp_un (by omega), hp_un (by omega), hp_un (by omega), a1, a2, a3, a4]
        refine ⟨?_, ?_, ?_, ?_⟩
        · rw [b5]; exact b1.symm
        · exact b2.symm
        · rw [b5]; exact b3.symm
        · exact b4.symm
      · obtain ⟨z1, z2, z3, z4, z5, -⟩ := hc
        refine ⟨by rw [cs 5 (by omega) (by omega)]; exact z1, by rw [cs 6 (by omega) (by omega)]; exact z2, by rw [cs 7 (by omega) (by omega)]; exact z3, by rw [cs 8 (by omega) (by omega)]; exact z4, by rw [cs 9 (by omega) (by omega)]; exact z5, fun i hi => ?_⟩
        obtain ⟨b1, b2, b3, b4⟩ := h7 i hi
        have g1 : hp_u4 A fs' fo' fw' ft' 1 i = hw_s a i := b1
        have g2 : hp_u4 A fs' fo' fw' ft' 2 i = 0 := b2
        have g3 : hp_u4 A fs' fo' fw' ft' 3 i = hw_s a i := b3
        have g4 : hp_u4 A fs' fo' fw' ft' 4 i = -1 := b4
        rw [g1, g2, g3, g4]
        obtain ⟨-, -, s1, s2⟩ := hw_bd ha i (by omega)
        have p1 := hp_2k i (by omega)
        have p0 : (1 : Int) ≤ 2 ^ i := Int.pow_pos (by decide)
        rw [show (0 : Int32).toInt = 0 from by decide]
        refine ⟨⟨s1, by omega⟩, by omega, by omega, ⟨by omega, by omega⟩, Or.inl rfl⟩
      · exact ⟨0, by omega, hp_us, by rw [Nat.zero_add, hp_us]; rfl, fun i hi => by omega⟩
      · rw [hp_un (by omega), v4 i (by omega), hp_un (by omega)]
    · rw [if_pos (show ¬ (((2 : Int32) ≤ n0 ∧ n0 ≤ 12) ∧ ((0 : Int32) ≤ a ∧ a ≤ 100)) from fun e => h2 e.2), if_neg (not_not_intro h1), if_pos h2]
      exact nop
  · rw [if_pos (show ¬ (((2 : Int32) ≤ n0 ∧ n0 ≤ 12) ∧ ((0 : Int32) ≤ a ∧ a ≤ 100)) from fun e => h1 e.1), if_pos h1]
    exact nop
