/-! mean and learn. -/
theorem hp_2k : ∀ k, k < 13 → (2 : Int) ^ k ≤ 4096 := by decide
theorem hp_step {b k : Nat} {c : Nat → Int32} {A : Nat → Nat → Int32} {all : Nat → Int32} {x sh X : Int32} (h : hp_RC b c A all 0) (hc : hp_CI b c A) (hk : k ≤ b) (one late ap held dec wl ao hb : Nat → Int32) :
    ∃ X' o' l' d' e' s' h' x9 la on dec' wl' ao' hb', pf_X2_run x sh (nI k) (A 1) (A 2) (A 3) (A 4) (c 6) (c 7) (c 8) (c 9) X one late ap held = some (X', nI k, o', l', d', e', s', h', x9, la, on, hp_code (c 9) s') ∧
      pf_X8_goThrough x (nI k) sh (upd all 6 X) 0 dec wl ao hb 0 (-1) = some (upd all 6 X', dec', wl', ao', hb', s', h') ∧ 0 ≤ s'.toInt ∧ s'.toInt ≤ 9999 * (2 ^ k - 1) := by
  obtain ⟨q1, q2, q3, q4, ⟨q5, q6, q7, q8, q9, q10, q11, q12⟩, q⟩ := id h
  rw [Nat.zero_add] at q6 q7 q8
  obtain ⟨-, -, ⟨u1, u2⟩, ⟨n1, n2⟩, ⟨s1, s2⟩, hcA⟩ := id hc
  obtain ⟨X', h', s', o', l', d', e', g1, g2⟩ := hp_R2 (k := k) (x := x) (shift := sh) (band := c 6) (rule := c 7) (noise := c 8) (step := c 9) (X := X) (size := A 1) (off := A 2) (worth := A 3) (stuck := A 4) (o := one) (l := late) (d := ap) (h := held) (by omega) ⟨n1, n2⟩ s1 s2
  have g8 := hp_R8 (k := k) (B := 0) (x := x) (shift := sh) (p := 0) (X := X) (all := all) (o := dec) (l := wl) (d := ao) (h := hb) (by omega) (by omega) (by rw [Nat.zero_add, q8]; exact ⟨n1, n2⟩)
  simp only [hp_g8c h hk, if_true, Nat.zero_add, hp_rl0, q7, q8] at g8
  obtain ⟨X2, h2, s2', oo, ll, dd, ee, oo2, ll2, dd2, ee2, i1, i2, i3⟩ := hp_gs_ir (w := hp_w A) (wo := A 3) (st := A 4) (band := c 6) (rule := c 7) (noise := c 8) (x0 := x + sh) k X 0 0 one late ap held dec wl ao hb
  have g1' : (X2, h2, s2', oo, ll, dd, ee) = (X', h', s', o', l', d', e') := i1.symm.trans g1
  simp only [Prod.mk.injEq] at g1'
  obtain ⟨rfl, rfl, rfl, rfl, rfl, rfl, rfl⟩ := g1'
  unfold hp_gc at g8
  rw [i2] at g8
  have p1 := hp_2k k (by omega)
  have sb := hp_gs_sum (w := hp_w A) (wo := A 3) (st := A 4) (band := c 6) (rule := c 7) (noise := c 8) (x0 := x + sh) k (X, 0, 0, one, late, ap, held) (by omega) (fun i hi => (hcA i (by omega)).2.2.2.1) (by show (0 : Int) ≤ (0 : Int32).toInt; decide) (by show (0 : Int32).toInt + _ < _; rw [show (0 : Int32).toInt = 0 from by decide]; omega)
  rw [i1] at sb
  simp only [show (0 : Int32).toInt = 0 from by decide, Int.zero_add] at sb
  exact ⟨_, _, _, _, _, _, _, _, _, _, _, _, _, _, g2, g8, sb.1, sb.2⟩
theorem hp_RC66 {b : Nat} {c : Nat → Int32} {A : Nat → Nat → Int32} {all : Nat → Int32} (h : hp_RC b c A all 0) (X : Int32) : hp_RC b (upd c 10 X) A (upd all 6 X) 0 := by
  have := hp_RC6 h X
  rw [Nat.zero_add] at this
  exact this
theorem hp_mean {b : Nat} {c : Nat → Int32} {A : Nat → Nat → Int32} {all : Nat → Int32} {x : Int32} {r : Nat} (h : hp_RC b c A all 0) (hc : hp_CI b c A) (hr : 1 ≤ r ∧ r ≤ 100)
    (J : Int64 → (Nat → Int32) → (Nat → Int32) → (Nat → Int32) → (Nat → Int32) → (Nat → Int32) → Int32 → Int32 → Option (Int32 × (Nat → Int32) × (Nat → Int32) × (Nat → Int32) × (Nat → Int32) × (Nat → Int32) × Int32 × Int32)) :
    ∀ (n k j : Nat) (t : Int64) (X bits sum hd left lates ones code s8 hd8 : Int32) (one late ap held dec wl ao hb : Nat → Int32), j + k = r → k < n →
    ∃ T X' bits' sum' hd' left' lates' ones' code' s8' hd8' one' late' ap' held' dec' wl' ao' hb',
      lp_X7_mean_35 x (nI r) (nI b) (c 5) (c 6) (c 7) (c 8) (c 9) (A 2) (A 1) (A 4) (A 3) n t (nI j) X bits one late ap held sum hd left lates ones code = bi_0 (pf_X7_nearest T (nI r)) (fun v => some (v, X', bits', one', late', ap', held', sum', hd', left', lates', ones', code')) ∧
      lp_X8_mean_34 x (nI r) 0 0 (-1) J n t (nI j) (upd all 6 X) dec wl ao hb s8 hd8 = J T (upd all 6 X') dec' wl' ao' hb' s8' hd8' := by
  intro n
  induction n with
  | zero => intro k j t X bits sum hd left lates ones code s8 hd8 one late ap held dec wl ao hb h1 h2; omega
  | succ n ih =>
    intro k j t X bits sum hd left lates ones code s8 hd8 one late ap held dec wl ao hb h1 h2
    rw [lp_X7_mean_35, lp_X8_mean_34]
    obtain ⟨q1, q2, q3, q4, ⟨q5, q6, q7, q8, q9, q10, q11, q12⟩, q⟩ := id h
    obtain ⟨-, -, -, -, ⟨s1, s2⟩, -⟩ := id hc
    rw [Nat.zero_add] at q5 q9
    by_cases d : r ≤ j
    · have d' := (hp_eI (show r < 2147483648 by omega) (show j < 2147483648 by omega)).mpr d
      rw [if_pos d', if_pos d']
      exact ⟨t, X, bits, sum, hd, left, lates, ones, code, s8, hd8, one, late, ap, held, dec, wl, ao, hb, rfl, rfl⟩
    · have d' : ¬ nI r ≤ nI j := fun d' => d ((hp_eI (by omega) (by omega)).mp d')
      rw [if_neg d', if_neg d']
      have hu : ∀ (X : Int32) (a : Nat), a < 800 → a ≠ 6 → pf_X8_get (nI a) (upd all 6 X) 0 = some (all a, ()) := fun X a ha hn => by rw [hp_get0 ha, hp_un hn]
      have hu0 : ∀ X, pf_X8_get 0 (upd all 6 X) 0 = some (all 0, ()) := fun X => hu X 0 (by omega) (by decide)
      have hu1 : ∀ X, pf_X8_get 1 (upd all 6 X) 0 = some (all 1, ()) := fun X => hu X 1 (by omega) (by decide)
      obtain ⟨X', o', l', d1, e', s', h', x9, la, on, dec', wl', ao', hb', g2, g8, b1, b2⟩ := hp_step (x := x) (sh := c 5) (X := X) h hc (Nat.le_refl b) one late ap held dec wl ao hb
      rw [hu0, hp_bi0, hu1, hp_bi0, q2, q5, g2, g8, hp_bv12, hp_bv7, hp_nm, hp_nm]
      have hcn : pf_X8_codeNow (upd all 6 X') 0 s' = some (hp_code (c 9) s', ()) := hp_code8 (B := 0) (by omega) (by rw [hp_un (by decide)]; exact q9) s1 s2
      rw [hcn, hp_bi0, hp_nm, hp_nm, hp_i1]
      exact ih (k - 1) (j + 1) _ X' _ _ _ _ _ _ _ _ _ _ _ _ _ _ _ _ _ (by omega) (by omega)
theorem hp_r2 : ∀ r, r < 101 → 1 ≤ r → ¬ ((nI r).toInt64 * 2 = 0) := by decide
theorem op_mean {b : Nat} {c : Nat → Int32} {A : Nat → Nat → Int32} {all : Nat → Int32} (x rr bits sum hd left lates ones code s8 hd8 : Int32) (one late ap held dec wl ao hb : Nat → Int32) (h : hp_RC b c A all 0) (hc : hp_CI b c A) :
    ∃ v X' bits' sum' hd' left' lates' ones' code' s8' hd8' one' late' ap' held' dec' wl' ao' hb',
      pf_X7_mean x rr (c 0) (A 1) (A 2) (A 3) (A 4) (c 5) (c 6) (c 7) (c 8) (c 9) (c 10) bits one late ap held sum hd left lates ones code = some (v, X', bits', one', late', ap', held', sum', hd', left', lates', ones', code') ∧
      pf_X8_mean x rr all 0 dec wl ao hb s8 hd8 0 (-1) = some (v, upd all 6 X', dec', wl', ao', hb', s8', hd8') ∧
      hp_RC b (upd c 10 X') A (upd all 6 X') 0 ∧ hp_CI b (upd c 10 X') A := by
  obtain ⟨q1, q2, q3, q4, ⟨q5, q6, q7, q8, q9, q10, q11, q12⟩, q⟩ := id h
  rw [Nat.zero_add] at q10
  have hF : 100 < FU := by unfold FU; omega
  have nop : ∃ v X' bits' sum' hd' left' lates' ones' code' s8' hd8' one' late' ap' held' dec' wl' ao' hb',
      some ((-1000000 : Int32), c 10, bits, one, late, ap, held, sum, hd, left, lates, ones, code) = some (v, X', bits', one', late', ap', held', sum', hd', left', lates', ones', code') ∧
      some ((-1000000 : Int32), all, dec, wl, ao, hb, s8, hd8) = some (v, upd all 6 X', dec', wl', ao', hb', s8', hd8') ∧
      hp_RC b (upd c 10 X') A (upd all 6 X') 0 ∧ hp_CI b (upd c 10 X') A := by
    refine ⟨-1000000, c 10, bits, sum, hd, left, lates, ones, code, s8, hd8, one, late, ap, held, dec, wl, ao, hb, rfl, ?_, hp_RC66 h _, hp_CI6 hc _⟩
    rw [← q10, hp_ui]
  unfold pf_X7_mean pf_X8_mean
  generalize FU = F at *
  rw [hp_near, hp_isX, hp_within, hp_isIn, q1]
  simp only [hp_bi0, hp_b0, hp_nz (show b ≤ 100000 by omega)]
  rw [hp_get0l 0 (by omega), hp_bi0, q2]
  by_cases c0 : b = 0
  · subst c0
    rw [if_pos rfl, if_pos (show nI 0 = 0 from rfl)]
    by_cases k : -100000 ≤ x.toInt ∧ x.toInt ≤ 100000
    · rw [if_neg (not_not_intro k)]
      by_cases k2 : (1 : Int32) ≤ rr ∧ rr ≤ 100
      · rw [if_neg (not_not_intro k2)]; exact nop
      · rw [if_pos k2]; exact nop
    · rw [if_pos k]; exact nop
  · rw [if_neg c0, if_neg (show ¬ nI b = 0 by rw [hp_nz (by omega)]; exact c0)]
    by_cases k : -100000 ≤ x.toInt ∧ x.toInt ≤ 100000
    · rw [if_neg (not_not_intro k), if_neg (not_not_intro k)]
      by_cases k2 : (1 : Int32) ≤ rr ∧ rr ≤ 100
      · rw [if_neg (not_not_intro k2), if_neg (not_not_intro k2), hp_jn]
        obtain ⟨k1, k3⟩ := k2
        have z1 : (1 : Int32).toInt = 1 := by decide
        rw [hp_le, z1] at k1
        rw [hp_le, show (100 : Int32).toInt = 100 from by decide] at k3
        obtain ⟨r, hr, rfl, hrr⟩ := hp_of (x := rr) (by omega)
        obtain ⟨T, X', bits', sum', hd', left', lates', ones', code', s8', hd8', one', late', ap', held', dec', wl', ao', hb', g1, g2⟩ := hp_mean (x := x) (r := r) h hc (by omega) (fun x4 f5 f6 f7 f8 f9 x10 x11 => ckL (2 * (nI r).toInt64) <| some ((((2 * x4) + (nI r).toInt64) / (2 * (nI r).toInt64)).toInt32, f5, f6, f7, f8, f9, x10, x11)) F r 0 0 (c 10) bits sum hd left lates ones code s8 hd8 one late ap held dec wl ao hb (by omega) (by omega)
        have e6 : upd all 6 (c 10) = all := by rw [← q10, hp_ui]
        rw [e6] at g2
        have g1' := g1
        have hne := hp_r2 r (by omega) (by omega)
        unfold pf_X7_nearest at g1'
        rw [if_pos (show (1 : Int32) ≤ nI r by rw [hp_le, z1]; omega), hp_ckL hne, hp_bi0] at g1'
        have g2' : lp_X8_mean_34 x (nI r) 0 0 (-1) (fun x4 f5 f6 f7 f8 f9 x10 x11 => ckL (2 * (nI r).toInt64) <| some ((((2 * x4) + (nI r).toInt64) / (2 * (nI r).toInt64)).toInt32, f5, f6, f7, f8, f9, x10, x11)) F 0 0 all dec wl ao hb s8 hd8 = some (((T * 2 + (nI r).toInt64) / ((nI r).toInt64 * 2)).toInt32, upd all 6 X', dec', wl', ao', hb', s8', hd8') := by
          refine Eq.trans g2 ?_
          show ckL (2 * (nI r).toInt64) _ = _
          rw [Int64.mul_comm 2, hp_ckL hne, Int64.mul_comm 2]
        exact ⟨_, X', bits', sum', hd', left', lates', ones', code', s8', hd8', one', late', ap', held', dec', wl', ao', hb', g1', g2', hp_RC66 h _, hp_CI6 hc _⟩
      · rw [if_pos k2, if_pos k2]; exact nop
    · rw [if_pos k, if_pos k]; exact nop
