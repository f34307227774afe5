/-! learn. -/
theorem hl_bm {x : Int} (h1 : -9223372036854775808 ≤ x) (h2 : x < 9223372036854775808) : x.bmod (2 ^ 64) = x := Int.bmod_eq_of_le (by omega) (by omega)
theorem hl_of (a : Int32) : a.toInt64.toInt = a.toInt := Int32.toInt_toInt64 a
theorem hl_add {a b : Int64} (h1 : -9223372036854775808 ≤ a.toInt + b.toInt) (h2 : a.toInt + b.toInt < 9223372036854775808) : (a + b).toInt = a.toInt + b.toInt := by
  rw [Int64.toInt_add]; exact hl_bm h1 h2
theorem hl_mul {a b : Int64} (h1 : -9223372036854775808 ≤ a.toInt * b.toInt) (h2 : a.toInt * b.toInt < 9223372036854775808) : (a * b).toInt = a.toInt * b.toInt := by
  rw [Int64.toInt_mul]; exact hl_bm h1 h2
theorem hl_div {a b : Int64} (ha : 0 ≤ a.toInt) (hb : 0 < b.toInt) : (a / b).toInt = a.toInt / b.toInt := by
  rw [Int64.toInt_div_of_ne_right _ _ (fun e => by rw [e] at hb; exact absurd hb (by decide))]
  exact Int.tdiv_eq_ediv_of_nonneg ha
theorem hl_to {a : Int64} (h1 : -2147483648 ≤ a.toInt) (h2 : a.toInt < 2147483648) : a.toInt32.toInt = a.toInt := by
  rw [Int64.toInt_toInt32]; exact hp_bm h1 h2
/-- nearest over 64 bits is the rounding over 32 bits -/
theorem hp_near2 {T : Int64} {t : Int32} {r : Nat} (hr : 1 ≤ r ∧ r ≤ 8) (e : T.toInt = t.toInt) (h0 : 0 ≤ t.toInt) (h1 : t.toInt ≤ 2000000000) :
    ∃ v, pf_X7_nearest T (nI r * 2) = some (v, ()) ∧ (t + nI r) / (2 * nI r) = v ∧ ¬ (2 * nI r = 0) ∧ v.toInt = (t.toInt + r) / (2 * r) := by
  have er : (nI r).toInt = (r : Int) := hp_nT (by omega)
  have l2 : (2 : Int32).toInt = 2 := by decide
  have l1 : (1 : Int32).toInt = 1 := by decide
  have L2 : (2 : Int64).toInt = 2 := by decide
  have a2 : (nI r * 2).toInt = (r : Int) * 2 := by rw [hp_mul (by rw [er, l2]; omega) (by rw [er, l2]; omega), er, l2]
  have b2 : (2 * nI r).toInt = 2 * (r : Int) := by rw [hp_mul (by rw [er, l2]; omega) (by rw [er, l2]; omega), er, l2]
  have c1 : (t + nI r).toInt = t.toInt + r := by rw [hp_add (by rw [er]; omega) (by rw [er]; omega), er]
  have c2 : ((t + nI r) / (2 * nI r)).toInt = (t.toInt + r) / (2 * r) := by rw [hp_div (by rw [c1]; omega) (by rw [b2]; omega), c1, b2]
  have d1 : (nI r * 2).toInt64.toInt = (r : Int) * 2 := by rw [hl_of, a2]
  have d2 : (T * 2).toInt = t.toInt * 2 := by rw [hl_mul (by rw [L2, e]; omega) (by rw [L2, e]; omega), L2, e]
  have d3 : (T * 2 + (nI r * 2).toInt64).toInt = t.toInt * 2 + (r : Int) * 2 := by rw [hl_add (by rw [d1, d2]; omega) (by rw [d1, d2]; omega), d1, d2]
  have d4 : ((nI r * 2).toInt64 * 2).toInt = (r : Int) * 2 * 2 := by rw [hl_mul (by rw [L2, d1]; omega) (by rw [L2, d1]; omega), L2, d1]
  have d5 : ((T * 2 + (nI r * 2).toInt64) / ((nI r * 2).toInt64 * 2)).toInt = (t.toInt + r) / (2 * r) := by
    rw [hl_div (by rw [d3]; omega) (by rw [d4]; omega), d3, d4, show t.toInt * 2 + (r : Int) * 2 = 2 * (t.toInt + r) by omega, show (r : Int) * 2 * 2 = 2 * (2 * r) by omega, Int.mul_ediv_mul_of_pos _ _ (by decide)]
  have q0 : 0 ≤ (t.toInt + r) / (2 * r) := Int.ediv_nonneg (by omega) (by omega)
  have q1 : (t.toInt + r) / (2 * r) ≤ t.toInt + r := Int.ediv_le_self _ (by omega)
  refine ⟨(t + nI r) / (2 * nI r), ?_, rfl, fun z => ?_, c2⟩
  · unfold pf_X7_nearest
    have hz : ¬ (nI r * 2).toInt64 * 2 = 0 := by
      intro z
      rw [z] at d4
      have : (0 : Int64).toInt = 0 := by decide
      omega
    rw [if_pos (show (1 : Int32) ≤ nI r * 2 by rw [hp_le, l1, a2]; omega), hp_ckL hz]
    have : ((T * 2 + (nI r * 2).toInt64) / ((nI r * 2).toInt64 * 2)).toInt32 = (t + nI r) / (2 * nI r) := by
      rw [hp_eq, c2, hl_to (by rw [d5]; omega) (by rw [d5]; omega), d5]
    rw [this]
  · rw [z] at b2
    have : (0 : Int32).toInt = 0 := by decide
    omega
theorem hp_ln1 {b m : Nat} {c : Nat → Int32} {A : Nat → Nat → Int32} (hb : b ≤ 12) (hm : m ≤ b) (J3 : (Nat → Int32) → Option ((Nat → Int32) × Int32 × Int32 × (Nat → Int32) × (Nat → Int32) × (Nat → Int32) × (Nat → Int32) × Int32 × Int32 × Int32 × Int32 × Int32 × Int32)) (J9 : (Nat → Int32) → Option ((Nat → Int32) × (Nat → Int32) × (Nat → Int32) × (Nat → Int32) × (Nat → Int32) × Int32 × Int32)) :
    ∀ (n k j : Nat) (f all : Nat → Int32), j + k = m → k < n → hp_RC b c (hp_ua A 3 f) all 0 → hp_CI b c (hp_ua A 3 f) →
    ∃ f' all', lp_X2_learnFrom_3 (nI m) (nI b) (A 1) J3 n (nI j) f = J3 f' ∧ lp_X8_learnNow_9 (nI m) 0 J9 n (nI j) all = J9 all' ∧ hp_RC b c (hp_ua A 3 f') all' 0 ∧ hp_CI b c (hp_ua A 3 f') ∧ (∀ i, 57 ≤ i → all' i = all i) := by
  intro n
  induction n with
  | zero => intro k j f all h1 h2; omega
  | succ n ih =>
    intro k j f all h1 h2 h hc
    obtain ⟨q1, q2, q3, -, -, q⟩ := id h
    rw [lp_X2_learnFrom_3, lp_X8_learnNow_9]
    by_cases d : m ≤ j
    · have d' := (hp_eI (show m < 2147483648 by omega) (show j < 2147483648 by omega)).mpr d
      rw [if_pos d', if_pos d']
      exact ⟨f, all, rfl, rfl, h, hc, fun i hi => rfl⟩
    · have d' : ¬ nI m ≤ nI j := fun d' => d ((hp_eI (by omega) (by omega)).mp d')
      have d2 : ¬ nI b ≤ nI j := fun d' => (show ¬ b ≤ j by omega) ((hp_eI (by omega) (by omega)).mp d')
      have hj : j < b := by omega
      obtain ⟨a1, -, a3, -⟩ := q j hj
      rw [Nat.zero_add, hp_uan (by decide)] at a1
      rw [if_neg d', if_neg d', if_neg d2, hp_a33, hp_a9]
      simp only [hp_nm, hp_bi0, hp_bv1, hp_put0 (show 33 + j < 800 by omega), hp_get0 (show 9 + j < 800 by omega), a1, hp_i1, hp_ck (show j < 12 by omega) (show 12 < 2147483648 by decide), hp_cl (show j < 2147483648 by omega)]
      have e1 := hp_szb hc hj
      have hR := hp_RC_e0 (r := 3) (p := 33) (k := j) h (by omega) (by omega) (A 1 j)
      have hC := hp_CI_elem (r := 3) (k := j) (v := A 1 j) hc (Or.inr (Or.inl ⟨rfl, by omega, by
        have : (1 : Int) ≤ 2 ^ j := Int.pow_pos (by decide)
        omega⟩))
      rw [hp_uas, hp_uaa] at hR hC
      obtain ⟨f', all', b1, b2, b3, b4, b5⟩ := ih (k - 1) (j + 1) (upd f j (A 1 j)) (upd all (33 + j) (A 1 j)) (by omega) (by omega) hR hC
      exact ⟨f', all', b1, b2, b3, b4, fun i hi => (b5 i hi).trans (hp_un (by omega))⟩
theorem hp_ln2 {b i r : Nat} {c : Nat → Int32} {A : Nat → Nat → Int32} {all : Nat → Int32} (h : hp_RC b c A all 0) (hc : hp_CI b c A) (hi : i < b) (hr : 1 ≤ r ∧ r ≤ 8)
    (J1 : Int64 → Int32 → Int32 → (Nat → Int32) → (Nat → Int32) → (Nat → Int32) → (Nat → Int32) → Int32 → Int32 → Int32 → Int32 → Int32 → Int32 → Option ((Nat → Int32) × Int32 × Int32 × (Nat → Int32) × (Nat → Int32) × (Nat → Int32) × (Nat → Int32) × Int32 × Int32 × Int32 × Int32 × Int32 × Int32))
    (J8 : Int32 → (Nat → Int32) → (Nat → Int32) → (Nat → Int32) → (Nat → Int32) → (Nat → Int32) → Int32 → Int32 → Option ((Nat → Int32) × (Nat → Int32) × (Nat → Int32) × (Nat → Int32) × (Nat → Int32) × Int32 × Int32)) :
    ∀ (n k j : Nat) (T : Int64) (t X bits sum hd left lates ones code s8 hd8 : Int32) (one late ap held dec wl ao hb : Nat → Int32), j + k = r → k < n → T.toInt = t.toInt → 0 ≤ t.toInt → t.toInt ≤ 2 * j * (9999 * (2 ^ i - 1)) →
    ∃ (T' : Int64) (t' : Int32), ∃ X' bits' sum' hd' left' lates' ones' code' s8' hd8' one' late' ap' held' dec' wl' ao' hb', T'.toInt = t'.toInt ∧ 0 ≤ t'.toInt ∧ t'.toInt ≤ 2 * r * (9999 * (2 ^ i - 1)) ∧
      lp_X2_learnFrom_56 (nI r) (c 5) (c 6) (c 7) (c 8) (c 9) (A 2) (A 1) (A 4) (nI i) (A 3) J1 n T (nI j) X bits one late ap held sum hd left lates ones code = J1 T' X' bits' one' late' ap' held' sum' hd' left' lates' ones' code' ∧
      lp_X8_learnNow_54 (nI r) 0 0 (-1) (nI i) J8 n t (nI j) (upd all 6 X) dec wl ao hb s8 hd8 = J8 t' (upd all 6 X') dec' wl' ao' hb' s8' hd8' := by
  intro n
  induction n with
  | zero => intro k j T t X bits sum hd left lates ones code s8 hd8 one late ap held dec wl ao hb h1 h2; omega
  | succ n ih =>
    intro k j T t X bits sum hd left lates ones code s8 hd8 one late ap held dec wl ao hb h1 h2 ht h0 hM
    have p1 := hp_2k i (by have := h.2.2.1; omega)
    have p0 : (1 : Int) ≤ 2 ^ i := Int.pow_pos (by decide)
    generalize hMM : (9999 * (2 ^ i - 1) : Int) = M at *
    have hb12 := h.2.2.1
    have hq := h.2.2.2.2.1.1
    rw [Nat.zero_add] at hq
    rw [lp_X2_learnFrom_56, lp_X8_learnNow_54]
    by_cases d : r ≤ j
    · have d' := (hp_eI (show r < 2147483648 by omega) (show j < 2147483648 by omega)).mpr d
      rw [if_pos d', if_pos d']
      have : j = r := by omega
      subst this
      exact ⟨T, t, X, bits, sum, hd, left, lates, ones, code, s8, hd8, one, late, ap, held, dec, wl, ao, hb, ht, h0, hM, rfl, rfl⟩
    · have d' : ¬ nI r ≤ nI j := fun d' => d ((hp_eI (by omega) (by omega)).mp d')
      rw [if_neg d', if_neg d']
      have w7 : pf_X2_weight (nI i) (A 1) (A 2) = some (hp_w A i, ()) := hp_wt (by omega)
      have w8 : ∀ X, pf_X8_weight (nI i) (upd all 6 X) 0 = some (hp_w A i, ()) := by
        intro X
        have := hp_wt6 (all := all) (B := 0) (i := i) (X := X) (by omega) (by omega)
        rw [Nat.zero_add, (hp_rw_eq h i hi).1] at this
        exact this
      have g1 : ∀ X, pf_X8_get 1 (upd all 6 X) 0 = some (c 5, ()) := by
        intro X
        have := hp_get0l (all := upd all 6 X) 1 (by omega)
        rw [hp_un (by decide), hq] at this
        exact this
      obtain ⟨X1, o1, l1, d1, e1, s1, h1', x9, la, on, dec1, wl1, ao1, hb1, r7, r8, m1, m2⟩ := hp_step (x := hp_w A i) (sh := c 5) (X := X) h hc (show i ≤ b by omega) one late ap held dec wl ao hb
      obtain ⟨X2, o2, l2, d2, e2, s2, h2', y9, la2, on2, dec2, wl2, ao2, hb2, t7, t8, m3, m4⟩ := hp_step (x := hp_w A i) (sh := -c 5) (X := X1) h hc (show i ≤ b by omega) o1 l1 d1 e1 dec1 wl1 ao1 hb1
      rw [hMM] at m2 m4
      rw [w7, hp_bi0, r7, hp_bv12, hp_nm, hp_bi0, t7, hp_bv12, hp_nm, hp_nm, hp_i1]
      rw [w8, hp_bi0, g1, hp_bi0, r8, hp_bv7, hp_nm, w8, hp_bi0, g1, hp_bi0, t8, hp_bv7, hp_nm, hp_nm]
      have hj8 : (j : Int) ≤ 7 := by omega
      have hMb : M ≤ 40945905 := by omega
      have hM0 : 0 ≤ M := by omega
      have q : 2 * (j : Int) * M ≤ 14 * M := Int.mul_le_mul_of_nonneg_right (by omega) hM0
      have a1 : (t + s1).toInt = t.toInt + s1.toInt := hp_add (by omega) (by omega)
      have a2 : (t + s1 + s2).toInt = t.toInt + s1.toInt + s2.toInt := by rw [hp_add (by rw [a1]; omega) (by rw [a1]; omega), a1]
      have b1 : (T + s1.toInt64).toInt = t.toInt + s1.toInt := by rw [hl_add (by rw [hl_of, ht]; omega) (by rw [hl_of, ht]; omega), hl_of, ht]
      have b2 : (T + s1.toInt64 + s2.toInt64).toInt = t.toInt + s1.toInt + s2.toInt := by rw [hl_add (by rw [hl_of, b1]; omega) (by rw [hl_of, b1]; omega), hl_of, b1]
      have e : 2 * ((j + 1 : Nat) : Int) * M = 2 * (j : Int) * M + 2 * M := by
        rw [show ((j + 1 : Nat) : Int) = (j : Int) + 1 by omega, Int.mul_add, Int.add_mul]
        omega
      exact ih (k - 1) (j + 1) _ _ X2 _ _ _ _ _ _ _ _ _ _ _ _ _ _ _ _ _ (by omega) (by omega) (by rw [a2, b2]) (by rw [a2]; omega) (by rw [a2, e]; omega)
