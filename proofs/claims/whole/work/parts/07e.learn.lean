/-! learn. -/
theorem hl_bm {x : Int} (h1 : -9223372036854775808 ≤ x) (h2 : x < 9223372036854775808) : x.bmod (2 ^ 64) = x := Int.bmod_eq_of_le (by omega) (by omega)
theorem hl_of (a : Int32) : a.toInt64.toInt = a.toInt := Int32.toInt_toInt64 a
theorem hl_add {a b : Int64} (h1 : -9223372036854775808 ≤ a.toInt + b.toInt) (h2 : a.toInt + b.toInt < 9223372036854775808) : (a + b).toInt = a.toInt + b.toInt := by
  rw [Int64.toInt_add]; exact hl_bm h1 h2
theorem hl_mul {a b : Int64} (h1 : -9223372036854775808 ≤ a.toInt * b.toInt) (h2 : a.toInt * b.toInt < 9223372036854775808) : (a * b).toInt = a.toInt * b.toInt := by
  rw [Int64.toInt_mul]; exact hl_bm h1 h2
theorem hl_div {a b : Int64} (ha : 0 ≤ a.toInt) (hb : 0 < b.toInt) : (a / b).toInt = a.toInt / b.toInt := by
  rw [Int64.toInt_div_of_ne_right _ _ (fun e => by rw [e] at hb; exact absurd hb (by decide))]
  exact Int.tdiv_eq_ediv_of_nonneg ha
theorem hl_to {a : Int64} (h1 : -2147483648 ≤ a.toInt) (h2 : a.toInt < 2147483648) : a.toInt32.toInt = a.toInt := by
  rw [Int64.toInt_toInt32]; exact hp_bm h1 h2
/-- nearest over 64 bits is the rounding over 32 bits -/
theorem hp_near2 {T : Int64} {t : Int32} {r : Nat} (hr : 1 ≤ r ∧ r ≤ 8) (e : T.toInt = t.toInt) (h0 : 0 ≤ t.toInt) (h1 : t.toInt ≤ 2000000000) :
    ∃ v, pf_X7_nearest T (nI r * 2) = some (v, ()) ∧ (t + nI r) / (2 * nI r) = v ∧ ¬ (2 * nI r = 0) ∧ v.toInt = (t.toInt + r) / (2 * r) := by
  have er : (nI r).toInt = (r : Int) := hp_nT (by omega)
  have l2 : (2 : Int32).toInt = 2 := by decide
  have l1 : (1 : Int32).toInt = 1 := by decide
  have L2 : (2 : Int64).toInt = 2 := by decide
  have a2 : (nI r * 2).toInt = (r : Int) * 2 := by rw [hp_mul (by rw [er, l2]; omega) (by rw [er, l2]; omega), er, l2]
  have b2 : (2 * nI r).toInt = 2 * (r : Int) := by rw [hp_mul (by rw [er, l2]; omega) (by rw [er, l2]; omega), er, l2]
  have c1 : (t + nI r).toInt = t.toInt + r := by rw [hp_add (by rw [er]; omega) (by rw [er]; omega), er]
  have c2 : ((t + nI r) / (2 * nI r)).toInt = (t.toInt + r) / (2 * r) := by rw [hp_div (by rw [c1]; omega) (by rw [b2]; omega), c1, b2]
  have d1 : (nI r * 2).toInt64.toInt = (r : Int) * 2 := by rw [hl_of, a2]
  have d2 : (T * 2).toInt = t.toInt * 2 := by rw [hl_mul (by rw [L2, e]; omega) (by rw [L2, e]; omega), L2, e]
  have d3 : (T * 2 + (nI r * 2).toInt64).toInt = t.toInt * 2 + (r : Int) * 2 := by rw [hl_add (by rw [d1, d2]; omega) (by rw [d1, d2]; omega), d1, d2]
  have d4 : ((nI r * 2).toInt64 * 2).toInt = (r : Int) * 2 * 2 := by rw [hl_mul (by rw [L2, d1]; omega) (by rw [L2, d1]; omega), L2, d1]
  have d5 : ((T * 2 + (nI r * 2).toInt64) / ((nI r * 2).toInt64 * 2)).toInt = (t.toInt + r) / (2 * r) := by
    rw [hl_div (by rw [d3]; omega) (by rw [d4]; omega), d3, d4, show t.toInt * 2 + (r : Int) * 2 = 2 * (t.toInt + r) by omega, show (r : Int) * 2 * 2 = 2 * (2 * r) by omega, Int.mul_ediv_mul_of_pos _ _ (by decide)]
  have q0 : 0 ≤ (t.toInt + r) / (2 * r) := Int.ediv_nonneg (by omega) (by omega)
  have q1 : (t.toInt + r) / (2 * r) ≤ t.toInt + r := Int.ediv_le_self _ (by omega)
  refine ⟨(t + nI r) / (2 * nI r), ?_, rfl, fun z => ?_, c2⟩
  · unfold pf_X7_nearest
    have hz : ¬ (nI r * 2).toInt64 * 2 = 0 := by
      intro z
      rw [z] at d4
      have : (0 : Int64).toInt = 0 := by decide
      omega
    rw [if_pos (show (1 : Int32) ≤ nI r * 2 by rw [hp_le, l1, a2]; omega), hp_ckL hz]
    have : ((T * 2 + (nI r * 2).toInt64) / ((nI r * 2).toInt64 * 2)).toInt32 = (t + nI r) / (2 * nI r) := by
      rw [hp_eq, c2, hl_to (by rw [d5]; omega) (by rw [d5]; omega), d5]
    rw [this]
  · rw [z] at b2
    have : (0 : Int32).toInt = 0 := by decide
    omega
