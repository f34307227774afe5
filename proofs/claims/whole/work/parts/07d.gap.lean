/-! gap. -/
theorem hp_gap {b : Nat} {c : Nat → Int32} {A : Nat → Nat → Int32} {all : Nat → Int32} (h : hp_RC b c A all 0) (J7 J8 : Int32 → Int32 → Option (Int32 × Unit)) :
    ∀ (n k j : Nat) (p g : Int32), j + k = b → k < n → ∃ p' g', lp_X7_gap_29 (nI b) (A 2) (A 1) J7 n p g (nI j) = J7 p' g' ∧ lp_X8_gap_30 0 all (nI b) J8 n g p (nI j) = J8 g' p' := by
  intro n
  induction n with
  | zero => intro k j p g h1 h2; omega
  | succ n ih =>
    intro k j p g h1 h2
    have hb := h.2.2.1
    rw [lp_X7_gap_29, lp_X8_gap_30]
    by_cases d : b ≤ j
    · have d' := (hp_eI (show b < 2147483648 by omega) (show j < 2147483648 by omega)).mpr d
      rw [if_pos d', if_pos d']
      exact ⟨p, g, rfl, rfl⟩
    · have d' : ¬ nI b ≤ nI j := fun d' => d ((hp_eI (by omega) (by omega)).mp d')
      have hj : j < b := by omega
      obtain ⟨w1, w2⟩ := hp_wb0 h (show j ≤ b by omega)
      have e : hp_rw all 0 j = hp_w A j := (hp_rw_eq h j hj).1
      have w8 : pf_X8_weight (nI j) all 0 = some (hp_w A j, ()) := by
        have := hp_wt8 (all := all) (B := 0) (i := j) (by omega) (by omega)
        rw [← e]; exact this
      have w7 : pf_X2_weight (nI j) (A 1) (A 2) = some (hp_w A j, ()) := hp_wt (by omega)
      rw [if_neg d', if_neg d', w7, w8, hp_bi0, hp_bi0, w1, w2, hp_bi0, hp_bi0]
      simp only [hp_nm, hp_i1]
      by_cases k3 : hp_w A j - hp_sum (hp_w A) j - 1 ≤ g
      · rw [if_pos k3, if_neg (show ¬ g < hp_w A j - hp_sum (hp_w A) j - 1 by rw [hp_lt]; rw [hp_le] at k3; omega)]
        exact ih (k - 1) (j + 1) p g (by omega) (by omega)
      · rw [if_neg k3, if_pos (show g < hp_w A j - hp_sum (hp_w A) j - 1 by rw [hp_lt]; rw [hp_le] at k3; omega)]
        exact ih (k - 1) (j + 1) _ _ (by omega) (by omega)
theorem op_gap {b : Nat} {c : Nat → Int32} {A : Nat → Nat → Int32} {all : Nat → Int32} (w : Int32) (h : hp_RC b c A all 0) :
    ∃ r, pf_X7_gap w (c 0) (A 1) (A 2) = some (r, ()) ∧ pf_X8_gap w all 0 = some (r, ()) := by
  obtain ⟨q1, q2, q3, -, -, q⟩ := id h
  have hF : b < FU := by unfold FU; omega
  unfold pf_X7_gap pf_X8_gap
  generalize FU = F at *
  rw [hp_get0l 0 (by omega), hp_bi0, q2, q1, hp_within, hp_isIn]
  simp only [hp_bi0, hp_b0]
  by_cases c0 : nI b = 0
  · rw [if_pos c0, if_pos c0]; exact ⟨_, rfl, rfl⟩
  · rw [if_neg c0, if_neg c0]
    by_cases k : (0 : Int32) ≤ w ∧ w ≤ 1
    · rw [if_neg (not_not_intro k), if_neg (not_not_intro k), hp_jn, hp_jn]
      obtain ⟨p, g, g1, g2⟩ := hp_gap h (fun x2 x3 => if w = 0 then some (x3, ()) else some (x2, ())) (fun x3 x4 => if w = 0 then some (x3, ()) else some (x4, ())) F b 0 (-1) 0 (by omega) hF
      have g1' : lp_X7_gap_29 (nI b) (A 2) (A 1) (fun x2 x3 => if w = 0 then some (x3, ()) else some (x2, ())) F (-1) 0 0 = (if w = 0 then some (g, ()) else some (p, ())) := g1
      have g2' : lp_X8_gap_30 0 all (nI b) (fun x3 x4 => if w = 0 then some (x3, ()) else some (x4, ())) F 0 (-1) 0 = (if w = 0 then some (g, ()) else some (p, ())) := g2
      rw [g1', g2']
      by_cases k0 : w = 0
      · rw [if_pos k0]; exact ⟨_, rfl, rfl⟩
      · rw [if_neg k0]; exact ⟨_, rfl, rfl⟩
    · rw [if_pos k, if_pos k]; exact ⟨_, rfl, rfl⟩
