/-! mean and learn. -/
theorem hp_2k : ∀ k, k < 13 → (2 : Int) ^ k ≤ 4096 := by decide
theorem hp_step {b k : Nat} {c : Nat → Int32} {A : Nat → Nat → Int32} {all : Nat → Int32} {x sh X : Int32} (h : hp_RC b c A all 0) (hc : hp_CI b c A) (hk : k ≤ b) (one late ap held dec wl ao hb : Nat → Int32) :
    ∃ X' o' l' d' e' s' h' x9 la on dec' wl' ao' hb', pf_X2_run x sh (nI k) (A 1) (A 2) (A 3) (A 4) (c 6) (c 7) (c 8) (c 9) X one late ap held = some (X', nI k, o', l', d', e', s', h', x9, la, on, hp_code (c 9) s') ∧
      pf_X8_goThrough x (nI k) sh (upd all 6 X) 0 dec wl ao hb 0 (-1) = some (upd all 6 X', dec', wl', ao', hb', s', h') ∧ 0 ≤ s'.toInt ∧ s'.toInt ≤ 9999 * (2 ^ k - 1) := by
  obtain ⟨q1, q2, q3, q4, ⟨q5, q6, q7, q8, q9, q10, q11, q12⟩, q⟩ := id h
  rw [Nat.zero_add] at q6 q7 q8
  obtain ⟨-, -, ⟨u1, u2⟩, ⟨n1, n2⟩, ⟨s1, s2⟩, hcA⟩ := id hc
  obtain ⟨X', h', s', o', l', d', e', g1, g2⟩ := hp_R2 (k := k) (x := x) (shift := sh) (band := c 6) (rule := c 7) (noise := c 8) (step := c 9) (X := X) (size := A 1) (off := A 2) (worth := A 3) (stuck := A 4) (o := one) (l := late) (d := ap) (h := held) (by omega) ⟨n1, n2⟩ s1 s2
  have g8 := hp_R8 (k := k) (B := 0) (x := x) (shift := sh) (p := 0) (X := X) (all := all) (o := dec) (l := wl) (d := ao) (h := hb) (by omega) (by omega) (by rw [Nat.zero_add, q8]; exact ⟨n1, n2⟩)
  simp only [hp_g8c h hk, if_true, Nat.zero_add, hp_rl0, q7, q8] at g8
  obtain ⟨X2, h2, s2', oo, ll, dd, ee, oo2, ll2, dd2, ee2, i1, i2, i3⟩ := hp_gs_ir (w := hp_w A) (wo := A 3) (st := A 4) (band := c 6) (rule := c 7) (noise := c 8) (x0 := x + sh) k X 0 0 one late ap held dec wl ao hb
  have g1' : (X2, h2, s2', oo, ll, dd, ee) = (X', h', s', o', l', d', e') := i1.symm.trans g1
  simp only [Prod.mk.injEq] at g1'
  obtain ⟨rfl, rfl, rfl, rfl, rfl, rfl, rfl⟩ := g1'
  unfold hp_gc at g8
  rw [i2] at g8
  have p1 := hp_2k k (by omega)
  have sb := hp_gs_sum (w := hp_w A) (wo := A 3) (st := A 4) (band := c 6) (rule := c 7) (noise := c 8) (x0 := x + sh) k (X, 0, 0, one, late, ap, held) (by omega) (fun i hi => (hcA i (by omega)).2.2.2.1) (by show (0 : Int) ≤ (0 : Int32).toInt; decide) (by show (0 : Int32).toInt + _ < _; rw [show (0 : Int32).toInt = 0 from by decide]; omega)
  rw [i1] at sb
  simp only [show (0 : Int32).toInt = 0 from by decide, Int.zero_add] at sb
  exact ⟨_, _, _, _, _, _, _, _, _, _, _, _, _, _, g2, g8, sb.1, sb.2⟩
