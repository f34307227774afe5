/-! BENCH. What acts tell, further. -/
theorem hy_lnr {a1 a2 o ba ru no st dr b0 s hd le la on co : Int32} {b : Nat} {sz of wo sk f6 f7 f8 f9 : Nat → Int32} {R} (hb : b ≤ 12) (e : pf_X7_learn a1 a2 (nI b) sz of wo sk o ba ru no st dr b0 f6 f7 f8 f9 s hd le la on co = some R) : R.1 = -1 ∨ ∃ k : Nat, k ≤ 12 ∧ R.1 = nI k := by
  unfold pf_X7_learn at e
  generalize FU = F at *
  rw [hp_within, hp_bi0] at e
  by_cases c : (1 : Int32) ≤ a1 ∧ a1 ≤ nI b
  · rw [hp_bt c, if_neg (by decide), hp_within, hp_bi0] at e
    by_cases c2 : (1 : Int32) ≤ a2 ∧ a2 ≤ 8
    · rw [hp_bt c2, if_neg (by decide)] at e
      obtain ⟨c1, c3⟩ := c
      rw [hp_le, show (1 : Int32).toInt = 1 from by decide] at c1
      obtain ⟨m, m1, rfl, m2⟩ := hp_of (x := a1) (by omega)
      rw [hp_eI (by omega) (by omega)] at c3
      unfold bv_13 at e
      obtain ⟨u, -, e⟩ := Option.bind_eq_some_iff.mp e
      exact Or.inr (hy_ln hb F 0 m R e (by omega) c3)
    · rw [hp_bf c2, if_pos rfl] at e
      cases e; exact Or.inl rfl
  · rw [hp_bf c, if_pos rfl] at e
    cases e; exact Or.inl rfl
theorem hy_hr {b : Nat} {he ho stp : Int32} {kd vl sz : Nat → Int32} {J : Int32 → (Nat → Int32) → (Nat → Int32) → Int32 → Option (Int32 × (Nat → Int32) × Int32 × (Nat → Int32) × Int32)} (hb : b ≤ 12) (hJ : ∀ x f g y R, J x f g y = some R → R.1 = x) : ∀ (n x j : Nat) (f g : Nat → Int32) (y : Int32) R, lp_X2_passHour_4 (nI b) he ho stp kd vl sz J n (nI x) (nI j) f g y = some R → x ≤ j → j ≤ b → ∃ k : Nat, k ≤ 12 ∧ R.1 = nI k := by
  intro n
  induction n with
  | zero => intro x j f g y R e; exact pf_no e
  | succ n ih =>
    intro x j f g y R e h1 h2
    rw [lp_X2_passHour_4] at e
    by_cases c : b ≤ j
    · rw [if_pos ((hp_eI (by omega) (by omega)).mpr c)] at e
      exact ⟨x, by omega, hJ _ _ _ _ _ e⟩
    · rw [if_neg (fun d => c ((hp_eI (by omega) (by omega)).mp d))] at e
      have cc : ∀ {α : Type} (x : Option α), ckI (nI j) 12 x = x := fun x => hp_ck (by omega) (by decide)
      unfold bi_2 at e
      obtain ⟨u, -, e⟩ := Option.bind_eq_some_iff.mp e
      dsimp only at e
      rw [hp_nm] at e
      generalize (if u.1 < 9 then u.1 else (9 : Int32)) = v1 at e
      rw [hp_nm] at e
      generalize (if -9 < v1 then v1 else (-9 : Int32)) = v2 at e
      rw [cc, hp_nm] at e
      generalize (if f (nI j).toNatClampNeg + v2 < 99 then f (nI j).toNatClampNeg + v2 else (99 : Int32)) = v3 at e
      rw [hp_nm] at e
      generalize (if -99 < v3 then v3 else (-99 : Int32)) = v4 at e
      rw [cc, hp_nm] at e
      generalize (if v4 < 1 - sz (nI j).toNatClampNeg then 1 - sz (nI j).toNatClampNeg else v4) = v5 at e
      rw [cc, hp_jn] at e
      split at e
      · dsimp only at e
        rw [cc, hp_nm, hp_i1] at e
        exact ih x (j + 1) _ _ _ R e (by omega) (by omega)
      · rw [hp_nm, show nI x + 1 = nI (x + 1) from hp_i1 x] at e
        dsimp only at e
        rw [cc, hp_nm, hp_i1] at e
        exact ih (x + 1) (j + 1) _ _ _ R e (by omega) (by omega)
theorem hy_pl {a b : Nat} {he stp : Int32} {kd vl sz : Nat → Int32} (hb : b ≤ 12) (ha : a ≤ 100) : ∀ (n x j : Nat) (f : Nat → Int32) (y : Int32) (g : Nat → Int32) (z : Int32) R, lp_X7_pass_16 (nI a) (nI b) he stp kd vl sz n (nI x) (nI j) f y g z = some R → x ≤ 12 * j → j ≤ a → ∃ k : Nat, k ≤ 1200 ∧ R.1 = nI k := by
  intro n
  induction n with
  | zero => intro x j f y g z R e; exact pf_no e
  | succ n ih =>
    intro x j f y g z R e h1 h2
    rw [lp_X7_pass_16] at e
    by_cases c : a ≤ j
    · rw [if_pos ((hp_eI (by omega) (by omega)).mpr c)] at e
      cases e
      exact ⟨x, by omega, rfl⟩
    · rw [if_neg (fun d => c ((hp_eI (by omega) (by omega)).mp d))] at e
      unfold bi_4 at e
      obtain ⟨u, u1, e⟩ := Option.bind_eq_some_iff.mp e
      have q : ∃ k : Nat, k ≤ 12 ∧ u.1 = nI k := by
        unfold pf_X2_passHour at u1
        generalize FU = F at *
        rw [hp_jn] at u1
        exact hy_hr hb (fun x f g y R e => by rw [hp_nm] at e; cases e; rfl) F 0 0 _ _ _ u u1 (by omega) (by omega)
      obtain ⟨k, k1, k2⟩ := q
      dsimp only at e
      rw [hp_nm, hp_nm, k2, hp_aI, hp_i1] at e
      exact ih (x + k) (j + 1) _ _ _ _ R e (by omega) (by omega)
theorem hy_psr {a1 he ho stp x : Int32} {b : Nat} {sz of kd vl fs : Nat → Int32} {R} (hb : b ≤ 12) (e : pf_X7_pass a1 (nI b) sz of he ho kd vl fs stp x = some R) : R.1 = -1 ∨ ∃ k : Nat, k ≤ 1200 ∧ R.1 = nI k := by
  unfold pf_X7_pass at e
  generalize FU = F at *
  rw [hp_within, hp_bi0] at e
  by_cases c : (1 : Int32) ≤ a1 ∧ a1 ≤ 100
  · rw [hp_bt c, if_neg (by decide)] at e
    obtain ⟨c1, c3⟩ := c
    rw [hp_le, show (1 : Int32).toInt = 1 from by decide] at c1
    rw [hp_le, show (100 : Int32).toInt = 100 from by decide] at c3
    obtain ⟨m, m1, rfl, m2⟩ := hp_of (x := a1) (by omega)
    exact Or.inr (hy_pl hb (by omega) F 0 0 _ _ _ _ R e (by omega) (by omega))
  · rw [hp_bf c, if_pos rfl] at e
    cases e; exact Or.inl rfl
/-- CODES from runs -/
theorem hy_cdb {s step : Int32} (h0 : 0 ≤ s.toInt) (h1 : s.toInt ≤ 41000000) (s1 : 1 ≤ step.toInt) (s2 : step.toInt ≤ 64) : 0 ≤ (hp_code step s).toInt := by
  unfold hp_code
  have l2 : (2 : Int32).toInt = 2 := by decide
  have e1 : (s * 2).toInt = s.toInt * 2 := by rw [hp_mul (by rw [l2]; omega) (by rw [l2]; omega), l2]
  have e2 : (s * 2 + step).toInt = s.toInt * 2 + step.toInt := by rw [hp_add (by rw [e1]; omega) (by rw [e1]; omega), e1]
  have e3 : (step * 2).toInt = step.toInt * 2 := by rw [hp_mul (by rw [l2]; omega) (by rw [l2]; omega), l2]
  have e4 : ((s * 2 + step) / (step * 2)).toInt = (s.toInt * 2 + step.toInt) / (step.toInt * 2) := by rw [hp_div (by rw [e2]; omega) (by rw [e3]; omega), e2, e3]
  rw [e4]
  exact Int.ediv_nonneg (by omega) (by omega)
theorem hy_gsb {w wo st : Nat → Int32} {band rule noise x0 : Int32} : ∀ (k : Nat) (g : hp_G), k ≤ 12 → (∀ i, i < k → 0 ≤ (wo i).toInt ∧ (wo i).toInt ≤ 9999 * 2 ^ i) → 0 ≤ g.2.2.1.toInt → g.2.2.1.toInt + 9999 * (2 ^ k - 1) < 2147483648 →
    g.2.2.1.toInt ≤ (hp_gs w wo st band rule noise x0 k g).2.2.1.toInt ∧ (hp_gs w wo st band rule noise x0 k g).2.2.1.toInt ≤ g.2.2.1.toInt + 9999 * (2 ^ k - 1) := by
  intro k
  induction k with
  | zero => intro g _ _ h1 h2; simp only [hp_gs]; omega
  | succ k ih =>
    intro g hk hw h1 h2
    have hp : (2 : Int) ^ (k + 1) = 2 * 2 ^ k := by rw [Int.pow_succ]; omega
    have hp0 : (0 : Int) < 2 ^ k := Int.pow_pos (by decide)
    rw [hp] at h2 ⊢
    obtain ⟨a1, a2⟩ := hw k (by omega)
    rw [hp_gs]
    have key : (hp_g1 w wo st band rule noise x0 k g).2.2.1 = g.2.2.1 + wo k ∨ (hp_g1 w wo st band rule noise x0 k g).2.2.1 = g.2.2.1 := by
      unfold hp_g1
      dsimp only
      split
      · exact Or.inl rfl
      · exact Or.inr rfl
    have e : (g.2.2.1 + wo k).toInt = g.2.2.1.toInt + (wo k).toInt := hp_add (by omega) (by omega)
    rcases key with q | q
    · have := ih (hp_g1 w wo st band rule noise x0 k g) (by omega) (fun i hi => hw i (by omega)) (by rw [q, e]; omega) (by rw [q, e]; omega)
      rw [q, e] at this
      omega
    · have := ih (hp_g1 w wo st band rule noise x0 k g) (by omega) (fun i hi => hw i (by omega)) (by rw [q]; omega) (by rw [q]; omega)
      rw [q] at this
      omega
theorem hy_cvr {b : Nat} {c : Nat → Int32} {A : Nat → Nat → Int32} {x b0 s hd le la on co : Int32} {o l d h : Nat → Int32} {R} (hb : b ≤ 12) (hc : hp_CI b c A) (e : pf_X7_convert x b0 o l d h s hd le la on co (nI b) (A 1) (A 2) (A 3) (A 4) (c 5) (c 6) (c 7) (c 8) (c 9) (c 10) = some R) : R.1 = -1000000 ∨ 0 ≤ R.1.toInt := by
  obtain ⟨-, -, -, n12, ⟨s1, s2⟩, hcA⟩ := hc
  unfold pf_X7_convert at e
  by_cases c0 : nI b = 0
  · rw [if_pos c0] at e; cases e; exact Or.inl rfl
  · rw [if_neg c0, hp_near, hp_bi0] at e
    split at e
    · cases e; exact Or.inl rfl
    · obtain ⟨X', h', s', o', l', d', e', g1, g2⟩ := hp_R2 (k := b) (x := x) (shift := c 5) (band := c 6) (rule := c 7) (noise := c 8) (step := c 9) (X := c 10) (size := A 1) (off := A 2) (worth := A 3) (stuck := A 4) (o := o) (l := l) (d := d) (h := h) hb n12 s1 s2
      rw [g2, hp_bv12] at e
      cases e
      have p1 := hp_2k b (by omega)
      have p0 : (1 : Int) ≤ 2 ^ b := Int.pow_pos (by decide)
      have B := hy_gsb (w := fun i => A 1 i + A 2 i) (wo := A 3) (st := A 4) (band := c 6) (rule := c 7) (noise := c 8) (x0 := x + c 5) b (c 10, 0, 0, o, l, d, h) hb (fun i hi => (hcA i hi).2.2.2.1) (by show (0 : Int) ≤ (0 : Int32).toInt; decide) (by show (0 : Int32).toInt + 9999 * (2 ^ b - 1) < 2147483648; rw [show (0 : Int32).toInt = 0 from by decide]; omega)
      rw [g1] at B
      dsimp only at B
      rw [show (0 : Int32).toInt = 0 from by decide] at B
      exact Or.inr (hy_cdb (by omega) (by omega) s1 s2)
