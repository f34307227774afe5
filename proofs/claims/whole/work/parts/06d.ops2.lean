/-! Calls that only ask on paper: code, forgiven, slack, tightest, first. -/
theorem hp_bcongr {p q : Prop} [Decidable p] [Decidable q] (h : p ↔ q) : hp_b p = hp_b q := by
  unfold hp_b
  by_cases c : p
  · rw [if_pos c, if_pos (h.mp c)]
  · rw [if_neg c, if_neg (fun e => c (h.mpr e))]
def hp_in (i : Int32) (b : Nat) : Prop := 0 ≤ i.toInt ∧ i.toInt < b
theorem hp_in_of {i : Int32} {b : Nat} (h : 0 ≤ i.toInt ∧ i.toInt < b) (hb : b ≤ 100000) : ∃ k : Nat, k < b ∧ i = nI k := by
  obtain ⟨n, h1, h2, h3⟩ := hp_of h.1
  exact ⟨n, by omega, h2⟩
theorem hp_hasBit {i : Int32} {b : Nat} (hb : b ≤ 12) : pf_X7_hasBit i (nI b) = some (hp_b (0 ≤ i.toInt ∧ i.toInt < b), ()) := by
  unfold pf_X7_hasBit
  have e0 : (0 : Int32).toInt = 0 := by decide
  have eb := hp_nT (n := b) (by omega)
  by_cases h1 : i < 0
  · rw [if_pos h1, hp_bf]; rw [hp_lt, e0] at h1; omega
  · rw [if_neg h1]
    rw [hp_lt, e0] at h1
    by_cases h2 : nI b ≤ i
    · rw [if_pos h2, hp_bf]; rw [hp_le, eb] at h2; omega
    · rw [if_neg h2, hp_bt]; rw [hp_le, eb] at h2; omega
theorem hp_isBit {i : Int32} {b B : Nat} {all : Nat → Int32} (hb : b ≤ 12) (hB : B ≤ 640) (h0 : all B = nI b) : pf_X8_isBit i all (nI B) = some (hp_b (0 ≤ i.toInt ∧ i.toInt < b), ()) := by
  unfold pf_X8_isBit
  rw [hp_getl 0 (by omega), bi_0_s, Nat.add_zero, h0, hp_isIn]
  have e0 : (0 : Int32).toInt = 0 := by decide
  have e1 : (nI b - 1).toInt = (b : Int) - 1 := by
    have := hp_nT (n := b) (by omega)
    rw [hp_sub (by rw [this, show (1 : Int32).toInt = 1 from by decide]; omega) (by rw [this, show (1 : Int32).toInt = 1 from by decide]; omega), this, show (1 : Int32).toInt = 1 from by decide]
  simp only [bi_0_s, hp_ckZ]
  rw [hp_bcongr (q := 0 ≤ i.toInt ∧ i.toInt < b)]
  rw [hp_le, hp_le, e0, e1]; omega
theorem hp_near (x : Int32) : pf_X7_isNear x = some (hp_b (-100000 ≤ x.toInt ∧ x.toInt ≤ 100000), ()) := by
  unfold pf_X7_isNear
  rw [hp_within]
  simp only [bi_0_s, hp_ckZ]
  rw [hp_bcongr (q := -100000 ≤ x.toInt ∧ x.toInt ≤ 100000)]
  rw [hp_le, hp_le, show (-100000 : Int32).toInt = -100000 from by decide, show (100000 : Int32).toInt = 100000 from by decide]
theorem hp_isX (x : Int32) : pf_X8_isX x = some (hp_b (-100000 ≤ x.toInt ∧ x.toInt ≤ 100000), ()) := hp_near x
theorem hp_nz {b : Nat} (hb : b ≤ 100000) : (nI b = 0) = (b = 0) := by
  rw [show (0 : Int32) = nI 0 from rfl]; exact hp_qI (by omega) (by omega)
theorem hp_get0 {all : Nat → Int32} {a : Nat} (h : a < 800) : pf_X8_get (nI a) all 0 = some (all a, ()) := by
  have := hp_get (all := all) (B := 0) (a := a) (by omega)
  rwa [Nat.zero_add] at this
theorem hp_get0l {all : Nat → Int32} (a : Nat) (h : a < 800) : pf_X8_get (OfNat.ofNat a) all 0 = some (all a, ()) := hp_get0 h
theorem hp_pc80 {b : Nat} {c : Nat → Int32} {A : Nat → Nat → Int32} {all : Nat → Int32} {x turned : Int32} (h : hp_RC b c A all 0) (hc : hp_CI b c A) (hx : -900000 ≤ x.toInt ∧ x.toInt ≤ 900000) (dec wl ao hb : Nat → Int32) :
    ∃ dec' wl' ao' hb' s' h', pf_X8_paperCode x all 0 dec wl ao hb turned = some (hp_PC b c A turned x, all, dec', wl', ao', hb', s', h', 0) := hp_pc8 (B := 0) h hc (by omega) hx dec wl ao hb
theorem hp_fg80 {b : Nat} {c : Nat → Int32} {A : Nat → Nat → Int32} {all : Nat → Int32} {x t : Int32} (h : hp_RC b c A all 0) (hc : hp_CI b c A) (hx : -900000 ≤ x.toInt ∧ x.toInt ≤ 900000) (dec wl ao hb : Nat → Int32) :
    ∃ dec' wl' ao' hb' s' h', pf_X8_isForgiven x t all 0 dec wl ao hb (-1) = some (hp_b (hp_PC b c A t x = hp_PC b c A (-1) x), all, dec', wl', ao', hb', s', h', 0, -1) := hp_fg8 (B := 0) h hc (by omega) hx dec wl ao hb
theorem hp_isBit0 {i : Int32} {b : Nat} {all : Nat → Int32} (hb : b ≤ 12) (h0 : all 0 = nI b) : pf_X8_isBit i all 0 = some (hp_b (0 ≤ i.toInt ∧ i.toInt < b), ()) := hp_isBit (B := 0) hb (by omega) h0
theorem op_code {b : Nat} {c : Nat → Int32} {A : Nat → Nat → Int32} {all : Nat → Int32} (x : Int32) (h : hp_RC b c A all 0) (hc : hp_CI b c A) (dec wl ao hb : Nat → Int32) (s hd : Int32) :
    ∃ r dec' wl' ao' hb' s' hd', pf_X7_code x (c 0) (A 1) (A 2) (A 3) (A 4) (c 5) (c 9) = some (r, ()) ∧ pf_X8_code x all 0 dec wl ao hb s hd 0 (-1) = some (r, all, dec', wl', ao', hb', s', hd', 0) := by
  obtain ⟨q1, q2, q3, q4, -⟩ := id h
  unfold pf_X7_code pf_X8_code
  rw [hp_near, hp_isX, q1, hp_get0l 0 (by omega), q2]
  simp only [bi_0_s, hp_b0, hp_nz (show b ≤ 100000 by omega)]
  have e0 : (nI b ≤ 0) = (b = 0) := by rw [show (0 : Int32) = nI 0 from rfl, hp_eI (by omega) (by omega)]; simp
  simp only [e0]
  by_cases c2 : -100000 ≤ x.toInt ∧ x.toInt ≤ 100000
  · simp only [if_neg (not_not_intro c2)]
    by_cases c1 : b = 0
    · simp only [if_pos c1]
      exact ⟨_, _, _, _, _, _, _, rfl, rfl⟩
    · simp only [if_neg c1]
      rw [hp_pc7 q3 hc, bi_0_s]
      obtain ⟨d1, w1, a1, b1, s1, h1, e1⟩ := hp_pc80 (turned := -1) h hc (x := x) (by omega) dec wl ao hb
      rw [e1]
      exact ⟨_, _, _, _, _, _, _, rfl, rfl⟩
  · simp only [if_pos c2]
    by_cases c1 : b = 0
    · simp only [if_pos c1]
      exact ⟨_, _, _, _, _, _, _, rfl, rfl⟩
    · simp only [if_neg c1]
      exact ⟨_, _, _, _, _, _, _, rfl, rfl⟩
theorem op_forgiven {b : Nat} {c : Nat → Int32} {A : Nat → Nat → Int32} {all : Nat → Int32} (x i : Int32) (h : hp_RC b c A all 0) (hc : hp_CI b c A) (dec wl ao hb : Nat → Int32) (s hd : Int32) :
    ∃ r dec' wl' ao' hb' s' hd', pf_X7_forgiven x i (c 0) (A 1) (A 2) (A 3) (A 4) (c 5) (c 9) = some (r, ()) ∧ pf_X8_forgiven x i all 0 dec wl ao hb s hd 0 (-1) = some (r, all, dec', wl', ao', hb', s', hd', 0, -1) := by
  obtain ⟨q1, q2, q3, q4, -⟩ := id h
  unfold pf_X7_forgiven pf_X8_forgiven
  rw [hp_near, hp_isX, q1, hp_isBit0 q3 q2, hp_hasBit q3]
  simp only [bi_0_s, hp_b0]
  by_cases c2 : -100000 ≤ x.toInt ∧ x.toInt ≤ 100000
  · simp only [if_neg (not_not_intro c2)]
    by_cases c1 : 0 ≤ i.toInt ∧ i.toInt < b
    · simp only [if_neg (not_not_intro c1)]
      rw [hp_fg7 q3 hc, bi_0_s]
      obtain ⟨d1, w1, a1, b1, s1, h1, e1⟩ := hp_fg80 (t := i) h hc (x := x) (by omega) dec wl ao hb
      rw [e1]
      simp only [bi_9_s, hp_b0]
      split
      · exact ⟨_, _, _, _, _, _, _, rfl, rfl⟩
      · exact ⟨_, _, _, _, _, _, _, rfl, rfl⟩
    · simp only [if_pos c1]
      exact ⟨_, _, _, _, _, _, _, rfl, rfl⟩
  · simp only [if_pos c2]
    by_cases c1 : 0 ≤ i.toInt ∧ i.toInt < b
    · simp only [if_neg (not_not_intro c1)]
      exact ⟨_, _, _, _, _, _, _, rfl, rfl⟩
    · simp only [if_pos c1]
      exact ⟨_, _, _, _, _, _, _, rfl, rfl⟩
/-- slack of a bit -/
def hp_SL (b : Nat) (c : Nat → Int32) (A : Nat → Nat → Int32) (k : Nat) : Int32 := hp_sl (fun x => hp_PC b c A (nI k) x = hp_PC b c A (-1) x) (hp_w A k - c 5) 2001 0
theorem hp_SL7 {b k : Nat} {c : Nat → Int32} {A : Nat → Nat → Int32} (hb : b ≤ 12) (hc : hp_CI b c A) (hk : k < b) : pf_X2_slackOf (nI k) (nI b) (A 1) (A 2) (A 3) (A 4) (c 5) (c 9) = some (hp_SL b c A k, ()) := by
  unfold pf_X2_slackOf
  rw [hp_wt (by omega), bi_0_s]
  simp only [nm]
  exact hp_sl7 hb hc FU 2001 0 rfl (by unfold FU; omega)
theorem hp_SL8 {b k : Nat} {c : Nat → Int32} {A : Nat → Nat → Int32} {all : Nat → Int32} {B : Nat} (h : hp_RC b c A all B) (hc : hp_CI b c A) (hB : B ≤ 640) (hk : k < b) (dec wl ao hb : Nat → Int32) (s hd : Int32) : ∃ dec' wl' ao' hb' s' h', pf_X8_slackOf (nI k) all (nI B) dec wl ao hb s hd 0 (-1) = some (hp_SL b c A k, all, dec', wl', ao', hb', s', h', 0, -1) := by
  obtain ⟨q1, q2, q3, q4, ⟨q5, -⟩, -⟩ := id h
  obtain ⟨⟨o1, o2⟩, -⟩ := id hc
  obtain ⟨-, w1, w2⟩ := hp_wI hc hk
  unfold pf_X8_slackOf
  rw [hp_wt8 (by omega) (by omega), bi_0_s, hp_getl 1 (by omega), bi_0_s, q5]
  have e : all (B + (9 + k)) + all (B + (21 + k)) = hp_w A k := (hp_rw_eq h k hk).1
  rw [e]
  simp only [nm]
  have em : (hp_w A k - c 5).toInt = (hp_w A k).toInt - (c 5).toInt := hp_sub (by omega) (by omega)
  exact hp_sl8 h hc hB (by omega) FU 2001 0 dec wl ao hb s hd rfl (by unfold FU; omega)
theorem hp_SL80 {b k : Nat} {c : Nat → Int32} {A : Nat → Nat → Int32} {all : Nat → Int32} (h : hp_RC b c A all 0) (hc : hp_CI b c A) (hk : k < b) (dec wl ao hb : Nat → Int32) (s hd : Int32) : ∃ dec' wl' ao' hb' s' h', pf_X8_slackOf (nI k) all 0 dec wl ao hb s hd 0 (-1) = some (hp_SL b c A k, all, dec', wl', ao', hb', s', h', 0, -1) := hp_SL8 (B := 0) h hc (by omega) hk dec wl ao hb s hd
theorem op_slack {b : Nat} {c : Nat → Int32} {A : Nat → Nat → Int32} {all : Nat → Int32} (i : Int32) (h : hp_RC b c A all 0) (hc : hp_CI b c A) (dec wl ao hb : Nat → Int32) (s hd : Int32) :
    ∃ r dec' wl' ao' hb' s' hd', pf_X7_slack i (c 0) (A 1) (A 2) (A 3) (A 4) (c 5) (c 9) = some (r, ()) ∧ pf_X8_slack i all 0 dec wl ao hb s hd 0 (-1) = some (r, all, dec', wl', ao', hb', s', hd', 0, -1) := by
  obtain ⟨q1, q2, q3, q4, -⟩ := id h
  unfold pf_X7_slack pf_X8_slack
  rw [q1, hp_isBit0 q3 q2, hp_hasBit q3]
  simp only [bi_0_s, hp_b0]
  by_cases c1 : 0 ≤ i.toInt ∧ i.toInt < b
  · simp only [if_neg (not_not_intro c1)]
    obtain ⟨k, hk, rfl⟩ := hp_in_of c1 (by omega)
    rw [hp_SL7 q3 hc hk, bi_0_s]
    obtain ⟨d1, w1, a1, b1, s1, h1, e1⟩ := hp_SL80 h hc hk dec wl ao hb s hd
    rw [e1]
    exact ⟨_, _, _, _, _, _, _, rfl, rfl⟩
  · simp only [if_pos c1]
    exact ⟨_, _, _, _, _, _, _, rfl, rfl⟩
theorem hp_span (a b c : Int32) : ∃ t : Prop, ∃ _ : Decidable t, pf_X7_isSpan a b c = some (hp_b t, ()) ∧ (t → -100000 ≤ a.toInt ∧ b.toInt ≤ 100000 ∧ a.toInt ≤ b.toInt ∧ 1 ≤ c.toInt ∧ (b.toInt - a.toInt) / c.toInt < 2000) := by
  have l1 : (-100000 : Int32).toInt = -100000 := by decide
  have l2 : (100000 : Int32).toInt = 100000 := by decide
  have l3 : (1 : Int32).toInt = 1 := by decide
  have l4 : (2000 : Int32).toInt = 2000 := by decide
  unfold pf_X7_isSpan
  by_cases h1 : a < -100000
  · rw [if_pos h1]; exact ⟨False, inferInstance, rfl, False.elim⟩
  · rw [if_neg h1]
    by_cases h2 : 100000 < b
    · rw [if_pos h2]; exact ⟨False, inferInstance, rfl, False.elim⟩
    · rw [if_neg h2]
      by_cases h3 : b < a
      · rw [if_pos h3]; exact ⟨False, inferInstance, rfl, False.elim⟩
      · rw [if_neg h3]
        by_cases h4 : c < 1
        · rw [if_pos h4]; exact ⟨False, inferInstance, rfl, False.elim⟩
        · rw [if_neg h4]
          rw [hp_lt] at h1 h2 h3 h4
          rw [l1] at h1; rw [l2] at h2; rw [l3] at h4
          rw [hp_ckD (by intro e; rw [hp_eq] at e; rw [show (0 : Int32).toInt = 0 from by decide] at e; omega)]
          have e1 : (b - a).toInt = b.toInt - a.toInt := hp_sub (by omega) (by omega)
          have e2 : ((b - a) / c).toInt = (b.toInt - a.toInt) / c.toInt := by rw [hp_div (by omega) (by omega), e1]
          by_cases h5 : 2000 ≤ (b - a) / c
          · rw [if_pos h5]; exact ⟨False, inferInstance, rfl, False.elim⟩
          · rw [if_neg h5]
            rw [hp_le, l4, e2] at h5
            exact ⟨True, inferInstance, rfl, fun _ => ⟨by omega, by omega, by omega, by omega, by omega⟩⟩
theorem hp_isRow (a b c : Int32) : pf_X8_isRow a b c = pf_X7_isSpan a b c := rfl
theorem op_first {b : Nat} {c : Nat → Int32} {A : Nat → Nat → Int32} {all : Nat → Int32} (x y code : Int32) (h : hp_RC b c A all 0) (hc : hp_CI b c A) (dec wl ao hb : Nat → Int32) (s hd : Int32) :
    ∃ r dec' wl' ao' hb' s' hd', pf_X7_first x y code (c 0) (A 1) (A 2) (A 3) (A 4) (c 5) (c 9) = some (r, ()) ∧ pf_X8_first x y code all 0 dec wl ao hb s hd 0 (-1) = some (r, all, dec', wl', ao', hb', s', hd', 0) := by
  obtain ⟨q1, q2, q3, q4, -⟩ := id h
  have l3 : (1 : Int32).toInt = 1 := by decide
  have key : ∀ (n : Nat) (z : Int32) (dec wl ao hb : Nat → Int32) (s hd : Int32), -100000 ≤ z.toInt → y.toInt ≤ 100000 → z.toInt ≤ y.toInt + 1 → y.toInt - z.toInt + 1 < n → ∃ r dec' wl' ao' hb' s' hd', lp_X7_first_25 y code (nI b) (c 5) (c 9) (A 2) (A 1) (A 4) (A 3) n z = some (r, ()) ∧ lp_X8_first_24 y code 0 (-1) n z all dec wl ao hb s hd 0 = some (r, all, dec', wl', ao', hb', s', hd', 0) := by
    intro n
    induction n with
    | zero => intro z dec wl ao hb s hd h1 h2 h3 h4; omega
    | succ n ih =>
      intro z dec wl ao hb s hd h1 h2 h3 h4
      rw [lp_X7_first_25, lp_X8_first_24]
      by_cases g : y < z
      · rw [if_pos g, if_pos g]; exact ⟨_, _, _, _, _, _, _, rfl, rfl⟩
      · rw [if_neg g, if_neg g, hp_pc7 q3 hc, bi_0_s]
        rw [hp_lt] at g
        obtain ⟨d1, w1, a1, b1, s1, h1', e1⟩ := hp_pc80 (turned := -1) h hc (x := z) (by omega) dec wl ao hb
        rw [e1, bi_8_s]
        by_cases g2 : hp_PC b c A (-1) z < code
        · rw [if_pos g2, if_pos g2]
          simp only [nm]
          have ez : (z + 1).toInt = z.toInt + 1 := by rw [hp_add (by rw [l3]; omega) (by rw [l3]; omega), l3]
          exact ih (z + 1) _ _ _ _ _ _ (by omega) h2 (by omega) (by omega)
        · rw [if_neg g2, if_neg g2]; exact ⟨_, _, _, _, _, _, _, rfl, rfl⟩
  unfold pf_X7_first pf_X8_first
  rw [q1, hp_get0l 0 (by omega), q2, bi_0_s, hp_isRow]
  obtain ⟨t, ht, e1, e2⟩ := hp_span x y 1
  rw [e1]
  simp only [bi_0_s, hp_b0]
  by_cases c1 : nI b = 0
  · simp only [if_pos c1]; exact ⟨_, _, _, _, _, _, _, rfl, rfl⟩
  · simp only [if_neg c1]
    by_cases c2 : t
    · simp only [if_neg (not_not_intro c2)]
      obtain ⟨r1, r2, r3, -, r5⟩ := e2 c2
      exact key FU x dec wl ao hb s hd r1 r2 (by omega) (by unfold FU; omega)
    · simp only [if_pos c2]; exact ⟨_, _, _, _, _, _, _, rfl, rfl⟩
theorem hp_tg {b : Nat} {c : Nat → Int32} {A : Nat → Nat → Int32} {all : Nat → Int32} (h : hp_RC b c A all 0) (hc : hp_CI b c A) (J7 : Int32 → Int32 → Option (Int32 × Unit)) (J8 : Int32 → Int32 → (Nat → Int32) → (Nat → Int32) → (Nat → Int32) → (Nat → Int32) → (Nat → Int32) → Int32 → Int32 → Int32 → Int32 → Option (Int32 × (Nat → Int32) × (Nat → Int32) × (Nat → Int32) × (Nat → Int32) × (Nat → Int32) × Int32 × Int32 × Int32 × Int32)) :
    ∀ (n7 n8 j p : Nat) (l : Int32) (dec wl ao hb : Nat → Int32) (s hd : Int32), j ≤ b → b - j < n7 → b - j < n8 → p < b → 1 ≤ p → 1 ≤ j → ∃ p' l' dec' wl' ao' hb' s' hd', lp_X7_tightest_37 (nI b) (c 5) (c 9) (A 2) (A 1) (A 4) (A 3) J7 n7 (nI p) l (nI j) = J7 p' l' ∧ lp_X8_tightest_30 0 (nI b) J8 n8 (nI p) l (nI j) all dec wl ao hb s hd 0 (-1) = J8 p' l' all dec' wl' ao' hb' s' hd' 0 (-1) := by
  obtain ⟨q1, q2, q3, q4, -⟩ := id h
  intro n7
  induction n7 with
  | zero => intro n8 j p l dec wl ao hb s hd h1 h2; omega
  | succ n ih =>
    intro n8 j p l dec wl ao hb s hd h1 h2 h2' h3 h4 h5
    obtain ⟨m, rfl⟩ : ∃ m, n8 = m + 1 := ⟨n8 - 1, by omega⟩
    rw [lp_X7_tightest_37, lp_X8_tightest_30]
    by_cases g : b ≤ j
    · have g' : nI b ≤ nI j := by rw [hp_eI (by omega) (by omega)]; exact g
      simp only [if_pos g']; exact ⟨_, _, _, _, _, _, _, _, rfl, rfl⟩
    · have g' : ¬ nI b ≤ nI j := by rw [hp_eI (by omega) (by omega)]; exact g
      simp only [if_neg g']
      rw [hp_SL7 q3 hc (by omega), bi_0_s]
      obtain ⟨d1, w1, a1, b1, s1, h1', e1⟩ := hp_SL80 h hc (k := j) (by omega) dec wl ao hb s hd
      rw [e1, bi_9_s]
      have em : ¬ nI p = -1 := by rw [hp_eq, hp_nT (by omega), show (-1 : Int32).toInt = -1 from by decide]; omega
      simp only [if_neg em, nm, hp_i1]
      by_cases g2 : l ≤ hp_SL b c A j
      · have g3 : ¬ hp_SL b c A j < l := by rw [hp_lt]; rw [hp_le] at g2; omega
        simp only [if_pos g2, if_neg g3]
        exact ih m (j + 1) p l _ _ _ _ _ _ (by omega) (by omega) (by omega) h3 h4 (by omega)
      · have g3 : hp_SL b c A j < l := by rw [hp_lt]; rw [hp_le] at g2; omega
        simp only [if_neg g2, if_pos g3]
        exact ih m (j + 1) j _ _ _ _ _ _ _ (by omega) (by omega) (by omega) (by omega) (by omega) (by omega)
theorem op_tightest {b : Nat} {c : Nat → Int32} {A : Nat → Nat → Int32} {all : Nat → Int32} (what : Int32) (h : hp_RC b c A all 0) (hc : hp_CI b c A) (dec wl ao hb : Nat → Int32) (s hd : Int32) :
    ∃ r dec' wl' ao' hb' s' hd', pf_X7_tightest what (c 0) (A 1) (A 2) (A 3) (A 4) (c 5) (c 9) = some (r, ()) ∧ pf_X8_tightest what all 0 dec wl ao hb s hd 0 (-1) = some (r, all, dec', wl', ao', hb', s', hd', 0, -1) := by
  obtain ⟨q1, q2, q3, q4, -⟩ := id h
  unfold pf_X7_tightest pf_X8_tightest
  rw [q1, hp_get0l 0 (by omega), q2, bi_0_s, hp_within, hp_isIn]
  simp only [bi_0_s, hp_b0, jn]
  by_cases c1 : b = 0
  · subst c1
    rw [if_pos (by decide), if_pos (by decide)]
    exact ⟨_, _, _, _, _, _, _, rfl, rfl⟩
  · have g1 : ¬ nI b < 2 := by rw [show (2 : Int32) = nI 2 from rfl, hp_lI (by omega) (by omega)]; omega
    have g2 : ¬ nI b = 0 := by rw [hp_nz (by omega)]; exact c1
    simp only [if_neg g1, if_neg g2]
    by_cases c2 : 0 ≤ what ∧ what ≤ 1
    · simp only [if_neg (not_not_intro c2)]
      have e7 : pf_X2_slackOf 1 (nI b) (A 1) (A 2) (A 3) (A 4) (c 5) (c 9) = some (hp_SL b c A 1, ()) := hp_SL7 (k := 1) q3 hc (by omega)
      rw [e7, bi_0_s]
      obtain ⟨d1, w1, a1, b1, s1, h1', e1⟩ := hp_SL80 h hc (k := 1) (by omega) dec wl ao hb s hd
      have e1 : pf_X8_slackOf 1 all 0 dec wl ao hb s hd 0 (-1) = some (hp_SL b c A 1, all, d1, w1, a1, b1, s1, h1', 0, -1) := e1
      obtain ⟨p', l', d2, w2, a2, b2, s2, h2, k1, k2⟩ := hp_tg h hc (fun x3 x4 => if what = 0 then some (x3, ()) else some (x4, ())) (fun x3 x4 f5 f6 f7 f8 f9 x10 x11 x12 x13 => if what = 0 then some (x3, f5, f6, f7, f8, f9, x10, x11, x12, x13) else some (x4, f5, f6, f7, f8, f9, x10, x11, x12, x13)) FU 4294967295 2 1 (hp_SL b c A 1) d1 w1 a1 b1 s1 h1' (by omega) (by unfold FU; omega) (by omega) (by omega) (by omega) (by omega)
      have k1 : lp_X7_tightest_37 (nI b) (c 5) (c 9) (A 2) (A 1) (A 4) (A 3) (fun x3 x4 => if what = 0 then some (x3, ()) else some (x4, ())) FU 1 (hp_SL b c A 1) 2 = _ := k1
      rw [k1]
      have hF : FU = 4294967295 + 1 := by decide
      rw [hF, lp_X8_tightest_30]
      have g' : ¬ nI b ≤ 1 := by rw [show (1 : Int32) = nI 1 from rfl, hp_eI (by omega) (by omega)]; omega
      rw [if_neg g', e1, bi_9_s, if_pos rfl]
      simp only [nm]
      have k2 : lp_X8_tightest_30 0 (nI b) (fun x3 x4 f5 f6 f7 f8 f9 x10 x11 x12 x13 => if what = 0 then some (x3, f5, f6, f7, f8, f9, x10, x11, x12, x13) else some (x4, f5, f6, f7, f8, f9, x10, x11, x12, x13)) 4294967295 1 (hp_SL b c A 1) 2 all d1 w1 a1 b1 s1 h1' 0 (-1) = _ := k2
      rw [show (1 : Int32) + 1 = 2 from rfl, k2]
      by_cases c3 : what = 0
      · simp only [if_pos c3]; exact ⟨_, _, _, _, _, _, _, rfl, rfl⟩
      · simp only [if_neg c3]; exact ⟨_, _, _, _, _, _, _, rfl, rfl⟩
    · simp only [if_pos c2]
      exact ⟨_, _, _, _, _, _, _, rfl, rfl⟩
