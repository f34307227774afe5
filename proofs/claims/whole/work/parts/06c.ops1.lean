/-! The relation of a converter (slots c, rows A) and a row of the reference; code, forgiven, slack, tightest, first, apart. -/
def hp_RC (b : Nat) (c : Nat → Int32) (A : Nat → Nat → Int32) (all : Nat → Int32) (B : Nat) : Prop :=
  c 0 = nI b ∧ all B = nI b ∧ b ≤ 12 ∧ (b = 0 ∨ 2 ≤ b) ∧
  (all (B + 1) = c 5 ∧ all (B + 2) = c 6 ∧ all (B + 3) = c 7 ∧ all (B + 4) = c 8 ∧ all (B + 5) = c 9 ∧ all (B + 6) = c 10 ∧ all (B + 7) = c 11 ∧ all (B + 8) = c 12) ∧
  ∀ i, i < b → all (B + (9 + i)) = A 1 i ∧ all (B + (21 + i)) = A 2 i ∧ all (B + (33 + i)) = A 3 i ∧ all (B + (45 + i)) = A 4 i
/-- the numbers are as told -/
def hp_CI (b : Nat) (c : Nat → Int32) (A : Nat → Nat → Int32) : Prop :=
  (-99 ≤ (c 5).toInt ∧ (c 5).toInt ≤ 99) ∧ (0 ≤ (c 6).toInt ∧ (c 6).toInt ≤ 50) ∧ (0 ≤ (c 7).toInt ∧ (c 7).toInt ≤ 3) ∧ (0 ≤ (c 8).toInt ∧ (c 8).toInt ≤ 20) ∧ (1 ≤ (c 9).toInt ∧ (c 9).toInt ≤ 64) ∧
  ∀ i, i < b → (1 ≤ (A 1 i).toInt ∧ (A 1 i).toInt ≤ 9999) ∧ (-99 ≤ (A 2 i).toInt ∧ (A 2 i).toInt ≤ 120) ∧ 1 ≤ (A 1 i).toInt + (A 2 i).toInt ∧ (0 ≤ (A 3 i).toInt ∧ (A 3 i).toInt ≤ 9999 * 2 ^ i) ∧ (A 4 i = -1 ∨ A 4 i = 0 ∨ A 4 i = 1)
def hp_w (A : Nat → Nat → Int32) : Nat → Int32 := fun i => A 1 i + A 2 i
theorem hp_wI {b : Nat} {c : Nat → Int32} {A : Nat → Nat → Int32} (h : hp_CI b c A) {i : Nat} (hi : i < b) : (hp_w A i).toInt = (A 1 i).toInt + (A 2 i).toInt ∧ 1 ≤ (hp_w A i).toInt ∧ (hp_w A i).toInt ≤ 10119 := by
  obtain ⟨-, -, -, -, -, h⟩ := h
  obtain ⟨⟨a1, a2⟩, ⟨b1, b2⟩, d, -⟩ := h i hi
  have e : (hp_w A i).toInt = (A 1 i).toInt + (A 2 i).toInt := hp_add (by omega) (by omega)
  omega
theorem hp_rw_eq {b : Nat} {c : Nat → Int32} {A : Nat → Nat → Int32} {all : Nat → Int32} {B : Nat} (h : hp_RC b c A all B) : ∀ i, i < b → hp_rw all B i = hp_w A i ∧ hp_rwo all B i = A 3 i ∧ hp_rst all B i = A 4 i := by
  intro i hi
  obtain ⟨-, -, -, -, -, h⟩ := h
  obtain ⟨h1, h2, h3, h4⟩ := h i hi
  unfold hp_rw hp_rwo hp_rst hp_w
  rw [h1, h2, h3, h4]
  exact ⟨rfl, rfl, rfl⟩
theorem hp_rok {b : Nat} {c : Nat → Int32} {A : Nat → Nat → Int32} {all : Nat → Int32} {B : Nat} (h : hp_RC b c A all B) (hc : hp_CI b c A) : hp_ok (hp_rw all B) (hp_rst all B) b := by
  refine ⟨h.2.2.1, fun i hi => ?_⟩
  obtain ⟨e1, -, e3⟩ := hp_rw_eq h i hi
  obtain ⟨-, w1, w2⟩ := hp_wI hc hi
  obtain ⟨-, -, -, -, -, hc⟩ := hc
  rw [e1, e3]
  exact ⟨by omega, by omega, (hc i hi).2.2.2.2⟩
abbrev hp_PC (b : Nat) (c : Nat → Int32) (A : Nat → Nat → Int32) (turned x : Int32) : Int32 := hp_pc (hp_w A) (A 3) (A 4) turned b (c 5) (c 9) x
theorem hp_code8 {all : Nat → Int32} {B : Nat} {s step : Int32} (hB : B ≤ 700) (he : all (B + 5) = step) (h : 1 ≤ step.toInt) (h2 : step.toInt ≤ 64) : pf_X8_codeNow all (nI B) s = some (hp_code step s, ()) := by
  unfold pf_X8_codeNow
  rw [hp_getl 5 (by omega), bi_0_s, bi_0_s, he, hp_ckD]
  · rfl
  · intro e
    rw [hp_eq, hp_mul (by rw [show (2 : Int32).toInt = 2 from by decide]; omega) (by rw [show (2 : Int32).toInt = 2 from by decide]; omega), show (2 : Int32).toInt = 2 from by decide, show (0 : Int32).toInt = 0 from by decide] at e
    omega
theorem hp_pc8 {b : Nat} {c : Nat → Int32} {A : Nat → Nat → Int32} {all : Nat → Int32} {B : Nat} {x turned : Int32} (h : hp_RC b c A all B) (hc : hp_CI b c A) (hB : B ≤ 640) (hx : -900000 ≤ x.toInt ∧ x.toInt ≤ 900000) (dec wl ao hb : Nat → Int32) :
    ∃ dec' wl' ao' hb' s' h', pf_X8_paperCode x all (nI B) dec wl ao hb turned = some (hp_PC b c A turned x, all, dec', wl', ao', hb', s', h', 0) := by
  obtain ⟨q1, q2, q3, q4, ⟨q5, -, -, -, q9, -⟩, q⟩ := id h
  obtain ⟨⟨o1, o2⟩, -, -, -, ⟨s1, s2⟩, -⟩ := id hc
  unfold pf_X8_paperCode
  rw [hp_getl 0 (by omega), bi_0_s, hp_getl 1 (by omega), bi_0_s, Nat.add_zero, q2, q5]
  unfold pf_X8_goThrough
  have e10 : ((1 : Int32) = 0) = False := by simp
  simp only [e10, if_false, jn, nm]
  have ex : (x + c 5).toInt = x.toInt + (c 5).toInt := hp_add (by omega) (by omega)
  obtain ⟨dec', wl', ao', hb', held', hg⟩ := hp_go8 (turned := turned) (x := x) (offset := c 5) (all := all) (B := B) (b := b) (by omega) (hp_rok h hc) FU b dec wl ao hb 0 0 (Nat.le_refl b) (by unfold FU; omega) ⟨_, rfl, by rw [ex]; show _ ≤ x.toInt + (c 5).toInt - 0; omega, by rw [ex]; show x.toInt + (c 5).toInt - 0 ≤ _; omega⟩ (by decide) (by show (0 : Int) ≤ _; omega) (by omega) (by omega)
  rw [show nI b - 1 = hp_p b from rfl, hg]
  simp only [bv_7_s]
  rw [hp_code8 (by omega) q9 s1 s2, bi_0_s]
  have e : hp_code (c 9) (hp_ps (hp_rw all B) (hp_rwo all B) (hp_rst all B) turned b (x + c 5 - 0) 0) = hp_PC b c A turned x := by
    unfold hp_PC hp_pc
    rw [hp_ps_congr b (x + c 5 - 0) 0 (hp_rw_eq h), Int32.sub_zero]
  rw [e]
  exact ⟨_, _, _, _, _, _, rfl⟩
theorem hp_fg8 {b : Nat} {c : Nat → Int32} {A : Nat → Nat → Int32} {all : Nat → Int32} {B : Nat} {x t : Int32} (h : hp_RC b c A all B) (hc : hp_CI b c A) (hB : B ≤ 640) (hx : -900000 ≤ x.toInt ∧ x.toInt ≤ 900000) (dec wl ao hb : Nat → Int32) :
    ∃ dec' wl' ao' hb' s' h', pf_X8_isForgiven x t all (nI B) dec wl ao hb (-1) = some (hp_b (hp_PC b c A t x = hp_PC b c A (-1) x), all, dec', wl', ao', hb', s', h', 0, -1) := by
  unfold pf_X8_isForgiven
  obtain ⟨d1, w1, a1, b1, s1, h1, e1⟩ := hp_pc8 (turned := -1) h hc hB hx dec wl ao hb
  obtain ⟨d2, w2, a2, b2, s2, h2, e2⟩ := hp_pc8 (turned := t) h hc hB hx d1 w1 a1 b1
  rw [e1, bi_8_s, e2, bi_8_s]
  refine ⟨d2, w2, a2, b2, s2, h2, ?_⟩
  unfold hp_b
  by_cases g : hp_PC b c A t x = hp_PC b c A (-1) x
  · rw [if_pos g, if_pos g.symm]
  · rw [if_neg g, if_neg (fun e => g e.symm)]
theorem hp_pc7 {b : Nat} {c : Nat → Int32} {A : Nat → Nat → Int32} {x : Int32} (hb : b ≤ 12) (hc : hp_CI b c A) : pf_X2_paperCode x (nI b) (A 1) (A 2) (A 3) (A 4) (c 5) (c 9) = some (hp_PC b c A (-1) x, ()) := by
  obtain ⟨-, -, -, -, ⟨s1, s2⟩, -⟩ := hc
  exact hp_pc2 hb s1 s2
theorem hp_fg7 {b : Nat} {c : Nat → Int32} {A : Nat → Nat → Int32} {x t : Int32} (hb : b ≤ 12) (hc : hp_CI b c A) : pf_X2_forgives x t (nI b) (A 1) (A 2) (A 3) (A 4) (c 5) (c 9) = some (hp_b (hp_PC b c A t x = hp_PC b c A (-1) x), ()) := by
  obtain ⟨-, -, -, -, ⟨s1, s2⟩, -⟩ := hc
  exact hp_fg2 hb s1 s2
/-- slack: both count on -/
def hp_sl (F : Int32 → Prop) [DecidablePred F] (mid : Int32) : Nat → Nat → Int32
  | 0, j => nI j - 1
  | m + 1, j => if F (mid - nI j) ∧ F (mid + nI j) then hp_sl F mid m (j + 1) else nI j - 1
theorem hp_sl7 {b : Nat} {c : Nat → Int32} {A : Nat → Nat → Int32} {t mid : Int32} (hb : b ≤ 12) (hc : hp_CI b c A) : ∀ (n m j : Nat), j + m = 2001 → m < n → lp_X2_slackOf_13 t (nI b) (c 5) (c 9) (A 2) (A 1) (A 4) (A 3) mid n (nI j) = some (hp_sl (fun x => hp_PC b c A t x = hp_PC b c A (-1) x) mid m j, ()) := by
  intro n
  induction n with
  | zero => intro m j h1 h2; omega
  | succ n ih =>
    intro m j h1 h2
    rw [lp_X2_slackOf_13]
    cases m with
    | zero =>
      have e : j = 2001 := by omega
      subst e
      rw [if_pos (by decide)]
      rfl
    | succ m =>
      rw [if_neg (by rw [show (2000 : Int32) = nI 2000 from rfl, hp_lI (by omega) (by omega)]; omega), hp_fg7 hb hc, bi_0_s, hp_fg7 hb hc]
      simp only [hp_b0, bi_0_s, nm, hp_sl, hp_i1]
      rw [ih m (j + 1) (by omega) (by omega)]
      by_cases c1 : hp_PC b c A t (mid - nI j) = hp_PC b c A (-1) (mid - nI j)
      · by_cases c2 : hp_PC b c A t (mid + nI j) = hp_PC b c A (-1) (mid + nI j)
        · simp only [c1, c2, not_true_eq_false, if_false, and_self, if_true]
        · simp only [c1, c2, not_true_eq_false, if_false, and_false, not_false_eq_true, if_true]
      · simp only [c1, not_false_eq_true, if_true, false_and, if_false]
theorem hp_sl8 {b : Nat} {c : Nat → Int32} {A : Nat → Nat → Int32} {all : Nat → Int32} {B : Nat} {t mid : Int32} (h : hp_RC b c A all B) (hc : hp_CI b c A) (hB : B ≤ 640) (hm : -800000 ≤ mid.toInt ∧ mid.toInt ≤ 800000) : ∀ (n m j : Nat) (dec wl ao hb : Nat → Int32) (s hd : Int32), j + m = 2001 → m < n → ∃ dec' wl' ao' hb' s' h', lp_X8_slackOf_14 t (nI B) mid n (nI j) all dec wl ao hb s hd 0 (-1) = some (hp_sl (fun x => hp_PC b c A t x = hp_PC b c A (-1) x) mid m j, all, dec', wl', ao', hb', s', h', 0, -1) := by
  intro n
  induction n with
  | zero => intro m j dec wl ao hb s hd h1 h2; omega
  | succ n ih =>
    intro m j dec wl ao hb s hd h1 h2
    rw [lp_X8_slackOf_14]
    cases m with
    | zero =>
      have e : j = 2001 := by omega
      subst e
      rw [if_pos (by decide)]
      exact ⟨_, _, _, _, _, _, rfl⟩
    | succ m =>
      rw [if_neg (by rw [show (2000 : Int32) = nI 2000 from rfl, hp_lI (by omega) (by omega)]; omega)]
      have j1 := hp_nT (n := j) (by omega)
      have g1 : (mid - nI j).toInt = mid.toInt - j := by rw [hp_sub (by omega) (by omega), j1]
      have g2 : (mid + nI j).toInt = mid.toInt + j := by rw [hp_add (by omega) (by omega), j1]
      obtain ⟨d1, w1, a1, b1, s1, h1', e1⟩ := hp_fg8 (t := t) h hc hB (x := mid - nI j) (by omega) dec wl ao hb
      obtain ⟨d2, w2, a2, b2, s2, h2', e2⟩ := hp_fg8 (t := t) h hc hB (x := mid + nI j) (by omega) d1 w1 a1 b1
      rw [e1, bi_9_s, e2]
      simp only [hp_b0, bi_9_s, nm, hp_sl, hp_i1]
      obtain ⟨d3, w3, a3, b3, s3, h3, e3⟩ := ih m (j + 1) d2 w2 a2 b2 s2 h2' (by omega) (by omega)
      rw [e3]
      by_cases c1 : hp_PC b c A t (mid - nI j) = hp_PC b c A (-1) (mid - nI j)
      · by_cases c2 : hp_PC b c A t (mid + nI j) = hp_PC b c A (-1) (mid + nI j)
        · simp only [c1, c2, not_true_eq_false, if_false, and_self, if_true]
          exact ⟨_, _, _, _, _, _, rfl⟩
        · simp only [c1, c2, not_true_eq_false, if_false, and_false, not_false_eq_true, if_true]
          exact ⟨_, _, _, _, _, _, rfl⟩
      · simp only [c1, not_false_eq_true, if_true, false_and, if_false]
        exact ⟨_, _, _, _, _, _, rfl⟩
