/-! Conversions ON PAPER: both sides are hp_ps / hp_pc. -/
def hp_p (k : Nat) : Int32 := nI k - 1
theorem hp_p0 : hp_p 0 < 0 := by decide
theorem hp_pS (k : Nat) : hp_p (k + 1) = nI k := nI_pred k
theorem hp_pN {k : Nat} (h : k < 2147483647) : ¬ hp_p (k + 1) < 0 := by rw [hp_pS]; exact hp_nneg k (by omega)
theorem hp_pD (k : Nat) : nI k + (-1) = hp_p k := by
  unfold hp_p; rw [Int32.sub_eq_add_neg]
/-- the decision of bit i, what is left being known -/
def hp_pd (w st : Nat → Int32) (turned : Int32) (i : Nat) (left : Int32) : Int32 :=
  let v := if st i = -1 then (if left < w i then 0 else 1) else st i
  if nI i = turned then 1 - v else v
def hp_ps (w wo st : Nat → Int32) (turned : Int32) : Nat → Int32 → Int32 → Int32
  | 0, _, s => s
  | k + 1, left, s => if hp_pd w st turned k left = 1 then hp_ps w wo st turned k (left - w k) (s + wo k) else hp_ps w wo st turned k left s
def hp_code (step s : Int32) : Int32 := (s * 2 + step) / (step * 2)
def hp_pc (w wo st : Nat → Int32) (turned : Int32) (b : Nat) (offset step x : Int32) : Int32 := hp_code step (hp_ps w wo st turned b (x + offset) 0)
theorem hp_ps_congr {w wo st w' wo' st' : Nat → Int32} {turned : Int32} : ∀ (k : Nat) (left s : Int32), (∀ i, i < k → w i = w' i ∧ wo i = wo' i ∧ st i = st' i) → hp_ps w wo st turned k left s = hp_ps w' wo' st' turned k left s := by
  intro k
  induction k with
  | zero => intro left s h; rfl
  | succ k ih =>
    intro left s h
    obtain ⟨a, b, c⟩ := h k (by omega)
    have e : hp_pd w st turned k left = hp_pd w' st' turned k left := by simp only [hp_pd, a, c]
    simp only [hp_ps]
    rw [e, a, b, ih _ _ (fun i hi => h i (by omega)), ih _ _ (fun i hi => h i (by omega))]
theorem hp_ps2 {turned : Int32} {size off worth stuck : Nat → Int32} : ∀ (n k : Nat) (left s : Int32), k ≤ 12 → k < n → lp_X2_paperSum_18 turned off size stuck worth n left s (hp_p k) = some (hp_ps (fun i => size i + off i) worth stuck turned k left s, ()) := by
  intro n
  induction n with
  | zero => intro k left s h1 h2; omega
  | succ n ih =>
    intro k left s h1 h2
    rw [lp_X2_paperSum_18]
    cases k with
    | zero => rw [if_pos hp_p0]; rfl
    | succ k =>
      rw [if_neg (hp_pN (by omega)), hp_pS, hp_ck (by omega) (by decide), hp_cl (by omega)]
      simp only [jn, nm, hp_pD, hp_ps, hp_pd]
      rw [hp_wt (by omega)]
      simp only [bi_0_s]
      rw [hp_ck (by omega) (by decide), hp_ck (by omega) (by decide)]
      have a1 := fun l s => ih k l s (by omega) (by omega)
      by_cases c1 : stuck k = -1
      · simp only [c1, if_true]
        by_cases c2 : left < size k + off k
        · simp only [c2, if_true, a1]
          by_cases c3 : nI k = turned
          · simp only [c3, if_true]; first | rfl | (split <;> first | rfl | simp_all)
          · simp only [c3, if_false]; first | rfl | (split <;> first | rfl | simp_all)
        · simp only [c2, if_false, a1]
          by_cases c3 : nI k = turned
          · simp only [c3, if_true]; first | rfl | (split <;> first | rfl | simp_all)
          · simp only [c3, if_false]; first | rfl | (split <;> first | rfl | simp_all)
      · simp only [c1, if_false, a1]
        by_cases c3 : nI k = turned
        · simp only [c3, if_true]; first | rfl | (split <;> first | rfl | simp_all)
        · simp only [c3, if_false]; first | rfl | (split <;> first | rfl | simp_all)
theorem hp_ps2' {turned x offset : Int32} {b : Nat} {size off worth stuck : Nat → Int32} (hb : b ≤ 12) : pf_X2_paperSum x turned (nI b) size off worth stuck offset = some (hp_ps (fun i => size i + off i) worth stuck turned b (x + offset) 0, ()) := by
  unfold pf_X2_paperSum
  simp only [nm]
  exact hp_ps2 FU b _ _ hb (by unfold FU; omega)
theorem hp_codeOf {s step : Int32} (h : 1 ≤ step.toInt) (h2 : step.toInt ≤ 64) : pf_X2_codeOf s step = some (hp_code step s, ()) := by
  unfold pf_X2_codeOf
  rw [if_pos (by rw [hp_le]; exact h), hp_ckD]
  · rfl
  · intro e
    rw [hp_eq, hp_mul (by rw [show (2 : Int32).toInt = 2 from by decide]; omega) (by rw [show (2 : Int32).toInt = 2 from by decide]; omega), show (2 : Int32).toInt = 2 from by decide, show (0 : Int32).toInt = 0 from by decide] at e
    omega
theorem hp_pc2 {x offset step : Int32} {b : Nat} {size off worth stuck : Nat → Int32} (hb : b ≤ 12) (h : 1 ≤ step.toInt) (h2 : step.toInt ≤ 64) : pf_X2_paperCode x (nI b) size off worth stuck offset step = some (hp_pc (fun i => size i + off i) worth stuck (-1) b offset step x, ()) := by
  unfold pf_X2_paperCode
  rw [hp_ps2' hb, bi_0_s, hp_codeOf h h2, bi_0_s]
  rfl
theorem hp_fg2 {x offset step t : Int32} {b : Nat} {size off worth stuck : Nat → Int32} (hb : b ≤ 12) (h : 1 ≤ step.toInt) (h2 : step.toInt ≤ 64) : pf_X2_forgives x t (nI b) size off worth stuck offset step = some (hp_b (hp_pc (fun i => size i + off i) worth stuck t b offset step x = hp_pc (fun i => size i + off i) worth stuck (-1) b offset step x), ()) := by
  unfold pf_X2_forgives
  rw [hp_ps2' hb, bi_0_s, hp_codeOf h h2, bi_0_s, hp_pc2 hb h h2, bi_0_s]
  unfold hp_b hp_pc
  split <;> rfl
/-- a row of the reference, read -/
def hp_rw (all : Nat → Int32) (B : Nat) : Nat → Int32 := fun i => all (B + (9 + i)) + all (B + (21 + i))
def hp_rwo (all : Nat → Int32) (B : Nat) : Nat → Int32 := fun i => all (B + (33 + i))
def hp_rst (all : Nat → Int32) (B : Nat) : Nat → Int32 := fun i => all (B + (45 + i))
theorem hp_de8 {all wl : Nat → Int32} {B i : Nat} {d turned : Int32} (hi : i < 12) (hB : B ≤ 700) : ∃ wl', pf_X8_decide (nI i) d all (nI B) wl 1 turned = some ((if nI i = turned then 1 - (if hp_rst all B i = -1 then (if d < 0 then 0 else 1) else hp_rst all B i) else (if hp_rst all B i = -1 then (if d < 0 then 0 else 1) else hp_rst all B i)), all, wl') := by
  unfold pf_X8_decide
  have g2 := hp_getl (all := all) (B := B) 2 (by omega)
  have g45 : pf_X8_get (45 + nI i) all (nI B) = some (all (B + (45 + i)), ()) := by rw [hp_a45]; exact hp_get (by omega)
  have ck : ∀ (x : Option (Int32 × (Nat → Int32) × (Nat → Int32))), ckI (nI i) 12 x = x := fun x => hp_ck hi (by decide)
  have e2 : hp_rst all B i = all (B + (45 + i)) := rfl
  simp only [g2, g45, bi_0_s, jn, ck, e2]
  have e10 : ((1 : Int32) = 0) = False := by simp
  simp only [e10, if_false]
  by_cases c1 : all (B + (45 + i)) = -1
  · simp only [c1, if_true]
    by_cases c2 : d < 0
    · simp only [c2, if_true]
      repeat' (first | exact ⟨_, rfl⟩ | split)
    · simp only [c2, if_false]
      repeat' (first | exact ⟨_, rfl⟩ | split)
  · simp only [c1, if_false]
    repeat' (first | exact ⟨_, rfl⟩ | split)
/-- what a row must be for conversions on paper -/
def hp_ok (w st : Nat → Int32) (b : Nat) : Prop := b ≤ 12 ∧ ∀ i, i < b → 0 ≤ (w i).toInt ∧ (w i).toInt ≤ 20000 ∧ (st i = -1 ∨ st i = 0 ∨ st i = 1)
theorem hp_pd01 {w st : Nat → Int32} {b i : Nat} {turned left : Int32} (h : hp_ok w st b) (hi : i < b) : hp_pd w st turned i left = 0 ∨ hp_pd w st turned i left = 1 := by
  obtain ⟨-, -, c⟩ := h.2 i hi
  unfold hp_pd
  rcases c with c | c | c
  · simp only [c, if_true]; repeat' split
    all_goals first | exact Or.inl rfl | exact Or.inr rfl
  · have e : ¬ (0 : Int32) = -1 := by decide
    simp only [c, e, if_false]; repeat' split
    all_goals first | exact Or.inl rfl | exact Or.inr rfl
  · have e : ¬ (1 : Int32) = -1 := by decide
    simp only [c, e, if_false]; repeat' split
    all_goals first | exact Or.inl rfl | exact Or.inr rfl
theorem hp_go8 {turned x offset : Int32} {all : Nat → Int32} {B b : Nat} (hB : B ≤ 700) (hok : hp_ok (hp_rw all B) (hp_rst all B) b) : ∀ (n k : Nat) (dec wl ao hb : Nat → Int32) (s held : Int32), k ≤ b → k < n → (∃ L : Int, (x + offset).toInt - held.toInt = L ∧ -1000000 - (12 - k) * 20000 ≤ L ∧ L ≤ 1000000) → 0 ≤ held.toInt → held.toInt ≤ (12 - k) * 20000 → -1000000 ≤ (x + offset).toInt → (x + offset).toInt ≤ 1000000 →
    ∃ dec' wl' ao' hb' held', lp_X8_goThrough_33 x offset (nI B) 1 turned 0 n (hp_p k) all dec wl ao hb s held = some (all, dec', wl', ao', hb', hp_ps (hp_rw all B) (hp_rwo all B) (hp_rst all B) turned k (x + offset - held) s, held') := by
  intro n
  induction n with
  | zero => intro k dec wl ao hb s held h1 h2; omega
  | succ n ih =>
    intro k dec wl ao hb s held h1 h2 hL hh hh2 hx1 hx2
    obtain ⟨L, hL, hL1, hL2⟩ := hL
    have hb12 := hok.1
    rw [lp_X8_goThrough_33]
    cases k with
    | zero => rw [if_pos hp_p0]; exact ⟨_, _, _, _, _, rfl⟩
    | succ k =>
      rw [if_neg (hp_pN (by omega)), hp_pS, hp_wt8 (by omega) hB]
      simp only [bi_0_s, nm, jn]
      have e00 : (0 : Int32) ≤ 0 := by decide
      rw [if_pos e00]
      obtain ⟨w0, w1, w2⟩ := hok.2 k (by omega)
      have ew : all (B + (9 + k)) + all (B + (21 + k)) = hp_rw all B k := rfl
      rw [ew]
      have ex : (x + offset - held).toInt = L := by rw [hp_sub (by omega) (by omega)]; exact hL
      have ed : (x + offset - held - hp_rw all B k).toInt = L - (hp_rw all B k).toInt := by rw [hp_sub (by omega) (by omega), ex]
      have elt : (x + offset - held - hp_rw all B k < 0) = (x + offset - held < hp_rw all B k) := by
        apply propext
        rw [hp_lt, hp_lt, ed, ex, show (0 : Int32).toInt = 0 from by decide]; omega
      obtain ⟨wl', hde⟩ := hp_de8 (all := all) (wl := wl) (B := B) (i := k) (d := x + offset - held - hp_rw all B k) (turned := turned) (by omega) hB
      rw [hde]
      simp only [bi_2_s, elt]
      have epd : (if nI k = turned then 1 - (if hp_rst all B k = -1 then (if x + offset - held < hp_rw all B k then 0 else 1) else hp_rst all B k) else (if hp_rst all B k = -1 then (if x + offset - held < hp_rw all B k then 0 else 1) else hp_rst all B k)) = hp_pd (hp_rw all B) (hp_rst all B) turned k (x + offset - held) := rfl
      rw [epd]
      simp (disch := omega) only [hp_ck, hp_pD]
      simp only [hp_ps]
      by_cases c : hp_pd (hp_rw all B) (hp_rst all B) turned k (x + offset - held) = 1
      · simp only [c, if_true]
        rw [hp_wt8 (by omega) hB, bi_0_s, ew, show (33 : Int32) + nI k = nI (33 + k) from hp_a33 k, hp_get (by omega), bi_0_s]
        have eh : (held + hp_rw all B k).toInt = held.toInt + (hp_rw all B k).toInt := hp_add (by omega) (by omega)
        have e3 : x + offset - held - hp_rw all B k = x + offset - (held + hp_rw all B k) := by
          simp only [Int32.sub_eq_add_neg, Int32.neg_add]; ac_rfl
        rw [e3]
        exact ih k _ _ _ _ _ _ (by omega) (by omega) ⟨L - (hp_rw all B k).toInt, by omega, by omega, by omega⟩ (by omega) (by omega) hx1 hx2
      · simp only [c, if_false]
        exact ih k _ _ _ _ _ _ (by omega) (by omega) ⟨L, hL, by omega, by omega⟩ (by omega) (by omega) hx1 hx2
