/-! Sorting by strides: what is counted stays, the last stride (1) sorts; sorted rows with like counts are alike. -/
def hs_cnt (f : Nat → Int32) (w : Int32) : Nat → Nat
  | 0 => 0
  | n + 1 => hs_cnt f w n + (if f n = w then 1 else 0)
theorem hs_cnt_congr {f g : Nat → Int32} {w : Int32} : ∀ (n : Nat), (∀ i, i < n → f i = g i) → hs_cnt f w n = hs_cnt g w n := by
  intro n
  induction n with
  | zero => intro _; rfl
  | succ n ih => intro h; simp only [hs_cnt]; rw [ih (fun i hi => h i (by omega)), h n (by omega)]
theorem hs_cnt_upd {f : Nat → Int32} {w x : Int32} {p : Nat} : ∀ (n : Nat), p < n → hs_cnt (upd f p x) w n + (if f p = w then 1 else 0) = hs_cnt f w n + (if x = w then 1 else 0) := by
  intro n
  induction n with
  | zero => intro h; omega
  | succ n ih =>
    intro h
    simp only [hs_cnt]
    by_cases e : p = n
    · subst e
      rw [hs_cnt_congr (f := upd f p x) (g := f) p (fun i hi => hp_un (by omega)), hp_us]
      omega
    · have := ih (by omega)
      rw [hp_un (show n ≠ p by omega)]
      omega
theorem hs_swap {f : Nat → Int32} {w v : Int32} {p q n : Nat} (hp : p < n) (hq : q < n) (hpq : p ≠ q) : hs_cnt (upd (upd f p (f q)) q v) w n = hs_cnt (upd f p v) w n := by
  have a := hs_cnt_upd (f := upd f p (f q)) (w := w) (x := v) n hq
  rw [hp_un (Ne.symm hpq)] at a
  have b := hs_cnt_upd (f := f) (w := w) (x := f q) n hp
  have c := hs_cnt_upd (f := f) (w := w) (x := v) n hp
  generalize (if f q = w then 1 else 0) = e1 at *
  generalize (if f p = w then 1 else 0) = e2 at *
  generalize (if v = w then 1 else 0) = e3 at *
  omega
def hs_ins (g : Nat) (v : Int32) : Nat → Nat → (Nat → Int32) → Nat × (Nat → Int32)
  | 0, p, f => (p, f)
  | n + 1, p, f => if p < g then (p, f) else if f (p - g) ≤ v then (p, f) else hs_ins g v n (p - g) (upd f p (f (p - g)))
theorem hs_ins_fu {g : Nat} {v : Int32} (hg : 1 ≤ g) : ∀ (n m p : Nat) (f : Nat → Int32), p < n → p < m → hs_ins g v n p f = hs_ins g v m p f := by
  intro n
  induction n with
  | zero => intro m p f h; omega
  | succ n ih =>
    intro m p f h1 h2
    obtain ⟨m, rfl⟩ : ∃ k, m = k + 1 := ⟨m - 1, by omega⟩
    rw [hs_ins, hs_ins]
    by_cases c : p < g
    · rw [if_pos c, if_pos c]
    · rw [if_neg c, if_neg c]
      by_cases c2 : f (p - g) ≤ v
      · rw [if_pos c2, if_pos c2]
      · rw [if_neg c2, if_neg c2]
        exact ih m _ _ (by omega) (by omega)
theorem hs_ins_le {g : Nat} {v : Int32} : ∀ (n p : Nat) (f : Nat → Int32), (hs_ins g v n p f).1 ≤ p := by
  intro n
  induction n with
  | zero => intro p f; exact Nat.le_refl p
  | succ n ih =>
    intro p f
    rw [hs_ins]
    by_cases c : p < g
    · rw [if_pos c]; exact Nat.le_refl p
    · rw [if_neg c]
      by_cases c2 : f (p - g) ≤ v
      · rw [if_pos c2]; exact Nat.le_refl p
      · rw [if_neg c2]
        have := ih (p - g) (upd f p (f (p - g)))
        omega
theorem hs_ins_cnt {g N : Nat} {v w : Int32} (hg : 1 ≤ g) : ∀ (n p : Nat) (f : Nat → Int32), p < N → hs_cnt (upd (hs_ins g v n p f).2 (hs_ins g v n p f).1 v) w N = hs_cnt (upd f p v) w N := by
  intro n
  induction n with
  | zero => intro p f _; rfl
  | succ n ih =>
    intro p f h
    rw [hs_ins]
    by_cases c : p < g
    · rw [if_pos c]
    · rw [if_neg c]
      by_cases c2 : f (p - g) ≤ v
      · rw [if_pos c2]
      · rw [if_neg c2, ih (p - g) _ (by omega)]
        exact hs_swap h (by omega) (by omega)
def hs_so (f : Nat → Int32) (k : Nat) : Prop := ∀ i, i + 1 < k → (f i).toInt ≤ (f (i + 1)).toInt
theorem hs_ins1 {v : Int32} {k : Nat} : ∀ (n p : Nat) (f : Nat → Int32), p < n → p ≤ k → (∀ i, i + 1 < p → (f i).toInt ≤ (f (i + 1)).toInt) → (∀ i, p < i → i + 1 ≤ k → (f i).toInt ≤ (f (i + 1)).toInt) → (∀ i, p < i → i ≤ k → v.toInt ≤ (f i).toInt) → (p < k → 0 < p → (f (p - 1)).toInt ≤ (f (p + 1)).toInt) →
    ∀ i, i + 1 ≤ k → (upd (hs_ins 1 v n p f).2 (hs_ins 1 v n p f).1 v i).toInt ≤ (upd (hs_ins 1 v n p f).2 (hs_ins 1 v n p f).1 v (i + 1)).toInt := by
  intro n
  induction n with
  | zero => intro p f h; omega
  | succ n ih =>
    intro p f h1 h2 h3 h4 h5 h6 i hi
    rw [hs_ins]
    by_cases c : p < 1
    · rw [if_pos c]
      have : p = 0 := by omega
      subst this
      show (upd f 0 v i).toInt ≤ (upd f 0 v (i + 1)).toInt
      rw [hp_un (show i + 1 ≠ 0 by omega)]
      by_cases e : i = 0
      · subst e; rw [hp_us]; exact h5 1 (by omega) (by omega)
      · rw [hp_un e]; exact h4 i (by omega) (by omega)
    · rw [if_neg c]
      by_cases c2 : f (p - 1) ≤ v
      · rw [if_pos c2]
        show (upd f p v i).toInt ≤ (upd f p v (i + 1)).toInt
        by_cases e : i = p
        · subst e; rw [hp_us, hp_un (by omega)]; exact h5 (i + 1) (by omega) (by omega)
        · rw [hp_un e]
          by_cases e2 : i + 1 = p
          · rw [e2, hp_us]
            have : i = p - 1 := by omega
            rw [this]
            rw [hp_le] at c2
            exact c2
          · rw [hp_un e2]
            by_cases e3 : i + 1 < p
            · exact h3 i e3
            · exact h4 i (by omega) (by omega)
      · rw [if_neg c2]
        rw [hp_le] at c2
        refine ih (p - 1) _ (by omega) (by omega) (fun j hj => ?_) (fun j hj hj2 => ?_) (fun j hj hj2 => ?_) (fun a b => ?_) i hi
        · rw [hp_un (by omega), hp_un (by omega)]; exact h3 j (by omega)
        · by_cases e : j = p
          · subst e
            rw [hp_us, hp_un (by omega)]; exact h6 (by omega) (by omega)
          · rw [hp_un e, hp_un (by omega)]; exact h4 j (by omega) (by omega)
        · by_cases e : j = p
          · subst e; rw [hp_us]; omega
          · rw [hp_un e]; exact h5 j (by omega) hj2
        · rw [hp_un (by omega), show p - 1 + 1 = p by omega, hp_us]
          have := h3 (p - 1 - 1) (by omega)
          rw [show p - 1 - 1 + 1 = p - 1 by omega] at this
          exact this
def hs_one (g k : Nat) (f : Nat → Int32) : Nat → Int32 := upd (hs_ins g (f k) (k + 1) k f).2 (hs_ins g (f k) (k + 1) k f).1 (f k)
def hs_pass (g N : Nat) : Nat → Nat → (Nat → Int32) → (Nat → Int32)
  | 0, _, f => f
  | n + 1, k, f => if N ≤ k then f else hs_pass g N n (k + 1) (hs_one g k f)
theorem hs_pass_cnt {g N : Nat} {w : Int32} (hg : 1 ≤ g) : ∀ (n k : Nat) (f : Nat → Int32), hs_cnt (hs_pass g N n k f) w N = hs_cnt f w N := by
  intro n
  induction n with
  | zero => intro k f; rfl
  | succ n ih =>
    intro k f
    rw [hs_pass]
    by_cases c : N ≤ k
    · rw [if_pos c]
    · rw [if_neg c, ih]
      unfold hs_one
      rw [hs_ins_cnt hg _ _ _ (by omega), hp_ui]
theorem hs_pass_so {N : Nat} : ∀ (n k : Nat) (f : Nat → Int32), N - k ≤ n → 1 ≤ k → hs_so f (min k N) → hs_so (hs_pass 1 N n k f) N := by
  intro n
  induction n with
  | zero => intro k f h hk hs; rw [hs_pass]; rw [show min k N = N by omega] at hs; exact hs
  | succ n ih =>
    intro k f h hk hs
    rw [hs_pass]
    by_cases c : N ≤ k
    · rw [if_pos c]; rw [show min k N = N by omega] at hs; exact hs
    · rw [if_neg c]
      refine ih (k + 1) _ (by omega) (by omega) ?_
      intro i hi
      unfold hs_one
      exact hs_ins1 (k := k) (k + 1) k f (by omega) (Nat.le_refl k) (fun i hi => hs i (by omega)) (fun i h1 h2 => by omega) (fun i h1 h2 => by omega) (fun h1 h2 => by omega) i (by omega)
/-- the class's loops -/
theorem hs_c37 {g : Nat} {v : Int32} (hg : 1 ≤ g ∧ g < 2147483648) : ∀ (n p : Nat) (f : Nat → Int32), p < n → p < 4096 → ∀ J, lp_X4_sort_37 (nI g) v J n (nI p) f = J (nI (hs_ins g v n p f).1) (hs_ins g v n p f).2 := by
  intro n
  induction n with
  | zero => intro p f h; omega
  | succ n ih =>
    intro p f h1 h2 J
    rw [lp_X4_sort_37, hs_ins]
    by_cases c : p < g
    · rw [if_pos ((hp_lI (by omega) (by omega)).mpr c), if_pos c]
    · have c' : ¬ nI p < nI g := fun e => c ((hp_lI (by omega) (by omega)).mp e)
      rw [if_neg c', if_neg c, hp_sI (by omega), hp_ck (show p - g < 4096 by omega) (by decide), hp_cl (show p - g < 2147483648 by omega)]
      by_cases c2 : f (p - g) ≤ v
      · rw [if_pos c2, if_pos c2]
      · rw [if_neg c2, if_neg c2, hp_ck (show p - g < 4096 by omega) (by decide), hp_nm, hp_ck (show p < 4096 by omega) (by decide), hp_nm, hp_cl (show p < 2147483648 by omega)]
        exact ih (p - g) _ (by omega) (by omega) J
theorem hs_c18 {g N : Nat} {x1 : Int32} (hg : 1 ≤ g ∧ g < 4096) (hN : N ≤ 4096) : ∀ (n k : Nat) (f : Nat → Int32), N - k < n → k < 5000 → ∀ B2, lp_X4_sort_18 (nI N) x1 (nI g) B2 n (nI k) f = B2 (x1 + 1) (hs_pass g N n k f) := by
  have hF : 4096 < FU := by unfold FU; omega
  intro n
  induction n with
  | zero => intro k f h; omega
  | succ n ih =>
    intro k f h1 h2 B2
    rw [lp_X4_sort_18, hs_pass]
    by_cases c : N ≤ k
    · rw [if_pos ((hp_eI (by omega) (by omega)).mpr c), if_pos c, hp_nm]
    · have c' : ¬ nI N ≤ nI k := fun e => c ((hp_eI (by omega) (by omega)).mp e)
      rw [if_neg c', if_neg c, hp_ck (show k < 4096 by omega) (by decide), hp_nm, hp_jn, hp_cl (show k < 2147483648 by omega)]
      refine (hs_c37 ⟨hg.1, by omega⟩ FU k f (by omega) (by omega) _).trans ?_
      rw [hs_ins_fu hg.1 FU (k + 1) k f (by omega) (by omega)]
      have hle := hs_ins_le (g := g) (v := f k) (k + 1) k f
      rw [hp_ck (show (hs_ins g (f k) (k + 1) k f).1 < 4096 by omega) (by decide), hp_nm, hp_i1, hp_cl (show (hs_ins g (f k) (k + 1) k f).1 < 2147483648 by omega)]
      exact ih (k + 1) (hs_one g k f) (by omega) (by omega) B2
def hs_g (j : Nat) : Nat := ([1750, 701, 301, 132, 57, 23, 10, 4, 1] : List Nat).getD j 0
theorem hs_gs : ∀ j, j < 9 → hm_strides j = nI (hs_g j) ∧ 1 ≤ hs_g j ∧ hs_g j < 4096 ∧ (j = 8 → hs_g j = 1) := by decide
theorem hs_c2 {N : Nat} (hN : N ≤ 4096) : ∀ (n k j : Nat) (f : Nat → Int32), j + k = 9 → k < n → ∃ f', lp_X4_sort_2 (nI N) n (nI j) f = some f' ∧ (∀ w, hs_cnt f' w N = hs_cnt f w N) ∧ ((j < 9 ∨ hs_so f N) → hs_so f' N) := by
  have hF : 4096 < FU := by unfold FU; omega
  intro n
  induction n with
  | zero => intro k j f h1 h2; omega
  | succ n ih =>
    intro k j f h1 h2
    rw [lp_X4_sort_2]
    by_cases c : 9 ≤ j
    · have c' : (9 : Int32) ≤ nI j := (hp_eI (a := 9) (by omega) (by omega)).mpr c
      rw [if_pos c']
      exact ⟨f, rfl, fun w => rfl, fun h => by rcases h with h | h; omega; exact h⟩
    · have c' : ¬ (9 : Int32) ≤ nI j := fun e => c ((hp_eI (a := 9) (by omega) (by omega)).mp e)
      obtain ⟨s1, s2, s3, s4⟩ := hs_gs j (by omega)
      rw [if_neg c', hp_ck (show j < 9 by omega) (by decide), hp_nm, hp_jn, hp_cl (show j < 2147483648 by omega), s1]
      obtain ⟨f', y1, y2, y3⟩ := ih (k - 1) (j + 1) (hs_pass (hs_g j) N FU (hs_g j) f) (by omega) (by omega)
      refine ⟨f', ?_, fun w => ?_, fun _ => y3 ?_⟩
      · refine (hs_c18 ⟨s2, s3⟩ hN FU (hs_g j) f (by omega) (by omega) _).trans ?_
        rw [hp_i1]
        exact y1
      · rw [y2 w, hs_pass_cnt s2]
      · by_cases e : j = 8
        · right
          rw [s4 e]
          refine hs_pass_so FU 1 f (by omega) (by omega) (fun i hi => by omega)
        · left; omega
theorem hs_sort {N : Nat} (hN : N ≤ 4096) (f : Nat → Int32) : ∃ f', pf_X4_sort f (nI N) = some f' ∧ (∀ w, hs_cnt f' w N = hs_cnt f w N) ∧ hs_so f' N := by
  have hF : 9 < FU := by unfold FU; omega
  obtain ⟨f', a, b, c⟩ := hs_c2 hN FU 9 0 f (by omega) hF
  exact ⟨f', a, b, c (Or.inl (by omega))⟩
/-- the reference's loops -/
theorem hs_r20 {g : Nat} {v : Int32} (hg : 1 ≤ g ∧ g < 2147483648) : ∀ (n p : Nat) (f : Nat → Int32), p < n → p < 2000 → ∀ J, lp_X8_sortBy_20 (nI g) v J n (nI p) f = J (nI (hs_ins g v n p f).1) (hs_ins g v n p f).2 := by
  intro n
  induction n with
  | zero => intro p f h; omega
  | succ n ih =>
    intro p f h1 h2 J
    rw [lp_X8_sortBy_20, hs_ins]
    by_cases c : p < g
    · rw [if_pos ((hp_lI (by omega) (by omega)).mpr c), if_pos c]
    · have c' : ¬ nI p < nI g := fun e => c ((hp_lI (by omega) (by omega)).mp e)
      rw [if_neg c', if_neg c, hp_sI (by omega), hp_ck (show p - g < 2000 by omega) (by decide), hp_cl (show p - g < 2147483648 by omega)]
      by_cases c2 : f (p - g) ≤ v
      · rw [if_pos c2, if_pos c2]
      · rw [if_neg c2, if_neg c2, hp_ck (show p - g < 2000 by omega) (by decide), hp_nm, hp_ck (show p < 2000 by omega) (by decide), hp_nm, hp_cl (show p < 2147483648 by omega)]
        exact ih (p - g) _ (by omega) (by omega) J
theorem hs_r2 {g N : Nat} (hg : 1 ≤ g ∧ g < 4096) (hN : N ≤ 2000) : ∀ (n k : Nat) (f : Nat → Int32), N - k < n → k < 5000 → lp_X8_sortBy_2 (nI g) (nI N) n (nI k) f = some (hs_pass g N n k f) := by
  have hF : 4096 < FU := by unfold FU; omega
  intro n
  induction n with
  | zero => intro k f h; omega
  | succ n ih =>
    intro k f h1 h2
    rw [lp_X8_sortBy_2, hs_pass]
    by_cases c : N ≤ k
    · rw [if_pos ((hp_eI (by omega) (by omega)).mpr c), if_pos c]
    · have c' : ¬ nI N ≤ nI k := fun e => c ((hp_eI (by omega) (by omega)).mp e)
      rw [if_neg c', if_neg c, hp_ck (show k < 2000 by omega) (by decide), hp_nm, hp_jn, hp_cl (show k < 2147483648 by omega)]
      refine (hs_r20 ⟨hg.1, by omega⟩ FU k f (by omega) (by omega) _).trans ?_
      rw [hs_ins_fu hg.1 FU (k + 1) k f (by omega) (by omega)]
      have hle := hs_ins_le (g := g) (v := f k) (k + 1) k f
      rw [hp_ck (show (hs_ins g (f k) (k + 1) k f).1 < 2000 by omega) (by decide), hp_nm, hp_i1, hp_cl (show (hs_ins g (f k) (k + 1) k f).1 < 2147483648 by omega)]
      exact ih (k + 1) (hs_one g k f) (by omega) (by omega)
def hs_q (j : Nat) : Nat := ([0, 1, 4, 13, 40, 121, 364, 1093] : List Nat).getD j 0
theorem hs_qs : ∀ j, j < 7 → nI (hs_q (j + 1)) / 3 = nI (hs_q j) ∧ 1 ≤ hs_q (j + 1) ∧ hs_q (j + 1) < 4096 ∧ (j = 0 → hs_q (j + 1) = 1) := by decide
theorem hs_r65 {N : Nat} (hN : N ≤ 2000) (a2 a3 a4 a5 a6 a10 : Nat → Int32) (x7 x8 x9 : Int32) : ∀ (j n : Nat) (f : Nat → Int32), j ≤ 7 → j < n → ∃ f', lp_X8_layCodes_65 (nI N) a2 a3 a4 a5 a6 x7 x8 x9 a10 n (nI (hs_q j)) f = some (a2, a3, a4, a5, a6, x7, x8, x9, a10, f', nI N) ∧ (∀ w, hs_cnt f' w N = hs_cnt f w N) ∧ ((0 < j ∨ hs_so f N) → hs_so f' N) := by
  have hF : 4096 < FU := by unfold FU; omega
  intro j
  induction j with
  | zero =>
    intro n f h1 h2
    obtain ⟨n, rfl⟩ : ∃ k, n = k + 1 := ⟨n - 1, by omega⟩
    rw [lp_X8_layCodes_65, if_pos (show nI (hs_q 0) ≤ 0 by decide)]
    exact ⟨f, rfl, fun w => rfl, fun h => by rcases h with h | h; omega; exact h⟩
  | succ j ih =>
    intro n f h1 h2
    obtain ⟨n, rfl⟩ : ∃ k, n = k + 1 := ⟨n - 1, by omega⟩
    obtain ⟨s1, s2, s3, s4⟩ := hs_qs j (by omega)
    have c' : ¬ nI (hs_q (j + 1)) ≤ 0 := fun e => by
      have := (hp_eI (b := 0) (by omega) (by omega)).mp e
      omega
    have es : pf_X8_sortBy (nI (hs_q (j + 1))) f (nI N) = some (hs_pass (hs_q (j + 1)) N FU (hs_q (j + 1)) f) := hs_r2 ⟨s2, s3⟩ hN FU (hs_q (j + 1)) f (by omega) (by omega)
    rw [lp_X8_layCodes_65, if_neg c', es, hp_bv1, hp_nm, s1]
    obtain ⟨f', y1, y2, y3⟩ := ih n (hs_pass (hs_q (j + 1)) N FU (hs_q (j + 1)) f) (by omega) (by omega)
    refine ⟨f', y1, fun w => ?_, fun _ => y3 ?_⟩
    · rw [y2 w, hs_pass_cnt s2]
    · by_cases e : j = 0
      · right
        rw [s4 e]
        exact hs_pass_so FU 1 f (by omega) (by omega) (fun i hi => by omega)
      · left; omega
/-- sorted rows with like counts are alike -/
theorem hs_so_le {f : Nat → Int32} {N : Nat} (h : hs_so f N) : ∀ (d i : Nat), i + d < N → (f i).toInt ≤ (f (i + d)).toInt := by
  intro d
  induction d with
  | zero => intro i _; exact Int.le_refl _
  | succ d ih =>
    intro i hi
    have a := ih i (by omega)
    have b := h (i + d) (by omega)
    rw [show i + (d + 1) = i + d + 1 by omega]
    omega
theorem hs_so_le' {f : Nat → Int32} {N : Nat} (h : hs_so f N) {i j : Nat} (hij : i ≤ j) (hj : j < N) : (f i).toInt ≤ (f j).toInt := by
  have := hs_so_le h (j - i) i (by omega)
  rw [show i + (j - i) = j by omega] at this
  exact this
theorem hs_cnt_pos {f : Nat → Int32} {w : Int32} : ∀ (n : Nat), 0 < hs_cnt f w n ↔ ∃ i, i < n ∧ f i = w := by
  intro n
  induction n with
  | zero => simp [hs_cnt]
  | succ n ih =>
    simp only [hs_cnt]
    by_cases c : f n = w
    · rw [if_pos c]
      exact ⟨fun _ => ⟨n, by omega, c⟩, fun _ => by omega⟩
    · rw [if_neg c, Nat.add_zero, ih]
      constructor
      · rintro ⟨i, a, b⟩; exact ⟨i, by omega, b⟩
      · rintro ⟨i, a, b⟩
        by_cases e : i = n
        · subst e; exact absurd b c
        · exact ⟨i, by omega, b⟩
theorem hs_uni {f g : Nat → Int32} : ∀ (N : Nat), hs_so f N → hs_so g N → (∀ w, hs_cnt f w N = hs_cnt g w N) → ∀ i, i < N → f i = g i := by
  intro N
  induction N with
  | zero => intro _ _ _ i hi; omega
  | succ N ih =>
    intro h1 h2 h i hi
    have e : f N = g N := by
      obtain ⟨i1, a1, b1⟩ := (hs_cnt_pos (f := g) (w := f N) (N + 1)).mp (by rw [← h]; simp only [hs_cnt, if_true]; omega)
      obtain ⟨i2, a2, b2⟩ := (hs_cnt_pos (f := f) (w := g N) (N + 1)).mp (by rw [h]; simp only [hs_cnt, if_true]; omega)
      have c1 := hs_so_le' h2 (show i1 ≤ N by omega) (by omega)
      have c2 := hs_so_le' h1 (show i2 ≤ N by omega) (by omega)
      rw [b1] at c1
      rw [b2] at c2
      rw [hp_eq]; omega
    by_cases c : i = N
    · rw [c]; exact e
    · refine ih (fun j hj => h1 j (by omega)) (fun j hj => h2 j (by omega)) (fun w => ?_) i (by omega)
      have := h w
      simp only [hs_cnt] at this
      rw [e] at this
      omega
