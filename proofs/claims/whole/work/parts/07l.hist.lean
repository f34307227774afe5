/-! HISTOGRAMS: sorted out, asked. -/
def hg_un (s : Nat → Int32) : Nat → Nat
  | 0 => 0
  | n + 1 => if n = 0 then 1 else if s n = s (n - 1) then hg_un s n else hg_un s n + 1
def hg_fm (s : Nat → Int32) : Nat → Int32
  | 0 => -1
  | n + 1 => if n = 0 then -1 else if hg_fm s n = -1 then (if s n ≤ s (n - 1) + 1 then -1 else s (n - 1) + 1) else hg_fm s n
def hg_al (s : Nat → Int32) : Nat → Nat
  | 0 => 0
  | n + 1 => if n = 0 then 1 else if s n = s (n - 1) then hg_al s n + 1 else 1
def hg_mo (s : Nat → Int32) : Nat → Nat × Int32
  | 0 => (0, 0)
  | n + 1 => if hg_al s (n + 1) ≤ (hg_mo s n).1 then hg_mo s n else (hg_al s (n + 1), s n)
theorem hg_un_le (s : Nat → Int32) : ∀ n, hg_un s n ≤ n := by
  intro n
  induction n with
  | zero => exact Nat.le_refl 0
  | succ n ih => rw [hg_un]; repeat' split
                 all_goals omega
theorem hg_al_le (s : Nat → Int32) : ∀ n, hg_al s n ≤ n := by
  intro n
  induction n with
  | zero => exact Nat.le_refl 0
  | succ n ih => rw [hg_al]; repeat' split
                 all_goals omega
theorem hg_mo_le (s : Nat → Int32) : ∀ n, (hg_mo s n).1 ≤ n := by
  intro n
  induction n with
  | zero => exact Nat.le_refl 0
  | succ n ih =>
    rw [hg_mo]
    by_cases c : hg_al s (n + 1) ≤ (hg_mo s n).1
    · rw [if_pos c]; omega
    · rw [if_neg c]; exact hg_al_le s (n + 1)
theorem hg_un_congr {s t : Nat → Int32} : ∀ n, (∀ i, i < n → s i = t i) → hg_un s n = hg_un t n := by
  intro n
  induction n with
  | zero => intro _; rfl
  | succ n ih =>
    intro h
    rw [hg_un, hg_un]
    by_cases c : n = 0
    · rw [if_pos c, if_pos c]
    · rw [if_neg c, if_neg c, h n (by omega), h (n - 1) (by omega), ih (fun i hi => h i (by omega))]
theorem hg_fm_congr {s t : Nat → Int32} : ∀ n, (∀ i, i < n → s i = t i) → hg_fm s n = hg_fm t n := by
  intro n
  induction n with
  | zero => intro _; rfl
  | succ n ih =>
    intro h
    rw [hg_fm, hg_fm]
    by_cases c : n = 0
    · rw [if_pos c, if_pos c]
    · rw [if_neg c, if_neg c, h n (by omega), h (n - 1) (by omega), ih (fun i hi => h i (by omega))]
theorem hg_al_congr {s t : Nat → Int32} : ∀ n, (∀ i, i < n → s i = t i) → hg_al s n = hg_al t n := by
  intro n
  induction n with
  | zero => intro _; rfl
  | succ n ih =>
    intro h
    rw [hg_al, hg_al]
    by_cases c : n = 0
    · rw [if_pos c, if_pos c]
    · rw [if_neg c, if_neg c, h n (by omega), h (n - 1) (by omega), ih (fun i hi => h i (by omega))]
theorem hg_mo_congr {s t : Nat → Int32} : ∀ n, (∀ i, i < n → s i = t i) → hg_mo s n = hg_mo t n := by
  intro n
  induction n with
  | zero => intro _; rfl
  | succ n ih =>
    intro h
    rw [hg_mo, hg_mo, hg_al_congr (n + 1) h, ih (fun i hi => h i (by omega)), h n (by omega)]
theorem hg_cnt_congr' {s t : Nat → Int32} {w : Int32} (n : Nat) (h : ∀ i, i < n → s i = t i) : hs_cnt s w n = hs_cnt t w n := hs_cnt_congr n h
def hg_rng (s : Nat → Int32) (N : Nat) : Prop := ∀ i, i < N → 0 ≤ (s i).toInt ∧ (s i).toInt ≤ 41000000
theorem hg_p1 {s : Nat → Int32} {N i : Nat} (h : hg_rng s N) (hi : i < N) : (s i + 1).toInt = (s i).toInt + 1 := by
  obtain ⟨a, b⟩ := h i hi
  have l1 : (1 : Int32).toInt = 1 := by decide
  rw [hp_add (by rw [l1]; omega) (by rw [l1]; omega), l1]
theorem hg_p2 {s : Nat → Int32} {N i : Nat} (h : hg_rng s N) (hi : i < N) : ¬ s i + 1 = -1 := by
  intro e
  have := hg_p1 h hi
  rw [e, show (-1 : Int32).toInt = -1 from by decide] at this
  have := (h i hi).1
  omega
/-- the class sorts out -/
theorem hg_75 {s : Nat → Int32} {N : Nat} (hN : N ≤ 4096) (hr : hg_rng s N) :
    ∀ (n k j : Nat), j + k = N → k < n → ∀ J, lp_X4_sortOut_75 (nI N) s J n (nI (hg_al s j)) (nI j) (nI (hg_un s j)) (nI (hg_mo s j).1) (hg_mo s j).2 (hg_fm s j) = J (nI (hg_un s N)) (nI (hg_mo s N).1) (hg_mo s N).2 (hg_fm s N) := by
  intro n
  induction n with
  | zero => intro k j h1 h2; omega
  | succ n ih =>
    intro k j h1 h2 J
    rw [lp_X4_sortOut_75]
    by_cases d : N ≤ j
    · have ej : j = N := by omega
      subst ej
      rw [if_pos ((hp_eI (by omega) (by omega)).mpr d)]
    · have d' : ¬ nI N ≤ nI j := fun e => d ((hp_eI (by omega) (by omega)).mp e)
      have tail : ∀ (al u : Nat) (fm : Int32), al = hg_al s (j + 1) → u = hg_un s (j + 1) → fm = hg_fm s (j + 1) → (if nI al ≤ nI (hg_mo s j).1 then (nm (nI j + 1) fun x18 => lp_X4_sortOut_75 (nI N) s J n (nI al) x18 (nI u) (nI (hg_mo s j).1) (hg_mo s j).2 fm) else (ckI (nI j) 4096 <| nm (s (nI j).toNatClampNeg) fun x19 => nm (nI j + 1) fun x20 => lp_X4_sortOut_75 (nI N) s J n (nI al) x20 (nI u) (nI al) x19 fm)) = J (nI (hg_un s N)) (nI (hg_mo s N).1) (hg_mo s N).2 (hg_fm s N) := by
        intro al u fm h1 h2 h3
        subst h1 h2 h3
        have t := ih (k - 1) (j + 1) (by omega) (by omega) J
        have b1 := hg_al_le s (j + 1)
        have b2 := hg_mo_le s j
        by_cases c : hg_al s (j + 1) ≤ (hg_mo s j).1
        · rw [if_pos ((hp_eI (by omega) (by omega)).mpr c), hp_nm, hp_i1]
          rw [show hg_mo s (j + 1) = hg_mo s j from by rw [hg_mo, if_pos c]] at t
          exact t
        · have c' : ¬ nI (hg_al s (j + 1)) ≤ nI (hg_mo s j).1 := fun e => c ((hp_eI (by omega) (by omega)).mp e)
          rw [if_neg c', hp_ck (show j < 4096 by omega) (by decide), hp_nm, hp_nm, hp_i1, hp_cl (show j < 2147483648 by omega)]
          rw [show hg_mo s (j + 1) = (hg_al s (j + 1), s j) from by rw [hg_mo, if_neg c]] at t
          exact t
      rw [if_neg d', hp_jn, hp_jn]
      by_cases c0 : j = 0
      · subst c0
        rw [if_pos (show nI 0 ≤ 0 from by decide), hp_nm, if_pos (show nI 0 ≤ 0 from by decide)]
        exact tail 1 1 (-1) rfl rfl rfl
      · have c0' : ¬ nI j ≤ 0 := fun e => by
          have := (hp_eI (b := 0) (by omega) (by omega)).mp e
          omega
        have es : nI j - 1 = nI (j - 1) := by rw [show (1 : Int32) = nI 1 from rfl, hp_sI (by omega)]
        have r1 := hg_p1 hr (show j - 1 < N by omega)
        simp only [if_neg c0', es, hp_ck (show j < 4096 by omega) (show 4096 < 2147483648 by decide), hp_ck (show j - 1 < 4096 by omega) (show 4096 < 2147483648 by decide), hp_nm, hp_i1, hp_cl (show j - 1 < 2147483648 by omega), hp_cl (show j < 2147483648 by omega)]
        simp only [hp_ck (show j < 4096 by omega) (show 4096 < 2147483648 by decide), hp_nm, hp_i1, hp_cl (show j < 2147483648 by omega)] at tail
        by_cases c1 : s j = s (j - 1)
        · rw [if_pos c1]
          refine tail (hg_al s j + 1) (hg_un s j) (hg_fm s j) ?_ ?_ ?_
          · rw [hg_al, if_neg c0, if_pos c1]
          · rw [hg_un, if_neg c0, if_pos c1]
          · rw [hg_fm, if_neg c0]
            by_cases c2 : hg_fm s j = -1
            · rw [if_pos c2, if_pos (by rw [hp_le, r1, c1]; omega), c2]
            · rw [if_neg c2]
        · have e1 : (1 : Nat) = hg_al s (j + 1) := by rw [hg_al, if_neg c0, if_neg c1]
          have e2 : hg_un s j + 1 = hg_un s (j + 1) := by rw [hg_un, if_neg c0, if_neg c1]
          rw [if_neg c1]
          by_cases c2 : hg_fm s j = -1
          · rw [if_pos c2]
            by_cases c3 : s j ≤ s (j - 1) + 1
            · rw [if_pos c3]
              exact tail 1 (hg_un s j + 1) (hg_fm s j) e1 e2 (by rw [hg_fm, if_neg c0, if_pos c2, if_pos c3, c2])
            · rw [if_neg c3]
              exact tail 1 (hg_un s j + 1) (s (j - 1) + 1) e1 e2 (by rw [hg_fm, if_neg c0, if_pos c2, if_neg c3])
          · rw [if_neg c2]
            exact tail 1 (hg_un s j + 1) (hg_fm s j) e1 e2 (by rw [hg_fm, if_neg c0, if_neg c2])
theorem hg_so7 {f s : Nat → Int32} {N : Nat} (h0 : 1 ≤ N) (hN : N ≤ 4096) (hr : hg_rng s N) (hs : pf_X4_sort f (nI N) = some s) :
    pf_X4_sortOut f (nI N) = some (s, nI (hg_un s N), nI (hg_mo s N).1, (hg_mo s N).2, s 0, s (N - 1), s (N - 1) - s 0 + 1 - nI (hg_un s N), hg_fm s N) := by
  have hF : N < FU := by unfold FU; omega
  have c0' : ¬ nI N ≤ 0 := fun e => by
    have := (hp_eI (b := 0) (by omega) (by omega)).mp e
    omega
  have es : nI N - 1 = nI (N - 1) := by rw [show (1 : Int32) = nI 1 from rfl, hp_sI (by omega)]
  unfold pf_X4_sortOut
  generalize FU = F at *
  rw [hs, hp_bv1, hp_jn, if_neg c0', show ∀ z : Option ((Nat → Int32) × Int32 × Int32 × Int32 × Int32 × Int32 × Int32 × Int32), ckI 0 4096 z = z from fun z => hp_ck (i := 0) (by decide) (by decide)]
  dsimp only
  rw [hp_jn, if_neg c0', es, hp_ck (show N - 1 < 4096 by omega) (by decide)]
  dsimp only
  rw [hp_jn, hp_cl (by omega)]
  have t := hg_75 hN hr F N 0 (by omega) hF
  refine (t _).trans ?_
  rw [hp_nm]
  rfl
/-- the reference asks -/
theorem hg_un8 {s : Nat → Int32} {N : Nat} (h0 : 1 ≤ N) (hN : N ≤ 2000) : pf_X8_unlikeCodes s (nI N) = some (nI (hg_un s N), ()) := by
  have hF : N < FU := by unfold FU; omega
  have key : ∀ (n k j : Nat), j + k = N → k < n → 1 ≤ j → lp_X8_unlikeCodes_4 (nI N) s n (nI (hg_un s j)) (nI j) = some (nI (hg_un s N), ()) := by
    intro n
    induction n with
    | zero => intro k j h1 h2; omega
    | succ n ih =>
      intro k j h1 h2 h3
      rw [lp_X8_unlikeCodes_4]
      by_cases d : N ≤ j
      · have ej : j = N := by omega
        subst ej
        rw [if_pos ((hp_eI (by omega) (by omega)).mpr d)]
      · have d' : ¬ nI N ≤ nI j := fun e => d ((hp_eI (by omega) (by omega)).mp e)
        have es : nI j - 1 = nI (j - 1) := by rw [show (1 : Int32) = nI 1 from rfl, hp_sI (by omega)]
        have t := ih (k - 1) (j + 1) (by omega) (by omega) (by omega)
        rw [if_neg d', es, hp_ck (show j < 2000 by omega) (by decide), hp_ck (show j - 1 < 2000 by omega) (by decide), hp_cl (show j < 2147483648 by omega), hp_cl (show j - 1 < 2147483648 by omega)]
        by_cases c : s j = s (j - 1)
        · rw [if_pos c, hp_nm, hp_nm, hp_i1, Int32.add_zero]
          rw [hg_un, if_neg (show ¬ j = 0 by omega), if_pos c] at t
          exact t
        · rw [if_neg c, hp_nm, hp_nm, hp_i1, hp_i1]
          rw [hg_un, if_neg (show ¬ j = 0 by omega), if_neg c] at t
          exact t
  unfold pf_X8_unlikeCodes
  generalize FU = F at *
  exact key F (N - 1) 1 (by omega) (by omega) (by omega)
theorem hg_fm_st {s : Nat → Int32} {j : Nat} (h : ¬ hg_fm s j = -1) (hj : 1 ≤ j) : ∀ d, hg_fm s (j + d) = hg_fm s j := by
  intro d
  induction d with
  | zero => rfl
  | succ d ih => rw [show j + (d + 1) = (j + d) + 1 by omega, hg_fm, if_neg (by omega), ih, if_neg h]
theorem hg_fm8 {s : Nat → Int32} {N : Nat} (h0 : 1 ≤ N) (hN : N ≤ 2000) (hr : hg_rng s N) : pf_X8_firstMissing s (nI N) = some (hg_fm s N, ()) := by
  have hF : N < FU := by unfold FU; omega
  unfold pf_X8_firstMissing
  generalize FU = F at *
  rw [hp_jn]
  have key : ∀ (n k j : Nat), j + k = N → k < n → 1 ≤ j → hg_fm s j = -1 → lp_X8_firstMissing_2 (nI N) s (fun (x1 : Int32) => ckI (x1 - 1) 2000 <| some (((s (x1 - 1).toNatClampNeg) + 1), ())) n (nI j) = some (hg_fm s N, ()) := by
    intro n
    induction n with
    | zero => intro k j h1 h2; omega
    | succ n ih =>
      intro k j h1 h2 h3 h4
      rw [lp_X8_firstMissing_2]
      by_cases d : N ≤ j
      · have ej : j = N := by omega
        subst ej
        rw [if_pos ((hp_eI (by omega) (by omega)).mpr d), h4]
      · have d' : ¬ nI N ≤ nI j := fun e => d ((hp_eI (by omega) (by omega)).mp e)
        have es : nI j - 1 = nI (j - 1) := by rw [show (1 : Int32) = nI 1 from rfl, hp_sI (by omega)]
        rw [if_neg d', es, hp_ck (show j < 2000 by omega) (by decide), hp_ck (show j - 1 < 2000 by omega) (by decide), hp_cl (show j < 2147483648 by omega), hp_cl (show j - 1 < 2147483648 by omega)]
        by_cases c : s j ≤ s (j - 1) + 1
        · rw [if_pos c, hp_nm, hp_i1]
          exact ih (k - 1) (j + 1) (by omega) (by omega) (by omega) (by rw [hg_fm, if_neg (show ¬ j = 0 by omega), if_pos h4, if_pos c])
        · rw [if_neg c]
          have e1 : hg_fm s (j + 1) = s (j - 1) + 1 := by rw [hg_fm, if_neg (show ¬ j = 0 by omega), if_pos h4, if_neg c]
          have e2 := hg_fm_st (s := s) (j := j + 1) (by rw [e1]; exact hg_p2 hr (by omega)) (by omega) (N - (j + 1))
          rw [show j + 1 + (N - (j + 1)) = N by omega, e1] at e2
          rw [hp_ck (show j - 1 < 2000 by omega) (by decide), e2]
  exact key F (N - 1) 1 (by omega) (by omega) (by omega) rfl
theorem hg_fl8 {s : Nat → Int32} {N : Nat} (h0 : 1 ≤ N) (hN : N ≤ 2000) : pf_X8_falls s (nI N) = some (hg_fl s N, ()) := by
  have hF : N < FU := by unfold FU; omega
  have key : ∀ (n k j : Nat), j + k = N → k < n → 1 ≤ j → lp_X8_falls_4 (nI N) s n (hg_fl s j) (nI j) = some (hg_fl s N, ()) := by
    intro n
    induction n with
    | zero => intro k j h1 h2; omega
    | succ n ih =>
      intro k j h1 h2 h3
      rw [lp_X8_falls_4]
      by_cases d : N ≤ j
      · have ej : j = N := by omega
        subst ej
        rw [if_pos ((hp_eI (by omega) (by omega)).mpr d)]
      · have d' : ¬ nI N ≤ nI j := fun e => d ((hp_eI (by omega) (by omega)).mp e)
        have es : nI j - 1 = nI (j - 1) := by rw [show (1 : Int32) = nI 1 from rfl, hp_sI (by omega)]
        have t := ih (k - 1) (j + 1) (by omega) (by omega) (by omega)
        rw [if_neg d', es, hp_ck (show j < 2000 by omega) (by decide), hp_ck (show j - 1 < 2000 by omega) (by decide), hp_cl (show j < 2147483648 by omega), hp_cl (show j - 1 < 2147483648 by omega)]
        by_cases c : s (j - 1) ≤ s j
        · rw [if_pos c, hp_nm, hp_nm, hp_i1, Int32.add_zero]
          rw [hg_fl, if_neg (show ¬ j = 0 by omega), if_pos c] at t
          exact t
        · rw [if_neg c, hp_nm, hp_nm, hp_i1]
          rw [hg_fl, if_neg (show ¬ j = 0 by omega), if_neg c] at t
          exact t
  unfold pf_X8_falls
  generalize FU = F at *
  exact key F (N - 1) 1 (by omega) (by omega) (by omega)
theorem hg_ob8 {a g step : Int32} {all cd : Nat → Int32} {k B : Nat} (hB : B ≤ 640) (h5 : all (B + 5) = step) (hk : k < 2000) : pf_X8_offBy a g (nI k) all (nI B) cd = some (hg_f a g step cd k, ()) := by
  unfold pf_X8_offBy
  rw [hp_ck hk (by decide), hp_getl 5 (by omega), hp_bi0, h5, hp_nm, hp_cl (by omega)]
  unfold hg_f hg_v
  split <;> rfl
theorem hg_mo8 {a g step : Int32} {all cd : Nat → Int32} {N B : Nat} (hB : B ≤ 640) (h5 : all (B + 5) = step) (h0 : 1 ≤ N) (hN : N ≤ 2000) : pf_X8_mostOff a g all (nI B) cd (nI N) = some (nI (hg_bi (hg_f a g step cd) N), ()) := by
  have hF : N < FU := by unfold FU; omega
  have key : ∀ (n k j : Nat), j + k = N → k < n → 1 ≤ j → lp_X8_mostOff_5 a g (nI B) (nI N) all cd n (nI (hg_bi (hg_f a g step cd) j)) (nI j) = some (nI (hg_bi (hg_f a g step cd) N), ()) := by
    intro n
    induction n with
    | zero => intro k j h1 h2; omega
    | succ n ih =>
      intro k j h1 h2 h3
      rw [lp_X8_mostOff_5]
      by_cases d : N ≤ j
      · have ej : j = N := by omega
        subst ej
        rw [if_pos ((hp_eI (by omega) (by omega)).mpr d)]
      · have d' : ¬ nI N ≤ nI j := fun e => d ((hp_eI (by omega) (by omega)).mp e)
        have hl := hg_bi_lt (hg_f a g step cd) j (by omega)
        have t := ih (k - 1) (j + 1) (by omega) (by omega) (by omega)
        rw [if_neg d', hg_ob8 hB h5 (by omega), hp_bi0, hg_ob8 hB h5 (by omega), hp_bi0]
        by_cases c : hg_f a g step cd j ≤ hg_f a g step cd (hg_bi (hg_f a g step cd) j)
        · rw [if_pos c, hp_nm, hp_i1]
          rw [hg_bi, if_neg (show ¬ j = 0 by omega), if_pos c] at t
          exact t
        · rw [if_neg c, hp_nm, hp_i1]
          rw [hg_bi, if_neg (show ¬ j = 0 by omega), if_neg c] at t
          exact t
  unfold pf_X8_mostOff
  generalize FU = F at *
  exact key F (N - 1) 1 (by omega) (by omega) (by omega)
theorem hg_co8 {s : Nat → Int32} {w : Int32} {N : Nat} (hN : N ≤ 2000) : pf_X8_countOf w s (nI N) = some (nI (hs_cnt s w N), ()) := by
  have hF : N < FU := by unfold FU; omega
  have key : ∀ (n k j : Nat), j + k = N → k < n → lp_X8_countOf_4 w (nI N) s n (nI (hs_cnt s w j)) (nI j) = some (nI (hs_cnt s w N), ()) := by
    intro n
    induction n with
    | zero => intro k j h1 h2; omega
    | succ n ih =>
      intro k j h1 h2
      rw [lp_X8_countOf_4]
      by_cases d : N ≤ j
      · have ej : j = N := by omega
        subst ej
        rw [if_pos ((hp_eI (by omega) (by omega)).mpr d)]
      · have d' : ¬ nI N ≤ nI j := fun e => d ((hp_eI (by omega) (by omega)).mp e)
        have t := ih (k - 1) (j + 1) (by omega) (by omega)
        rw [if_neg d', hp_ck (show j < 2000 by omega) (by decide), hp_cl (show j < 2147483648 by omega)]
        by_cases c : s j = w
        · rw [if_pos c, hp_nm, hp_nm, hp_i1, hp_i1]
          rw [hs_cnt, if_pos c] at t
          exact t
        · rw [if_neg c, hp_nm, hp_nm, hp_i1, Int32.add_zero]
          rw [hs_cnt, if_neg c] at t
          exact t
  unfold pf_X8_countOf
  generalize FU = F at *
  exact key F N 0 (by omega) (by omega)
theorem hg_co7 {s : Nat → Int32} {w : Int32} {N : Nat} (hN : N ≤ 4096) : pf_X4_howOften w s (nI N) = some (nI (hs_cnt s w N), ()) := by
  have hF : N < FU := by unfold FU; omega
  have key : ∀ (n k j : Nat), j + k = N → k < n → lp_X4_howOften_4 w (nI N) s n (nI (hs_cnt s w j)) (nI j) = some (nI (hs_cnt s w N), ()) := by
    intro n
    induction n with
    | zero => intro k j h1 h2; omega
    | succ n ih =>
      intro k j h1 h2
      rw [lp_X4_howOften_4]
      by_cases d : N ≤ j
      · have ej : j = N := by omega
        subst ej
        rw [if_pos ((hp_eI (by omega) (by omega)).mpr d)]
      · have d' : ¬ nI N ≤ nI j := fun e => d ((hp_eI (by omega) (by omega)).mp e)
        have t := ih (k - 1) (j + 1) (by omega) (by omega)
        rw [if_neg d', hp_ck (show j < 4096 by omega) (by decide), hp_cl (show j < 2147483648 by omega)]
        by_cases c : s j = w
        · rw [if_pos c, hp_nm, hp_nm, hp_i1, hp_i1]
          rw [hs_cnt, if_pos c] at t
          exact t
        · rw [if_neg c, hp_nm, hp_i1]
          rw [hs_cnt, if_neg c, Nat.add_zero] at t
          exact t
  unfold pf_X4_howOften
  generalize FU = F at *
  exact key F N 0 (by omega) (by omega)
theorem hg_mf8 {s : Nat → Int32} {N : Nat} (h0 : 1 ≤ N) (hN : N ≤ 2000) : pf_X8_mostOften s (nI N) = some ((hg_mo s N).2, ()) := by
  have hF : N < FU := by unfold FU; omega
  have key : ∀ (n k j : Nat), j + k = N → k < n → lp_X8_mostOften_14 (nI N) s n (if j = 0 then s 0 else (hg_mo s j).2) (nI (hg_mo s j).1) (nI (hg_al s j)) (nI j) = some ((hg_mo s N).2, ()) := by
    intro n
    induction n with
    | zero => intro k j h1 h2; omega
    | succ n ih =>
      intro k j h1 h2
      rw [lp_X8_mostOften_14]
      by_cases d : N ≤ j
      · have ej : j = N := by omega
        subst ej
        rw [if_pos ((hp_eI (by omega) (by omega)).mpr d), if_neg (by omega)]
      · have d' : ¬ nI N ≤ nI j := fun e => d ((hp_eI (by omega) (by omega)).mp e)
        have tail : ∀ al : Nat, al = hg_al s (j + 1) → (if nI (hg_mo s j).1 < nI al then (ckI (nI j) 2000 <| nm (s (nI j).toNatClampNeg) fun x7 => nm (nI j + 1) fun x8 => lp_X8_mostOften_14 (nI N) s n x7 (nI al) (nI al) x8) else (nm (nI j + 1) fun x9 => lp_X8_mostOften_14 (nI N) s n (if j = 0 then s 0 else (hg_mo s j).2) (nI (hg_mo s j).1) (nI al) x9)) = some ((hg_mo s N).2, ()) := by
          intro al h1
          subst h1
          have t := ih (k - 1) (j + 1) (by omega) (by omega)
          have b1 := hg_al_le s (j + 1)
          have b2 := hg_mo_le s j
          rw [if_neg (show ¬ j + 1 = 0 by omega)] at t
          by_cases c : hg_al s (j + 1) ≤ (hg_mo s j).1
          · have c' : ¬ nI (hg_mo s j).1 < nI (hg_al s (j + 1)) := fun e => by
              have := (hp_lI (by omega) (by omega)).mp e
              omega
            have hj0 : ¬ j = 0 := by
              intro e; subst e
              have : hg_al s (0 + 1) = 1 := rfl
              rw [this] at c
              have : (hg_mo s 0).1 = 0 := rfl
              omega
            rw [if_neg c', hp_nm, hp_i1, if_neg hj0]
            rw [show hg_mo s (j + 1) = hg_mo s j from by rw [hg_mo, if_pos c]] at t
            exact t
          · have c' : nI (hg_mo s j).1 < nI (hg_al s (j + 1)) := (hp_lI (by omega) (by omega)).mpr (by omega)
            rw [if_pos c', hp_ck (show j < 2000 by omega) (by decide), hp_nm, hp_nm, hp_i1, hp_cl (show j < 2147483648 by omega)]
            rw [show hg_mo s (j + 1) = (hg_al s (j + 1), s j) from by rw [hg_mo, if_neg c]] at t
            exact t
        rw [if_neg d', hp_jn, hp_jn]
        by_cases c0 : j = 0
        · rw [if_pos (show nI j ≤ 0 from by rw [c0]; decide)]
          exact tail 1 (by rw [hg_al, if_pos c0])
        · have c0' : ¬ nI j ≤ 0 := fun e => by
            have := (hp_eI (b := 0) (by omega) (by omega)).mp e
            omega
          have es : nI j - 1 = nI (j - 1) := by rw [show (1 : Int32) = nI 1 from rfl, hp_sI (by omega)]
          rw [if_neg c0', es, hp_ck (show j < 2000 by omega) (by decide), hp_ck (show j - 1 < 2000 by omega) (by decide), hp_cl (show j < 2147483648 by omega), hp_cl (show j - 1 < 2147483648 by omega)]
          rw [hp_cl (show j < 2147483648 by omega)] at tail
          by_cases c : s j = s (j - 1)
          · rw [if_pos c]
            dsimp only
            rw [show nI (hg_al s j) + 1 = nI (hg_al s j + 1) from hp_i1 _]
            exact tail (hg_al s j + 1) (by rw [hg_al, if_neg c0, if_pos c])
          · rw [if_neg c]
            exact tail 1 (by rw [hg_al, if_neg c0, if_neg c])
  unfold pf_X8_mostOften
  generalize FU = F at *
  rw [show ∀ z : Option (Int32 × Unit), ckI 0 2000 z = z from fun z => hp_ck (i := 0) (by decide) (by decide), hp_nm]
  have t := key F N 0 (by omega) (by omega)
  rw [if_pos rfl] at t
  exact t
/-- the longest run of a sorted row is how often that comes -/
theorem hg_mc {s : Nat → Int32} {N : Nat} (hs : hs_so s N) : ∀ j, j ≤ N → 1 ≤ j → (hg_mo s j).1 = hs_cnt s (hg_mo s j).2 j ∧ hg_al s j = hs_cnt s (s (j - 1)) j ∧ hg_al s j ≤ (hg_mo s j).1 := by
  intro j
  induction j with
  | zero => intro _ h; omega
  | succ j ih =>
    intro h1 h2
    by_cases c0 : j = 0
    · subst c0
      have e1 : hg_al s 1 = 1 := rfl
      have e2 : hg_mo s 1 = (1, s 0) := rfl
      have e3 : hs_cnt s (s 0) 1 = 1 := by simp only [hs_cnt, if_true]
      refine ⟨by rw [e2]; exact e3.symm, by rw [e1]; exact e3.symm, by rw [e1, e2]; exact Nat.le_refl 1⟩
    · obtain ⟨i1, i2, i3⟩ := ih (by omega) (by omega)
      have ea : hg_al s (j + 1) = hs_cnt s (s j) (j + 1) := by
        rw [hg_al, if_neg c0, hs_cnt, if_pos rfl]
        by_cases c : s j = s (j - 1)
        · rw [if_pos c, i2, c]
        · rw [if_neg c]
          have : ¬ 0 < hs_cnt s (s j) j := by
            rw [hs_cnt_pos]
            rintro ⟨i, a, b⟩
            have t1 := hs_so_le' hs (show i ≤ j - 1 by omega) (by omega)
            have t2 := hs_so_le' hs (show j - 1 ≤ j by omega) (by omega)
            rw [b] at t1
            exact c (by rw [hp_eq]; omega)
          omega
      have el : j + 1 - 1 = j := by omega
      rw [el]
      rw [hg_mo]
      by_cases c : hg_al s (j + 1) ≤ (hg_mo s j).1
      · rw [if_pos c]
        refine ⟨?_, ea, c⟩
        rw [hs_cnt]
        by_cases c2 : s j = (hg_mo s j).2
        · exfalso
          rw [ea, c2, hs_cnt, if_pos c2, ← i1] at c
          omega
        · rw [if_neg c2, Nat.add_zero]; exact i1
      · rw [if_neg c]
        exact ⟨ea, ea, Nat.le_refl _⟩
/-- none is missing just where each follows the one ahead -/
theorem hg_gap {s : Nat → Int32} {N : Nat} (hs : hs_so s N) (hr : hg_rng s N) : ∀ j, j ≤ N → 1 ≤ j → 0 ≤ (s (j - 1)).toInt - (s 0).toInt + 1 - hg_un s j ∧ ((s (j - 1)).toInt - (s 0).toInt + 1 - hg_un s j = 0 ↔ hg_fm s j = -1) := by
  intro j
  induction j with
  | zero => intro _ h; omega
  | succ j ih =>
    intro h1 h2
    by_cases c0 : j = 0
    · subst c0
      have e1 : hg_un s 1 = 1 := rfl
      have e2 : hg_fm s 1 = -1 := rfl
      rw [e1, e2]
      simp
    · obtain ⟨i1, i2⟩ := ih (by omega) (by omega)
      have el : j + 1 - 1 = j := by omega
      have r1 := hg_p1 hr (show j - 1 < N by omega)
      have m := hs_so_le' hs (show j - 1 ≤ j by omega) (by omega)
      rw [el, hg_un, if_neg c0, hg_fm, if_neg c0]
      by_cases c : s j = s (j - 1)
      · rw [if_pos c, c]
        refine ⟨i1, ?_⟩
        by_cases c2 : hg_fm s j = -1
        · rw [if_pos c2, if_pos (by rw [hp_le, r1]; omega)]
          rw [i2, c2]
        · rw [if_neg c2]; exact i2
      · rw [if_neg c]
        have hlt : (s (j - 1)).toInt < (s j).toInt := by
          rw [hp_eq] at c; omega
        refine ⟨by omega, ?_⟩
        by_cases c2 : hg_fm s j = -1
        · rw [if_pos c2]
          have z := i2.mpr c2
          by_cases c3 : s j ≤ s (j - 1) + 1
          · rw [if_pos c3]
            rw [hp_le, r1] at c3
            constructor
            · intro _; rfl
            · intro _; omega
          · rw [if_neg c3]
            rw [hp_le, r1] at c3
            constructor
            · intro h; omega
            · intro h; exact absurd h (hg_p2 hr (by omega))
        · rw [if_neg c2]
          constructor
          · intro h
            exact absurd (i2.mp (by omega)) c2
          · intro h; exact absurd h c2
