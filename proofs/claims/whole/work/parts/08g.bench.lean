/-! BENCH. All acts are read; what acts tell. -/
theorem hy_loop {bytes tape : Nat → Int32} {m : Nat} (h : hx_B bytes tape m) : ∀ (n p k : Nat) (num : Int32) (kd on tw ac aA aB : Nat → Int32), m - p < n → p ≤ m → k ≤ 40 → hy_R k kd on tw ac aA aB →
    (∃ (k' : Nat) (num' : Int32) (kd' on' tw' ac' aA' aB' : Nat → Int32), k' ≤ 40 ∧ hy_R k' kd' on' tw' ac' aA' aB' ∧
      lp_X0_read_11 (nI m) bytes n (nI k) (nI k) kd on tw (nI p) (-1) = some (nI k', kd', on', tw', nI m, -1) ∧
      lp_X8_readBench_15 (nI m) tape n (nI p) (-1) num ac aA aB (nI k) = some (1, nI m, -1, num', ac', aA', aB', nI k')) ∨
    (∃ q : Nat, q ≤ m ∧ (∃ c kd' on' tw' at7, lp_X0_read_11 (nI m) bytes n (nI k) (nI k) kd on tw (nI p) (-1) = some (c, kd', on', tw', at7, nI q)) ∧
      (∃ at8 n8 ac' aA' aB' k8, lp_X8_readBench_15 (nI m) tape n (nI p) (-1) num ac aA aB (nI k) = some (0, at8, nI q, n8, ac', aA', aB', k8))) := by
  have hm := h.1
  intro n
  induction n with
  | zero => intro p k num kd on tw ac aA aB h1; omega
  | succ n ih =>
    intro p k num kd on tw ac aA aB h1 h2 h3 R
    have c4 : ¬ (40 : Int32) < nI k := by rw [hp_lt, hp_nT (by omega), show (40 : Int32).toInt = 40 from by decide]; omega
    rw [lp_X0_read_11, lp_X8_readBench_15, if_neg c4, hx_go hm h2, hp_bi0]
    by_cases c : p < m
    · rw [hp_bt c, if_neg (by decide), if_neg (fun e => by have := (hp_eI (by omega) (by omega)).mp e; omega)]
      rcases hy_act (num := num) h c h3 R with ⟨p', kd', on', tw', n', ac', aA', aB', i1, i2, i3, e7, e8, R'⟩ | ⟨q, q1, ⟨c', kd', on', tw', at7, e7⟩, ⟨at8, n8, ac', aA', aB', k8, e8⟩⟩
      · rw [e7, e8, hp_bv6, hp_bi7, if_neg (by decide), hp_nm, hp_i1]
        exact ih p' (k + 1) n' kd' on' tw' ac' aA' aB' (by omega) i2 (by omega) R'
      · rw [e7, e8, hp_bv6, hp_bi7, if_pos rfl, hp_nm]
        refine Or.inr ⟨q, q1, ?_, ⟨_, _, _, _, _, _, rfl⟩⟩
        obtain ⟨n, rfl⟩ : ∃ g, n = g + 1 := ⟨n - 1, by omega⟩
        rw [lp_X0_read_11]
        by_cases e : (40 : Int32) < nI k + 1
        · rw [if_pos e]; exact ⟨_, _, _, _, _, rfl⟩
        · rw [if_neg e, hx_gof (by omega), hp_bi0, if_pos rfl]; exact ⟨_, _, _, _, _, rfl⟩
    · have e : p = m := by omega
      subst e
      rw [hp_bf c, if_pos rfl, if_pos ((hp_eI (by omega) (by omega)).mpr h2)]
      exact Or.inl ⟨k, num, kd, on, tw, ac, aA, aB, h3, R, rfl, rfl⟩
theorem op_acts {bytes tape : Nat → Int32} {m : Nat} (h : hx_B bytes tape m) (num : Int32) (kd on tw ac aA aB : Nat → Int32) :
    (∃ (k' : Nat) (num' : Int32) (kd' on' tw' ac' aA' aB' : Nat → Int32), k' ≤ 40 ∧ hy_R k' kd' on' tw' ac' aA' aB' ∧
      pf_X0_read kd on tw bytes (nI m) = some (nI k', kd', on', tw', nI m, -1) ∧ pf_X8_readBench tape (nI m) num ac aA aB = some (1, nI m, -1, num', ac', aA', aB', nI k')) ∨
    (∃ q : Nat, q ≤ m ∧ (∃ c kd' on' tw' at7, pf_X0_read kd on tw bytes (nI m) = some (c, kd', on', tw', at7, nI q)) ∧
      (∃ at8 n8 ac' aA' aB' k8, pf_X8_readBench tape (nI m) num ac aA aB = some (0, at8, nI q, n8, ac', aA', aB', k8))) := by
  have hm := h.1
  have hF : 500 < FU := by unfold FU; omega
  have L := hy_loop h FU 0 0 num kd on tw ac aA aB (by omega) (by omega) (by omega) (fun i hi => by omega)
  unfold pf_X0_read pf_X8_readBench
  generalize FU = F at *
  rw [show pf_X5_rewind = some (0, -1) from rfl, hp_bv2]
  exact L
/-! What acts tell. -/
theorem hy_fg {b : Nat} {sz : Nat → Int32} (hb : b ≤ 12) : ∀ (n x j : Nat) (f : Nat → Int32) (r : Int32) (g : Nat → Int32), lp_X7_forget_4 (nI b) sz n (nI x) (nI j) f = some (r, g) → x ≤ j → j ≤ b → ∃ k : Nat, k ≤ 12 ∧ r = nI k := by
  intro n
  induction n with
  | zero => intro x j f r g e; exact pf_no e
  | succ n ih =>
    intro x j f r g e h1 h2
    rw [lp_X7_forget_4] at e
    by_cases c : b ≤ j
    · rw [if_pos ((hp_eI (by omega) (by omega)).mpr c)] at e
      cases e
      exact ⟨x, by omega, rfl⟩
    · rw [if_neg (fun d => c ((hp_eI (by omega) (by omega)).mp d)), hp_ck (show j < 12 by omega) (by decide), hp_ck (show j < 12 by omega) (by decide), hp_jn] at e
      have cc : ∀ {α : Type} (x : Option α), ckI (nI j) 12 x = x := fun x => hp_ck (by omega) (by decide)
      split at e
      · dsimp only at e
        rw [cc, hp_nm, cc, hp_nm, hp_i1] at e
        exact ih x (j + 1) _ r g e (by omega) (by omega)
      · rw [hp_nm, show nI x + 1 = nI (x + 1) from hp_i1 x] at e
        dsimp only at e
        rw [cc, hp_nm, cc, hp_nm, hp_i1] at e
        exact ih (x + 1) (j + 1) _ r g e (by omega) (by omega)
theorem hy_fgr {b : Nat} {sz wo g : Nat → Int32} {r : Int32} (hb : b ≤ 12) (e : pf_X7_forget (nI b) sz wo = some (r, g)) : ∃ k : Nat, k ≤ 12 ∧ r = nI k := by
  unfold pf_X7_forget at e
  generalize FU = F at *
  exact hy_fg hb F 0 0 wo r g e (by omega) (by omega)
theorem hy_ln {b : Nat} {x4 x5 x10 x11 x12 x13 x14 x15 : Int32} {of sz f3 f6 f7 f8 f9 : Nat → Int32} (hb : b ≤ 12) : ∀ (n x j : Nat) R, lp_X7_learn_45 (nI b) of sz f3 x4 x5 f6 f7 f8 f9 x10 x11 x12 x13 x14 x15 n (nI x) (nI j) = some R → x ≤ j → j ≤ b → ∃ k : Nat, k ≤ 12 ∧ R.1 = nI k := by
  intro n
  induction n with
  | zero => intro x j R e; exact pf_no e
  | succ n ih =>
    intro x j R e h1 h2
    rw [lp_X7_learn_45] at e
    by_cases c : b ≤ j
    · rw [if_pos ((hp_eI (by omega) (by omega)).mpr c)] at e
      cases e
      exact ⟨x, by omega, rfl⟩
    · rw [if_neg (fun d => c ((hp_eI (by omega) (by omega)).mp d))] at e
      obtain ⟨r18, -, e⟩ := pf_bi_0 e
      split at e
      · rw [hp_nm, hp_i1] at e
        exact ih x (j + 1) R e (by omega) (by omega)
      · rw [hp_nm, hp_nm, hp_i1, hp_i1] at e
        exact ih (x + 1) (j + 1) R e (by omega) (by omega)
