/-! apart. -/
theorem hp_abs {d : Int32} (h : -2000000000 ≤ d.toInt ∧ d.toInt ≤ 2000000000) : 0 ≤ (if 0 ≤ d then d else 0 - d).toInt ∧ (if 0 ≤ d then d else 0 - d).toInt ≤ 2000000000 ∧ (if 0 ≤ d then d else -d) = (if 0 ≤ d then d else 0 - d) := by
  have l0 : (0 : Int32).toInt = 0 := by decide
  rw [Int32.zero_sub]
  by_cases c : 0 ≤ d
  · rw [if_pos c]
    rw [hp_le, l0] at c
    exact ⟨c, h.2, rfl⟩
  · rw [if_neg c]
    rw [hp_le, l0] at c
    rw [hp_neg (by omega)]
    exact ⟨by omega, by omega, rfl⟩
theorem hp_apl {b bk k : Nat} {c ck : Nat → Int32} {A Ak : Nat → Nat → Int32} {all : Nat → Int32} {y : Int32} (h : hp_RC b c A all 0) (hc : hp_CI b c A) (hk : k < 3) (h2 : hp_RC bk ck Ak all (160 * (1 + k))) (hc2 : hp_CI bk ck Ak) (hy : y.toInt ≤ 100000) :
    ∀ (n m : Nat) (z fi fa : Int32) (dec wl ao hb : Nat → Int32) (s hd : Int32), -100000 ≤ z.toInt → z.toInt ≤ y.toInt + 1 → y.toInt - z.toInt + 1 < n → (m : Int) + (y.toInt - z.toInt + 1) ≤ 300000 → 0 ≤ fa.toInt →
    ∃ m' fi' fa' dec' wl' ao' hb' s' hd', (∀ J, lp_X7_apart_k_68 (nI k) y (nI b) (c 5) (c 9) (nI bk) (ck 5) (ck 9) (Ak 2) (Ak 1) (Ak 4) (Ak 3) (A 2) (A 1) (A 4) (A 3) J n (nI m) fi fa z = J m' fi' fa') ∧
      (∀ J, lp_X8_apart_80 (nI k) y (-1) J n (nI m) fi fa z all 0 dec wl ao hb s hd 0 = J m' fi' fa' all 0 dec' wl' ao' hb' s' hd' 0) := by
  intro n
  induction n with
  | zero => intro m z fi fa dec wl ao hb s hd h1 h2; omega
  | succ n ih =>
    intro m z fi fa dec wl ao hb s hd z1 z2 z3 z4 z5
    have l0 : (0 : Int32).toInt = 0 := by decide
    have l1 : (1 : Int32).toInt = 1 := by decide
    by_cases g : y < z
    · refine ⟨nI m, fi, fa, dec, wl, ao, hb, s, hd, fun J => ?_, fun J => ?_⟩
      · rw [lp_X7_apart_k_68, if_pos g]
      · rw [lp_X8_apart_80, if_pos g]
    · have g' := g
      rw [hp_lt] at g'
      obtain ⟨d1, w1, a1, b1, s1, h1', e1⟩ := hp_pc80 (turned := -1) h hc (x := z) (by omega) dec wl ao hb
      obtain ⟨d2, w2, a2, b2, s2, h2', e2⟩ := hp_pc8 (turned := -1) (B := 160 * (1 + k)) h2 hc2 (by omega) (x := z) (by omega) d1 w1 a1 b1
      have e3 := hp_pc7 (x := z) h.2.2.1 hc
      have e4 := hp_pc7 (x := z) h2.2.2.1 hc2
      have m1 : (160 : Int32) * (1 + nI k) = nI (160 * (1 + k)) := by
        rw [show (1 : Int32) + nI k = nI (1 + k) from nI_add 1 k]; exact hp_mI 160 (1 + k)
      obtain ⟨p1, -, p2⟩ := hg_PCb (t := -1) (x := z) h.2.2.1 hc
      obtain ⟨p3, -, p4⟩ := hg_PCb (t := -1) (x := z) h2.2.2.1 hc2
      have ed : (hp_PC b c A (-1) z - hp_PC bk ck Ak (-1) z).toInt = (hp_PC b c A (-1) z).toInt - (hp_PC bk ck Ak (-1) z).toInt := hp_sub (by omega) (by omega)
      generalize hp_PC b c A (-1) z = C1 at *
      generalize hp_PC bk ck Ak (-1) z = C2 at *
      obtain ⟨f1, f2, f3⟩ := hp_abs (d := C1 - C2) (by omega)
      have ez : (z + 1).toInt = z.toInt + 1 := by rw [hp_add (by rw [l1]; omega) (by rw [l1]; omega), l1]
      have em : nI m + 1 = nI (m + 1) := hp_i1 m
      have em1 : (nI (m + 1) = 1) = (m = 0) := by
        apply propext
        have := hp_qI (a := m + 1) (b := 1) (by omega) (by omega)
        rw [show (1 : Int32) = nI 1 from rfl, this]; omega
      have em0 : (nI m = 0) = (m = 0) := by
        rw [show (0 : Int32) = nI 0 from rfl]; exact hp_qI (by omega) (by omega)
      -- the reference's end, far being known
      have r8 : ∀ J, lp_X8_apart_80 (nI k) y (-1) J (n + 1) (nI m) fi fa z all 0 dec wl ao hb s hd 0 = (if (if 0 ≤ C1 - C2 then C1 - C2 else 0 - (C1 - C2)) = 0 then lp_X8_apart_80 (nI k) y (-1) J n (nI m) fi fa (z + 1) all 0 d2 w2 a2 b2 s2 h2' 0 else lp_X8_apart_80 (nI k) y (-1) J n (nI (m + 1)) (if m = 0 then z else fi) (if (if 0 ≤ C1 - C2 then C1 - C2 else 0 - (C1 - C2)) ≤ fa then fa else (if 0 ≤ C1 - C2 then C1 - C2 else 0 - (C1 - C2))) (z + 1) all 0 d2 w2 a2 b2 s2 h2' 0) := by
        intro J
        rw [lp_X8_apart_80, if_neg g, e1, hp_bi8, hp_nm, m1, e2, hp_bi8, hp_nm, hp_jn]
        have tail : ∀ x, x = (if 0 ≤ C1 - C2 then C1 - C2 else 0 - (C1 - C2)) → (if x = 0 then nm (z + 1) fun x55 => lp_X8_apart_80 (nI k) y (-1) J n (nI m) fi fa x55 all 0 d2 w2 a2 b2 s2 h2' 0 else nm (nI m + 1) fun x51 => jn (fun (x52 : Int32) => if x ≤ fa then nm (z + 1) fun x53 => lp_X8_apart_80 (nI k) y (-1) J n x51 x52 fa x53 all 0 d2 w2 a2 b2 s2 h2' 0 else nm (z + 1) fun x54 => lp_X8_apart_80 (nI k) y (-1) J n x51 x52 x x54 all 0 d2 w2 a2 b2 s2 h2' 0) fun J160 => if x51 = 1 then J160 z else J160 fi) = (if (if 0 ≤ C1 - C2 then C1 - C2 else 0 - (C1 - C2)) = 0 then lp_X8_apart_80 (nI k) y (-1) J n (nI m) fi fa (z + 1) all 0 d2 w2 a2 b2 s2 h2' 0 else lp_X8_apart_80 (nI k) y (-1) J n (nI (m + 1)) (if m = 0 then z else fi) (if (if 0 ≤ C1 - C2 then C1 - C2 else 0 - (C1 - C2)) ≤ fa then fa else (if 0 ≤ C1 - C2 then C1 - C2 else 0 - (C1 - C2))) (z + 1) all 0 d2 w2 a2 b2 s2 h2' 0) := by
          intro x hx
          rw [← hx]
          simp only [hp_nm, hp_jn, em, em1]
          by_cases c1 : x = 0
          · simp only [if_pos c1]
          · simp only [if_neg c1]
            by_cases c2 : m = 0
            · simp only [if_pos c2]
              by_cases c3 : x ≤ fa
              · simp only [if_pos c3]
              · simp only [if_neg c3]
            · simp only [if_neg c2]
              by_cases c3 : x ≤ fa
              · simp only [if_pos c3]
              · simp only [if_neg c3]
        by_cases c0 : 0 ≤ C1 - C2
        · rw [if_pos c0]; exact tail _ (by rw [if_pos c0])
        · rw [if_neg c0]; exact tail _ (by rw [if_neg c0, Int32.zero_sub])
      have r7 : ∀ J, lp_X7_apart_k_68 (nI k) y (nI b) (c 5) (c 9) (nI bk) (ck 5) (ck 9) (Ak 2) (Ak 1) (Ak 4) (Ak 3) (A 2) (A 1) (A 4) (A 3) J (n + 1) (nI m) fi fa z = (if (if 0 ≤ C1 - C2 then C1 - C2 else 0 - (C1 - C2)) = 0 then lp_X7_apart_k_68 (nI k) y (nI b) (c 5) (c 9) (nI bk) (ck 5) (ck 9) (Ak 2) (Ak 1) (Ak 4) (Ak 3) (A 2) (A 1) (A 4) (A 3) J n (nI m) fi fa (z + 1) else lp_X7_apart_k_68 (nI k) y (nI b) (c 5) (c 9) (nI bk) (ck 5) (ck 9) (Ak 2) (Ak 1) (Ak 4) (Ak 3) (A 2) (A 1) (A 4) (A 3) J n (nI (m + 1)) (if m = 0 then z else fi) (if (if 0 ≤ C1 - C2 then C1 - C2 else 0 - (C1 - C2)) ≤ fa then fa else (if 0 ≤ C1 - C2 then C1 - C2 else 0 - (C1 - C2))) (z + 1)) := by
        intro J
        rw [lp_X7_apart_k_68, if_neg g, e3, hp_bi0, hp_ck (show k < 3 by omega) (by decide), e4, hp_bi0]
        generalize (if 0 ≤ C1 - C2 then C1 - C2 else 0 - (C1 - C2)) = x at *
        simp only [hp_nm, hp_jn, em, em0]
        by_cases c1 : x = 0
        · simp only [if_pos c1]
          rw [if_neg (show ¬ fa < x by rw [c1, hp_lt, l0]; omega)]
        · simp only [if_neg c1]
          have cv : (if fa < x then x else fa) = (if x ≤ fa then fa else x) := by
            by_cases c3 : x ≤ fa
            · rw [if_pos c3, if_neg (show ¬ fa < x by rw [hp_lt]; rw [hp_le] at c3; omega)]
            · rw [if_neg c3, if_pos (show fa < x by rw [hp_lt]; rw [hp_le] at c3; omega)]
          rw [cv]
          by_cases c2 : m = 0
          · simp only [if_pos c2]
          · simp only [if_neg c2]
      generalize (if 0 ≤ C1 - C2 then C1 - C2 else 0 - (C1 - C2)) = x at *
      by_cases c1 : x = 0
      · simp only [if_pos c1] at r7 r8
        obtain ⟨m', fi', fa', d3, w3, a3, b3, s3, h3, t1, t2⟩ := ih m (z + 1) fi fa d2 w2 a2 b2 s2 h2' (by omega) (by omega) (by omega) (by omega) z5
        exact ⟨m', fi', fa', d3, w3, a3, b3, s3, h3, fun J => (r7 J).trans (t1 J), fun J => (r8 J).trans (t2 J)⟩
      · simp only [if_neg c1] at r7 r8
        have hfa : 0 ≤ (if x ≤ fa then fa else x).toInt := by split <;> omega
        obtain ⟨m', fi', fa', d3, w3, a3, b3, s3, h3, t1, t2⟩ := ih (m + 1) (z + 1) (if m = 0 then z else fi) (if x ≤ fa then fa else x) d2 w2 a2 b2 s2 h2' (by omega) (by omega) (by omega) (by omega) hfa
        exact ⟨m', fi', fa', d3, w3, a3, b3, s3, h3, fun J => (r7 J).trans (t1 J), fun J => (r8 J).trans (t2 J)⟩
theorem hp_kept1 {i : Int32} {kp : Nat → Option Nat} {k : Nat} (hk : k < 3) (hi : i = nI k) : pf_X7_isKept i kp = some (hp_b (¬ kp k = none), ()) := by
  unfold pf_X7_isKept
  have h1 : (0 : Int32) ≤ i ∧ i ≤ 2 := by
    rw [hi]
    exact ⟨(hp_eI (a := 0) (by omega) (by omega)).mpr (by omega), (hp_eI (b := 2) (by omega) (by omega)).mpr (by omega)⟩
  rw [hp_within, hp_bi0, hp_bt h1, if_neg (by decide), hi, hp_ck hk (by decide), hp_cl (by omega)]
  by_cases c : kp k = none
  · rw [if_pos c, hp_bf (not_not_intro c)]
  · rw [if_neg c, hp_bt c]
theorem hp_kept0 {i : Int32} {kp : Nat → Option Nat} (hi : ¬ ((0 : Int32) ≤ i ∧ i ≤ 2)) : pf_X7_isKept i kp = some (0, ()) := by
  unfold pf_X7_isKept
  rw [hp_within, hp_bi0, hp_bf hi, if_pos rfl]
theorem op_apart_k {b bk k : Nat} {c ck : Nat → Int32} {A Ak : Nat → Nat → Int32} {all : Nat → Int32} {kp : Nat → Option Nat} {kp8 : Nat → Int32} (x y w : Int32) (h : hp_RC b c A all 0) (hc : hp_CI b c A) (hk : k < 3) (h2 : hp_RC bk ck Ak all (160 * (1 + k))) (hc2 : hp_CI bk ck Ak) (k1 : ¬ kp k = none) (k2 : ¬ kp8 k = 0) (dec wl ao hb : Nat → Int32) (s hd : Int32) :
    ∃ r dec' wl' ao' hb' s' hd', pf_X7_apart_k (nI k) x y w kp (ck 0) (Ak 1) (Ak 2) (Ak 3) (Ak 4) (ck 5) (ck 9) (c 0) (A 1) (A 2) (A 3) (A 4) (c 5) (c 9) = some (r, ()) ∧
      pf_X8_apart (nI k) x y w all 0 dec wl ao hb s hd 0 (-1) kp8 = some (r, all, 0, dec', wl', ao', hb', s', hd', 0) := by
  obtain ⟨q1, q2, q3, q4, -⟩ := id h
  obtain ⟨r1, r2, r3, r4, -⟩ := id h2
  have l1 : (1 : Int32).toInt = 1 := by decide
  have m1 : (160 : Int32) * (1 + nI k) = nI (160 * (1 + k)) := by
    rw [show (1 : Int32) + nI k = nI (1 + k) from nI_add 1 k]; exact hp_mI 160 (1 + k)
  have hi : (0 : Int32) ≤ nI k ∧ nI k ≤ 2 := ⟨(hp_eI (a := 0) (by omega) (by omega)).mpr (by omega), (hp_eI (b := 2) (by omega) (by omega)).mpr (by omega)⟩
  have nop : ∃ r dec' wl' ao' hb' s' hd', some ((-1000000 : Int32), ()) = some (r, ()) ∧ some ((-1000000 : Int32), all, (0 : Int32), dec, wl, ao, hb, s, hd, (0 : Int32)) = some (r, all, 0, dec', wl', ao', hb', s', hd', 0) := ⟨_, dec, wl, ao, hb, s, hd, rfl, rfl⟩
  unfold pf_X7_apart_k pf_X8_apart
  rw [q1, r1, hp_isIn, hp_bi0, hp_bt hi, if_neg (show ¬ (1 : Int32) = 0 by decide), hp_ck hk (by decide), hp_cl (show k < 2147483648 by omega), if_neg k2, hp_get0l 0 (by omega), hp_bi0, q2, m1, Int32.add_zero, hp_ck (show 160 * (1 + k) < 800 by omega) (by decide), hp_cl (show 160 * (1 + k) < 2147483648 by omega), r2, hp_isRow, hp_kept1 hk rfl, hp_bi0, hp_bt k1, if_neg (show ¬ (1 : Int32) = 0 by decide), hp_ck hk (by decide)]
  obtain ⟨t, ht, e1, e2⟩ := hp_span x y 1
  rw [e1, hp_bi0, hp_bi0, hp_within, hp_isIn, hp_bi0, hp_bi0]
  simp only [hp_b0]
  by_cases c1 : nI b = 0
  · rw [if_pos c1, if_pos c1]; exact nop
  · rw [if_neg c1, if_neg c1]
    by_cases c3 : t
    · rw [if_neg (not_not_intro c3), if_neg (not_not_intro c3)]
      by_cases c4 : (0 : Int32) ≤ w ∧ w ≤ 2
      · rw [if_neg (not_not_intro c4), if_neg (not_not_intro c4)]
        by_cases c2 : nI bk = 0
        · rw [if_pos c2, if_pos c2]; exact nop
        · rw [if_neg c2, if_neg c2, hp_jn, hp_jn]
          obtain ⟨g1, g2, g3, -, g5⟩ := e2 c3
          obtain ⟨m', fi', fa', d3, w3, a3, b3, s3, h3, t1, t2⟩ := hp_apl h hc hk h2 hc2 g2 FU 0 x (-1000000) 0 dec wl ao hb s hd g1 (by omega) (by unfold FU; omega) (by omega) (by decide)
          generalize FU = F at *
          have t1 : ∀ J, lp_X7_apart_k_68 (nI k) y (nI b) (c 5) (c 9) (nI bk) (ck 5) (ck 9) (Ak 2) (Ak 1) (Ak 4) (Ak 3) (A 2) (A 1) (A 4) (A 3) J F 0 (-1000000) 0 x = J m' fi' fa' := t1
          have t2 : ∀ J, lp_X8_apart_80 (nI k) y (-1) J F 0 (-1000000) 0 x all 0 dec wl ao hb s hd 0 = J m' fi' fa' all 0 d3 w3 a3 b3 s3 h3 0 := t2
          rw [t1, t2]
          by_cases k0 : w = 0
          · simp only [if_pos k0]; exact ⟨_, _, _, _, _, _, _, rfl, rfl⟩
          · simp only [if_neg k0]
            by_cases k1 : w = 1
            · simp only [if_pos k1]; exact ⟨_, _, _, _, _, _, _, rfl, rfl⟩
            · simp only [if_neg k1]; exact ⟨_, _, _, _, _, _, _, rfl, rfl⟩
      · rw [if_pos c4, if_pos c4]
        by_cases c2 : nI bk = 0
        · rw [if_pos c2]; exact nop
        · rw [if_neg c2]; exact nop
    · rw [if_pos c3, if_pos c3]
      by_cases c2 : nI bk = 0
      · rw [if_pos c2]; exact nop
      · rw [if_neg c2]; exact nop
theorem op_apart_x {b : Nat} {c : Nat → Int32} {A : Nat → Nat → Int32} {all : Nat → Int32} {kp : Nat → Option Nat} {kp8 : Nat → Int32} (i x y w : Int32) (h : hp_RC b c A all 0) (hx : ¬ ((0 : Int32) ≤ i ∧ i ≤ 2) ∨ ∃ k, k < 3 ∧ i = nI k ∧ kp k = none ∧ kp8 k = 0) (dec wl ao hb : Nat → Int32) (s hd : Int32) :
    pf_X7_apart_x i x y w kp (c 0) = some (-1000000, ()) ∧ pf_X8_apart i x y w all 0 dec wl ao hb s hd 0 (-1) kp8 = some (-1000000, all, 0, dec, wl, ao, hb, s, hd, 0) := by
  have e7 : pf_X7_isKept i kp = some (0, ()) := by
    rcases hx with hx | ⟨k, k1, k2, k3, -⟩
    · exact hp_kept0 hx
    · rw [hp_kept1 k1 k2, hp_bf (not_not_intro k3)]
  constructor
  · unfold pf_X7_apart_x
    obtain ⟨t, ht, e1, e2⟩ := hp_span x y 1
    rw [e1, hp_bi0, hp_within, hp_bi0, e7, hp_bi0, if_pos rfl]
    repeat' split
    all_goals rfl
  · unfold pf_X8_apart
    rw [hp_isIn, hp_bi0]
    rcases hx with hx | ⟨k, k1, k2, -, k4⟩
    · rw [hp_bf hx, if_pos rfl]
    · have hi : (0 : Int32) ≤ i ∧ i ≤ 2 := by
        rw [k2]
        exact ⟨(hp_eI (a := 0) (by omega) (by omega)).mpr (by omega), (hp_eI (b := 2) (by omega) (by omega)).mpr (by omega)⟩
      rw [hp_bt hi, if_neg (by decide), k2, hp_ck k1 (by decide), hp_cl (by omega), if_pos k4]
/-! keep, back. -/
theorem hp_row {k : Nat} (hk : k < 3) : (1 : Int32) + nI k = nI (1 + k) := nI_add 1 k
theorem op_keep_x (i : Int32) (all kp8 : Nat → Int32) (h : ¬ ((0 : Int32) ≤ i ∧ i ≤ 2)) : pf_X7_keep_x i = some (0, ()) ∧ pf_X8_keep i all kp8 = some (0, all, kp8) := by
  unfold pf_X7_keep_x pf_X8_keep
  rw [hp_within, hp_isIn, hp_bi0, hp_bi0, hp_bf h, if_pos rfl, if_pos rfl]
  exact ⟨rfl, rfl⟩
theorem hp_02 {k : Nat} (hk : k < 3) : (0 : Int32) ≤ nI k ∧ nI k ≤ 2 := ⟨(hp_eI (a := 0) (by omega) (by omega)).mpr (by omega), (hp_eI (b := 2) (by omega) (by omega)).mpr (by omega)⟩
theorem op_keep8 {k : Nat} (hk : k < 3) (all kp8 : Nat → Int32) : ∃ all', pf_X8_keep (nI k) all kp8 = some (1, all', upd kp8 k 1) ∧ (∀ j, j < 160 → all' (160 * (1 + k) + j) = all j) ∧ (∀ i, i < 160 * (1 + k) ∨ 160 * (1 + k) + 160 ≤ i → all' i = all i) := by
  obtain ⟨all', a1, a2, a3⟩ := hq_copy (fr := 0) (to := 1 + k) (by omega) (by omega) (by omega) all
  refine ⟨all', ?_, fun j hj => ?_, a3⟩
  · have a1 : pf_X8_copyRow 0 (nI (1 + k)) all = some all' := a1
    unfold pf_X8_keep
    rw [hp_isIn, hp_bi0, hp_bt (hp_02 hk), if_neg (by decide), hp_row hk, a1, hp_bv1, hp_ck hk (by decide), hp_cl (by omega)]
    rfl
  · have := a2 j hj
    rw [Nat.mul_zero, Nat.zero_add] at this
    exact this
theorem op_keep_k {k : Nat} (hk : k < 3) (c : Nat → Int32) (A Z : Nat → Nat → Int32) : pf_X7_keep_k (nI k) (Z 1) (Z 2) (Z 3) (Z 4) (Z 14) (Z 15) (c 0) (A 1) (A 2) (A 3) (A 4) (c 5) (c 6) (c 7) (c 8) (c 9) (c 10) (c 11) (c 12) (A 14) (A 15) (c 16) = some (1, c 0, hq_cp A Z 1, hq_cp A Z 2, hq_cp A Z 3, hq_cp A Z 4, c 5, c 6, c 7, c 8, c 9, c 10, c 11, c 12, hq_cp A Z 14, hq_cp A Z 15, c 16) := by
  unfold pf_X7_keep_k pf_X2_copyFrom pf_X2_takeForm
  rw [hp_within, hp_bi0, hp_bt (hp_02 hk), if_neg (by decide), hp_ck hk (by decide), hp_ck hk (by decide), hp_bv10, hp_bv16]
  rfl
theorem op_keep_n {k : Nat} (hk : k < 3) (c : Nat → Int32) (A : Nat → Nat → Int32) : pf_X7_keep_n (nI k) (c 0) (A 1) (A 2) (A 3) (A 4) (c 5) (c 6) (c 7) (c 8) (c 9) (c 10) (c 11) (c 12) (A 14) (A 15) (c 16) = some (1, c 0, hq_cp A (fun _ _ => 0) 1, hq_cp A (fun _ _ => 0) 2, hq_cp A (fun _ _ => 0) 3, hq_cp A (fun _ _ => 0) 4, c 5, c 6, c 7, c 8, c 9, c 10, c 11, c 12, hq_cp A (fun _ _ => 0) 14, hq_cp A (fun _ _ => 0) 15, c 16) := by
  unfold pf_X7_keep_n pf_X2_copyFrom pf_X2_takeForm
  rw [hp_within, hp_bi0, hp_bt (hp_02 hk), if_neg (by decide), hp_ck hk (by decide), show pf_X2_init = some () from rfl, hp_bv0, hp_ck hk (by decide), hp_ck hk (by decide), hp_bv10, hp_bv16]
  rfl
theorem op_back_x (i was : Int32) (kp : Nat → Option Nat) (all kp8 : Nat → Int32) (hx : ¬ ((0 : Int32) ≤ i ∧ i ≤ 2) ∨ ∃ k, k < 3 ∧ i = nI k ∧ kp k = none ∧ kp8 k = 0) : pf_X7_back_x i kp = some (0, ()) ∧ pf_X8_back i all was kp8 = some (0, all, was) := by
  unfold pf_X7_back_x pf_X8_back
  rw [hp_isIn, hp_bi0]
  rcases hx with hx | ⟨k, k1, rfl, k3, k4⟩
  · rw [hp_kept0 hx, hp_bi0, if_pos rfl, hp_bf hx, if_pos rfl]
    exact ⟨rfl, rfl⟩
  · rw [hp_kept1 k1 rfl, hp_bi0, hp_bf (not_not_intro k3), if_pos rfl, hp_bt (hp_02 k1), if_neg (by decide), hp_ck k1 (by decide), hp_cl (by omega), if_pos k4]
    exact ⟨rfl, rfl⟩
theorem op_back_k {k : Nat} (hk : k < 3) (was : Int32) (kp : Nat → Option Nat) (all kp8 : Nat → Int32) (k1 : ¬ kp k = none) (k2 : ¬ kp8 k = 0) (ck : Nat → Int32) (Ak Z : Nat → Nat → Int32) :
    pf_X7_back_k (nI k) kp (ck 0) (Ak 1) (Ak 2) (Ak 3) (Ak 4) (ck 5) (ck 6) (ck 7) (ck 8) (ck 9) (ck 10) (ck 11) (ck 12) (Ak 14) (Ak 15) (ck 16) (Z 1) (Z 2) (Z 3) (Z 4) (Z 14) (Z 15) = some (1, 0, ck 0, hq_cp Ak Z 1, hq_cp Ak Z 2, hq_cp Ak Z 3, hq_cp Ak Z 4, ck 5, ck 6, ck 7, ck 8, ck 9, ck 10, ck 11, ck 12, hq_cp Ak Z 14, hq_cp Ak Z 15, ck 16) ∧
    ∃ all', pf_X8_back (nI k) all was kp8 = some (1, all', 0) ∧ (∀ j, j < 160 → all' j = all (160 * (1 + k) + j)) ∧ (∀ i, 160 ≤ i → all' i = all i) := by
  constructor
  · unfold pf_X7_back_k pf_X2_copyFrom pf_X2_takeForm
    rw [hp_kept1 hk rfl, hp_bi0, hp_bt k1, if_neg (by decide), hp_ck hk (by decide), hp_bv10, hp_bv16]
    rfl
  · obtain ⟨all', a1, a2, a3⟩ := hq_copy (fr := 1 + k) (to := 0) (by omega) (by omega) (by omega) all
    refine ⟨all', ?_, fun j hj => ?_, fun i hi => a3 i (by omega)⟩
    · have a1 : pf_X8_copyRow (nI (1 + k)) 0 all = some all' := a1
      unfold pf_X8_back
      rw [hp_isIn, hp_bi0, hp_bt (hp_02 hk), if_neg (by decide), hp_ck hk (by decide), hp_cl (by omega), if_neg k2, hp_row hk, a1, hp_bv1]
    · have := a2 j hj
      rw [Nat.mul_zero, Nat.zero_add] at this
      exact this
