/-! BENCH. One act is done. -/
def hy_c (c : Nat → Int32) (d h u : Int32) : Nat → Int32 := fun i => if i = 10 then d else if i = 11 then h else if i = 12 then u else c i
theorem hy_ci {c : Nat → Int32} : hy_c c (c 10) (c 11) (c 12) = c := by
  funext i
  unfold hy_c
  by_cases e : i = 10
  · subst e; rfl
  rw [if_neg e]
  by_cases e : i = 11
  · subst e; rfl
  rw [if_neg e]
  by_cases e : i = 12
  · subst e; rfl
  rw [if_neg e]
theorem hy_c10 {c : Nat → Int32} {v : Int32} : hy_c c v (c 11) (c 12) = upd c 10 v := by
  funext i
  unfold hy_c
  by_cases e : i = 10
  · subst e; rw [hp_us]; rfl
  rw [if_neg e, hp_un e]
  by_cases e : i = 11
  · subst e; rfl
  rw [if_neg e]
  by_cases e : i = 12
  · subst e; rfl
  rw [if_neg e]
theorem hy_c11 {c : Nat → Int32} {v : Int32} : hy_c c (c 10) v (c 12) = upd c 11 v := by
  funext i
  unfold hy_c
  by_cases e : i = 10
  · subst e; rfl
  rw [if_neg e]
  by_cases e : i = 11
  · subst e; rw [hp_us]; rfl
  rw [if_neg e, hp_un e]
  by_cases e : i = 12
  · subst e; rfl
  rw [if_neg e]
theorem hy_c12 {c : Nat → Int32} {v : Int32} : hy_c c (c 10) (c 11) v = upd c 12 v := by
  funext i
  unfold hy_c
  by_cases e : i = 10
  · subst e; rfl
  rw [if_neg e]
  by_cases e : i = 11
  · subst e; rfl
  rw [if_neg e]
  by_cases e : i = 12
  · subst e; rw [hp_us]; rfl
  rw [if_neg e, hp_un e]
theorem hy_cc {c : Nat → Int32} {d h u d' h' u' : Int32} : hy_c (hy_c c d h u) d' h' u' = hy_c c d' h' u' := by
  funext i
  unfold hy_c
  by_cases e : i = 10
  · rw [if_pos e, if_pos e]
  rw [if_neg e, if_neg e]
  by_cases e1 : i = 11
  · rw [if_pos e1, if_neg e, if_pos e1]
  rw [if_neg e1, if_neg e1]
  by_cases e2 : i = 12
  · rw [if_pos e2, if_neg e, if_neg e1, if_pos e2]
  rw [if_neg e2, if_neg e2, if_neg e, if_neg e1, if_neg e2]
theorem hy_AA {A : Nat → Nat → Int32} {fo fw fs go gw gs : Nat → Int32} : hq_u3 (hq_u3 A fo fw fs) go gw gs = hq_u3 A go gw gs := by
  funext i
  unfold hq_u3
  by_cases e : i = 2
  · rw [if_pos e, if_pos e]
  rw [if_neg e, if_neg e]
  by_cases e1 : i = 3
  · rw [if_pos e1, if_neg e, if_pos e1]
  rw [if_neg e1, if_neg e1]
  by_cases e2 : i = 4
  · rw [if_pos e2, if_neg e, if_neg e1, if_pos e2]
  rw [if_neg e2, if_neg e2, if_neg e, if_neg e1, if_neg e2]
theorem hy_A2 {A : Nat → Nat → Int32} {f : Nat → Int32} : hq_u3 A f (A 3) (A 4) = hp_ua A 2 f := by
  have := hq_u3a (A := A) (fo := A 2) (fw := A 3) (fs := A 4) (g := f)
  rw [hq_u3i] at this
  exact this.symm
theorem hy_A3 {A : Nat → Nat → Int32} {f : Nat → Int32} : hq_u3 A (A 2) f (A 4) = hp_ua A 3 f := by
  have := hq_u3b (A := A) (fo := A 2) (fw := A 3) (fs := A 4) (g := f)
  rw [hq_u3i] at this
  exact this.symm
theorem hy_A4 {A : Nat → Nat → Int32} {f : Nat → Int32} : hq_u3 A (A 2) (A 3) f = hp_ua A 4 f := by
  have := hq_u3c (A := A) (fo := A 2) (fw := A 3) (fs := A 4) (g := f)
  rw [hq_u3i] at this
  exact this.symm
/-- told alike, or refused alike -/
def hy_T (r7 r8 : Int32) : Prop := (r7 = -1 ∧ r8 = -1000000) ∨ (r7 = r8 ∧ ¬ r7 = -1 ∧ ¬ r7 = -1000000)
theorem hy_Tn {k : Nat} (h : k ≤ 100000) : ¬ nI k = -1 ∧ ¬ nI k = -1000000 := by
  refine ⟨?_, ?_⟩
  · rw [hp_eq, hp_nT (by omega), show (-1 : Int32).toInt = -1 from by decide]; omega
  · rw [hp_eq, hp_nT (by omega), show (-1000000 : Int32).toInt = -1000000 from by decide]; omega
theorem hy_one {b lb i : Nat} {c : Nat → Int32} {A : Nat → Nat → Int32} {all kd vl : Nat → Int32} {stp : Int32} {bits sum hdd left lates ones code was lB lsum lhd lleft lcode : Int32} {one late ap held last : Nat → Int32}
    (h : hp_RC b c A all 0) (hc : hp_CI b c A) (hd : hp_RD kd vl stp all 0) (hl : hp_RL lb bits one late ap held sum hdd left lates ones code was lB lsum lhd lleft lcode last)
    {y a a2 l7 : Int32} {act actA actB toldBy : Nat → Int32} (hi : i < 40) (ey : act i = y) (ea : actA i = a) (e2 : actB i = a2) (ab : -9999 ≤ a.toInt ∧ a.toInt ≤ 9999) (hL : hy_L y) (ht : (i = 0 ∧ l7 = -1) ∨ (0 < i ∧ toldBy (i - 1) = l7 ∧ ¬ l7 = -1))
    (fst : Nat → Int32) (hgt pb : Int32) (po pl pa ph : Nat → Int32) (ps phd plf pls pon pcd : Int32) (pile no dec wl ao hb : Nat → Int32) (s8 hd8 : Int32) :
    ∃ (r7 : Int32) (lb' : Nat) (bits' : Int32) (one' late' ap' held' : Nat → Int32) (sum' hdd' left' lates' ones' code' : Int32) (fo fw fs : Nat → Int32) (d ht u : Int32) (fst' : Nat → Int32) (hgt' pb' : Int32) (po' pl' pa' ph' : Nat → Int32) (ps' phd' plf' pls' pon' pcd' : Int32)
      (r8 : Int32) (all' pile' no' dec' wl' ao' hb' : Nat → Int32) (s8' hd8' was' lB' lsum' lhd' lleft' lcode' : Int32) (last' : Nat → Int32),
      pf_X7_perform y a a2 l7 bits one late ap held sum hdd left lates ones code (c 0) (A 1) (A 2) (A 3) (A 4) (c 5) (c 6) (c 7) (c 8) (c 9) (c 10) (c 11) (c 12) kd vl fst stp hgt pb po pl pa ph ps phd plf pls pon pcd = some (r7, bits', one', late', ap', held', sum', hdd', left', lates', ones', code', fo, fw, fs, d, ht, u, fst', hgt', pb', po', pl', pa', ph', ps', phd', plf', pls', pon', pcd') ∧
      pf_X8_doAct (nI i) all 0 pile no dec wl ao hb s8 hd8 0 (-1) was lB lsum lhd lleft lcode last act actA actB toldBy = some (r8, all', pile', no', dec', wl', ao', hb', s8', hd8', was', lB', lsum', lhd', lleft', lcode', last') ∧
      hp_RC b (hy_c c d ht u) (hq_u3 A fo fw fs) all' 0 ∧ hp_CI b (hy_c c d ht u) (hq_u3 A fo fw fs) ∧ hp_RD kd vl stp all' 0 ∧ hp_RL lb' bits' one' late' ap' held' sum' hdd' left' lates' ones' code' was' lB' lsum' lhd' lleft' lcode' last' ∧ (∀ i, 57 ≤ i → all' i = all i) ∧ hy_T r7 r8 := by
  obtain ⟨q1, q2, q3, -⟩ := id h
  have ci := hp_cl (n := i) (by omega)
  have nop : hp_RC b (hy_c c (c 10) (c 11) (c 12)) (hq_u3 A (A 2) (A 3) (A 4)) all 0 ∧ hp_CI b (hy_c c (c 10) (c 11) (c 12)) (hq_u3 A (A 2) (A 3) (A 4)) := by
    rw [hy_ci, hq_u3i]; exact ⟨h, hc⟩
  have t1 : (-1 : Int32).toInt = -1 := by decide
  have t6 : (-1000000 : Int32).toInt = -1000000 := by decide
  have rd : ∀ all' : Nat → Int32, (∀ i, 57 ≤ i → all' i = all i) → hp_RD kd vl stp all' 0 := fun all' e => hp_RD_to hd (fun i i1 i2 => e _ (by omega))
  unfold pf_X8_doAct
  rw [hp_ck hi (by decide), hp_nm, hp_ck hi (by decide), hp_nm, hp_ck hi (by decide), hp_nm, ci, ea, e2, ey]
  unfold pf_X7_perform
  rcases hL with rfl | rfl | rfl | rfl | rfl | rfl | rfl | rfl | rfl
  · -- =
    rw [if_pos rfl, if_neg (show ¬ (61 : Int32) = 99 by decide), if_neg (show ¬ (61 : Int32) = 100 by decide), if_neg (show ¬ (61 : Int32) = 101 by decide), if_neg (show ¬ (61 : Int32) = 102 by decide), if_neg (show ¬ (61 : Int32) = 103 by decide), if_neg (show ¬ (61 : Int32) = 104 by decide), if_neg (show ¬ (61 : Int32) = 105 by decide), if_neg (show ¬ (61 : Int32) = 106 by decide), if_neg (show ¬ (61 : Int32) = 107 by decide), if_neg (show ¬ (61 : Int32) = 108 by decide), if_neg (show ¬ (61 : Int32) = 109 by decide), if_neg (show ¬ (61 : Int32) = 110 by decide), if_neg (show ¬ (61 : Int32) = 111 by decide), if_neg (show ¬ (61 : Int32) = 112 by decide), if_neg (show ¬ (61 : Int32) = 113 by decide), if_neg (show ¬ (61 : Int32) = 114 by decide), if_neg (show ¬ (61 : Int32) = 115 by decide), if_neg (show ¬ (61 : Int32) = 116 by decide), if_neg (show ¬ (61 : Int32) = 117 by decide), if_neg (show ¬ (61 : Int32) = 118 by decide), if_neg (show ¬ (61 : Int32) = 119 by decide), if_neg (show ¬ (61 : Int32) = 120 by decide)]
    rcases ht with ⟨i0, l0⟩ | ⟨i0, l0, l1⟩
    · subst i0
      subst l0
      rw [if_pos (show nI 0 ≤ 0 by decide)]
      by_cases c : a = -1
      · subst c
        rw [if_pos rfl]
        exact ⟨-1, lb, _, _, _, _, _, _, _, _, _, _, _, _, _, _, _, _, _, _, _, _, _, _, _, _, _, _, _, _, _, _, _, _, _, _, _, _, _, _, _, _, _, _, _, _, _, _, _, rfl, rfl, nop.1, nop.2, hd, hl, fun i _ => rfl, Or.inl ⟨rfl, rfl⟩⟩
      · rw [if_neg c]
        exact ⟨-1, lb, _, _, _, _, _, _, _, _, _, _, _, _, _, _, _, _, _, _, _, _, _, _, _, _, _, _, _, _, _, _, _, _, _, _, _, _, _, _, _, _, _, _, _, _, _, _, _, rfl, rfl, nop.1, nop.2, hd, hl, fun i _ => rfl, Or.inl ⟨rfl, rfl⟩⟩
    · have ni : ¬ nI i ≤ 0 := fun e => by
        have := (hp_eI (b := 0) (by omega) (by omega)).mp e
        omega
      have e1 : nI i - 1 = nI (i - 1) := by rw [show (1 : Int32) = nI 1 from rfl, hp_sI (by omega)]
      rw [if_neg ni, e1, hp_ck (show i - 1 < 40 by omega) (by decide), hp_cl (show i - 1 < 2147483648 by omega), l0]
      by_cases c : a = l7
      · rw [if_pos c, if_pos c.symm]
        refine ⟨a, lb, _, _, _, _, _, _, _, _, _, _, _, _, _, _, _, _, _, _, _, _, _, _, _, _, _, _, _, _, _, _, _, _, _, _, _, _, _, _, _, _, _, _, _, _, _, _, _, rfl, rfl, nop.1, nop.2, hd, hl, fun i _ => rfl, Or.inr ⟨rfl, fun e => l1 (c ▸ e), fun e => ?_⟩⟩
        rw [e, t6] at ab; omega
      · rw [if_neg c, if_neg (Ne.symm c)]
        exact ⟨-1, lb, _, _, _, _, _, _, _, _, _, _, _, _, _, _, _, _, _, _, _, _, _, _, _, _, _, _, _, _, _, _, _, _, _, _, _, _, _, _, _, _, _, _, _, _, _, _, _, rfl, rfl, nop.1, nop.2, hd, hl, fun i _ => rfl, Or.inl ⟨rfl, rfl⟩⟩
  · -- c
    rw [if_neg (show ¬ (99 : Int32) = 61 by decide), if_pos rfl, if_pos rfl]
    obtain ⟨r, lb', bits', one', late', ap', held', sum', hd', left', lates', ones', code', X, was', lB', lsum', lhd', lleft', lcode', last', dec', wl', ao', hb', s8', hd8', v1, v2, v3, v4, v5⟩ := op_convert a h hc hl dec wl ao hb s8 hd8
    have rr := hy_cvr q3 hc (q1 ▸ v1)
    rw [v1, v2, hp_bi12, hp_bi14]
    unfold pf_X7_toldUnless
    have fr : ∀ i, 57 ≤ i → upd all 6 X i = all i := fun i hi => hp_un (by omega)
    rw [← hy_c10, ← hq_u3i (A := A)] at v3 v4
    by_cases c : r = -1000000
    · rw [if_pos c, hp_bi0]
      exact ⟨-1, lb', _, _, _, _, _, _, _, _, _, _, _, _, _, _, _, _, _, _, _, _, _, _, _, _, _, _, _, _, _, _, _, _, _, _, _, _, _, _, _, _, _, _, _, _, _, _, _, rfl, rfl, v3, v4, rd _ fr, v5, fr, Or.inl ⟨rfl, c⟩⟩
    · rw [if_neg c, hp_bi0]
      refine ⟨r, lb', _, _, _, _, _, _, _, _, _, _, _, _, _, _, _, _, _, _, _, _, _, _, _, _, _, _, _, _, _, _, _, _, _, _, _, _, _, _, _, _, _, _, _, _, _, _, _, rfl, rfl, v3, v4, rd _ fr, v5, fr, Or.inr ⟨rfl, fun e => ?_, c⟩⟩
      rcases rr with e' | e'
      · exact c e'
      · dsimp only at e'; rw [e, t1] at e'; omega
  · -- f
    rw [if_neg (show ¬ (102 : Int32) = 61 by decide), if_neg (show ¬ (102 : Int32) = 99 by decide), if_pos rfl, if_neg (show ¬ (102 : Int32) = 99 by decide), if_neg (show ¬ (102 : Int32) = 100 by decide), if_neg (show ¬ (102 : Int32) = 101 by decide), if_pos rfl]
    obtain ⟨r, f, all', v1, v2, v3, v4, v5⟩ := op_forget h hc
    obtain ⟨k, k1, k2⟩ := hy_fgr q3 (q1 ▸ v1)
    rw [v1, v2, hp_bi1, hp_bi1]
    rw [← hy_A3, ← hy_ci (c := c)] at v3 v4
    obtain ⟨z1, z2⟩ := hy_Tn (k := k) (by omega)
    rw [← k2] at z1 z2
    exact ⟨r, lb, _, _, _, _, _, _, _, _, _, _, _, _, _, _, _, _, _, _, _, _, _, _, _, _, _, _, _, _, _, _, _, _, _, _, _, _, _, _, _, _, _, _, _, _, _, _, _, rfl, rfl, v3, v4, rd _ v5, hl, v5, Or.inr ⟨rfl, z1, z2⟩⟩
  · -- h
    rw [if_neg (show ¬ (104 : Int32) = 61 by decide), if_neg (show ¬ (104 : Int32) = 99 by decide), if_neg (show ¬ (104 : Int32) = 102 by decide), if_pos rfl, if_neg (show ¬ (104 : Int32) = 99 by decide), if_neg (show ¬ (104 : Int32) = 100 by decide), if_neg (show ¬ (104 : Int32) = 101 by decide), if_neg (show ¬ (104 : Int32) = 102 by decide), if_neg (show ¬ (104 : Int32) = 103 by decide), if_pos rfl]
    obtain ⟨r, f, all', v1, v2, v3, v4, v5⟩ := op_heat a h hc
    rw [v1, v2, hp_bi1, hp_bi1]
    rw [← hy_c11, ← hq_u3i (A := A)] at v3 v4
    by_cases c : r = 0
    · rw [if_pos c, if_pos c]
      exact ⟨-1, lb, _, _, _, _, _, _, _, _, _, _, _, _, _, _, _, _, _, _, _, _, _, _, _, _, _, _, _, _, _, _, _, _, _, _, _, _, _, _, _, _, _, _, _, _, _, _, _, rfl, rfl, v3, v4, rd _ v5, hl, v5, Or.inl ⟨rfl, rfl⟩⟩
    · rw [if_neg c, if_neg c]
      exact ⟨1, lb, _, _, _, _, _, _, _, _, _, _, _, _, _, _, _, _, _, _, _, _, _, _, _, _, _, _, _, _, _, _, _, _, _, _, _, _, _, _, _, _, _, _, _, _, _, _, _, rfl, rfl, v3, v4, rd _ v5, hl, v5, Or.inr ⟨rfl, by decide, by decide⟩⟩
  · -- l
    rw [if_neg (show ¬ (108 : Int32) = 61 by decide), if_neg (show ¬ (108 : Int32) = 99 by decide), if_neg (show ¬ (108 : Int32) = 102 by decide), if_neg (show ¬ (108 : Int32) = 104 by decide), if_pos rfl, if_neg (show ¬ (108 : Int32) = 99 by decide), if_neg (show ¬ (108 : Int32) = 100 by decide), if_neg (show ¬ (108 : Int32) = 101 by decide), if_neg (show ¬ (108 : Int32) = 102 by decide), if_neg (show ¬ (108 : Int32) = 103 by decide), if_neg (show ¬ (108 : Int32) = 104 by decide), if_neg (show ¬ (108 : Int32) = 105 by decide), if_neg (show ¬ (108 : Int32) = 106 by decide), if_neg (show ¬ (108 : Int32) = 107 by decide), if_pos rfl]
    obtain ⟨v, f', all', X', bits', sum', hd', left', lates', ones', code', s8', hd8', one', late', ap', held', dec', wl', ao', hb', v1, v2, v3, v4, v5⟩ := op_learn a a2 h hc pb ps phd plf pls pon pcd s8 hd8 po pl pa ph dec wl ao hb
    have rr := hy_lnr q3 (q1 ▸ v1)
    rw [v1, v2, hp_bi13, hp_bi7]
    unfold pf_X7_toldUnless pf_X8_refusedBy
    rw [← hy_A3, ← hy_c10] at v3 v4
    by_cases c : v = -1
    · rw [if_pos c, if_pos c, hp_bi0, hp_bi0]
      exact ⟨-1, lb, _, _, _, _, _, _, _, _, _, _, _, _, _, _, _, _, _, _, _, _, _, _, _, _, _, _, _, _, _, _, _, _, _, _, _, _, _, _, _, _, _, _, _, _, _, _, _, rfl, rfl, v3, v4, rd _ v5, hl, v5, Or.inl ⟨rfl, rfl⟩⟩
    · rw [if_neg c, if_neg c, hp_bi0, hp_bi0]
      refine ⟨v, lb, _, _, _, _, _, _, _, _, _, _, _, _, _, _, _, _, _, _, _, _, _, _, _, _, _, _, _, _, _, _, _, _, _, _, _, _, _, _, _, _, _, _, _, _, _, _, _, rfl, rfl, v3, v4, rd _ v5, hl, v5, Or.inr ⟨rfl, c, ?_⟩⟩
      rcases rr with e' | ⟨k, k1, k2⟩
      · exact absurd e' c
      · dsimp only at k2; rw [k2]; exact (hy_Tn (by omega)).2
  · -- o
    rw [if_neg (show ¬ (111 : Int32) = 61 by decide), if_neg (show ¬ (111 : Int32) = 99 by decide), if_neg (show ¬ (111 : Int32) = 102 by decide), if_neg (show ¬ (111 : Int32) = 104 by decide), if_neg (show ¬ (111 : Int32) = 108 by decide), if_pos rfl, if_neg (show ¬ (111 : Int32) = 99 by decide), if_neg (show ¬ (111 : Int32) = 100 by decide), if_neg (show ¬ (111 : Int32) = 101 by decide), if_neg (show ¬ (111 : Int32) = 102 by decide), if_neg (show ¬ (111 : Int32) = 103 by decide), if_neg (show ¬ (111 : Int32) = 104 by decide), if_neg (show ¬ (111 : Int32) = 105 by decide), if_neg (show ¬ (111 : Int32) = 106 by decide), if_neg (show ¬ (111 : Int32) = 107 by decide), if_neg (show ¬ (111 : Int32) = 108 by decide), if_neg (show ¬ (111 : Int32) = 109 by decide), if_neg (show ¬ (111 : Int32) = 110 by decide), if_pos rfl]
    obtain ⟨r, f, all', v1, v2, v3, v4, v5⟩ := op_off a a2 h hc
    rw [v1, v2, hp_bi1, hp_bi1]
    rw [← hy_A2, ← hy_ci (c := c)] at v3 v4
    by_cases c : r = 0
    · rw [if_pos c, if_pos c]
      exact ⟨-1, lb, _, _, _, _, _, _, _, _, _, _, _, _, _, _, _, _, _, _, _, _, _, _, _, _, _, _, _, _, _, _, _, _, _, _, _, _, _, _, _, _, _, _, _, _, _, _, _, rfl, rfl, v3, v4, rd _ v5, hl, v5, Or.inl ⟨rfl, rfl⟩⟩
    · rw [if_neg c, if_neg c]
      exact ⟨1, lb, _, _, _, _, _, _, _, _, _, _, _, _, _, _, _, _, _, _, _, _, _, _, _, _, _, _, _, _, _, _, _, _, _, _, _, _, _, _, _, _, _, _, _, _, _, _, _, rfl, rfl, v3, v4, rd _ v5, hl, v5, Or.inr ⟨rfl, by decide, by decide⟩⟩
  · -- p
    rw [if_neg (show ¬ (112 : Int32) = 61 by decide), if_neg (show ¬ (112 : Int32) = 99 by decide), if_neg (show ¬ (112 : Int32) = 102 by decide), if_neg (show ¬ (112 : Int32) = 104 by decide), if_neg (show ¬ (112 : Int32) = 108 by decide), if_neg (show ¬ (112 : Int32) = 111 by decide), if_pos rfl, if_neg (show ¬ (112 : Int32) = 99 by decide), if_neg (show ¬ (112 : Int32) = 100 by decide), if_neg (show ¬ (112 : Int32) = 101 by decide), if_neg (show ¬ (112 : Int32) = 102 by decide), if_neg (show ¬ (112 : Int32) = 103 by decide), if_neg (show ¬ (112 : Int32) = 104 by decide), if_neg (show ¬ (112 : Int32) = 105 by decide), if_neg (show ¬ (112 : Int32) = 106 by decide), if_neg (show ¬ (112 : Int32) = 107 by decide), if_neg (show ¬ (112 : Int32) = 108 by decide), if_neg (show ¬ (112 : Int32) = 109 by decide), if_neg (show ¬ (112 : Int32) = 110 by decide), if_neg (show ¬ (112 : Int32) = 111 by decide), if_pos rfl]
    obtain ⟨t, hr', x', fo', fs', all', g', no', v1, v2, v3, v4, v5, v6⟩ := op_pass a h hc hd fst pile no hgt
    have rr := hy_psr q3 (q1 ▸ v1)
    rw [v1, v2, hp_bi4, hp_bi3]
    unfold pf_X7_toldUnless pf_X8_refusedBy
    rw [← hy_A2, ← hy_c12] at v3 v4
    by_cases c : t = -1
    · rw [if_pos c, if_pos c, hp_bi0, hp_bi0]
      exact ⟨-1, lb, _, _, _, _, _, _, _, _, _, _, _, _, _, _, _, _, _, _, _, _, _, _, _, _, _, _, _, _, _, _, _, _, _, _, _, _, _, _, _, _, _, _, _, _, _, _, _, rfl, rfl, v3, v4, v5, hl, v6, Or.inl ⟨rfl, rfl⟩⟩
    · rw [if_neg c, if_neg c, hp_bi0, hp_bi0]
      refine ⟨t, lb, _, _, _, _, _, _, _, _, _, _, _, _, _, _, _, _, _, _, _, _, _, _, _, _, _, _, _, _, _, _, _, _, _, _, _, _, _, _, _, _, _, _, _, _, _, _, _, rfl, rfl, v3, v4, v5, hl, v6, Or.inr ⟨rfl, c, ?_⟩⟩
      rcases rr with e' | ⟨k, k1, k2⟩
      · exact absurd e' c
      · dsimp only at k2; rw [k2]; exact (hy_Tn (by omega)).2
  · -- s
    rw [if_neg (show ¬ (115 : Int32) = 61 by decide), if_neg (show ¬ (115 : Int32) = 99 by decide), if_neg (show ¬ (115 : Int32) = 102 by decide), if_neg (show ¬ (115 : Int32) = 104 by decide), if_neg (show ¬ (115 : Int32) = 108 by decide), if_neg (show ¬ (115 : Int32) = 111 by decide), if_neg (show ¬ (115 : Int32) = 112 by decide), if_pos rfl, if_neg (show ¬ (115 : Int32) = 99 by decide), if_neg (show ¬ (115 : Int32) = 100 by decide), if_neg (show ¬ (115 : Int32) = 101 by decide), if_neg (show ¬ (115 : Int32) = 102 by decide), if_neg (show ¬ (115 : Int32) = 103 by decide), if_neg (show ¬ (115 : Int32) = 104 by decide), if_neg (show ¬ (115 : Int32) = 105 by decide), if_neg (show ¬ (115 : Int32) = 106 by decide), if_neg (show ¬ (115 : Int32) = 107 by decide), if_neg (show ¬ (115 : Int32) = 108 by decide), if_neg (show ¬ (115 : Int32) = 109 by decide), if_neg (show ¬ (115 : Int32) = 110 by decide), if_neg (show ¬ (115 : Int32) = 111 by decide), if_neg (show ¬ (115 : Int32) = 112 by decide), if_neg (show ¬ (115 : Int32) = 113 by decide), if_neg (show ¬ (115 : Int32) = 114 by decide), if_pos rfl]
    obtain ⟨r, f, all', v1, v2, v3, v4, v5⟩ := op_stick a a2 h hc
    rw [v1, v2, hp_bi1, hp_bi1]
    rw [← hy_A4, ← hy_ci (c := c)] at v3 v4
    by_cases c : r = 0
    · rw [if_pos c, if_pos c]
      exact ⟨-1, lb, _, _, _, _, _, _, _, _, _, _, _, _, _, _, _, _, _, _, _, _, _, _, _, _, _, _, _, _, _, _, _, _, _, _, _, _, _, _, _, _, _, _, _, _, _, _, _, rfl, rfl, v3, v4, rd _ v5, hl, v5, Or.inl ⟨rfl, rfl⟩⟩
    · rw [if_neg c, if_neg c]
      exact ⟨1, lb, _, _, _, _, _, _, _, _, _, _, _, _, _, _, _, _, _, _, _, _, _, _, _, _, _, _, _, _, _, _, _, _, _, _, _, _, _, _, _, _, _, _, _, _, _, _, _, rfl, rfl, v3, v4, rd _ v5, hl, v5, Or.inr ⟨rfl, by decide, by decide⟩⟩
  · -- x
    rw [if_neg (show ¬ (120 : Int32) = 61 by decide), if_neg (show ¬ (120 : Int32) = 99 by decide), if_neg (show ¬ (120 : Int32) = 102 by decide), if_neg (show ¬ (120 : Int32) = 104 by decide), if_neg (show ¬ (120 : Int32) = 108 by decide), if_neg (show ¬ (120 : Int32) = 111 by decide), if_neg (show ¬ (120 : Int32) = 112 by decide), if_neg (show ¬ (120 : Int32) = 115 by decide), if_pos rfl, if_neg (show ¬ (120 : Int32) = 99 by decide), if_neg (show ¬ (120 : Int32) = 100 by decide), if_neg (show ¬ (120 : Int32) = 101 by decide), if_neg (show ¬ (120 : Int32) = 102 by decide), if_neg (show ¬ (120 : Int32) = 103 by decide), if_neg (show ¬ (120 : Int32) = 104 by decide), if_neg (show ¬ (120 : Int32) = 105 by decide), if_neg (show ¬ (120 : Int32) = 106 by decide), if_neg (show ¬ (120 : Int32) = 107 by decide), if_neg (show ¬ (120 : Int32) = 108 by decide), if_neg (show ¬ (120 : Int32) = 109 by decide), if_neg (show ¬ (120 : Int32) = 110 by decide), if_neg (show ¬ (120 : Int32) = 111 by decide), if_neg (show ¬ (120 : Int32) = 112 by decide), if_neg (show ¬ (120 : Int32) = 113 by decide), if_neg (show ¬ (120 : Int32) = 114 by decide), if_neg (show ¬ (120 : Int32) = 115 by decide), if_neg (show ¬ (120 : Int32) = 116 by decide), if_neg (show ¬ (120 : Int32) = 117 by decide), if_neg (show ¬ (120 : Int32) = 118 by decide), if_neg (show ¬ (120 : Int32) = 119 by decide), if_pos rfl]
    have v3 := hp_RC_slot (j := 6) h (by omega) a
    rw [Nat.zero_add] at v3
    have v4 := hp_CI6 hc a
    have fr : ∀ i, 57 ≤ i → upd all 6 a i = all i := fun i hi => hp_un (by omega)
    rw [show pf_X7_seed a (c 10) = some (c 10, a) from rfl, hp_bi1, show pf_X8_put 6 a all 0 = some (upd all 6 a) from hp_put0 (a := 6) (by omega), hp_bv1]
    rw [← hy_c10, ← hq_u3i (A := A)] at v4
    have v3 : hp_RC b (upd c 10 a) A (upd all 6 a) 0 := v3
    rw [← hy_c10, ← hq_u3i (A := A)] at v3
    exact ⟨1, lb, _, _, _, _, _, _, _, _, _, _, _, _, _, _, _, _, _, _, _, _, _, _, _, _, _, _, _, _, _, _, _, _, _, _, _, _, _, _, _, _, _, _, _, _, _, _, _, rfl, rfl, v3, v4, rd _ fr, hl, fr, Or.inr ⟨rfl, by decide, by decide⟩⟩
