/-! ASIDE: a copy; crowd. -/
theorem hq_copy {fr to : Nat} (hf : fr < 5) (ht : to < 5) (hne : fr ≠ to) (all : Nat → Int32) : ∃ all', pf_X8_copyRow (nI fr) (nI to) all = some all' ∧ (∀ k, k < 160 → all' (160 * to + k) = all (160 * fr + k)) ∧ (∀ i, i < 160 * to ∨ 160 * to + 160 ≤ i → all' i = all i) := by
  have hF : 160 < FU := by unfold FU; omega
  have key : ∀ (n k j : Nat) (al : Nat → Int32), j + k = 160 → k < n → (∀ i, i < j → al (160 * to + i) = all (160 * fr + i)) → (∀ i, i < 160 * to ∨ 160 * to + j ≤ i → al i = all i) →
      ∃ all', lp_X8_copyRow_2 (nI fr) (nI to) n (nI j) al = some all' ∧ (∀ k, k < 160 → all' (160 * to + k) = all (160 * fr + k)) ∧ (∀ i, i < 160 * to ∨ 160 * to + 160 ≤ i → all' i = all i) := by
    intro n
    induction n with
    | zero => intro k j al h1 h2; omega
    | succ n ih =>
      intro k j al h1 h2 h3 h4
      rw [lp_X8_copyRow_2]
      by_cases d : 160 ≤ j
      · have d' : (160 : Int32) ≤ nI j := (hp_eI (a := 160) (by omega) (by omega)).mpr d
        have ej : j = 160 := by omega
        subst ej
        rw [if_pos d']
        exact ⟨al, rfl, h3, h4⟩
      · have d' : ¬ (160 : Int32) ≤ nI j := fun e => d ((hp_eI (a := 160) (by omega) (by omega)).mp e)
        have m1 : (160 : Int32) * nI fr = nI (160 * fr) := hp_mI 160 fr
        have m2 : (160 : Int32) * nI to = nI (160 * to) := hp_mI 160 to
        rw [if_neg d', m1, m2, hp_aI, hp_aI, hp_ck (show 160 * fr + j < 800 by omega) (by decide), hp_nm, hp_ck (show 160 * to + j < 800 by omega) (by decide), hp_nm, hp_i1, hp_cl (show 160 * fr + j < 2147483648 by omega), hp_cl (show 160 * to + j < 2147483648 by omega)]
        have e : al (160 * fr + j) = all (160 * fr + j) := h4 _ (by omega)
        refine ih (k - 1) (j + 1) _ (by omega) (by omega) (fun i hi => ?_) (fun i hi => ?_)
        · by_cases e2 : i = j
          · subst e2; rw [hp_us, e]
          · rw [hp_un (by omega)]; exact h3 i (by omega)
        · rw [hp_un (by omega)]; exact h4 i (by omega)
  unfold pf_X8_copyRow
  generalize FU = F at *
  exact key F 160 0 all (by omega) (by omega) (fun i hi => by omega) (fun i hi => rfl)
theorem hq_aside (all : Nat → Int32) : ∃ all', pf_X8_goAside all = some (all', nI 640) ∧ (∀ k, k < 160 → all' (640 + k) = all k) ∧ (∀ i, i < 640 → all' i = all i) := by
  obtain ⟨all', h1, h2, h3⟩ := hq_copy (fr := 0) (to := 4) (by omega) (by omega) (by omega) all
  have h1 : pf_X8_copyRow 0 4 all = some all' := h1
  refine ⟨all', ?_, fun k hk => ?_, fun i hi => h3 i (by omega)⟩
  · unfold pf_X8_goAside
    rw [h1, hp_bv1]
    rfl
  · have := h2 k hk
    rw [Nat.mul_zero, Nat.zero_add] at this
    exact this
/-- rows that are alike where it matters -/
theorem hq_cong {b B : Nat} {c c' : Nat → Int32} {A A' : Nat → Nat → Int32} {all : Nat → Int32} (h : hp_RQ b c A all B) (hA : ∀ i, i < b → A' 1 i = A 1 i ∧ A' 2 i = A 2 i ∧ A' 3 i = A 3 i ∧ A' 4 i = A 4 i) (hc : c' 0 = c 0 ∧ c' 5 = c 5 ∧ c' 6 = c 6 ∧ c' 9 = c 9 ∧ c' 10 = c 10 ∧ c' 11 = c 11 ∧ c' 12 = c 12) : hp_RQ b c' A' all B := by
  obtain ⟨q1, q2, q3, q4, ⟨q5, q6, q9, q10, q11, q12⟩, q⟩ := h
  obtain ⟨e0, e5, e6, e9, e10, e11, e12⟩ := hc
  refine ⟨e0.trans q1, q2, q3, q4, ⟨by rw [e5]; exact q5, by rw [e6]; exact q6, by rw [e9]; exact q9, by rw [e10]; exact q10, by rw [e11]; exact q11, by rw [e12]; exact q12⟩, fun i hi => ?_⟩
  obtain ⟨a1, a2, a3, a4⟩ := hA i hi
  rw [a1, a2, a3, a4]
  exact q i hi
theorem hq_congC {b : Nat} {c c' : Nat → Int32} {A A' : Nat → Nat → Int32} (h : hp_CI b c A) (hA : ∀ i, i < b → A' 1 i = A 1 i ∧ A' 2 i = A 2 i ∧ A' 3 i = A 3 i ∧ A' 4 i = A 4 i) (hc : c' 5 = c 5 ∧ c' 6 = c 6 ∧ (0 ≤ (c' 7).toInt ∧ (c' 7).toInt ≤ 3) ∧ (0 ≤ (c' 8).toInt ∧ (c' 8).toInt ≤ 20) ∧ c' 9 = c 9) : hp_CI b c' A' := by
  obtain ⟨h1, h2, h3, h4, h5, h6⟩ := h
  obtain ⟨e5, e6, e7, e8, e9⟩ := hc
  refine ⟨by rw [e5]; exact h1, by rw [e6]; exact h2, e7, e8, by rw [e9]; exact h5, fun i hi => ?_⟩
  obtain ⟨a1, a2, a3, a4⟩ := hA i hi
  rw [a1, a2, a3, a4]
  exact h6 i hi
theorem hq_shift {b B B' : Nat} {c : Nat → Int32} {A : Nat → Nat → Int32} {all all' : Nat → Int32} (h : hp_RQ b c A all B) (e : ∀ k, k < 57 → all' (B' + k) = all (B + k)) : hp_RQ b c A all' B' := by
  obtain ⟨q1, q2, q3, q4, ⟨q5, q6, q9, q10, q11, q12⟩, q⟩ := h
  refine ⟨q1, (e 0 (by omega)).trans q2, q3, q4, ⟨(e _ (by omega)).trans q5, (e _ (by omega)).trans q6, (e _ (by omega)).trans q9, (e _ (by omega)).trans q10, (e _ (by omega)).trans q11, (e _ (by omega)).trans q12⟩, fun i hi => ?_⟩
  obtain ⟨a1, a2, a3, a4⟩ := q i hi
  exact ⟨(e _ (by omega)).trans a1, (e _ (by omega)).trans a2, (e _ (by omega)).trans a3, (e _ (by omega)).trans a4⟩
/-- draws and hour, three rows: given anew -/
def hq_c2 (c : Nat → Int32) (X hr : Int32) : Nat → Int32 := fun i => if i = 10 then X else if i = 12 then hr else c i
def hq_u3 (A : Nat → Nat → Int32) (fo fw fs : Nat → Int32) : Nat → Nat → Int32 := fun i => if i = 2 then fo else if i = 3 then fw else if i = 4 then fs else A i
theorem hq_c2a {c : Nat → Int32} {X hr Y : Int32} : upd (hq_c2 c X hr) 10 Y = hq_c2 c Y hr := by
  funext i
  by_cases e : i = 10
  · subst e; rw [hp_us]; rfl
  · rw [hp_un e]; unfold hq_c2; rw [if_neg e, if_neg e]
theorem hq_c2b {c : Nat → Int32} {X hr Y : Int32} : upd (hq_c2 c X hr) 12 Y = hq_c2 c X Y := by
  funext i
  by_cases e : i = 12
  · subst e; rw [hp_us]; rfl
  · rw [hp_un e]; unfold hq_c2; rw [if_neg e, if_neg e]
theorem hq_c2i {c : Nat → Int32} : hq_c2 c (c 10) (c 12) = c := by
  funext i
  unfold hq_c2
  by_cases e : i = 10
  · subst e; rfl
  · rw [if_neg e]
    by_cases e : i = 12
    · subst e; rfl
    · rw [if_neg e]
theorem hq_u3a {A : Nat → Nat → Int32} {fo fw fs g : Nat → Int32} : hp_ua (hq_u3 A fo fw fs) 2 g = hq_u3 A g fw fs := by
  funext i
  by_cases e : i = 2
  · subst e; rfl
  · rw [hp_uan e]; unfold hq_u3; rw [if_neg e, if_neg e]
theorem hq_u3b {A : Nat → Nat → Int32} {fo fw fs g : Nat → Int32} : hp_ua (hq_u3 A fo fw fs) 3 g = hq_u3 A fo g fs := by
  funext i
  by_cases e : i = 3
  · subst e; rfl
  · rw [hp_uan e]; unfold hq_u3; rw [if_neg e, if_neg e]
theorem hq_u3c {A : Nat → Nat → Int32} {fo fw fs g : Nat → Int32} : hp_ua (hq_u3 A fo fw fs) 4 g = hq_u3 A fo fw g := by
  funext i
  by_cases e : i = 4
  · subst e; rfl
  · rw [hp_uan e]; unfold hq_u3; rw [if_neg e, if_neg e]
theorem hq_u3i {A : Nat → Nat → Int32} : hq_u3 A (A 2) (A 3) (A 4) = A := by
  funext i
  unfold hq_u3
  by_cases e : i = 2
  · subst e; rfl
  · rw [if_neg e]
    by_cases e : i = 3
    · subst e; rfl
    · rw [if_neg e]
      by_cases e : i = 4
      · subst e; rfl
      · rw [if_neg e]
/-- one of a CROWD is laid -/
theorem hq_one {b p B : Nat} {c : Nat → Int32} {A : Nat → Nat → Int32} {hr : Int32} (hB : B ≤ 640) (hp : p ≤ 99) :
    ∀ (n k j : Nat) (X : Int32) (fo fw fs all : Nat → Int32), j + k = b → k < n → hp_RQ b (hq_c2 c X hr) (hq_u3 A fo fw fs) all B → hp_CI b (hq_c2 c X hr) (hq_u3 A fo fw fs) →
    ∃ fo' fw' fs' X' all', lp_X2_drawOffs_2 (nI p) (nI b) (A 1) n (nI j) fo fw fs X = some (fo', fw', fs', X') ∧ lp_X8_layOne_2 (nI p) (nI B) n (nI j) all = some all' ∧
      hp_RQ b (hq_c2 c X' hr) (hq_u3 A fo' fw' fs') all' B ∧ hp_CI b (hq_c2 c X' hr) (hq_u3 A fo' fw' fs') ∧ (∀ i, i ≠ B + 6 → i < B + 21 ∨ B + 57 ≤ i → all' i = all i) := by
  intro n
  induction n with
  | zero => intro k j X fo fw fs all h1 h2; omega
  | succ n ih =>
    intro k j X fo fw fs all h1 h2 h hc
    obtain ⟨q1, q2, q3, q4, ⟨q5, q6, q9, q10, q11, q12⟩, q⟩ := id h
    have g0 : pf_X8_get 0 all (nI B) = some (nI b, ()) := by rw [hp_getl 0 (by omega), Nat.add_zero, q2]
    rw [lp_X2_drawOffs_2, lp_X8_layOne_2, g0, hp_bi0]
    by_cases d : b ≤ j
    · have d' := (hp_eI (show b < 2147483648 by omega) (show j < 2147483648 by omega)).mpr d
      rw [if_pos d', if_pos d']
      exact ⟨fo, fw, fs, X, all, rfl, rfl, h, hc, fun i _ _ => rfl⟩
    · have d' : ¬ nI b ≤ nI j := fun d' => d ((hp_eI (by omega) (by omega)).mp d')
      have e10 : all (B + 6) = X := q10
      have e6 : upd all (B + 6) X = all := by rw [← e10, hp_ui]
      have hm : (2 * nI p + 1 : Int32) = nI (2 * p + 1) := by
        rw [show (2 : Int32) * nI p = nI (2 * p) from hp_mI 2 p, hp_i1]
      have hm1 : (nI (2 * p + 1)).toInt = 2 * (p : Int) + 1 := by rw [hp_nT (by omega)]; omega
      have dr7 := hp_drawOf (m := nI (2 * p + 1)) (X := X) (by omega)
      have dr8 := hp_dr8 (all := all) (B := B) (m := nI (2 * p + 1)) (X := X) hB (by omega)
      rw [e6] at dr8
      obtain ⟨r1, r2, r3⟩ := hp_rmR (X := hp_dr X) (m := nI (2 * p + 1)) (by omega)
      rw [if_neg d', if_neg d', hm, dr7, dr8, hp_bi1, hp_bi1]
      generalize hp_rm (hp_dr X) (nI (2 * p + 1)) = r at *
      generalize hp_dr X = Y at *
      have hj : j < b := by omega
      obtain ⟨a1, -, -, -⟩ := q j hj
      have a1 : all (B + (9 + j)) = A 1 j := a1
      obtain ⟨⟨s1, s2⟩, -⟩ := hc.2.2.2.2.2 j hj
      have s1 : 1 ≤ (A 1 j).toInt := s1
      have s2 : (A 1 j).toInt ≤ 9999 := s2
      have ep : (nI p).toInt = (p : Int) := hp_nT (by omega)
      have er : (r - nI p).toInt = r.toInt - p := by rw [hp_sub (by rw [ep]; omega) (by rw [ep]; omega), ep]
      have l1 : (1 : Int32).toInt = 1 := by decide
      have es : (1 - A 1 j).toInt = 1 - (A 1 j).toInt := by rw [hp_sub (by rw [l1]; omega) (by rw [l1]; omega), l1]
      have gY : ∀ (f : Nat → Int32) (u : Int32), pf_X8_get (9 + nI j) f (nI B) = some (f (B + (9 + j)), ()) := fun f u => by rw [hp_a9, hp_get (by omega)]
      have u1 : upd all (B + 6) Y (B + (9 + j)) = A 1 j := by rw [hp_un (by omega)]; exact a1
      have core : ∀ v : Int32, v = (if r - nI p < 1 - A 1 j then 1 - A 1 j else r - nI p) → ∃ fo' fw' fs' X' all', lp_X2_drawOffs_2 (nI p) (nI b) (A 1) n (nI (j + 1)) (upd fo j v) (upd fw j (A 1 j)) (upd fs j (-1)) Y = some (fo', fw', fs', X') ∧ lp_X8_layOne_2 (nI p) (nI B) n (nI (j + 1)) (upd (upd (upd (upd all (B + 6) Y) (B + (21 + j)) v) (B + (33 + j)) (A 1 j)) (B + (45 + j)) (-1)) = some all' ∧
          hp_RQ b (hq_c2 c X' hr) (hq_u3 A fo' fw' fs') all' B ∧ hp_CI b (hq_c2 c X' hr) (hq_u3 A fo' fw' fs') ∧ (∀ i, i ≠ B + 6 → i < B + 21 ∨ B + 57 ≤ i → all' i = all i) := by
        intro v hv
        have hvb : -99 ≤ v.toInt ∧ v.toInt ≤ 99 ∧ 1 ≤ (A 1 j).toInt + v.toInt := by
          rw [hv]
          by_cases cc : r - nI p < 1 - A 1 j
          · rw [if_pos cc]
            rw [hp_lt, er, es] at cc
            rw [es]; omega
          · rw [if_neg cc]
            rw [hp_lt, er, es] at cc
            rw [er]; omega
        have p1 : (1 : Int) ≤ 2 ^ j := Int.pow_pos (by decide)
        have R1 := hq_X h Y
        rw [hq_c2a] at R1
        have R2 := hq_elem (r := 2) (p := 21) (k := j) R1 (by omega) (by omega) v
        have R2 : hp_RQ b (hq_c2 c Y hr) (hp_ua (hq_u3 A fo fw fs) 2 (upd fo j v)) (upd (upd all (B + 6) Y) (B + (21 + j)) v) B := R2
        rw [hq_u3a] at R2
        have R3 := hq_elem (r := 3) (p := 33) (k := j) R2 (by omega) (by omega) (A 1 j)
        have R3 : hp_RQ b (hq_c2 c Y hr) (hp_ua (hq_u3 A (upd fo j v) fw fs) 3 (upd fw j (A 1 j))) (upd (upd (upd all (B + 6) Y) (B + (21 + j)) v) (B + (33 + j)) (A 1 j)) B := R3
        rw [hq_u3b] at R3
        have R4 := hq_elem (r := 4) (p := 45) (k := j) R3 (by omega) (by omega) (-1)
        have R4 : hp_RQ b (hq_c2 c Y hr) (hp_ua (hq_u3 A (upd fo j v) (upd fw j (A 1 j)) fs) 4 (upd fs j (-1))) (upd (upd (upd (upd all (B + 6) Y) (B + (21 + j)) v) (B + (33 + j)) (A 1 j)) (B + (45 + j)) (-1)) B := R4
        rw [hq_u3c] at R4
        have C1 := hp_CI6 hc Y
        rw [hq_c2a] at C1
        have C2 := hp_CI_elem (r := 2) (k := j) (v := v) C1 (Or.inl ⟨rfl, hvb.1, by omega, hvb.2.2⟩)
        have C2 : hp_CI b (hq_c2 c Y hr) (hp_ua (hq_u3 A fo fw fs) 2 (upd fo j v)) := C2
        rw [hq_u3a] at C2
        have C3 := hp_CI_elem (r := 3) (k := j) (v := A 1 j) C2 (Or.inr (Or.inl ⟨rfl, by omega, by omega⟩))
        have C3 : hp_CI b (hq_c2 c Y hr) (hp_ua (hq_u3 A (upd fo j v) fw fs) 3 (upd fw j (A 1 j))) := C3
        rw [hq_u3b] at C3
        have C4 := hp_CI_elem (r := 4) (k := j) (v := -1) C3 (Or.inr (Or.inr ⟨rfl, Or.inl rfl⟩))
        have C4 : hp_CI b (hq_c2 c Y hr) (hp_ua (hq_u3 A (upd fo j v) (upd fw j (A 1 j)) fs) 4 (upd fs j (-1))) := C4
        rw [hq_u3c] at C4
        obtain ⟨fo', fw', fs', X', all', y1, y2, y3, y4, y5⟩ := ih (k - 1) (j + 1) Y _ _ _ _ (by omega) (by omega) R4 C4
        exact ⟨fo', fw', fs', X', all', y1, y2, y3, y4, fun i i1 i2 => by rw [y5 i i1 i2, hp_un (by omega), hp_un (by omega), hp_un (by omega), hp_un (by omega)]⟩
      simp only [hp_nm, hp_jn, hp_ck (show j < 12 by omega) (show 12 < 2147483648 by decide), hp_cl (show j < 2147483648 by omega), hp_i1, gY _ 0, u1, hp_bi0, hp_a21, hp_a33, hp_a45]
      by_cases cc : 1 - A 1 j ≤ r - nI p
      · have c2 : ¬ r - nI p < 1 - A 1 j := by rw [hp_le] at cc; rw [hp_lt]; omega
        rw [if_pos cc, if_neg c2]
        rw [hp_put (by omega), hp_bv1, show upd (upd all (B + 6) Y) (B + (21 + j)) (r - nI p) (B + (9 + j)) = A 1 j from by rw [hp_un (by omega)]; exact u1, hp_put (by omega), hp_bv1, hp_put (by omega), hp_bv1]
        exact core _ (by rw [if_neg c2])
      · have c2 : r - nI p < 1 - A 1 j := by rw [hp_le] at cc; rw [hp_lt]; omega
        rw [if_neg cc, if_pos c2]
        rw [hp_put (by omega), hp_bv1, show upd (upd all (B + 6) Y) (B + (21 + j)) (1 - A 1 j) (B + (9 + j)) = A 1 j from by rw [hp_un (by omega)]; exact u1, hp_put (by omega), hp_bv1, hp_put (by omega), hp_bv1]
        exact core _ (by rw [if_pos c2])
