/-! The relation without RULE and NOISE: what ON PAPER sees; going through in either way (p), at any row; LEARN. -/
def hp_RQ (b : Nat) (c : Nat → Int32) (A : Nat → Nat → Int32) (all : Nat → Int32) (B : Nat) : Prop :=
  c 0 = nI b ∧ all B = nI b ∧ b ≤ 12 ∧ (b = 0 ∨ 2 ≤ b) ∧
  (all (B + 1) = c 5 ∧ all (B + 2) = c 6 ∧ all (B + 5) = c 9 ∧ all (B + 6) = c 10 ∧ all (B + 7) = c 11 ∧ all (B + 8) = c 12) ∧
  ∀ i, i < b → all (B + (9 + i)) = A 1 i ∧ all (B + (21 + i)) = A 2 i ∧ all (B + (33 + i)) = A 3 i ∧ all (B + (45 + i)) = A 4 i
def hp_RN (p : Int32) (c all : Nat → Int32) (B : Nat) : Prop := c 7 = hp_rl p (all (B + 3)) ∧ c 8 = (if p = 0 then all (B + 4) else 0)
theorem hq_of {b : Nat} {c : Nat → Int32} {A : Nat → Nat → Int32} {all : Nat → Int32} {B : Nat} (h : hp_RC b c A all B) : hp_RQ b c A all B ∧ hp_RN 0 c all B := by
  obtain ⟨q1, q2, q3, q4, ⟨q5, q6, q7, q8, q9, q10, q11, q12⟩, q⟩ := h
  refine ⟨⟨q1, q2, q3, q4, ⟨q5, q6, q9, q10, q11, q12⟩, q⟩, ?_, ?_⟩
  · rw [hp_rl0, q7]
  · rw [if_pos rfl, q8]
theorem hq_to {b : Nat} {c : Nat → Int32} {A : Nat → Nat → Int32} {all : Nat → Int32} {B : Nat} (h : hp_RQ b c A all B) (h2 : hp_RN 0 c all B) : hp_RC b c A all B := by
  obtain ⟨q1, q2, q3, q4, ⟨q5, q6, q9, q10, q11, q12⟩, q⟩ := h
  obtain ⟨q7, q8⟩ := h2
  rw [hp_rl0] at q7
  rw [if_pos rfl] at q8
  exact ⟨q1, q2, q3, q4, ⟨q5, q6, q7.symm, q8.symm, q9, q10, q11, q12⟩, q⟩
theorem hq_rw {b : Nat} {c : Nat → Int32} {A : Nat → Nat → Int32} {all : Nat → Int32} {B : Nat} (h : hp_RQ b c A all B) : ∀ i, i < b → hp_rw all B i = hp_w A i ∧ hp_rwo all B i = A 3 i ∧ hp_rst all B i = A 4 i := by
  intro i hi
  obtain ⟨-, -, -, -, -, h⟩ := h
  obtain ⟨h1, h2, h3, h4⟩ := h i hi
  unfold hp_rw hp_rwo hp_rst hp_w
  rw [h1, h2, h3, h4]
  exact ⟨rfl, rfl, rfl⟩
theorem hq_g8c {b k : Nat} {c : Nat → Int32} {A : Nat → Nat → Int32} {all : Nat → Int32} {B : Nat} (h : hp_RQ b c A all B) (hk : k ≤ b) (rule noise x0 : Int32) (g : hp_G) : hp_gs (hp_rw all B) (hp_rwo all B) (hp_rst all B) (all (B + 2)) rule noise x0 k g = hp_gc c A rule noise x0 k g := by
  unfold hp_gc
  rw [h.2.2.2.2.1.2.1]
  exact hp_gs_congr k g (fun i hi => hq_rw h i (by omega))
theorem hq_step {b k B : Nat} {c : Nat → Int32} {A : Nat → Nat → Int32} {all : Nat → Int32} {x sh X p : Int32} (h : hp_RQ b c A all B) (hn : hp_RN p c all B) (hc : hp_CI b c A) (hB : B ≤ 640) (h4 : 0 ≤ (all (B + 4)).toInt ∧ (all (B + 4)).toInt ≤ 20) (hk : k ≤ b) (one late ap held dec wl ao hb : Nat → Int32) :
    ∃ X' o' l' d' e' s' h' x9 la on dec' wl' ao' hb', pf_X2_run x sh (nI k) (A 1) (A 2) (A 3) (A 4) (c 6) (c 7) (c 8) (c 9) X one late ap held = some (X', nI k, o', l', d', e', s', h', x9, la, on, hp_code (c 9) s') ∧
      pf_X8_goThrough x (nI k) sh (upd all (B + 6) X) (nI B) dec wl ao hb p (-1) = some (upd all (B + 6) X', dec', wl', ao', hb', s', h') ∧ 0 ≤ s'.toInt ∧ s'.toInt ≤ 9999 * (2 ^ k - 1) := by
  have hb12 := h.2.2.1
  obtain ⟨n7, n8⟩ := hn
  obtain ⟨-, -, ⟨u1, u2⟩, ⟨n1, n2⟩, ⟨s1, s2⟩, hcA⟩ := id hc
  obtain ⟨X', h', s', o', l', d', e', g1, g2⟩ := hp_R2 (k := k) (x := x) (shift := sh) (band := c 6) (rule := c 7) (noise := c 8) (step := c 9) (X := X) (size := A 1) (off := A 2) (worth := A 3) (stuck := A 4) (o := one) (l := late) (d := ap) (h := held) (by omega) ⟨n1, n2⟩ s1 s2
  have g8 := hp_R8 (k := k) (B := B) (x := x) (shift := sh) (p := p) (X := X) (all := all) (o := dec) (l := wl) (d := ao) (h := hb) (by omega) hB h4
  rw [hq_g8c h hk, ← n7, ← n8] at g8
  obtain ⟨X2, h2, s2', oo, ll, dd, ee, oo2, ll2, dd2, ee2, i1, i2, i3⟩ := hp_gs_ir (w := hp_w A) (wo := A 3) (st := A 4) (band := c 6) (rule := c 7) (noise := c 8) (x0 := x + sh) k X 0 0 one late ap held dec wl ao hb
  have g1' : (X2, h2, s2', oo, ll, dd, ee) = (X', h', s', o', l', d', e') := i1.symm.trans g1
  simp only [Prod.mk.injEq] at g1'
  obtain ⟨rfl, rfl, rfl, rfl, rfl, rfl, rfl⟩ := g1'
  unfold hp_gc at g8
  rw [i2] at g8
  have p1 := hp_2k k (by omega)
  have sb := hp_gs_sum (w := hp_w A) (wo := A 3) (st := A 4) (band := c 6) (rule := c 7) (noise := c 8) (x0 := x + sh) k (X, 0, 0, one, late, ap, held) (by omega) (fun i hi => (hcA i (by omega)).2.2.2.1) (by show (0 : Int) ≤ (0 : Int32).toInt; decide) (by show (0 : Int32).toInt + _ < _; rw [show (0 : Int32).toInt = 0 from by decide]; omega)
  rw [i1] at sb
  simp only [show (0 : Int32).toInt = 0 from by decide, Int.zero_add] at sb
  exact ⟨_, _, _, _, _, _, _, _, _, _, _, _, _, _, g2, g8, sb.1, sb.2⟩
theorem hq_row {b : Nat} {c : Nat → Int32} {A : Nat → Nat → Int32} {all all' : Nat → Int32} {B : Nat} (h : hp_RQ b c A all B) (e : ∀ i, i < 57 → all' (B + i) = all (B + i)) : hp_RQ b c A all' B := by
  obtain ⟨q1, q2, q3, q4, ⟨q5, q6, q9, q10, q11, q12⟩, q⟩ := h
  refine ⟨q1, (e 0 (by omega)).trans q2, q3, q4, ⟨(e _ (by omega)).trans q5, (e _ (by omega)).trans q6, (e _ (by omega)).trans q9, (e _ (by omega)).trans q10, (e _ (by omega)).trans q11, (e _ (by omega)).trans q12⟩, fun i hi => ?_⟩
  obtain ⟨a1, a2, a3, a4⟩ := q i hi
  exact ⟨(e _ (by omega)).trans a1, (e _ (by omega)).trans a2, (e _ (by omega)).trans a3, (e _ (by omega)).trans a4⟩
theorem hq_elem {b : Nat} {c : Nat → Int32} {A : Nat → Nat → Int32} {all : Nat → Int32} {B k r p : Nat} (h : hp_RQ b c A all B) (hr : (r = 2 ∧ p = 21) ∨ (r = 3 ∧ p = 33) ∨ (r = 4 ∧ p = 45)) (hk : k < 12) (v : Int32) : hp_RQ b c (hp_ua A r (upd (A r) k v)) (upd all (B + (p + k)) v) B := by
  obtain ⟨q1, q2, q3, q4, ⟨q5, q6, q9, q10, q11, q12⟩, q⟩ := h
  have o : ∀ i : Nat, i ≤ 8 → upd all (B + (p + k)) v (B + i) = all (B + i) := fun i hi => hp_un (by omega)
  have row : ∀ (s t i : Nat), i < b → ((s = 1 ∧ t = 9) ∨ (s = 2 ∧ t = 21) ∨ (s = 3 ∧ t = 33) ∨ (s = 4 ∧ t = 45)) → all (B + (t + i)) = A s i → upd all (B + (p + k)) v (B + (t + i)) = hp_ua A r (upd (A r) k v) s i := by
    intro s t i hi hs he
    by_cases e : s = r
    · subst e
      rw [hp_uas]
      have : t = p := by omega
      subst this
      by_cases e2 : i = k
      · subst e2; rw [hp_us, hp_us]
      · rw [hp_un (by omega), hp_un e2]; exact he
    · rw [hp_uan e, hp_un (by omega)]; exact he
  refine ⟨q1, (o 0 (by omega)).trans q2, q3, q4, ⟨(o _ (by omega)).trans q5, (o _ (by omega)).trans q6, (o _ (by omega)).trans q9, (o _ (by omega)).trans q10, (o _ (by omega)).trans q11, (o _ (by omega)).trans q12⟩, fun i hi => ?_⟩
  obtain ⟨a1, a2, a3, a4⟩ := q i hi
  exact ⟨row 1 9 i hi (by omega) a1, row 2 21 i hi (by omega) a2, row 3 33 i hi (by omega) a3, row 4 45 i hi (by omega) a4⟩
theorem hq_X {b : Nat} {c : Nat → Int32} {A : Nat → Nat → Int32} {all : Nat → Int32} {B : Nat} (h : hp_RQ b c A all B) (X : Int32) : hp_RQ b (upd c 10 X) A (upd all (B + 6) X) B := by
  obtain ⟨q1, q2, q3, q4, ⟨q5, q6, q9, q10, q11, q12⟩, q⟩ := h
  refine ⟨?_, ?_, q3, q4, ⟨?_, ?_, ?_, ?_, ?_, ?_⟩, fun i hi => ?_⟩
  · rw [hp_un (by decide)]; exact q1
  · rw [hp_un (by omega)]; exact q2
  · rw [hp_un (by omega), hp_un (by decide)]; exact q5
  · rw [hp_un (by omega), hp_un (by decide)]; exact q6
  · rw [hp_un (by omega), hp_un (by decide)]; exact q9
  · rw [hp_us, hp_us]
  · rw [hp_un (by omega), hp_un (by decide)]; exact q11
  · rw [hp_un (by omega), hp_un (by decide)]; exact q12
  · rw [hp_un (by omega), hp_un (by omega), hp_un (by omega), hp_un (by omega)]; exact q i hi
theorem hq_put {all : Nat → Int32} {B a : Nat} {v : Int32} (h : B + a < 800) : pf_X8_put (nI a) v all (nI B) = some (upd all (B + a) v) := hp_put h
theorem hq_ln1 {b m B : Nat} {c : Nat → Int32} {A : Nat → Nat → Int32} (hb : b ≤ 12) (hm : m ≤ b) (hB : B ≤ 640) :
    ∀ (n k j : Nat) (f all : Nat → Int32), j + k = m → k < n → hp_RQ b c (hp_ua A 3 f) all B → hp_CI b c (hp_ua A 3 f) →
    ∃ f' all', (∀ J3, lp_X2_learnFrom_3 (nI m) (nI b) (A 1) J3 n (nI j) f = J3 f') ∧ (∀ J9, lp_X8_learnNow_9 (nI m) (nI B) J9 n (nI j) all = J9 all') ∧ hp_RQ b c (hp_ua A 3 f') all' B ∧ hp_CI b c (hp_ua A 3 f') ∧ (∀ i, i < B + 33 ∨ B + 45 ≤ i → all' i = all i) := by
  intro n
  induction n with
  | zero => intro k j f all h1 h2; omega
  | succ n ih =>
    intro k j f all h1 h2 h hc
    obtain ⟨q1, q2, q3, -, -, q⟩ := id h
    by_cases d : m ≤ j
    · have d' := (hp_eI (show m < 2147483648 by omega) (show j < 2147483648 by omega)).mpr d
      refine ⟨f, all, fun J => ?_, fun J => ?_, h, hc, fun i hi => rfl⟩
      · rw [lp_X2_learnFrom_3, if_pos d']
      · rw [lp_X8_learnNow_9, if_pos d']
    · have d' : ¬ nI m ≤ nI j := fun d' => d ((hp_eI (by omega) (by omega)).mp d')
      have d2 : ¬ nI b ≤ nI j := fun d' => (show ¬ b ≤ j by omega) ((hp_eI (by omega) (by omega)).mp d')
      have hj : j < b := by omega
      obtain ⟨a1, -, a3, -⟩ := q j hj
      rw [hp_uan (by decide)] at a1
      have e1 := hp_szb hc hj
      have hR := hq_elem (r := 3) (p := 33) (k := j) h (by omega) (by omega) (A 1 j)
      have hC := hp_CI_elem (r := 3) (k := j) (v := A 1 j) hc (Or.inr (Or.inl ⟨rfl, by omega, by
        have : (1 : Int) ≤ 2 ^ j := Int.pow_pos (by decide)
        omega⟩))
      rw [hp_uas, hp_uaa] at hR hC
      obtain ⟨f', all', b1, b2, b3, b4, b5⟩ := ih (k - 1) (j + 1) (upd f j (A 1 j)) (upd all (B + (33 + j)) (A 1 j)) (by omega) (by omega) hR hC
      refine ⟨f', all', fun J => ?_, fun J => ?_, b3, b4, fun i hi => (b5 i hi).trans (hp_un (by omega))⟩
      · rw [lp_X2_learnFrom_3, if_neg d', if_neg d2, hp_ck (show j < 12 by omega) (by decide), hp_nm, hp_ck (show j < 12 by omega) (by decide), hp_nm, hp_i1, hp_cl (by omega), b1]
      · rw [lp_X8_learnNow_9, if_neg d', hp_a33, hp_a9, hp_get (by omega), hp_bi0, hp_put (by omega), hp_bv1, hp_nm, hp_i1, a1, b2]
theorem hq_ln2 {b i r B : Nat} {p : Int32} {c : Nat → Int32} {A : Nat → Nat → Int32} {all : Nat → Int32} (h : hp_RQ b c A all B) (hn : hp_RN p c all B) (hc : hp_CI b c A) (hB : B ≤ 640) (h4 : 0 ≤ (all (B + 4)).toInt ∧ (all (B + 4)).toInt ≤ 20) (hi : i < b) (hr : 1 ≤ r ∧ r ≤ 8) :
    ∀ (n k j : Nat) (T : Int64) (t X bits sum hd left lates ones code s8 hd8 : Int32) (one late ap held dec wl ao hb : Nat → Int32), j + k = r → k < n → T.toInt = t.toInt → 0 ≤ t.toInt → t.toInt ≤ 2 * j * (9999 * (2 ^ i - 1)) →
    ∃ (T' : Int64) (t' : Int32), ∃ X' bits' sum' hd' left' lates' ones' code' s8' hd8' one' late' ap' held' dec' wl' ao' hb', T'.toInt = t'.toInt ∧ 0 ≤ t'.toInt ∧ t'.toInt ≤ 2 * r * (9999 * (2 ^ i - 1)) ∧
      (∀ J1, lp_X2_learnFrom_56 (nI r) (c 5) (c 6) (c 7) (c 8) (c 9) (A 2) (A 1) (A 4) (nI i) (A 3) J1 n T (nI j) X bits one late ap held sum hd left lates ones code = J1 T' X' bits' one' late' ap' held' sum' hd' left' lates' ones' code') ∧
      (∀ J8, lp_X8_learnNow_54 (nI r) (nI B) p (-1) (nI i) J8 n t (nI j) (upd all (B + 6) X) dec wl ao hb s8 hd8 = J8 t' (upd all (B + 6) X') dec' wl' ao' hb' s8' hd8') := by
  intro n
  induction n with
  | zero => intro k j T t X bits sum hd left lates ones code s8 hd8 one late ap held dec wl ao hb h1 h2; omega
  | succ n ih =>
    intro k j T t X bits sum hd left lates ones code s8 hd8 one late ap held dec wl ao hb h1 h2 ht h0 hM
    have p1 := hp_2k i (by have := h.2.2.1; omega)
    have p0 : (1 : Int) ≤ 2 ^ i := Int.pow_pos (by decide)
    generalize hMM : (9999 * (2 ^ i - 1) : Int) = M at *
    have hb12 := h.2.2.1
    have hq := h.2.2.2.2.1.1
    by_cases d : r ≤ j
    · have d' := (hp_eI (show r < 2147483648 by omega) (show j < 2147483648 by omega)).mpr d
      have : j = r := by omega
      subst this
      refine ⟨T, t, X, bits, sum, hd, left, lates, ones, code, s8, hd8, one, late, ap, held, dec, wl, ao, hb, ht, h0, hM, fun J => ?_, fun J => ?_⟩
      · rw [lp_X2_learnFrom_56, if_pos d']
      · rw [lp_X8_learnNow_54, if_pos d']
    · have d' : ¬ nI r ≤ nI j := fun d' => d ((hp_eI (by omega) (by omega)).mp d')
      have w7 : pf_X2_weight (nI i) (A 1) (A 2) = some (hp_w A i, ()) := hp_wt (by omega)
      have w8 : ∀ X, pf_X8_weight (nI i) (upd all (B + 6) X) (nI B) = some (hp_w A i, ()) := by
        intro X
        have := hp_wt6 (all := all) (B := B) (i := i) (X := X) (by omega) (by omega)
        rw [(hq_rw h i hi).1] at this
        exact this
      have g1 : ∀ X, pf_X8_get 1 (upd all (B + 6) X) (nI B) = some (c 5, ()) := by
        intro X
        have := hp_getl (all := upd all (B + 6) X) (B := B) 1 (by omega)
        rw [hp_un (by omega), hq] at this
        exact this
      obtain ⟨X1, o1, l1, d1, e1, s1, h1', x9, la, on, dec1, wl1, ao1, hb1, r7, r8, m1, m2⟩ := hq_step (x := hp_w A i) (sh := c 5) (X := X) h hn hc hB h4 (show i ≤ b by omega) one late ap held dec wl ao hb
      obtain ⟨X2, o2, l2, d2, e2, s2, h2', y9, la2, on2, dec2, wl2, ao2, hb2, t7, t8, m3, m4⟩ := hq_step (x := hp_w A i) (sh := -c 5) (X := X1) h hn hc hB h4 (show i ≤ b by omega) o1 l1 d1 e1 dec1 wl1 ao1 hb1
      rw [hMM] at m2 m4
      have hj8 : (j : Int) ≤ 7 := by omega
      have hMb : M ≤ 40945905 := by omega
      have hM0 : 0 ≤ M := by omega
      have q : 2 * (j : Int) * M ≤ 14 * M := Int.mul_le_mul_of_nonneg_right (by omega) hM0
      have a1 : (t + s1).toInt = t.toInt + s1.toInt := hp_add (by omega) (by omega)
      have a2 : (t + s1 + s2).toInt = t.toInt + s1.toInt + s2.toInt := by rw [hp_add (by rw [a1]; omega) (by rw [a1]; omega), a1]
      have b1 : (T + s1.toInt64).toInt = t.toInt + s1.toInt := by rw [hl_add (by rw [hl_of, ht]; omega) (by rw [hl_of, ht]; omega), hl_of, ht]
      have b2 : (T + s1.toInt64 + s2.toInt64).toInt = t.toInt + s1.toInt + s2.toInt := by rw [hl_add (by rw [hl_of, b1]; omega) (by rw [hl_of, b1]; omega), hl_of, b1]
      have e : 2 * ((j + 1 : Nat) : Int) * M = 2 * (j : Int) * M + 2 * M := by
        rw [show ((j + 1 : Nat) : Int) = (j : Int) + 1 by omega, Int.mul_add, Int.add_mul]
        omega
      obtain ⟨T', t', X', bits', sum', hd', left', lates', ones', code', s8', hd8', one', late', ap', held', dec', wl', ao', hb', v1, v2, v3, v4, v5⟩ := ih (k - 1) (j + 1) _ _ X2 _ _ _ _ _ _ _ _ _ _ _ _ _ _ _ _ _ (by omega) (by omega) (show (T + s1.toInt64 + s2.toInt64).toInt = (t + s1 + s2).toInt by rw [a2, b2]) (by rw [a2]; omega) (by rw [a2, e]; omega)
      refine ⟨T', t', X', bits', sum', hd', left', lates', ones', code', s8', hd8', one', late', ap', held', dec', wl', ao', hb', v1, v2, v3, fun J => ?_, fun J => ?_⟩
      · rw [lp_X2_learnFrom_56, if_neg d', w7, hp_bi0, r7, hp_bv12, hp_nm, hp_bi0, t7, hp_bv12, hp_nm, hp_nm, hp_i1]
        exact v4 J
      · rw [lp_X8_learnNow_54, if_neg d', w8, hp_bi0, g1, hp_bi0, r8, hp_bv7, hp_nm, w8, hp_bi0, g1, hp_bi0, t8, hp_bv7, hp_nm, hp_nm, hp_i1]
        exact v5 J
/-- a row's place of no matter for numbers that are as told -/
theorem hq_CI6 {b : Nat} {c : Nat → Int32} {A : Nat → Nat → Int32} (h : hp_CI b c A) (X : Int32) : hp_CI b (upd c 10 X) A := hp_CI6 h X
theorem hq_ln3 {b r B : Nat} {p : Int32} {c : Nat → Int32} {A : Nat → Nat → Int32} (hb : b ≤ 12) (hB : B ≤ 640) (hr : 1 ≤ r ∧ r ≤ 8) (G : Nat) (hG : r < G) (hGU : FU = G) :
    ∀ (n k j : Nat) (f all : Nat → Int32) (X bits sum hd left lates ones code s8 hd8 : Int32) (one late ap held dec wl ao hb : Nat → Int32), j + k = b → k < n → hp_RQ b (upd c 10 X) (hp_ua A 3 f) all B → hp_RN p c all B → hp_CI b (upd c 10 X) (hp_ua A 3 f) → (0 ≤ (all (B + 4)).toInt ∧ (all (B + 4)).toInt ≤ 20) →
    ∃ f' all' X' bits' sum' hd' left' lates' ones' code' s8' hd8' one' late' ap' held' dec' wl' ao' hb',
      lp_X2_learnFrom_41 (nI r) (nI b) (c 5) (c 6) (c 7) (c 8) (c 9) (A 2) (A 1) (A 4) n (nI j) f X bits one late ap held sum hd left lates ones code = some (f', X', bits', one', late', ap', held', sum', hd', left', lates', ones', code') ∧
      lp_X8_learnNow_42 (nI r) (nI B) p (-1) (nI b) n (nI j) all dec wl ao hb s8 hd8 = some (all', dec', wl', ao', hb', s8', hd8') ∧
      hp_RQ b (upd c 10 X') (hp_ua A 3 f') all' B ∧ hp_CI b (upd c 10 X') (hp_ua A 3 f') ∧ (∀ i, i ≠ B + 6 → i < B + 33 ∨ B + 45 ≤ i → all' i = all i) := by
  intro n
  induction n with
  | zero => intro k j f all X bits sum hd left lates ones code s8 hd8 one late ap held dec wl ao hb h1 h2; omega
  | succ n ih =>
    intro k j f all X bits sum hd left lates ones code s8 hd8 one late ap held dec wl ao hb h1 h2 h hn hc h4
    rw [lp_X2_learnFrom_41, lp_X8_learnNow_42]
    by_cases d : b ≤ j
    · have d' := (hp_eI (show b < 2147483648 by omega) (show j < 2147483648 by omega)).mpr d
      rw [if_pos d', if_pos d']
      exact ⟨f, all, X, bits, sum, hd, left, lates, ones, code, s8, hd8, one, late, ap, held, dec, wl, ao, hb, rfl, rfl, h, hc, fun i hi _ => rfl⟩
    · have d' : ¬ nI b ≤ nI j := fun d' => d ((hp_eI (by omega) (by omega)).mp d')
      rw [if_neg d', if_neg d', hp_jn, hp_jn, hGU]
      have hx : all (B + 6) = X := by
        have := h.2.2.2.2.1.2.2.2.1
        rw [hp_us] at this
        exact this
      have hn' : hp_RN p (upd c 10 X) all B := by
        obtain ⟨n1, n2⟩ := hn
        exact ⟨by rw [hp_un (by decide)]; exact n1, by rw [hp_un (by decide)]; exact n2⟩
      obtain ⟨T', t', X', bits', sum', hd', left', lates', ones', code', s8', hd8', one', late', ap', held', dec', wl', ao', hb', v1, v2, v3, v4, v5⟩ := hq_ln2 (i := j) (r := r) h hn' hc hB h4 (by omega) hr G r 0 0 0 X bits sum hd left lates ones code s8 hd8 one late ap held dec wl ao hb (by omega) hG (by decide) (by decide) (by show (0 : Int32).toInt ≤ _; rw [show (0 : Int32).toInt = 0 from by decide]; simp)
      rw [hp_un (by decide), hp_un (by decide), hp_un (by decide), hp_un (by decide), hp_un (by decide), hp_uan (by decide), hp_uan (by decide), hp_uan (by decide), hp_uas] at v4
      have e6 : upd all (B + 6) X = all := by rw [← hx, hp_ui]
      rw [e6] at v5
      have v4' := v4 (fun (x16 : Int64) (x17 : Int32) (x18 : Int32) (f19 : Nat → Int32) (f20 : Nat → Int32) (f21 : Nat → Int32) (f22 : Nat → Int32) (x23 : Int32) (x24 : Int32) (x25 : Int32) (x26 : Int32) (x27 : Int32) (x28 : Int32) =>
        bi_0 (pf_X7_nearest x16 (nI r * 2)) fun r29 => ckI (nI j) 12 <| nm (nI j + 1) fun x30 =>
        lp_X2_learnFrom_41 (nI r) (nI b) (c 5) (c 6) (c 7) (c 8) (c 9) (A 2) (A 1) (A 4) n x30 (upd f (nI j).toNatClampNeg r29) x17 x18 f19 f20 f21 f22 x23 x24 x25 x26 x27 x28)
      have v5' := v5 (fun (x11 : Int32) (f12 : Nat → Int32) (f13 : Nat → Int32) (f14 : Nat → Int32) (f15 : Nat → Int32) (f16 : Nat → Int32) (x17 : Int32) (x18 : Int32) =>
        ckD (2 * nI r) <| bv_1 (pf_X8_put (33 + nI j) ((x11 + nI r) / (2 * nI r)) f12 (nI B)) fun f19 => nm (nI j + 1) fun x20 =>
        lp_X8_learnNow_42 (nI r) (nI B) p (-1) (nI b) n x20 f19 f13 f14 f15 f16 x17 x18)
      have p1 := hp_2k j (by omega)
      have p0 : (1 : Int) ≤ 2 ^ j := Int.pow_pos (by decide)
      have hMb : (9999 * (2 ^ j - 1) : Int) ≤ 40945905 := by omega
      have hM0 : (0 : Int) ≤ 9999 * (2 ^ j - 1) := by omega
      have hle : (9999 * (2 ^ j - 1) : Int) ≤ 9999 * 2 ^ j := by omega
      generalize hMM : (9999 * (2 ^ j - 1) : Int) = M at *
      have q8 : 2 * (r : Int) * M ≤ 16 * M := Int.mul_le_mul_of_nonneg_right (by omega) hM0
      obtain ⟨v, w1, w2, w3, w4⟩ := hp_near2 (T := T') (t := t') hr v1 v2 (by omega)
      have hv0 : 0 ≤ v.toInt := by rw [w4]; exact Int.ediv_nonneg (by omega) (by omega)
      have hv1 : v.toInt ≤ M := by
        have : v.toInt < M + 1 := by
          rw [w4]
          refine Int.ediv_lt_of_lt_mul (by omega) ?_
          have : (M + 1) * (2 * (r : Int)) = 2 * (r : Int) * M + 2 * r := by rw [Int.add_mul, Int.one_mul, Int.mul_comm M]
          omega
        omega
      have hR := hq_elem (r := 3) (p := 33) (k := j) (hq_X h X') (by omega) (by omega) v
      have hC := hp_CI_elem (r := 3) (k := j) (v := v) (hp_CI6 hc X') (Or.inr (Or.inl ⟨rfl, hv0, by omega⟩))
      have euu : upd (upd c 10 X) 10 X' = upd c 10 X' := hp_uu
      rw [hp_uas, hp_uaa, euu] at hR hC
      have z3 : upd (upd all (B + 6) X') (B + (33 + j)) v (B + 3) = all (B + 3) := by rw [hp_un (by omega), hp_un (by omega)]
      have z4 : upd (upd all (B + 6) X') (B + (33 + j)) v (B + 4) = all (B + 4) := by rw [hp_un (by omega), hp_un (by omega)]
      obtain ⟨f2, all2, X2, bits2, sum2, hd2, left2, lates2, ones2, code2, s82, hd82, one2, late2, ap2, held2, dec2, wl2, ao2, hb2, y1, y2, y3, y4, y5⟩ := ih (k - 1) (j + 1) _ _ X' bits' sum' hd' left' lates' ones' code' s8' hd8' one' late' ap' held' dec' wl' ao' hb' (by omega) (by omega) hR (by unfold hp_RN; rw [z3, z4]; exact hn) hC (by rw [z4]; exact h4)
      refine ⟨f2, all2, X2, bits2, sum2, hd2, left2, lates2, ones2, code2, s82, hd82, one2, late2, ap2, held2, dec2, wl2, ao2, hb2, ?_, ?_, y3, y4, fun i i1 i2 => ?_⟩
      · refine Eq.trans v4' ?_
        show bi_0 (pf_X7_nearest T' (nI r * 2)) _ = _
        rw [w1, hp_bi0, hp_ck (show j < 12 by omega) (by decide), hp_nm, hp_i1, hp_cl (by omega)]
        exact y1
      · refine Eq.trans v5' ?_
        show ckD (2 * nI r) _ = _
        rw [hp_ckD w3, w2, hp_a33, hp_put (by omega), hp_bv1, hp_nm, hp_i1]
        exact y2
      · rw [y5 i i1 i2, hp_un (by omega), hp_un i1]
