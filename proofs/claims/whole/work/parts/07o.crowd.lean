/-! crowd. -/
theorem hq_rn1 {B : Nat} {c all : Nat → Int32} (h7 : c 7 = 3) (h8 : c 8 = 0) : hp_RN 1 c all B := by
  unfold hp_RN hp_rl
  rw [if_neg (by decide), if_neg (by decide)]
  exact ⟨h7, h8⟩
theorem hq_crowd {b m p q : Nat} {a5 hr : Int32} {c : Nat → Int32} {A : Nat → Nat → Int32} (hm : m ≤ 20) (hp : p ≤ 99) (hqb : q ≤ b) (hs : (hp_sum (A 1) b).toInt / (c 9).toInt < 2000) (h7 : c 7 = 3) (h8 : c 8 = 0) (x16 x17 x20 : Int32) (f18 f19 : Nat → Int32) :
    ∀ (n k j : Nat) (t X pbits psum phd pleft plates pones pcode t1 t2 t3 t4 t5 t6 t7 t8 t9 t10 t11 s hd cm : Int32) (fo fw fs all pone plate pap pheld en dec wl ao hb cd so : Nat → Int32), j + k = m → k < n → hp_RQ b (hq_c2 c X hr) (hq_u3 A fo fw fs) all 640 → hp_CI b (hq_c2 c X hr) (hq_u3 A fo fw fs) → (0 ≤ (all 644).toInt ∧ (all 644).toInt ≤ 20) →
    ∃ r R7 all' dec' wl' ao' hb' s' hd' cd' so' cm', lp_X7_crowd_59 (nI m) (nI p) (nI q) a5 (nI b) (A 1) (c 5) (c 6) (c 7) (c 8) (c 9) x16 x17 f18 f19 x20 n t (nI j) fo fw fs X pbits pone plate pap pheld psum phd pleft plates pones pcode en t1 t2 t3 t4 t5 t6 t7 t8 t9 t10 t11 = some (r, R7) ∧
      lp_X8_crowd_70 (nI m) (nI p) (nI q) a5 (-1) (nI 640) n t (nI j) all dec wl ao hb s hd 0 cd so cm = some (r, all', 0, dec', wl', ao', hb', s', hd', 0, cd', so', cm') ∧ (∀ i, i < 640 → all' i = all i) := by
  have hF : 12 < FU := by unfold FU; omega
  intro n
  induction n with
  | zero => intro k j t X pbits psum phd pleft plates pones pcode t1 t2 t3 t4 t5 t6 t7 t8 t9 t10 t11 s hd cm fo fw fs all pone plate pap pheld en dec wl ao hb cd so h1 h2; omega
  | succ n ih =>
    intro k j t X pbits psum phd pleft plates pones pcode t1 t2 t3 t4 t5 t6 t7 t8 t9 t10 t11 s hd cm fo fw fs all pone plate pap pheld en dec wl ao hb cd so h1 h2 h hc h4
    rw [lp_X7_crowd_59, lp_X8_crowd_70]
    by_cases d : m ≤ j
    · have d' := (hp_eI (show m < 2147483648 by omega) (show j < 2147483648 by omega)).mpr d
      rw [if_pos d', if_pos d']
      exact ⟨_, _, all, dec, wl, ao, hb, s, hd, cd, so, cm, rfl, rfl, fun i _ => rfl⟩
    · have d' : ¬ nI m ≤ nI j := fun d' => d ((hp_eI (by omega) (by omega)).mp d')
      have hb12 := h.2.2.1
      obtain ⟨fo1, fw1, fs1, X1, all1, y1, y2, y3, y4, y5⟩ := hq_one (p := p) (B := 640) (by omega) hp FU b 0 X fo fw fs all (by omega) (by omega) h hc
      have y1 : pf_X2_drawOffs (nI p) (nI b) (A 1) fo fw fs X = some (fo1, fw1, fs1, X1) := y1
      have y2 : pf_X8_layOne (nI p) all (nI 640) = some all1 := y2
      obtain ⟨w1, _, en1, z1, z2, z3, z4, z5, z6, z7, z8, z9, z10, z11, dec1, wl1, ao1, hb1, cd1, so1, s1, hd1, cm1, v1, v2⟩ := hg_wh y3 y4 (by omega) hs en dec wl ao hb cd so s hd
      have v1 : pf_X4_isWhole en (nI b) (A 1) fo1 fw1 fs1 (c 5) (c 9) = _ := v1
      obtain ⟨fw2, all2, X2, bits2, sum2, hd2, left2, lates2, ones2, code2, s82, hd82, one2, late2, ap2, held2, dec2, wl2, ao2, hb2, u1, u2, u3, u4, u5⟩ := hq_lnP (m := q) y3 (hq_rn1 (c := hq_c2 c X1 hr) h7 h8) y4 (by omega) (by rw [y5 644 (by omega) (by omega)]; exact h4) hqb pbits psum phd pleft plates pones pcode s1 hd1 pone plate pap pheld dec1 wl1 ao1 hb1
      have u1 : pf_X2_learnFrom (nI q) 1 (nI b) (A 1) fo1 fw1 fs1 (c 5) (c 6) (c 7) (c 8) (c 9) X1 pbits pone plate pap pheld psum phd pleft plates pones pcode = _ := u1
      rw [hq_c2a, hq_u3b] at u3 u4
      obtain ⟨w2, _, en3, k1, k2, k3, k4, k5, k6, k7, k8, k9, k10, k11, dec3, wl3, ao3, hb3, cd3, so3, s3, hd3, cm3, v3, v4⟩ := hg_wh u3 u4 (by omega) hs en1 dec2 wl2 ao2 hb2 cd1 so1 s82 hd82
      have v3 : pf_X4_isWhole en1 (nI b) (A 1) fo1 fw2 fs1 (c 5) (c 9) = _ := v3
      rw [if_neg d', if_neg d', y1, y2, hp_bv4, hp_bv1, v1, v2, hp_bi12, hp_bi11, u1, hp_bv13, v3, hp_bi12, hp_jn]
      have core := fun t' => ih (k - 1) (j + 1) t' X2 bits2 sum2 hd2 left2 lates2 ones2 code2 k1 k2 k3 k4 k5 k6 k7 k8 k9 k10 k11 s3 hd3 cm3 fo1 fw2 fs1 all2 one2 late2 ap2 held2 en3 dec3 wl3 ao3 hb3 cd3 so3 (by omega) (by omega) u3 u4 (by rw [u5 644 (by omega) (by omega), y5 644 (by omega) (by omega)]; exact h4)
      have fin : ∀ (E7 : Option _) (E8 : Option _) (t' : Int32),
        E7 = lp_X7_crowd_59 (nI m) (nI p) (nI q) a5 (nI b) (A 1) (c 5) (c 6) (c 7) (c 8) (c 9) x16 x17 f18 f19 x20 n t' (nI (j + 1)) fo1 fw2 fs1 X2 bits2 one2 late2 ap2 held2 sum2 hd2 left2 lates2 ones2 code2 en3 k1 k2 k3 k4 k5 k6 k7 k8 k9 k10 k11 →
        E8 = lp_X8_crowd_70 (nI m) (nI p) (nI q) a5 (-1) (nI 640) n t' (nI (j + 1)) all2 dec3 wl3 ao3 hb3 s3 hd3 0 cd3 so3 cm3 →
        ∃ r R7 all' dec' wl' ao' hb' s' hd' cd' so' cm', E7 = some (r, R7) ∧ E8 = some (r, all', 0, dec', wl', ao', hb', s', hd', 0, cd', so', cm') ∧ (∀ i, i < 640 → all' i = all i) := by
        intro E7 E8 t' e7 e8
        obtain ⟨r, R7, all', dec', wl', ao', hb', s', hd', cd', so', cm', o1, o2, o3⟩ := core t'
        exact ⟨r, R7, all', dec', wl', ao', hb', s', hd', cd', so', cm', e7.trans o1, e8.trans o2, fun i hi => by rw [o3 i hi, u5 i (by omega) (by omega), y5 i (by omega) (by omega)]⟩
      have i1 : ((1 : Int32) = 0) = False := hp_ne_1_0
      by_cases c1 : w1
      · simp only [hp_bt c1, hp_bf (not_not_intro c1), i1, if_true, if_false]
        rw [u2, hp_bv8, v4, hp_bi11, hp_jn]
        by_cases c2 : w2
        · simp only [hp_bt c2, hp_bf (not_not_intro c2), i1, if_true, if_false, hp_nm, hp_i1, Int32.add_zero]
          by_cases c5 : a5 = 0
          · simp only [if_pos c5]; exact fin _ _ _ rfl rfl
          · simp only [if_neg c5]
            by_cases c6 : a5 = 1
            · simp only [if_pos c6]; exact fin _ _ _ rfl rfl
            · simp only [if_neg c6]; exact fin _ _ _ rfl rfl
        · simp only [hp_bt c2, hp_bf c2, i1, if_true, if_false, hp_nm, hp_i1, Int32.add_zero]
          by_cases c5 : a5 = 0
          · simp only [if_pos c5]; exact fin _ _ _ rfl rfl
          · simp only [if_neg c5]
            by_cases c6 : a5 = 1
            · simp only [if_pos c6]; exact fin _ _ _ rfl rfl
            · simp only [if_neg c6]; exact fin _ _ _ rfl rfl
      · simp only [hp_bt c1, hp_bf c1, i1, if_true, if_false]
        rw [u2, hp_bv8, v4, hp_bi11, hp_jn]
        by_cases c2 : w2
        · simp only [hp_bt c2, hp_bf (not_not_intro c2), i1, if_true, if_false, hp_nm, hp_i1, Int32.add_zero]
          by_cases c5 : a5 = 0
          · simp only [if_pos c5]; exact fin _ _ _ rfl rfl
          · simp only [if_neg c5]
            by_cases c6 : a5 = 1
            · simp only [if_pos c6]; exact fin _ _ _ rfl rfl
            · simp only [if_neg c6]; exact fin _ _ _ rfl rfl
        · simp only [hp_bt c2, hp_bf c2, i1, if_true, if_false, hp_nm, hp_i1, Int32.add_zero]
          by_cases c5 : a5 = 0
          · simp only [if_pos c5]; exact fin _ _ _ rfl rfl
          · simp only [if_neg c5]
            by_cases c6 : a5 = 1
            · simp only [if_pos c6]; exact fin _ _ _ rfl rfl
            · simp only [if_neg c6]; exact fin _ _ _ rfl rfl
theorem hq_can {b : Nat} {c : Nat → Int32} {A : Nat → Nat → Int32} {a : Int32} (hb : b ≤ 12) (hc : hp_CI b c A) : pf_X7_canLearnByCodes a (nI b) (A 1) (c 9) = some (hp_b (((1 : Int32) ≤ a ∧ a ≤ nI b) ∧ ¬ (2000 : Int32) ≤ hp_sum (A 1) b / c 9), ()) := by
  have hst := hc.2.2.2.2.1
  have n0 : ¬ c 9 ≤ 0 := by rw [hp_le, show (0 : Int32).toInt = 0 from by decide]; omega
  have n1 : ¬ c 9 = 0 := fun e => by rw [e] at hst; exact absurd hst.1 (by decide)
  unfold pf_X7_canLearnByCodes
  rw [hp_within, hp_bi0, if_neg n0, hp_as hb, hp_bi0, hp_ckD n1]
  simp only [hp_b0]
  by_cases h1 : (1 : Int32) ≤ a ∧ a ≤ nI b
  · rw [if_neg (not_not_intro h1)]
    by_cases h2 : (2000 : Int32) ≤ hp_sum (A 1) b / c 9
    · rw [if_pos h2, hp_bf (fun e => e.2 h2)]
    · rw [if_neg h2, hp_bt ⟨h1, h2⟩]
  · rw [if_pos h1, hp_bf (fun e => h1 e.1)]
theorem hq_shr {b : Nat} {c : Nat → Int32} {A : Nat → Nat → Int32} {all : Nat → Int32} (h : hp_RC b c A all 0) (hc : hp_CI b c A) : pf_X8_isShortRow all 0 = some (hp_b (¬ nI b ≤ 0 ∧ ¬ (2000 : Int32) ≤ hp_sum (A 1) b / c 9), ()) := by
  obtain ⟨q1, q2, q3, q4, ⟨q5, q6, q7, q8, q9, -⟩, q⟩ := id h
  have hst := hc.2.2.2.2.1
  have n1 : ¬ c 9 = 0 := fun e => by rw [e] at hst; exact absurd hst.1 (by decide)
  have so9 : pf_X8_sumOf 9 (nI b) all 0 = some (hp_sum (A 1) b, ()) := by
    have := hp_so (all := all) (B := 0) (a := 9) (k := b) (by omega)
    rw [show hp_sum (fun i => all (0 + (9 + i))) b = hp_sum (A 1) b from hp_sum_congr (fun i hi => (q i hi).1)] at this
    exact this
  rw [Nat.zero_add] at q9
  unfold pf_X8_isShortRow pf_X8_allSizes
  rw [hp_get0l 0 (by omega), hp_bi0, q2, hp_bi0, so9, hp_bi0, hp_bi0, hp_get0l 5 (by omega), hp_bi0, q9, hp_ckD n1]
  by_cases h1 : nI b ≤ 0
  · rw [if_pos h1, hp_bf (fun e => e.1 h1)]
  · rw [if_neg h1]
    by_cases h2 : (2000 : Int32) ≤ hp_sum (A 1) b / c 9
    · rw [if_pos h2, hp_bf (fun e => e.2 h2)]
    · rw [if_neg h2, hp_bt ⟨h1, h2⟩]
theorem hq_sdiv {b : Nat} {c : Nat → Int32} {A : Nat → Nat → Int32} (hb : b ≤ 12) (hc : hp_CI b c A) (h : ¬ (2000 : Int32) ≤ hp_sum (A 1) b / c 9) : (hp_sum (A 1) b).toInt / (c 9).toInt < 2000 := by
  have hcA := hc.2.2.2.2.2
  have hst := hc.2.2.2.2.1
  obtain ⟨k1, k2⟩ := hp_sum_rng (f := A 1) (lo := 0) (hi := 9999) (n := b) (fun i hi => by have := (hcA i hi).1; omega) (by omega) (by omega) (by omega) (by omega)
  rw [hp_le, show (2000 : Int32).toInt = 2000 from by decide, hp_div (by omega) (by omega)] at h
  omega
/-- aside, as the class copies -/
def hq_cp (A Z : Nat → Nat → Int32) : Nat → Nat → Int32 := fun j => if j = 14 then va_cpy (A j) (Z j) 0 0 8 else if j = 15 then va_cpy (A j) (Z j) 0 0 8 else va_cpy (A j) (Z j) 0 0 12
theorem hq_cpi {A Z : Nat → Nat → Int32} {j i : Nat} (h : i < 12) (h2 : j < 14) : hq_cp A Z j i = A j i := by
  unfold hq_cp
  rw [if_neg (by omega), if_neg (by omega), pk_cpy_in (by omega) (by omega)]
  simp
theorem hq_cpj {A Z : Nat → Nat → Int32} {j i : Nat} (h : i < 8) (h2 : j = 14 ∨ j = 15) : hq_cp A Z j i = A j i := by
  unfold hq_cp
  rcases h2 with e | e
  · rw [if_pos e, pk_cpy_in (by omega) (by omega)]; simp
  · rw [if_neg (by omega), if_pos e, pk_cpy_in (by omega) (by omega)]; simp
def hq_pa (c : Nat → Int32) : Nat → Int32 := fun i => if i = 7 then 3 else if i = 8 then 0 else c i
theorem hq_go {b : Nat} {c : Nat → Int32} {A Z : Nat → Nat → Int32} {all : Nat → Int32} (h : hp_RC b c A all 0) (hc : hp_CI b c A) :
    ∃ all', pf_X8_goAside all = some (all', nI 640) ∧ hp_RQ b c (hq_cp A Z) all' 640 ∧ hp_CI b c (hq_cp A Z) ∧ hp_RQ b (hq_pa c) (hq_cp A Z) all' 640 ∧ hp_CI b (hq_pa c) (hq_cp A Z) ∧ (0 ≤ (all' 644).toInt ∧ (all' 644).toInt ≤ 20) ∧ (∀ k, k < 160 → all' (640 + k) = all k) ∧ (∀ i, i < 640 → all' i = all i) := by
  obtain ⟨all', a1, a2, a3⟩ := hq_aside all
  obtain ⟨hq, hn⟩ := hq_of h
  have hb := h.2.2.1
  have hA : ∀ i, i < b → hq_cp A Z 1 i = A 1 i ∧ hq_cp A Z 2 i = A 2 i ∧ hq_cp A Z 3 i = A 3 i ∧ hq_cp A Z 4 i = A 4 i := fun i hi => ⟨hq_cpi (by omega) (by omega), hq_cpi (by omega) (by omega), hq_cpi (by omega) (by omega), hq_cpi (by omega) (by omega)⟩
  have R := hq_shift (B' := 640) hq (fun k hk => by rw [Nat.zero_add]; exact a2 k (by omega))
  have q8 := h.2.2.2.2.1.2.2.2.1
  refine ⟨all', a1, hq_cong R hA ⟨rfl, rfl, rfl, rfl, rfl, rfl, rfl⟩, hq_congC hc hA ⟨rfl, rfl, hc.2.2.1, hc.2.2.2.1, rfl⟩, hq_cong R hA ⟨rfl, rfl, rfl, rfl, rfl, rfl, rfl⟩, hq_congC hc hA ⟨rfl, rfl, by show (0 : Int) ≤ (3 : Int32).toInt ∧ (3 : Int32).toInt ≤ 3; decide, by show (0 : Int) ≤ (0 : Int32).toInt ∧ (0 : Int32).toInt ≤ 20; decide, rfl⟩, ?_, a2, a3⟩
  rw [show (644 : Nat) = 640 + 4 from rfl, a2 4 (by omega)]
  rw [Nat.zero_add] at q8
  rw [q8]; exact hc.2.2.2.1
theorem hq_if4 {α : Type} {P1 P2 P3 P4 : Prop} {d1 : Decidable (¬ P1)} {d2 : Decidable (¬ P2)} {d3 : Decidable (¬ P3)} {d4 : Decidable (¬ P4)} {N G : α} (H : ¬ (P1 ∧ P2 ∧ P3 ∧ P4)) : (if ¬ P1 then N else if ¬ P2 then N else if ¬ P3 then N else if ¬ P4 then N else G) = N := by
  by_cases h1 : P1
  · rw [if_neg (not_not_intro h1)]
    by_cases h2 : P2
    · rw [if_neg (not_not_intro h2)]
      by_cases h3 : P3
      · rw [if_neg (not_not_intro h3)]
        rw [if_pos (fun h4 => H ⟨h1, h2, h3, h4⟩)]
      · rw [if_pos h3]
    · rw [if_pos h2]
  · rw [if_pos h1]
theorem hq_if5 {α : Type} {P1 P2 P3 P4 P5 : Prop} {d1 : Decidable (¬ P1)} {d2 : Decidable (¬ P2)} {d3 : Decidable (¬ P3)} {d4 : Decidable (¬ P4)} {d5 : Decidable (¬ P5)} {N G : α} (H : ¬ (P1 ∧ P2 ∧ P3 ∧ P4 ∧ P5)) : (if ¬ P1 then N else if ¬ P2 then N else if ¬ P3 then N else if ¬ P4 then N else if ¬ P5 then N else G) = N := by
  by_cases h1 : P1
  · rw [if_neg (not_not_intro h1)]
    exact hq_if4 (fun e => H ⟨h1, e⟩)
  · rw [if_pos h1]
theorem op_crowd {b : Nat} {c : Nat → Int32} {A : Nat → Nat → Int32} {all : Nat → Int32} (a1 a2 a3 a4 a5 : Int32) (h : hp_RC b c A all 0) (hc : hp_CI b c A) (ca : Nat → Int32) (Z : Nat → Nat → Int32) (pbits psum phd pleft plates pones pcode t1 t2 t3 t4 t5 t6 t7 t8 t9 t10 t11 s hd cm : Int32) (pone plate pap pheld en dec wl ao hb cd so : Nat → Int32) :
    ∃ r R7 all' dec' wl' ao' hb' s' hd' cd' so' cm', pf_X7_crowd a1 a2 a3 a4 a5 (ca 0) (Z 1) (Z 2) (Z 3) (Z 4) (ca 5) (ca 6) (ca 7) (ca 8) (ca 9) (ca 10) (ca 11) (ca 12) (Z 14) (Z 15) (ca 16) (c 0) (A 1) (A 2) (A 3) (A 4) (c 5) (c 6) (c 7) (c 8) (c 9) (c 10) (c 11) (c 12) (A 14) (A 15) (c 16) pbits pone plate pap pheld psum phd pleft plates pones pcode en t1 t2 t3 t4 t5 t6 t7 t8 t9 t10 t11 = some (r, R7) ∧
      pf_X8_crowd a1 a2 a3 a4 a5 all 0 dec wl ao hb s hd 0 (-1) cd so cm = some (r, all', 0, dec', wl', ao', hb', s', hd', 0, cd', so', cm') ∧ (∀ i, i < 640 → all' i = all i) := by
  obtain ⟨q1, q2, q3, q4, -⟩ := id h
  have hF : 20 < FU := by unfold FU; omega
  unfold pf_X7_crowd pf_X8_crowd
  rw [hp_within, hp_within, hp_within, hp_isIn, hp_isIn, hp_isIn, q1, hq_can q3 hc, hq_shr h hc, hp_get0l 0 (by omega), q2]
  simp only [hp_bi0, hp_isIn, hp_b0]
  by_cases H : ((1 : Int32) ≤ a2 ∧ a2 ≤ 20) ∧ ((0 : Int32) ≤ a3 ∧ a3 ≤ 99) ∧ ((0 : Int32) ≤ a5 ∧ a5 ≤ 2) ∧ (((1 : Int32) ≤ a4 ∧ a4 ≤ nI b) ∧ ¬ (2000 : Int32) ≤ hp_sum (A 1) b / c 9)
  · obtain ⟨H1, H2, H3, H4, H5⟩ := H
    have H0 : ¬ nI b ≤ 0 ∧ ¬ (2000 : Int32) ≤ hp_sum (A 1) b / c 9 := ⟨fun e => by
      obtain ⟨l1, l2⟩ := H4
      rw [hp_le] at l1 l2 e
      rw [show (1 : Int32).toInt = 1 from by decide] at l1
      rw [show (0 : Int32).toInt = 0 from by decide] at e
      omega, H5⟩
    rw [if_neg (not_not_intro H1), if_neg (not_not_intro H2), if_neg (not_not_intro H3), if_neg (not_not_intro (And.intro H4 H5)), if_neg (not_not_intro H0), if_neg (not_not_intro H1), if_neg (not_not_intro H2), if_neg (not_not_intro H4), if_neg (not_not_intro H3)]
    obtain ⟨l1, l2⟩ := H1
    obtain ⟨l3, l4⟩ := H2
    obtain ⟨l5, l6⟩ := H4
    rw [hp_le] at l1 l2 l3 l4 l5 l6
    rw [show (1 : Int32).toInt = 1 from by decide] at l1 l5
    rw [show (20 : Int32).toInt = 20 from by decide] at l2
    rw [show (0 : Int32).toInt = 0 from by decide] at l3
    rw [show (99 : Int32).toInt = 99 from by decide] at l4
    rw [hp_nT (by omega)] at l6
    obtain ⟨m, m1, rfl, m2⟩ := hp_of (x := a2) (by omega)
    obtain ⟨p, p1, rfl, p2⟩ := hp_of (x := a3) (by omega)
    obtain ⟨q, g1, rfl, g2⟩ := hp_of (x := a4) (by omega)
    obtain ⟨all1, o1, -, -, o2, o3, o4, o5, o6⟩ := hq_go (Z := Z) h hc
    have X0 := hq_X o2 a1
    have C0 := hp_CI6 o3 a1
    have e2 : upd (hq_pa c) 10 a1 = hq_c2 (hq_pa c) a1 (c 12) := by
      have := hq_c2a (c := hq_pa c) (X := hq_pa c 10) (hr := hq_pa c 12) (Y := a1)
      rw [hq_c2i] at this
      exact this
    have e3 : hq_u3 (hq_cp A Z) (hq_cp A Z 2) (hq_cp A Z 3) (hq_cp A Z 4) = hq_cp A Z := hq_u3i
    rw [e2, ← e3] at X0 C0
    have es : (hp_sum (hq_cp A Z 1) b).toInt / (hq_pa c 9).toInt < 2000 := by
      rw [hp_sum_congr (g := A 1) (fun i hi => hq_cpi (by omega) (by omega))]
      show (hp_sum (A 1) b).toInt / (c 9).toInt < 2000
      exact hq_sdiv q3 hc H5
    obtain ⟨r, R7, all2, dec2, wl2, ao2, hb2, s2, hd2, cd2, so2, cm2, y1, y2, y3⟩ := hq_crowd (m := m) (p := p) (q := q) (a5 := a5) (c := hq_pa c) (A := hq_cp A Z) (by omega) (by omega) (by omega) es rfl rfl (c 11) (c 12) (c 16) (va_cpy (A 14) (Z 14) 0 0 8) (va_cpy (A 15) (Z 15) 0 0 8) FU m 0 0 a1 pbits psum phd pleft plates pones pcode t1 t2 t3 t4 t5 t6 t7 t8 t9 t10 t11 s hd cm (hq_cp A Z 2) (hq_cp A Z 3) (hq_cp A Z 4) (upd all1 (640 + 6) a1) pone plate pap pheld en dec wl ao hb cd so (by omega) (by omega) X0 C0 (by rw [hp_un (by omega)]; exact o4)
    refine ⟨r, R7, all2, dec2, wl2, ao2, hb2, s2, hd2, cd2, so2, cm2, ?_, ?_, fun i hi => by rw [y3 i hi, hp_un (by omega)]; exact o6 i hi⟩
    · unfold pf_X7_setAsideOnPaper pf_X2_copyFrom pf_X2_takeForm
      generalize FU = F at *
      rw [hp_bv10, hp_bv16, hp_bv16]
      exact y1
    · generalize FU = F at *
      rw [o1, hp_bv2, show pf_X8_put 6 a1 all1 (nI 640) = some (upd all1 (640 + 6) a1) from hp_put (a := 6) (by omega), hp_bv1]
      exact y2
  · rw [hq_if4 H, hq_if5 (fun e => H ⟨e.2.1, e.2.2.1, e.2.2.2.2, e.2.2.2.1, e.1.2⟩)]
    exact ⟨_, _, all, dec, wl, ao, hb, s, hd, cd, so, cm, rfl, rfl, fun i _ => rfl⟩
