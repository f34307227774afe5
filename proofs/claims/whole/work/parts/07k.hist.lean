/-! HISTOGRAMS: measured, sorted out, told: the class's one going through and the reference's questions, both by hg_. -/
theorem hg_psb {w wo st : Nat → Int32} {t : Int32} : ∀ (k : Nat) (l s : Int32), k ≤ 12 → (∀ i, i < k → 0 ≤ (wo i).toInt ∧ (wo i).toInt ≤ 9999 * 2 ^ i) → 0 ≤ s.toInt → s.toInt + 9999 * (2 ^ k - 1) < 2147483648 →
    s.toInt ≤ (hp_ps w wo st t k l s).toInt ∧ (hp_ps w wo st t k l s).toInt ≤ s.toInt + 9999 * (2 ^ k - 1) := by
  intro k
  induction k with
  | zero => intro l s _ _ h1 h2; simp only [hp_ps]; omega
  | succ k ih =>
    intro l s hk hw h1 h2
    simp only [hp_ps]
    have hp : (2 : Int) ^ (k + 1) = 2 * 2 ^ k := by rw [Int.pow_succ]; omega
    have hp0 : (0 : Int) < 2 ^ k := Int.pow_pos (by decide)
    rw [hp] at h2 ⊢
    obtain ⟨a1, a2⟩ := hw k (by omega)
    by_cases c : hp_pd w st t k l = 1
    · simp only [if_pos c]
      have e : (s + wo k).toInt = s.toInt + (wo k).toInt := hp_add (by omega) (by omega)
      have := ih (l - w k) (s + wo k) (by omega) (fun i hi => hw i (by omega)) (by omega) (by omega)
      omega
    · simp only [if_neg c]
      have := ih l s (by omega) (fun i hi => hw i (by omega)) (by omega) (by omega)
      omega
/-- CODES are 0 or more and not far -/
theorem hg_PCb {b : Nat} {c : Nat → Int32} {A : Nat → Nat → Int32} {t x : Int32} (hb : b ≤ 12) (hc : hp_CI b c A) : 0 ≤ (hp_PC b c A t x).toInt ∧ (hp_PC b c A t x).toInt * (c 9).toInt ≤ 41000000 ∧ (hp_PC b c A t x).toInt ≤ 41000000 := by
  obtain ⟨-, -, -, -, ⟨s1, s2⟩, hcA⟩ := hc
  have p1 := hp_2k b (by omega)
  have p0 : (1 : Int) ≤ 2 ^ b := Int.pow_pos (by decide)
  obtain ⟨a1, a2⟩ := hg_psb (w := hp_w A) (wo := A 3) (st := A 4) (t := t) b (x + c 5) 0 hb (fun i hi => (hcA i hi).2.2.2.1) (by decide) (by rw [show (0 : Int32).toInt = 0 from by decide]; omega)
  rw [show (0 : Int32).toInt = 0 from by decide] at a1 a2
  unfold hp_PC hp_pc hp_code
  generalize hp_ps (hp_w A) (A 3) (A 4) t b (x + c 5) 0 = s at *
  have l2 : (2 : Int32).toInt = 2 := by decide
  have e1 : (s * 2).toInt = s.toInt * 2 := by rw [hp_mul (by rw [l2]; omega) (by rw [l2]; omega), l2]
  have e2 : (s * 2 + c 9).toInt = s.toInt * 2 + (c 9).toInt := by rw [hp_add (by rw [e1]; omega) (by rw [e1]; omega), e1]
  have e3 : (c 9 * 2).toInt = (c 9).toInt * 2 := by rw [hp_mul (by rw [l2]; omega) (by rw [l2]; omega), l2]
  have e4 : ((s * 2 + c 9) / (c 9 * 2)).toInt = (s.toInt * 2 + (c 9).toInt) / ((c 9).toInt * 2) := by rw [hp_div (by rw [e2]; omega) (by rw [e3]; omega), e2, e3]
  rw [e4]
  have q0 : 0 ≤ (s.toInt * 2 + (c 9).toInt) / ((c 9).toInt * 2) := Int.ediv_nonneg (by omega) (by omega)
  have q1 := Int.ediv_mul_le (s.toInt * 2 + (c 9).toInt) (show (c 9).toInt * 2 ≠ 0 by omega)
  generalize (s.toInt * 2 + (c 9).toInt) / ((c 9).toInt * 2) = q at *
  have q2 : q * ((c 9).toInt * 2) = q * (c 9).toInt * 2 := by rw [Int.mul_assoc]
  rw [q2] at q1
  have q3 : q * 1 ≤ q * (c 9).toInt := Int.mul_le_mul_of_nonneg_left s1 q0
  omega
/-- how far x is from its CODE -/
def hg_v (a c step : Int32) (cd : Nat → Int32) (k : Nat) : Int32 := cd k * step - a - c * nI k
def hg_f (a c step : Int32) (cd : Nat → Int32) (k : Nat) : Int32 := if 0 ≤ hg_v a c step cd k then hg_v a c step cd k else -hg_v a c step cd k
/-- which is OFF most, among the first n -/
def hg_bi (f : Nat → Int32) : Nat → Nat
  | 0 => 0
  | n + 1 => if n = 0 then 0 else if f n ≤ f (hg_bi f n) then hg_bi f n else n
def hg_fl (cd : Nat → Int32) : Nat → Int32
  | 0 => 0
  | n + 1 => if n = 0 then 0 else if cd (n - 1) ≤ cd n then hg_fl cd n else hg_fl cd n + 1
theorem hg_bi_lt (f : Nat → Int32) : ∀ n, 0 < n → hg_bi f n < n := by
  intro n
  induction n with
  | zero => intro h; omega
  | succ n ih =>
    intro _
    rw [hg_bi]
    by_cases c : n = 0
    · rw [if_pos c]; omega
    · rw [if_neg c]
      have := ih (by omega)
      split <;> omega
theorem hg_bi_congr {f g : Nat → Int32} : ∀ n, (∀ i, i < n → f i = g i) → hg_bi f n = hg_bi g n := by
  intro n
  induction n with
  | zero => intro _; rfl
  | succ n ih =>
    intro h
    rw [hg_bi, hg_bi]
    by_cases c : n = 0
    · rw [if_pos c, if_pos c]
    · have hl := hg_bi_lt f n (by omega)
      have e := ih (fun i hi => h i (by omega))
      rw [if_neg c, if_neg c, h n (by omega), h (hg_bi f n) (by omega), e]
theorem hg_fl_congr {f g : Nat → Int32} : ∀ n, (∀ i, i < n → f i = g i) → hg_fl f n = hg_fl g n := by
  intro n
  induction n with
  | zero => intro _; rfl
  | succ n ih =>
    intro h
    rw [hg_fl, hg_fl]
    by_cases c : n = 0
    · rw [if_pos c, if_pos c]
    · rw [if_neg c, if_neg c, h n (by omega), h (n - 1) (by omega), ih (fun i hi => h i (by omega))]
theorem hg_vc {a c step r : Int32} {k : Nat} : r * step - (a + nI k * c) = r * step - a - c * nI k := by
  rw [Int32.mul_comm (nI k) c]
  simp only [Int32.sub_eq_add_neg, Int32.neg_add]
  ac_rfl
/-- the class measures -/
theorem hg_m7 {b : Nat} {c : Nat → Int32} {A : Nat → Nat → Int32} {a cc : Int32} {N : Nat} (hb : b ≤ 12) (hc : hp_CI b c A) (hN : N ≤ 2000) (hf : ∀ k, k < N → 0 ≤ (hg_f a cc (c 9) (fun k => hp_PC b c A (-1) (a + cc * nI k)) k).toInt) :
    ∀ (n k j : Nat) (f : Nat → Int32) (fl ob oa : Int32), j + k = N → k < n → (∀ i, i < j → f i = hp_PC b c A (-1) (a + cc * nI i)) → fl = hg_fl (fun k => hp_PC b c A (-1) (a + cc * nI k)) j →
      ((j = 0 ∧ ob = -1) ∨ (0 < j ∧ ob = hg_f a cc (c 9) (fun k => hp_PC b c A (-1) (a + cc * nI k)) (hg_bi (hg_f a cc (c 9) (fun k => hp_PC b c A (-1) (a + cc * nI k))) j) ∧ oa = a + cc * nI (hg_bi (hg_f a cc (c 9) (fun k => hp_PC b c A (-1) (a + cc * nI k))) j))) →
    ∃ f' fl' ob' oa', lp_X4_measure_43 a cc (nI b) (c 5) (c 9) (A 2) (A 1) (A 4) (A 3) (nI N) n (nI j) f (nI j) fl ob oa = some (f', nI N, fl', ob', oa') ∧ (∀ i, i < N → f' i = hp_PC b c A (-1) (a + cc * nI i)) ∧ fl' = hg_fl (fun k => hp_PC b c A (-1) (a + cc * nI k)) N ∧
      (0 < N → ob' = hg_f a cc (c 9) (fun k => hp_PC b c A (-1) (a + cc * nI k)) (hg_bi (hg_f a cc (c 9) (fun k => hp_PC b c A (-1) (a + cc * nI k))) N) ∧ oa' = a + cc * nI (hg_bi (hg_f a cc (c 9) (fun k => hp_PC b c A (-1) (a + cc * nI k))) N)) := by
  intro n
  induction n with
  | zero => intro k j f fl ob oa h1 h2; omega
  | succ n ih =>
    intro k j f fl ob oa h1 h2 hfi hfl hob
    rw [lp_X4_measure_43]
    by_cases d : N ≤ j
    · have ej : j = N := by omega
      subst ej
      rw [if_pos ((hp_eI (by omega) (by omega)).mpr d)]
      refine ⟨f, fl, ob, oa, rfl, hfi, hfl, fun h0 => ?_⟩
      rcases hob with ⟨h, -⟩ | ⟨-, h⟩
      · omega
      · exact h
    · have d' : ¬ nI N ≤ nI j := fun e => d ((hp_eI (by omega) (by omega)).mp e)
      have d2 : ¬ (4096 : Int32) ≤ nI j := fun e => by
        have := (hp_eI (a := 4096) (by omega) (by omega)).mp e
        omega
      rw [if_neg d', if_neg d2, hp_nm, Int32.mul_comm (nI j) cc, hp_pc7 hb hc, hp_bi0, hp_jn]
      generalize hcd : (fun k => hp_PC b c A (-1) (a + cc * nI k)) = cd at *
      have ecd : ∀ i, hp_PC b c A (-1) (a + cc * nI i) = cd i := fun i => by rw [← hcd]
      simp only [ecd] at hfi ih ⊢
      have ev : cd j * c 9 - (a + cc * nI j) = hg_v a cc (c 9) cd j := by
        unfold hg_v
        simp only [Int32.sub_eq_add_neg, Int32.neg_add]; ac_rfl
      have ef : (if 0 ≤ hg_v a cc (c 9) cd j then hg_v a cc (c 9) cd j else 0 - hg_v a cc (c 9) cd j) = hg_f a cc (c 9) cd j := by
        unfold hg_f; rw [Int32.zero_sub]
      have tail : ∀ (fl2 : Int32), fl2 = hg_fl cd (j + 1) → ∃ f' fl' ob' oa', (if hg_f a cc (c 9) cd j ≤ ob then (ckI (nI j) 4096 <| nm (nI j + 1) fun x14 => nm (nI j + 1) fun x15 => lp_X4_measure_43 a cc (nI b) (c 5) (c 9) (A 2) (A 1) (A 4) (A 3) (nI N) n x15 (upd f (nI j).toNatClampNeg (cd j)) x14 fl2 ob oa) else (ckI (nI j) 4096 <| nm (nI j + 1) fun x14 => nm (nI j + 1) fun x15 => lp_X4_measure_43 a cc (nI b) (c 5) (c 9) (A 2) (A 1) (A 4) (A 3) (nI N) n x15 (upd f (nI j).toNatClampNeg (cd j)) x14 fl2 (hg_f a cc (c 9) cd j) (a + cc * nI j))) = some (f', nI N, fl', ob', oa') ∧ (∀ i, i < N → f' i = cd i) ∧ fl' = hg_fl cd N ∧ (0 < N → ob' = hg_f a cc (c 9) cd (hg_bi (hg_f a cc (c 9) cd) N) ∧ oa' = a + cc * nI (hg_bi (hg_f a cc (c 9) cd) N)) := by
        intro fl2 hfl2
        have hi : ∀ i, i < j + 1 → upd f j (cd j) i = cd i := fun i hi => by
          by_cases e : i = j
          · subst e; rw [hp_us]
          · rw [hp_un e]; exact hfi i (by omega)
        simp only [hp_ck (show j < 4096 by omega) (show 4096 < 2147483648 by decide), hp_nm, hp_i1, hp_cl (show j < 2147483648 by omega)]
        by_cases c1 : hg_f a cc (c 9) cd j ≤ ob
        · rw [if_pos c1]
          refine ih (k - 1) (j + 1) _ fl2 ob oa (by omega) (by omega) hi hfl2 (Or.inr ⟨by omega, ?_⟩)
          rcases hob with ⟨h0, h⟩ | ⟨h0, h, h'⟩
          · exfalso
            have := hf j (by omega)
            rw [hp_le, h, show (-1 : Int32).toInt = -1 from by decide] at c1
            omega
          · rw [hg_bi, if_neg (by omega), if_pos (by rw [← h]; exact c1)]
            exact ⟨h, h'⟩
        · rw [if_neg c1]
          refine ih (k - 1) (j + 1) _ fl2 _ _ (by omega) (by omega) hi hfl2 (Or.inr ⟨by omega, ?_⟩)
          rcases hob with ⟨h0, h⟩ | ⟨h0, h, h'⟩
          · subst h0
            rw [hg_bi, if_pos rfl]
            exact ⟨rfl, rfl⟩
          · rw [hg_bi, if_neg (by omega), if_neg (by rw [← h]; exact c1)]
            exact ⟨rfl, rfl⟩
      by_cases c0 : j = 0
      · subst c0
        rw [if_pos (show nI 0 ≤ 0 from by decide)]
        simp only [ev, ef, hp_nm, hp_jn]
        simp only [hp_nm] at tail
        refine tail fl ?_
        rw [hfl]; rfl
      · have c0' : ¬ nI j ≤ 0 := fun e => by
          have := (hp_eI (b := 0) (by omega) (by omega)).mp e
          omega
        have es : nI j - 1 = nI (j - 1) := by rw [show (1 : Int32) = nI 1 from rfl, hp_sI (by omega)]
        rw [if_neg c0', es, hp_ck (show j - 1 < 4096 by omega) (by decide), hp_cl (show j - 1 < 2147483648 by omega), hfi (j - 1) (by omega)]
        by_cases c1 : cd (j - 1) ≤ cd j
        · rw [if_pos c1]
          simp only [ev, ef, hp_nm, hp_jn]
          simp only [hp_nm] at tail
          refine tail fl ?_
          rw [hfl, hg_fl, if_neg c0, if_pos c1]
        · rw [if_neg c1]
          simp only [ev, ef, hp_nm, hp_jn]
          simp only [hp_nm] at tail
          refine tail (fl + 1) ?_
          rw [hfl, hg_fl, if_neg c0, if_neg c1]
