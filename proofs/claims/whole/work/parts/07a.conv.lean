/-! convert, decision, converted, write, octet: class and reference alike. -/
theorem hp_sh (X : Int32) : 0 ≤ ((X).toUInt32 >>> ((16 : Int32).toUInt32 &&& Int32.toUInt32 31)).toInt32.toInt ∧ ((X).toUInt32 >>> ((16 : Int32).toUInt32 &&& Int32.toUInt32 31)).toInt32.toInt < 65536 := by
  have e : ((16 : Int32).toUInt32 &&& Int32.toUInt32 31) = 16 := by decide
  rw [e]
  have h : (X.toUInt32 >>> 16).toNat < 65536 := by
    rw [UInt32.toNat_shiftRight]
    have := X.toUInt32.toNat_lt
    have e2 : (16 : UInt32).toNat % 32 = 16 := by decide
    rw [e2, Nat.shiftRight_eq_div_pow]
    omega
  generalize X.toUInt32 >>> 16 = u at *
  have : u.toInt32.toInt = (u.toNat : Int) := by
    have : u.toInt32 = nI u.toNat := by
      apply Int32.toInt_inj.1
      rw [hp_nT (by omega)]
      show u.toBitVec.toInt = _
      rw [BitVec.toInt_eq_toNat_of_lt]
      · rfl
      · show 2 * u.toNat < _; omega
    rw [this, hp_nT (by omega)]
  omega
theorem hp_rmR {X m : Int32} (h : 1 ≤ m.toInt) : 0 ≤ (hp_rm X m).toInt ∧ (hp_rm X m).toInt < m.toInt ∧ (hp_rm X m).toInt < 65536 := by
  unfold hp_rm
  obtain ⟨y1, y2⟩ := hp_sh X
  generalize ((X).toUInt32 >>> ((16 : Int32).toUInt32 &&& Int32.toUInt32 31)).toInt32 = y at *
  have d : (y / m).toInt = y.toInt / m.toInt := hp_div y1 (by omega)
  have dm := Int.emod_add_mul_ediv y.toInt m.toInt
  have m1 := Int.emod_nonneg y.toInt (show m.toInt ≠ 0 by omega)
  have m2 := Int.emod_lt_of_pos y.toInt (show 0 < m.toInt by omega)
  have q0 : 0 ≤ y.toInt / m.toInt := Int.ediv_nonneg y1 (by omega)
  have q1 : 0 ≤ y.toInt / m.toInt * m.toInt := Int.mul_nonneg q0 (by omega)
  rw [Int.mul_comm] at dm
  have e : (y / m * m).toInt = y.toInt / m.toInt * m.toInt := by rw [hp_mul (by rw [d]; omega) (by rw [d]; omega), d]
  rw [hp_sub (by rw [e]; omega) (by rw [e]; omega), e]
  omega
theorem hp_gs_sum {w wo st : Nat → Int32} {band rule noise x0 : Int32} : ∀ (k : Nat) (g : hp_G), k ≤ 12 → (∀ i, i < k → 0 ≤ (wo i).toInt ∧ (wo i).toInt ≤ 9999 * 2 ^ i) → 0 ≤ g.2.2.1.toInt → g.2.2.1.toInt + 9999 * (2 ^ k - 1) < 2147483648 →
    g.2.2.1.toInt ≤ (hp_gs w wo st band rule noise x0 k g).2.2.1.toInt ∧ (hp_gs w wo st band rule noise x0 k g).2.2.1.toInt ≤ g.2.2.1.toInt + 9999 * (2 ^ k - 1) := by
  intro k
  induction k with
  | zero => intro g _ _ h1 h2; simp only [hp_gs]; omega
  | succ k ih =>
    intro g hk hw h1 h2
    simp only [hp_gs]
    have hp : (2 : Int) ^ (k + 1) = 2 * 2 ^ k := by rw [Int.pow_succ]; omega
    have hp0 : (0 : Int) < 2 ^ k := Int.pow_pos (by decide)
    rw [hp] at h2 ⊢
    obtain ⟨a1, a2⟩ := hw k (by omega)
    have hn : ∀ (g' : hp_G), (g'.2.2.1 = g.2.2.1 + wo k ∨ g'.2.2.1 = g.2.2.1) → g.2.2.1.toInt ≤ (hp_gs w wo st band rule noise x0 k g').2.2.1.toInt ∧ (hp_gs w wo st band rule noise x0 k g').2.2.1.toInt ≤ g.2.2.1.toInt + 9999 * (2 * 2 ^ k - 1) := by
      intro g' hg
      have e : g.2.2.1.toInt ≤ g'.2.2.1.toInt ∧ g'.2.2.1.toInt ≤ g.2.2.1.toInt + 9999 * 2 ^ k := by
        rcases hg with hg | hg
        · rw [hg, hp_add (by omega) (by omega)]; omega
        · rw [hg]; omega
      have := ih g' (by omega) (fun i hi => hw i (by omega)) (by omega) (by omega)
      omega
    apply hn
    simp only [hp_g1]
    split
    · exact Or.inl rfl
    · exact Or.inr rfl
theorem hp_gs_01 {w wo st : Nat → Int32} {band rule noise x0 : Int32} (hr : 0 ≤ rule.toInt) : ∀ (k : Nat) (g : hp_G), (∀ i, i < k → st i = -1 ∨ st i = 0 ∨ st i = 1) → ∀ i, i < k →
    ((hp_gs w wo st band rule noise x0 k g).2.2.2.1 i = 0 ∨ (hp_gs w wo st band rule noise x0 k g).2.2.2.1 i = 1) ∧ ((hp_gs w wo st band rule noise x0 k g).2.2.2.2.1 i = 0 ∨ (hp_gs w wo st band rule noise x0 k g).2.2.2.2.1 i = 1) := by
  intro k
  induction k with
  | zero => intro g _ i hi; omega
  | succ k ih =>
    intro g hs i hi
    simp only [hp_gs]
    by_cases c : i < k
    · exact ih _ (fun i hi => hs i (by omega)) i c
    · have e : i = k := by omega
      subst e
      obtain ⟨a, b, -, -⟩ := hp_gs_hi (w := w) (wo := wo) (st := st) (band := band) (rule := rule) (noise := noise) (x0 := x0) i (hp_g1 w wo st band rule noise x0 i g) i (Nat.le_refl i)
      rw [a, b]
      simp only [hp_g1, hp_us]
      refine ⟨?_, hp_la01 _ _ _ _⟩
      generalize x0 + (hp_nd noise g.1).1 - g.2.1 - w i = d
      generalize (hp_nd noise g.1).2 = X
      have hs := hs i (by omega)
      unfold hp_dc
      by_cases c1 : st i = -1
      · simp only [if_pos c1]
        by_cases c2 : hp_la st band i d = 0
        · simp only [if_pos c2]; split <;> simp
        · simp only [if_neg c2]
          by_cases c3 : 3 ≤ rule
          · simp only [if_pos c3]; split <;> simp
          · simp only [if_neg c3]
            by_cases c4 : rule = 2
            · simp only [if_pos c4]
              obtain ⟨r1, r2, -⟩ := hp_rmR (X := hp_dr X) (m := 2) (by decide)
              rw [show (2 : Int32).toInt = 2 from by decide] at r2
              have : (hp_rm (hp_dr X) 2).toInt = 0 ∨ (hp_rm (hp_dr X) 2).toInt = 1 := by omega
              rcases this with h | h
              · left; rw [hp_eq, h]; decide
              · right; rw [hp_eq, h]; decide
            · simp only [if_neg c4]
              have l3 : (3 : Int32).toInt = 3 := by decide
              have l2 : (2 : Int32).toInt = 2 := by decide
              rw [hp_le, l3] at c3
              rw [hp_eq, l2] at c4
              have : rule.toInt = 0 ∨ rule.toInt = 1 := by omega
              rcases this with h | h
              · right
                have : rule = 0 := by rw [hp_eq, h]; decide
                rw [this]; decide
              · left
                have : rule = 1 := by rw [hp_eq, h]; decide
                rw [this]; decide
      · simp only [if_neg c1]
        rcases hs with h | h | h
        · exact absurd h c1
        · exact Or.inl h
        · exact Or.inr h
theorem hp_begin (a : Int32) : pf_X1_begin a = some (a, 0, 0, 0, 0) := rfl
theorem hp_R2b {k : Nat} {x shift band rule noise step X : Int32} {size off worth stuck o l d h : Nat → Int32} (F : Nat) (hF : k < F) (hk : k ≤ 12) (hn : 0 ≤ noise.toInt ∧ noise.toInt ≤ 20) (h1 : 1 ≤ step.toInt) (h2 : step.toInt ≤ 64) :
    ∃ X' h' s' o' l' d' e', hp_gs (fun i => size i + off i) worth stuck band rule noise (x + shift) k (X, 0, 0, o, l, d, h) = (X', h', s', o', l', d', e') ∧
      lp_X2_run_11 x shift band rule noise off size stuck worth (fun (x7 : Int32) (f8 : Nat → Int32) (f9 : Nat → Int32) (f10 : Nat → Int32) (f11 : Nat → Int32) (x12 : Int32) (x13 : Int32) (x14 : Int32) (x15 : Int32) => bi_0 (pf_X2_codeOf x12 step) (fun r17 => some (x7, nI k, f8, f9, f10, f11, x12, x13, x + shift - x13, x14, x15, r17))) F (nI k - 1) X o l d h 0 0 0 0 = some (X', nI k, o', l', d', e', s', h', x + shift - h', hp_sum l' k, hp_sum (fun i => hp_b (o' i = 1)) k, hp_code step s') := by
  obtain ⟨X', h', s', o', l', d', e', on', a, -, b, c⟩ := hp_run2 (β := Unit) (x := x) (shift := shift) (band := band) (rule := rule) (noise := noise) (off := off) (size := size) (stuck := stuck) (worth := worth) hn (fun (x7 : Int32) (f8 : Nat → Int32) (f9 : Nat → Int32) (f10 : Nat → Int32) (f11 : Nat → Int32) (x12 : Int32) (x13 : Int32) (x14 : Int32) (x15 : Int32) => bi_0 (pf_X2_codeOf x12 step) (fun r17 => some (x7, nI k, f8, f9, f10, f11, x12, x13, x + shift - x13, x14, x15, r17))) F k X o l d h 0 0 0 0 hk hF
  refine ⟨X', h', s', o', l', d', e', a, ?_⟩
  refine Eq.trans c ?_
  simp only [hp_codeOf h1 h2, bi_0_s]
  rw [b, Int32.zero_add, Int32.zero_add]
theorem hp_R2 {k : Nat} {x shift band rule noise step X : Int32} {size off worth stuck o l d h : Nat → Int32} (hk : k ≤ 12) (hn : 0 ≤ noise.toInt ∧ noise.toInt ≤ 20) (h1 : 1 ≤ step.toInt) (h2 : step.toInt ≤ 64) :
    ∃ X' h' s' o' l' d' e', hp_gs (fun i => size i + off i) worth stuck band rule noise (x + shift) k (X, 0, 0, o, l, d, h) = (X', h', s', o', l', d', e') ∧
      pf_X2_run x shift (nI k) size off worth stuck band rule noise step X o l d h = some (X', nI k, o', l', d', e', s', h', x + shift - h', hp_sum l' k, hp_sum (fun i => hp_b (o' i = 1)) k, hp_code step s') := by
  have hF : k < FU := by unfold FU; omega
  unfold pf_X2_run
  rw [hp_begin, hp_bv5, hp_nm, hp_jn]
  generalize FU = F at *
  exact hp_R2b F hF hk hn h1 h2
theorem hp_R8 {k B : Nat} {x shift p X : Int32} {all : Nat → Int32} {o l d h : Nat → Int32} (hk : k ≤ 12) (hB : B ≤ 640) (hn : 0 ≤ (all (B + 4)).toInt ∧ (all (B + 4)).toInt ≤ 20) :
    pf_X8_goThrough x (nI k) shift (upd all (B + 6) X) (nI B) o l d h p (-1) = (fun g : hp_G => some (upd all (B + 6) g.1, g.2.2.2.1, g.2.2.2.2.1, g.2.2.2.2.2.1, g.2.2.2.2.2.2, g.2.2.1, g.2.1)) (hp_gs (hp_rw all B) (hp_rwo all B) (hp_rst all B) (all (B + 2)) (hp_rl p (all (B + 3))) (if p = 0 then all (B + 4) else 0) (x + shift) k (X, 0, 0, o, l, d, h)) := by
  unfold pf_X8_goThrough
  simp only [nm, jn]
  rw [hp_gt8l 4 (by omega) (by decide), bi_0_s, show nI k - 1 = hp_p k from rfl]
  by_cases c : p = 0
  · rw [if_pos c, if_pos c]
    exact hp_run8 hB hk hn FU k X o l d h 0 0 (Nat.le_refl k) (by unfold FU; omega)
  · rw [if_neg c, if_neg c]
    exact hp_run8 hB hk (by decide) FU k X o l d h 0 0 (Nat.le_refl k) (by unfold FU; omega)
/-- the class's way of going through, off the converter's cells -/
def hp_gc (c : Nat → Int32) (A : Nat → Nat → Int32) (rule noise x0 : Int32) (k : Nat) (g : hp_G) : hp_G := hp_gs (hp_w A) (A 3) (A 4) (c 6) rule noise x0 k g
theorem hp_g8c {b k : Nat} {c : Nat → Int32} {A : Nat → Nat → Int32} {all : Nat → Int32} {B : Nat} (h : hp_RC b c A all B) (hk : k ≤ b) (rule noise x0 : Int32) (g : hp_G) : hp_gs (hp_rw all B) (hp_rwo all B) (hp_rst all B) (all (B + 2)) rule noise x0 k g = hp_gc c A rule noise x0 k g := by
  unfold hp_gc
  rw [h.2.2.2.2.1.2.1]
  exact hp_gs_congr k g (fun i hi => hp_rw_eq h i (by omega))
/-- a change of the draws alone -/
theorem hp_RC6 {b : Nat} {c : Nat → Int32} {A : Nat → Nat → Int32} {all : Nat → Int32} {B : Nat} (h : hp_RC b c A all B) (X : Int32) : hp_RC b (upd c 10 X) A (upd all (B + 6) X) B := by
  obtain ⟨q1, q2, q3, q4, ⟨q5, q6, q7, q8, q9, q10, q11, q12⟩, q⟩ := h
  refine ⟨?_, ?_, q3, q4, ⟨?_, ?_, ?_, ?_, ?_, ?_, ?_, ?_⟩, fun i hi => ?_⟩
  · rw [hp_un (by decide)]; exact q1
  · rw [hp_un (by omega)]; exact q2
  · rw [hp_un (by omega), hp_un (by decide)]; exact q5
  · rw [hp_un (by omega), hp_un (by decide)]; exact q6
  · rw [hp_un (by omega), hp_un (by decide)]; exact q7
  · rw [hp_un (by omega), hp_un (by decide)]; exact q8
  · rw [hp_un (by omega), hp_un (by decide)]; exact q9
  · rw [hp_us, hp_us]
  · rw [hp_un (by omega), hp_un (by decide)]; exact q11
  · rw [hp_un (by omega), hp_un (by decide)]; exact q12
  · rw [hp_un (by omega), hp_un (by omega), hp_un (by omega), hp_un (by omega)]; exact q i hi
theorem hp_CI6 {b : Nat} {c : Nat → Int32} {A : Nat → Nat → Int32} (h : hp_CI b c A) (X : Int32) : hp_CI b (upd c 10 X) A := by
  obtain ⟨h1, h2, h3, h4, h5, h6⟩ := h
  exact ⟨by rw [hp_un (by decide)]; exact h1, by rw [hp_un (by decide)]; exact h2, by rw [hp_un (by decide)]; exact h3, by rw [hp_un (by decide)]; exact h4, by rw [hp_un (by decide)]; exact h5, h6⟩
/-- what was converted last -/
def hp_RL (b : Nat) (bits : Int32) (one late ap held : Nat → Int32) (sum hd left lates ones code was lb lsum lhd lleft lcode : Int32) (last : Nat → Int32) : Prop :=
  bits = nI b ∧ b ≤ 12 ∧ was = (if b = 0 then 0 else 1) ∧ (b ≠ 0 → lb = nI b ∧ lsum = sum ∧ lhd = hd ∧ lleft = left ∧ lcode = code ∧ lates = hp_sum late b ∧ ones = hp_sum one b ∧ ∀ i, i < b → last i = one i ∧ last (12 + i) = late i ∧ last (24 + i) = ap i ∧ last (36 + i) = held i ∧ (one i = 0 ∨ one i = 1) ∧ (late i = 0 ∨ late i = 1))
theorem hp_cv8 {o l d h : Nat → Int32} {r12 r15 x14 : Int32} {b : Nat} {f5 : Nat → Int32} {s hd : Int32} (hr : r12 = nI b) (hb : b ≤ 12) (hl : ∀ i, i < b → l i = 0 ∨ l i = 1) : ∀ (n k j : Nat) (last : Nat → Int32), j + k = b → k < n →
    (∀ i, i < j → last i = o i ∧ last (12 + i) = l i ∧ last (24 + i) = d i ∧ last (36 + i) = h i) →
    ∃ last', lp_X8_convert_90 f5 o l d h s hd r12 x14 r15 n (nI j) last = some (r15, f5, o, l, d, h, s, hd, 1, r12, s, hd, x14, r15, last') ∧ ∀ i, i < b → last' i = o i ∧ last' (12 + i) = l i ∧ last' (24 + i) = d i ∧ last' (36 + i) = h i := by
  intro n
  induction n with
  | zero => intro k j last h1 h2; omega
  | succ n ih =>
    intro k j last h1 h2 hi
    subst hr
    rw [lp_X8_convert_90]
    by_cases c : b ≤ j
    · rw [if_pos ((hp_eI (by omega) (by omega)).mpr c)]
      exact ⟨last, rfl, fun i hb => hi i (by omega)⟩
    · rw [if_neg (fun c' => c ((hp_eI (by omega) (by omega)).mp c'))]
      have hl := hl j (by omega)
      have e12 : (12 : Int32) + nI j = nI (12 + j) := nI_add 12 j
      have e24 : (24 : Int32) + nI j = nI (24 + j) := nI_add 24 j
      have e36 : (36 : Int32) + nI j = nI (36 + j) := nI_add 36 j
      simp only [nm, jn, e12, e24, e36, hp_cl (show j < 2147483648 by omega), hp_cl (show 12 + j < 2147483648 by omega), hp_cl (show 24 + j < 2147483648 by omega), hp_cl (show 36 + j < 2147483648 by omega), hp_ck (show j < 12 by omega) (show 12 < 2147483648 by decide), hp_ck (show j < 48 by omega) (show 48 < 2147483648 by decide), hp_ck (show 12 + j < 48 by omega) (show 48 < 2147483648 by decide), hp_ck (show 24 + j < 48 by omega) (show 48 < 2147483648 by decide), hp_ck (show 36 + j < 48 by omega) (show 48 < 2147483648 by decide), hp_i1]
      have core : ∃ last', lp_X8_convert_90 f5 o l d h s hd (nI b) x14 r15 n (nI (j + 1)) (upd (upd (upd (upd last j (o j)) (12 + j) (l j)) (24 + j) (d j)) (36 + j) (h j)) = some (r15, f5, o, l, d, h, s, hd, 1, nI b, s, hd, x14, r15, last') ∧ ∀ i, i < b → last' i = o i ∧ last' (12 + i) = l i ∧ last' (24 + i) = d i ∧ last' (36 + i) = h i := by
        refine ih (k - 1) (j + 1) _ (by omega) (by omega) (fun i hij => ?_)
        by_cases e : i = j
        · subst e
          refine ⟨?_, ?_, ?_, ?_⟩
          · rw [hp_un (by omega), hp_un (by omega), hp_un (by omega), hp_us]
          · rw [hp_un (by omega), hp_un (by omega), hp_us]
          · rw [hp_un (by omega), hp_us]
          · rw [hp_us]
        · obtain ⟨a1, a2, a3, a4⟩ := hi i (by omega)
          refine ⟨?_, ?_, ?_, ?_⟩
          · rw [hp_un (by omega), hp_un (by omega), hp_un (by omega), hp_un (by omega)]; exact a1
          · rw [hp_un (by omega), hp_un (by omega), hp_un (by omega), hp_un (by omega)]; exact a2
          · rw [hp_un (by omega), hp_un (by omega), hp_un (by omega), hp_un (by omega)]; exact a3
          · rw [hp_un (by omega), hp_un (by omega), hp_un (by omega), hp_un (by omega)]; exact a4
      rcases hl with hl | hl
      · rw [hl] at core
        rw [if_pos hl]; exact core
      · rw [hl] at core
        rw [if_neg (by rw [hl]; decide)]; exact core
theorem hp_sum01 {o : Nat → Int32} {n : Nat} (h : ∀ i, i < n → o i = 0 ∨ o i = 1) : hp_sum (fun i => hp_b (o i = 1)) n = hp_sum o n := by
  refine hp_sum_congr (fun i hi => ?_)
  rcases h i hi with e | e
  · rw [e]; decide
  · rw [e]; decide
theorem hp_rl0 (r : Int32) : hp_rl 0 r = r := if_pos rfl
theorem hp_R80 {k : Nat} {x shift p : Int32} {all : Nat → Int32} {o l d h : Nat → Int32} (hk : k ≤ 12) (hn : 0 ≤ (all 4).toInt ∧ (all 4).toInt ≤ 20) :
    pf_X8_goThrough x (nI k) shift all 0 o l d h p (-1) = (fun g : hp_G => some (upd all 6 g.1, g.2.2.2.1, g.2.2.2.2.1, g.2.2.2.2.2.1, g.2.2.2.2.2.2, g.2.2.1, g.2.1)) (hp_gs (hp_rw all 0) (hp_rwo all 0) (hp_rst all 0) (all 2) (hp_rl p (all 3)) (if p = 0 then all 4 else 0) (x + shift) k (all 6, 0, 0, o, l, d, h)) := by
  have := hp_R8 (k := k) (B := 0) (x := x) (shift := shift) (p := p) (X := all 6) (all := all) (o := o) (l := l) (d := d) (h := h) hk (by omega) (by simpa only [Nat.zero_add] using hn)
  simp only [Nat.zero_add] at this
  rw [hp_ui] at this
  exact this
theorem op_convert {b lb : Nat} {c : Nat → Int32} {A : Nat → Nat → Int32} {all : Nat → Int32} {bits sum hd left lates ones code was lB lsum lhd lleft lcode : Int32} {one late ap held last : Nat → Int32} (x : Int32) (h : hp_RC b c A all 0) (hc : hp_CI b c A) (hl : hp_RL lb bits one late ap held sum hd left lates ones code was lB lsum lhd lleft lcode last) (dec wl ao hb : Nat → Int32) (s8 hd8 : Int32) :
    ∃ r lb' bits' one' late' ap' held' sum' hd' left' lates' ones' code' X was' lB' lsum' lhd' lleft' lcode' last' dec' wl' ao' hb' s8' hd8',
      pf_X7_convert x bits one late ap held sum hd left lates ones code (c 0) (A 1) (A 2) (A 3) (A 4) (c 5) (c 6) (c 7) (c 8) (c 9) (c 10) = some (r, bits', one', late', ap', held', sum', hd', left', lates', ones', code', X) ∧
      pf_X8_convert x all 0 dec wl ao hb s8 hd8 0 (-1) was lB lsum lhd lleft lcode last = some (r, upd all 6 X, dec', wl', ao', hb', s8', hd8', was', lB', lsum', lhd', lleft', lcode', last') ∧
      hp_RC b (upd c 10 X) A (upd all 6 X) 0 ∧ hp_CI b (upd c 10 X) A ∧
      hp_RL lb' bits' one' late' ap' held' sum' hd' left' lates' ones' code' was' lB' lsum' lhd' lleft' lcode' last' := by
  obtain ⟨q1, q2, q3, q4, ⟨q5, q6, q7, q8, q9, q10, q11, q12⟩, q⟩ := id h
  simp only [Nat.zero_add] at q2 q5 q6 q7 q8 q9 q10
  obtain ⟨⟨o1, o2⟩, -, ⟨u1, u2⟩, ⟨n1, n2⟩, ⟨s1, s2⟩, hcA⟩ := id hc
  have nop : ∃ r lb' bits' one' late' ap' held' sum' hd' left' lates' ones' code' X was' lB' lsum' lhd' lleft' lcode' last' dec' wl' ao' hb' s8' hd8',
      some ((-1000000 : Int32), bits, one, late, ap, held, sum, hd, left, lates, ones, code, c 10) = some (r, bits', one', late', ap', held', sum', hd', left', lates', ones', code', X) ∧
      some ((-1000000 : Int32), all, dec, wl, ao, hb, s8, hd8, was, lB, lsum, lhd, lleft, lcode, last) = some (r, upd all 6 X, dec', wl', ao', hb', s8', hd8', was', lB', lsum', lhd', lleft', lcode', last') ∧
      hp_RC b (upd c 10 X) A (upd all 6 X) 0 ∧ hp_CI b (upd c 10 X) A ∧
      hp_RL lb' bits' one' late' ap' held' sum' hd' left' lates' ones' code' was' lB' lsum' lhd' lleft' lcode' last' := by
    refine ⟨_, lb, _, _, _, _, _, _, _, _, _, _, _, c 10, was, lB, lsum, lhd, lleft, lcode, last, dec, wl, ao, hb, s8, hd8, rfl, ?_, ?_, ?_, hl⟩
    · rw [← q10, hp_ui]
    · have := hp_RC6 h (c 10)
      simpa only [Nat.zero_add] using this
    · exact hp_CI6 hc _
  have hF : b < FU := by unfold FU; omega
  unfold pf_X7_convert pf_X8_convert
  generalize FU = F at *
  rw [hp_near, hp_isX]
  simp only [hp_bi0, hp_b0, q1, hp_nz (show b ≤ 100000 by omega)]
  by_cases cx : -100000 ≤ x.toInt ∧ x.toInt ≤ 100000
  · simp only [if_neg (not_not_intro cx)]
    by_cases c0 : b = 0
    · simp only [if_pos c0]
      rw [hp_get0l 0 (by omega), hp_bi0, q2, if_pos (by rw [c0]; rfl)]
      exact nop
    · simp only [if_neg c0]
      rw [hp_get0l 0 (by omega), hp_bi0, q2, if_neg (by rw [hp_nz (by omega)]; exact c0)]
      rw [hp_bi0, hp_get0l 1 (by omega), hp_bi0]
      obtain ⟨X', h', s', o', l', d', e', g1, g2⟩ := hp_R2 (k := b) (x := x) (shift := c 5) (band := c 6) (rule := c 7) (noise := c 8) (step := c 9) (X := c 10) (size := A 1) (off := A 2) (worth := A 3) (stuck := A 4) (o := one) (l := late) (d := ap) (h := held) q3 ⟨n1, n2⟩ s1 s2
      rw [g2]
      simp only [hp_bv12]
      have g8 := hp_R80 (k := b) (x := x) (shift := all 1) (p := 0) (all := all) (o := dec) (l := wl) (d := ao) (h := hb) q3 (by rw [q8]; exact ⟨n1, n2⟩)
      have hg := hp_g8c (k := b) h (Nat.le_refl b) (hp_rl 0 (all 3)) (if (0 : Int32) = 0 then all 4 else 0) (x + all 1) (all 6, 0, 0, dec, wl, ao, hb)
      rw [show all (0 + 2) = all 2 from rfl] at hg
      rw [hg, if_pos rfl, hp_rl0, q5, q7, q8, q10] at g8
      obtain ⟨X2, h2, s2', oo, ll, dd, ee, oo2, ll2, dd2, ee2, i1, i2, i3⟩ := hp_gs_ir (w := hp_w A) (wo := A 3) (st := A 4) (band := c 6) (rule := c 7) (noise := c 8) (x0 := x + c 5) b (c 10) 0 0 one late ap held dec wl ao hb
      have g1' : (X2, h2, s2', oo, ll, dd, ee) = (X', h', s', o', l', d', e') := i1.symm.trans g1
      simp only [Prod.mk.injEq] at g1'
      obtain ⟨rfl, rfl, rfl, rfl, rfl, rfl, rfl⟩ := g1'
      unfold hp_gc at g8
      rw [i2] at g8
      rw [q5, g8]
      simp only [hp_bv7]
      have z01 := hp_gs_01 (w := hp_w A) (wo := A 3) (st := A 4) (band := c 6) (rule := c 7) (noise := c 8) (x0 := x + c 5) u1 b (c 10, 0, 0, dec, wl, ao, hb) (fun i hi => (hcA i hi).2.2.2.2)
      rw [i2] at z01
      have hu : ∀ a, a < 800 → a ≠ 6 → pf_X8_get (nI a) (upd all 6 X2) 0 = some (all a, ()) := fun a ha hn => by rw [hp_get0 ha, hp_un hn]
      have hu0 : pf_X8_get 0 (upd all 6 X2) 0 = some (all 0, ()) := hu 0 (by omega) (by decide)
      have hu1 : pf_X8_get 1 (upd all 6 X2) 0 = some (all 1, ()) := hu 1 (by omega) (by decide)
      have hcn : pf_X8_codeNow (upd all 6 X2) 0 s2' = some (hp_code (c 9) s2', ()) := hp_code8 (B := 0) (by omega) (by rw [hp_un (by decide)]; exact q9) s1 s2
      rw [hu0, hp_bi0, hu1, hp_bi0, hp_nm, hcn, hp_bi0, q2, q5]
      obtain ⟨last', k1, k2⟩ := hp_cv8 (r12 := nI b) (r15 := hp_code (c 9) s2') (x14 := x + c 5 - h2) (f5 := upd all 6 X2) (s := s2') (hd := h2) (o := oo2) (l := ll2) (d := dd2) (h := ee2) rfl q3 (fun i hi => (z01 i hi).2) F b 0 last (by omega) hF (fun i hi => by omega)
      refine ⟨_, b, _, _, _, _, _, _, _, _, _, _, _, X2, _, _, _, _, _, _, _, _, _, _, _, _, _, rfl, k1, ?_, hp_CI6 hc _, ?_⟩
      · have := hp_RC6 h X2
        simpa only [Nat.zero_add] using this
      · refine ⟨rfl, q3, by rw [if_neg c0], fun _ => ⟨rfl, rfl, rfl, rfl, rfl, rfl, ?_, fun i hi => ?_⟩⟩
        · exact hp_sum01 (fun i hi => by rw [(i3 i hi).1]; exact (z01 i hi).1)
        · obtain ⟨j1, j2, j3, j4⟩ := i3 i hi
          obtain ⟨m1, m2, m3, m4⟩ := k2 i hi
          refine ⟨by rw [m1, j1], by rw [m2, j2], by rw [m3, j3], by rw [m4, j4], ?_, ?_⟩
          · rw [j1]; exact (z01 i hi).1
          · rw [j2]; exact (z01 i hi).2
  · simp only [if_pos cx]
    by_cases c0 : b = 0
    · simp only [if_pos c0]
      exact nop
    · simp only [if_neg c0]
      exact nop
theorem op_decision {b : Nat} {bits sum hd left lates ones code was lB lsum lhd lleft lcode : Int32} {one late ap held last : Nat → Int32} (i w : Int32) (hl : hp_RL b bits one late ap held sum hd left lates ones code was lB lsum lhd lleft lcode last) :
    ∃ r, pf_X7_decision i w bits one late ap held = some (r, ()) ∧ pf_X8_decision i w was lB last = some (r, ()) := by
  obtain ⟨rfl, hb, hw, hl⟩ := hl
  unfold pf_X7_decision pf_X8_decision
  rw [hw]
  by_cases c0 : b = 0
  · subst c0
    rw [if_pos rfl, if_pos rfl]
    by_cases c : i < 0
    · rw [if_pos c]; exact ⟨_, rfl, rfl⟩
    · rw [if_neg c, if_neg (show ¬ i < nI 0 from c)]; exact ⟨_, rfl, rfl⟩
  · obtain ⟨e1, -, -, -, -, -, -, hr⟩ := hl c0
    rw [if_neg c0, if_neg (show ¬ (1 : Int32) = 0 by decide), e1, hp_isIn, hp_bi0]
    have e0 : (nI b - 1).toInt = (b : Int) - 1 := by
      rw [show (1 : Int32) = nI 1 from rfl, hp_sI (by omega), hp_nT (by omega)]; omega
    have z0 : (0 : Int32).toInt = 0 := by decide
    have z3 : (3 : Int32).toInt = 3 := by decide
    simp only [hp_b0, hp_isIn, hp_bi0]
    by_cases c : 0 ≤ i.toInt ∧ i.toInt < b
    · obtain ⟨k, hk, rfl⟩ := hp_in_of c (by omega)
      obtain ⟨r1, r2, r3, r4, -, -⟩ := hr k hk
      have ek : (nI k).toInt = (k : Int) := hp_nT (by omega)
      rw [if_neg (hp_nneg k (by omega)), if_pos (by rw [hp_lI (by omega) (by omega)]; exact hk), if_neg (not_not_intro ⟨by rw [hp_le, z0]; omega, by rw [hp_le, e0]; omega⟩)]
      rw [hp_cl (by omega), hp_ck (by omega) (by decide)]
      by_cases w0 : w = 0
      · subst w0
        rw [if_pos rfl, if_neg (by decide), show (12 : Int32) * 0 + nI k = nI k from by rw [Int32.mul_zero, Int32.zero_add], hp_ck (by omega) (by decide), hp_cl (by omega), r1]
        exact ⟨_, rfl, rfl⟩
      · rw [if_neg w0]
        by_cases w1 : w = 1
        · subst w1
          rw [if_pos rfl, if_neg (not_not_intro (by decide)), show (12 : Int32) * 1 + nI k = nI (12 + k) from nI_add 12 k, hp_ck (show k < 12 by omega) (by decide), hp_ck (show 12 + k < 48 by omega) (by decide), hp_cl (show 12 + k < 2147483648 by omega), r2]
          exact ⟨_, rfl, rfl⟩
        · rw [if_neg w1]
          by_cases w2 : w = 2
          · subst w2
            rw [if_pos rfl, if_neg (not_not_intro (by decide)), show (12 : Int32) * 2 + nI k = nI (24 + k) from nI_add 24 k, hp_ck (show k < 12 by omega) (by decide), hp_ck (show 24 + k < 48 by omega) (by decide), hp_cl (show 24 + k < 2147483648 by omega), r3]
            exact ⟨_, rfl, rfl⟩
          · rw [if_neg w2]
            by_cases w3 : w = 3
            · subst w3
              rw [if_pos rfl, if_neg (not_not_intro (by decide)), show (12 : Int32) * 3 + nI k = nI (36 + k) from nI_add 36 k, hp_ck (show k < 12 by omega) (by decide), hp_ck (show 36 + k < 48 by omega) (by decide), hp_cl (show 36 + k < 2147483648 by omega), r4]
              exact ⟨_, rfl, rfl⟩
            · rw [if_neg w3, if_pos]
              · exact ⟨_, rfl, rfl⟩
              · rintro ⟨a1, a2⟩
                rw [hp_le, z0] at a1
                rw [hp_le, z3] at a2
                have : w.toInt = 0 ∨ w.toInt = 1 ∨ w.toInt = 2 ∨ w.toInt = 3 := by omega
                rcases this with h | h | h | h
                · exact w0 (by rw [hp_eq, h]; decide)
                · exact w1 (by rw [hp_eq, h]; decide)
                · exact w2 (by rw [hp_eq, h]; decide)
                · exact w3 (by rw [hp_eq, h]; decide)
    · refine ⟨-1000000, ?_, ?_⟩
      · by_cases c1 : i < 0
        · rw [if_pos c1]
        · rw [if_neg c1, if_neg]
          intro c2
          rw [hp_lt, hp_nT (by omega)] at c2
          rw [hp_lt, z0] at c1
          exact c ⟨by omega, c2⟩
      · rw [if_pos]
        rintro ⟨a1, a2⟩
        rw [hp_le, z0] at a1
        rw [hp_le, e0] at a2
        exact c ⟨a1, by omega⟩
theorem hp_cl8 {last : Nat → Int32} {b a : Nat} {z : Int32} (ha : 12 * z = nI (12 * a)) (hb : b ≤ 12) (ha2 : a ≤ 3) : ∀ (n k j : Nat), j + k = b → k < n →
    lp_X8_countLast_4 z (nI b) last n (hp_sum (fun i => last (12 * a + i)) j) (nI j) = some (hp_sum (fun i => last (12 * a + i)) b, ()) := by
  intro n
  induction n with
  | zero => intro k j h1 h2; omega
  | succ n ih =>
    intro k j h1 h2
    rw [lp_X8_countLast_4]
    by_cases c : b ≤ j
    · rw [if_pos ((hp_eI (by omega) (by omega)).mpr c)]
      have : j = b := by omega
      rw [this]
    · rw [if_neg (fun c' => c ((hp_eI (by omega) (by omega)).mp c')), ha, hp_aI, hp_ck (show 12 * a + j < 48 by omega) (by decide), hp_cl (show 12 * a + j < 2147483648 by omega), hp_nm, hp_nm, hp_i1]
      exact ih (k - 1) (j + 1) (by omega) (by omega)
theorem op_converted {b : Nat} {bits sum hd left lates ones code was lB lsum lhd lleft lcode : Int32} {one late ap held last : Nat → Int32} (w : Int32) (hl : hp_RL b bits one late ap held sum hd left lates ones code was lB lsum lhd lleft lcode last) :
    ∃ r, pf_X7_converted w bits sum hd left lates ones code = some (r, ()) ∧ pf_X8_converted w was lB lsum lhd lleft lcode last = some (r, ()) := by
  obtain ⟨rfl, hb, hw, hl⟩ := hl
  have hF : b < FU := by unfold FU; omega
  unfold pf_X7_converted pf_X8_converted pf_X8_countLast
  generalize FU = F at *
  rw [hw]
  by_cases c0 : b = 0
  · subst c0
    rw [if_pos rfl, if_pos rfl, if_pos (show nI 0 = 0 from rfl)]; exact ⟨_, rfl, rfl⟩
  · obtain ⟨e1, rfl, rfl, rfl, rfl, e6, e7, hr⟩ := hl c0
    rw [if_neg c0, if_neg (show ¬ (1 : Int32) = 0 by decide), e1, if_neg (show ¬ nI b = 0 by rw [hp_nz (by omega)]; exact c0)]
    have k1 := hp_cl8 (last := last) (a := 1) (z := 1) (by decide) hb (by decide) F b 0 (by omega) hF
    have k0 := hp_cl8 (last := last) (a := 0) (z := 0) (by decide) hb (by decide) F b 0 (by omega) hF
    have t1 : hp_sum (fun i => last (12 * 1 + i)) b = lates := by
      rw [e6]; exact hp_sum_congr (fun i hi => (hr i hi).2.1)
    have t0 : hp_sum (fun i => last (12 * 0 + i)) b = ones := by
      rw [e7]; refine hp_sum_congr (fun i hi => ?_)
      rw [show 12 * 0 + i = i by omega]; exact (hr i hi).1
    rw [t1] at k1
    rw [t0] at k0
    have k1' : lp_X8_countLast_4 1 (nI b) last F 0 0 = some (lates, ()) := k1
    have k0' : lp_X8_countLast_4 0 (nI b) last F 0 0 = some (ones, ()) := k0
    rw [k1', k0', hp_bi0, hp_bi0]
    have one : ∀ z : Option (Int32 × Unit), (∃ r, z = some (r, ())) → ∃ r, z = some (r, ()) ∧ z = some (r, ()) := fun z ⟨r, h⟩ => ⟨r, h, h⟩
    refine one _ ?_
    by_cases d0 : w = 0
    · rw [if_pos d0]; exact ⟨_, rfl⟩
    rw [if_neg d0]
    by_cases d0 : w = 1
    · rw [if_pos d0]; exact ⟨_, rfl⟩
    rw [if_neg d0]
    by_cases d0 : w = 2
    · rw [if_pos d0]; exact ⟨_, rfl⟩
    rw [if_neg d0]
    by_cases d0 : w = 3
    · rw [if_pos d0]; exact ⟨_, rfl⟩
    rw [if_neg d0]
    by_cases d0 : w = 4
    · rw [if_pos d0]; exact ⟨_, rfl⟩
    rw [if_neg d0]
    by_cases d0 : w = 5
    · rw [if_pos d0]; exact ⟨_, rfl⟩
    rw [if_neg d0]; exact ⟨_, rfl⟩
/-- what is written last -/
def hp_RW (wr : Nat → Int32) (n : Int32) (wr8 : Nat → Int32) (n8 : Int32) : Prop := ∃ m : Nat, m ≤ 12 ∧ n = nI m ∧ n8 = nI m ∧ ∀ i, i < m → wr i = wr8 i
def hp_sg (one late : Nat → Int32) (i : Nat) : Int32 := if late i = 1 then (if one i = 1 then 43 else 45) else (if one i = 1 then 49 else 48)
theorem hp_sg7 {one late : Nat → Int32} {k : Nat} (h : k < 12) : pf_X1_sign (nI k) one late = some (hp_sg one late k, ()) := by
  unfold pf_X1_sign hp_sg
  simp only [hp_ck h (show 12 < 2147483648 by decide), hp_cl (show k < 2147483648 by omega)]
  split
  · split <;> rfl
  · split <;> rfl
theorem hp_wr7 {one late : Nat → Int32} {b : Nat} (hb : b ≤ 12) : ∀ (n k m : Nat) (f : Nat → Int32), k + m = b → k < n → (∀ i, i < m → f i = hp_sg one late (b - 1 - i)) →
    ∃ f', lp_X7_write_27 late one n (hp_p k) f (nI m) = some (nI b, f', nI b) ∧ ∀ i, i < b → f' i = hp_sg one late (b - 1 - i) := by
  intro n
  induction n with
  | zero => intro k m f h1 h2; omega
  | succ n ih =>
    intro k m f h1 h2 hf
    rw [lp_X7_write_27]
    cases k with
    | zero =>
      rw [if_pos hp_p0]
      have : m = b := by omega
      subst this
      exact ⟨f, rfl, hf⟩
    | succ k =>
      rw [if_neg (hp_pN (by omega)), hp_pS, hp_sg7 (by omega), hp_bi0, hp_ck (show m < 12 by omega) (by decide), hp_nm, hp_nm, hp_pD, hp_i1, hp_cl (by omega)]
      refine ih k (m + 1) _ (by omega) (by omega) (fun i hi => ?_)
      by_cases e : i = m
      · subst e
        rw [hp_us, show b - 1 - i = k by omega]
      · rw [hp_un e]; exact hf i (by omega)
theorem hp_wr8 {one late last : Nat → Int32} {b : Nat} (hb : b ≤ 12) (hr : ∀ i, i < b → last i = one i ∧ last (12 + i) = late i) : ∀ (n k j : Nat) (f : Nat → Int32), j + k = b → k < n → (∀ i, i < j → f (b - 1 - i) = hp_sg one late i) →
    ∃ f', lp_X8_write_19 (nI b) last n (nI j) f = some (nI b, f', nI b) ∧ ∀ i, i < b → f' (b - 1 - i) = hp_sg one late i := by
  intro n
  induction n with
  | zero => intro k j f h1 h2; omega
  | succ n ih =>
    intro k j f h1 h2 hf
    rw [lp_X8_write_19]
    by_cases c : b ≤ j
    · rw [if_pos ((hp_eI (by omega) (by omega)).mpr c)]
      exact ⟨f, rfl, fun i hi => hf i (by omega)⟩
    · rw [if_neg (fun c' => c ((hp_eI (by omega) (by omega)).mp c'))]
      obtain ⟨r1, r2⟩ := hr j (by omega)
      have e12 : (12 : Int32) + nI j = nI (12 + j) := nI_add 12 j
      have eb : nI b - 1 - nI j = nI (b - 1 - j) := by
        rw [show (1 : Int32) = nI 1 from rfl, hp_sI (by omega), hp_sI (by omega)]
      rw [e12, eb, hp_ck (show j < 48 by omega) (by decide), hp_cl (show j < 2147483648 by omega), r1, hp_jn]
      simp only [hp_ck (show 12 + j < 48 by omega) (show 48 < 2147483648 by decide), hp_cl (show 12 + j < 2147483648 by omega), r2]
      have core : ∀ v : Int32, vp_nar .byte (v.toInt8.toInt32) = hp_sg one late j → ∃ f', (nm (v.toInt8.toInt32) fun x5 => ckI (nI (b - 1 - j)) 12 <| nm (nI j + 1) fun x6 => lp_X8_write_19 (nI b) last n x6 (upd f (nI (b - 1 - j)).toNatClampNeg (vp_nar .byte x5))) = some (nI b, f', nI b) ∧ ∀ i, i < b → f' (b - 1 - i) = hp_sg one late i := by
        intro v hv
        rw [hp_nm, hp_ck (show b - 1 - j < 12 by omega) (by decide), hp_nm, hv, hp_i1, hp_cl (show b - 1 - j < 2147483648 by omega)]
        refine ih (k - 1) (j + 1) _ (by omega) (by omega) (fun i hi => ?_)
        by_cases e : i = j
        · subst e; rw [hp_us]
        · rw [hp_un (by omega)]; exact hf i (by omega)
      have v45 : vp_nar .byte ((45 : Int32).toInt8.toInt32) = 45 := by decide
      have v43 : vp_nar .byte ((43 : Int32).toInt8.toInt32) = 43 := by decide
      have v48 : vp_nar .byte ((48 : Int32).toInt8.toInt32) = 48 := by decide
      have v49 : vp_nar .byte ((49 : Int32).toInt8.toInt32) = 49 := by decide
      have n1 : ¬ (1 : Int32) = 0 := by decide
      by_cases c1 : one j = 1
      · rw [if_pos c1]
        by_cases c2 : late j = 1
        · rw [hp_jn, if_pos c2, if_neg n1]
          exact core 43 (by unfold hp_sg; rw [if_pos c2, if_pos c1, v43])
        · rw [hp_jn, if_neg c2, if_neg n1]
          exact core 49 (by unfold hp_sg; rw [if_neg c2, if_pos c1, v49])
      · rw [if_neg c1]
        by_cases c2 : late j = 1
        · rw [hp_jn, if_pos c2, if_pos trivial]
          exact core 45 (by unfold hp_sg; rw [if_pos c2, if_neg c1, v45])
        · rw [hp_jn, if_neg c2, if_pos trivial]
          exact core 48 (by unfold hp_sg; rw [if_neg c2, if_neg c1, v48])
theorem op_write {b : Nat} {bits sum hd left lates ones code was lB lsum lhd lleft lcode n n8 : Int32} {one late ap held last wr wr8 : Nat → Int32} (hl : hp_RL b bits one late ap held sum hd left lates ones code was lB lsum lhd lleft lcode last) (hw : hp_RW wr n wr8 n8) :
    ∃ r wr' n' wr8' n8', pf_X7_write wr n bits one late = some (r, wr', n') ∧ pf_X8_write was lB last wr8 n8 = some (r, wr8', n8') ∧ hp_RW wr' n' wr8' n8' := by
  obtain ⟨rfl, hb, hww, hl⟩ := hl
  have hF : b < FU := by unfold FU; omega
  unfold pf_X7_write pf_X8_write
  generalize FU = F at *
  rw [hww]
  by_cases c0 : b = 0
  · subst c0
    rw [if_pos rfl, if_pos rfl, if_pos (show nI 0 = 0 from rfl)]
    exact ⟨_, _, _, _, _, rfl, rfl, hw⟩
  · obtain ⟨e1, -, -, -, -, -, -, hr⟩ := hl c0
    rw [if_neg c0, if_neg (show ¬ (1 : Int32) = 0 by decide), e1, if_neg (show ¬ nI b = 0 by rw [hp_nz (by omega)]; exact c0), hp_nm]
    obtain ⟨f, a1, a2⟩ := hp_wr7 (one := one) (late := late) hb F b 0 wr (by omega) hF (fun i hi => by omega)
    obtain ⟨f8, b1, b2⟩ := hp_wr8 (one := one) (late := late) (last := last) hb (fun i hi => ⟨(hr i hi).1, (hr i hi).2.1⟩) F b 0 wr8 (by omega) hF (fun i hi => by omega)
    refine ⟨_, _, _, _, _, a1, b1, b, hb, rfl, rfl, fun i hi => ?_⟩
    rw [a2 i hi, ← b2 (b - 1 - i) (by omega), show b - 1 - (b - 1 - i) = i by omega]
theorem op_octet {wr wr8 : Nat → Int32} {n n8 : Int32} (i : Int32) (hw : hp_RW wr n wr8 n8) : ∃ r, pf_X7_octet i wr n = some (r, ()) ∧ pf_X8_octet i wr8 n8 = some (r, ()) := by
  obtain ⟨m, hm, rfl, rfl, hr⟩ := hw
  unfold pf_X7_octet pf_X8_octet
  rw [hp_isIn, hp_bi0]
  simp only [hp_b0]
  have z0 : (0 : Int32).toInt = 0 := by decide
  have e0 : (nI m - 1).toInt = (m : Int) - 1 := by
    have l1 : (1 : Int32).toInt = 1 := by decide
    rw [hp_sub (by rw [hp_nT (by omega), l1]; omega) (by rw [hp_nT (by omega), l1]; omega), hp_nT (by omega), l1]
  by_cases c : 0 ≤ i.toInt ∧ i.toInt < m
  · obtain ⟨k, hk, rfl⟩ := hp_in_of c (by omega)
    have ek : (nI k).toInt = (k : Int) := hp_nT (by omega)
    rw [if_neg (hp_nneg k (by omega)), if_neg (fun c' => (show ¬ m ≤ k by omega) ((hp_eI (by omega) (by omega)).mp c')), if_neg (not_not_intro ⟨by rw [hp_le, z0]; omega, by rw [hp_le, e0]; omega⟩)]
    rw [hp_ck (show k < 12 by omega) (by decide), hp_ck (show k < 12 by omega) (by decide), hp_cl (by omega), hr k hk]
    exact ⟨_, rfl, rfl⟩
  · refine ⟨-1, ?_, ?_⟩
    · by_cases c1 : i < 0
      · rw [if_pos c1]
      · rw [if_neg c1, if_pos]
        rw [hp_le, hp_nT (by omega)]
        rw [hp_lt, z0] at c1
        by_cases c3 : i.toInt < m
        · exact absurd ⟨by omega, c3⟩ c
        · omega
    · rw [if_pos]
      rintro ⟨a1, a2⟩
      rw [hp_le, z0] at a1
      rw [hp_le, e0] at a2
      exact c ⟨a1, by omega⟩
