/-! convert, decision, converted, write, octet: class and reference alike. -/
theorem hp_sh (X : Int32) : 0 ≤ ((X).toUInt32 >>> ((16 : Int32).toUInt32 &&& Int32.toUInt32 31)).toInt32.toInt ∧ ((X).toUInt32 >>> ((16 : Int32).toUInt32 &&& Int32.toUInt32 31)).toInt32.toInt < 65536 := by
  have e : ((16 : Int32).toUInt32 &&& Int32.toUInt32 31) = 16 := by decide
  rw [e]
  have h : (X.toUInt32 >>> 16).toNat < 65536 := by
    rw [UInt32.toNat_shiftRight]
    have := X.toUInt32.toNat_lt
    have e2 : (16 : UInt32).toNat % 32 = 16 := by decide
    rw [e2, Nat.shiftRight_eq_div_pow]
    omega
  generalize X.toUInt32 >>> 16 = u at *
  have : u.toInt32.toInt = (u.toNat : Int) := by
    have : u.toInt32 = nI u.toNat := by
      apply Int32.toInt_inj.1
      rw [hp_nT (by omega)]
      show u.toBitVec.toInt = _
      rw [BitVec.toInt_eq_toNat_of_lt]
      · rfl
      · show 2 * u.toNat < _; omega
    rw [this, hp_nT (by omega)]
  omega
theorem hp_rmR {X m : Int32} (h : 1 ≤ m.toInt) : 0 ≤ (hp_rm X m).toInt ∧ (hp_rm X m).toInt < m.toInt ∧ (hp_rm X m).toInt < 65536 := by
  unfold hp_rm
  obtain ⟨y1, y2⟩ := hp_sh X
  generalize ((X).toUInt32 >>> ((16 : Int32).toUInt32 &&& Int32.toUInt32 31)).toInt32 = y at *
  have d : (y / m).toInt = y.toInt / m.toInt := hp_div y1 (by omega)
  have dm := Int.emod_add_mul_ediv y.toInt m.toInt
  have m1 := Int.emod_nonneg y.toInt (show m.toInt ≠ 0 by omega)
  have m2 := Int.emod_lt_of_pos y.toInt (show 0 < m.toInt by omega)
  have q0 : 0 ≤ y.toInt / m.toInt := Int.ediv_nonneg y1 (by omega)
  have q1 : 0 ≤ y.toInt / m.toInt * m.toInt := Int.mul_nonneg q0 (by omega)
  rw [Int.mul_comm] at dm
  have e : (y / m * m).toInt = y.toInt / m.toInt * m.toInt := by rw [hp_mul (by rw [d]; omega) (by rw [d]; omega), d]
  rw [hp_sub (by rw [e]; omega) (by rw [e]; omega), e]
  omega
theorem hp_gs_sum {w wo st : Nat → Int32} {band rule noise x0 : Int32} : ∀ (k : Nat) (g : hp_G), k ≤ 12 → (∀ i, i < k → 0 ≤ (wo i).toInt ∧ (wo i).toInt ≤ 9999 * 2 ^ i) → 0 ≤ g.2.2.1.toInt → g.2.2.1.toInt + 9999 * (2 ^ k - 1) < 2147483648 →
    g.2.2.1.toInt ≤ (hp_gs w wo st band rule noise x0 k g).2.2.1.toInt ∧ (hp_gs w wo st band rule noise x0 k g).2.2.1.toInt ≤ g.2.2.1.toInt + 9999 * (2 ^ k - 1) := by
  intro k
  induction k with
  | zero => intro g _ _ h1 h2; simp only [hp_gs]; omega
  | succ k ih =>
    intro g hk hw h1 h2
    simp only [hp_gs]
    have hp : (2 : Int) ^ (k + 1) = 2 * 2 ^ k := by rw [Int.pow_succ]; omega
    have hp0 : (0 : Int) < 2 ^ k := Int.pow_pos (by decide)
    rw [hp] at h2 ⊢
    obtain ⟨a1, a2⟩ := hw k (by omega)
    have hn : ∀ (g' : hp_G), (g'.2.2.1 = g.2.2.1 + wo k ∨ g'.2.2.1 = g.2.2.1) → g.2.2.1.toInt ≤ (hp_gs w wo st band rule noise x0 k g').2.2.1.toInt ∧ (hp_gs w wo st band rule noise x0 k g').2.2.1.toInt ≤ g.2.2.1.toInt + 9999 * (2 * 2 ^ k - 1) := by
      intro g' hg
      have e : g.2.2.1.toInt ≤ g'.2.2.1.toInt ∧ g'.2.2.1.toInt ≤ g.2.2.1.toInt + 9999 * 2 ^ k := by
        rcases hg with hg | hg
        · rw [hg, hp_add (by omega) (by omega)]; omega
        · rw [hg]; omega
      have := ih g' (by omega) (fun i hi => hw i (by omega)) (by omega) (by omega)
      omega
    apply hn
    simp only [hp_g1]
    split
    · exact Or.inl rfl
    · exact Or.inr rfl
theorem hp_gs_01 {w wo st : Nat → Int32} {band rule noise x0 : Int32} (hr : 0 ≤ rule.toInt) : ∀ (k : Nat) (g : hp_G), (∀ i, i < k → st i = -1 ∨ st i = 0 ∨ st i = 1) → ∀ i, i < k →
    ((hp_gs w wo st band rule noise x0 k g).2.2.2.1 i = 0 ∨ (hp_gs w wo st band rule noise x0 k g).2.2.2.1 i = 1) ∧ ((hp_gs w wo st band rule noise x0 k g).2.2.2.2.1 i = 0 ∨ (hp_gs w wo st band rule noise x0 k g).2.2.2.2.1 i = 1) := by
  intro k
  induction k with
  | zero => intro g _ i hi; omega
  | succ k ih =>
    intro g hs i hi
    simp only [hp_gs]
    by_cases c : i < k
    · exact ih _ (fun i hi => hs i (by omega)) i c
    · have e : i = k := by omega
      subst e
      obtain ⟨a, b, -, -⟩ := hp_gs_hi (w := w) (wo := wo) (st := st) (band := band) (rule := rule) (noise := noise) (x0 := x0) i (hp_g1 w wo st band rule noise x0 i g) i (Nat.le_refl i)
      rw [a, b]
      simp only [hp_g1, hp_us]
      refine ⟨?_, hp_la01 _ _ _ _⟩
      generalize x0 + (hp_nd noise g.1).1 - g.2.1 - w i = d
      generalize (hp_nd noise g.1).2 = X
      have hs := hs i (by omega)
      unfold hp_dc
      by_cases c1 : st i = -1
      · simp only [if_pos c1]
        by_cases c2 : hp_la st band i d = 0
        · simp only [if_pos c2]; split <;> simp
        · simp only [if_neg c2]
          by_cases c3 : 3 ≤ rule
          · simp only [if_pos c3]; split <;> simp
          · simp only [if_neg c3]
            by_cases c4 : rule = 2
            · simp only [if_pos c4]
              obtain ⟨r1, r2, -⟩ := hp_rmR (X := hp_dr X) (m := 2) (by decide)
              rw [show (2 : Int32).toInt = 2 from by decide] at r2
              have : (hp_rm (hp_dr X) 2).toInt = 0 ∨ (hp_rm (hp_dr X) 2).toInt = 1 := by omega
              rcases this with h | h
              · left; rw [hp_eq, h]; decide
              · right; rw [hp_eq, h]; decide
            · simp only [if_neg c4]
              have l3 : (3 : Int32).toInt = 3 := by decide
              have l2 : (2 : Int32).toInt = 2 := by decide
              rw [hp_le, l3] at c3
              rw [hp_eq, l2] at c4
              have : rule.toInt = 0 ∨ rule.toInt = 1 := by omega
              rcases this with h | h
              · right
                have : rule = 0 := by rw [hp_eq, h]; decide
                rw [this]; decide
              · left
                have : rule = 1 := by rw [hp_eq, h]; decide
                rw [this]; decide
      · simp only [if_neg c1]
        rcases hs with h | h | h
        · exact absurd h c1
        · exact Or.inl h
        · exact Or.inr h
/-- by rewriting, not by unfolding: the kernel would take the loop's fuel apart -/
theorem hp_nm {α β : Type} (e : α) (k : α → β) : nm e k = k e := by rw [nm]
theorem hp_jn {α β : Type} (e : α) (k : α → β) : jn e k = k e := by rw [jn]
theorem hp_bi0 {β : Type} (r : Int32) (K : Int32 → Option β) : bi_0 (some (r, ())) K = K r := by rw [bi_0_s]
theorem hp_begin (a : Int32) : pf_X1_begin a = some (a, 0, 0, 0, 0) := rfl
theorem hp_R2b {k : Nat} {x shift band rule noise step X : Int32} {size off worth stuck o l d h : Nat → Int32} (F : Nat) (hF : k < F) (hk : k ≤ 12) (hn : 0 ≤ noise.toInt ∧ noise.toInt ≤ 20) (h1 : 1 ≤ step.toInt) (h2 : step.toInt ≤ 64) :
    ∃ X' h' s' o' l' d' e', hp_gs (fun i => size i + off i) worth stuck band rule noise (x + shift) k (X, 0, 0, o, l, d, h) = (X', h', s', o', l', d', e') ∧
      lp_X2_run_11 x shift band rule noise off size stuck worth (fun (x7 : Int32) (f8 : Nat → Int32) (f9 : Nat → Int32) (f10 : Nat → Int32) (f11 : Nat → Int32) (x12 : Int32) (x13 : Int32) (x14 : Int32) (x15 : Int32) => bi_0 (pf_X2_codeOf x12 step) (fun r17 => some (x7, nI k, f8, f9, f10, f11, x12, x13, x + shift - x13, x14, x15, r17))) F (nI k - 1) X o l d h 0 0 0 0 = some (X', nI k, o', l', d', e', s', h', x + shift - h', hp_sum l' k, hp_sum (fun i => hp_b (o' i = 1)) k, hp_code step s') := by
  obtain ⟨X', h', s', o', l', d', e', on', a, -, b, c⟩ := hp_run2 (β := Unit) (x := x) (shift := shift) (band := band) (rule := rule) (noise := noise) (off := off) (size := size) (stuck := stuck) (worth := worth) hn (fun (x7 : Int32) (f8 : Nat → Int32) (f9 : Nat → Int32) (f10 : Nat → Int32) (f11 : Nat → Int32) (x12 : Int32) (x13 : Int32) (x14 : Int32) (x15 : Int32) => bi_0 (pf_X2_codeOf x12 step) (fun r17 => some (x7, nI k, f8, f9, f10, f11, x12, x13, x + shift - x13, x14, x15, r17))) F k X o l d h 0 0 0 0 hk hF
  refine ⟨X', h', s', o', l', d', e', a, ?_⟩
  refine Eq.trans c ?_
  simp only [hp_codeOf h1 h2, bi_0_s]
  rw [b, Int32.zero_add, Int32.zero_add]
theorem hp_R2 {k : Nat} {x shift band rule noise step X : Int32} {size off worth stuck o l d h : Nat → Int32} (hk : k ≤ 12) (hn : 0 ≤ noise.toInt ∧ noise.toInt ≤ 20) (h1 : 1 ≤ step.toInt) (h2 : step.toInt ≤ 64) :
    ∃ X' h' s' o' l' d' e', hp_gs (fun i => size i + off i) worth stuck band rule noise (x + shift) k (X, 0, 0, o, l, d, h) = (X', h', s', o', l', d', e') ∧
      pf_X2_run x shift (nI k) size off worth stuck band rule noise step X o l d h = some (X', nI k, o', l', d', e', s', h', x + shift - h', hp_sum l' k, hp_sum (fun i => hp_b (o' i = 1)) k, hp_code step s') := by
  have hF : k < FU := by unfold FU; omega
  unfold pf_X2_run
  rw [hp_begin, bv_5_s, hp_nm, hp_jn]
  generalize FU = F at *
  exact hp_R2b F hF hk hn h1 h2
theorem hp_R8 {k B : Nat} {x shift p X : Int32} {all : Nat → Int32} {o l d h : Nat → Int32} (hk : k ≤ 12) (hB : B ≤ 640) (hn : 0 ≤ (all (B + 4)).toInt ∧ (all (B + 4)).toInt ≤ 20) :
    pf_X8_goThrough x (nI k) shift (upd all (B + 6) X) (nI B) o l d h p (-1) = (fun g : hp_G => some (upd all (B + 6) g.1, g.2.2.2.1, g.2.2.2.2.1, g.2.2.2.2.2.1, g.2.2.2.2.2.2, g.2.2.1, g.2.1)) (hp_gs (hp_rw all B) (hp_rwo all B) (hp_rst all B) (all (B + 2)) (hp_rl p (all (B + 3))) (if p = 0 then all (B + 4) else 0) (x + shift) k (X, 0, 0, o, l, d, h)) := by
  unfold pf_X8_goThrough
  simp only [nm, jn]
  rw [hp_gt8l 4 (by omega) (by decide), bi_0_s, show nI k - 1 = hp_p k from rfl]
  by_cases c : p = 0
  · rw [if_pos c, if_pos c]
    exact hp_run8 hB hk hn FU k X o l d h 0 0 (Nat.le_refl k) (by unfold FU; omega)
  · rw [if_neg c, if_neg c]
    exact hp_run8 hB hk (by decide) FU k X o l d h 0 0 (Nat.le_refl k) (by unfold FU; omega)
/-- the class's way of going through, off the converter's cells -/
def hp_gc (c : Nat → Int32) (A : Nat → Nat → Int32) (rule noise x0 : Int32) (k : Nat) (g : hp_G) : hp_G := hp_gs (hp_w A) (A 3) (A 4) (c 6) rule noise x0 k g
theorem hp_g8c {b k : Nat} {c : Nat → Int32} {A : Nat → Nat → Int32} {all : Nat → Int32} {B : Nat} (h : hp_RC b c A all B) (hk : k ≤ b) (rule noise x0 : Int32) (g : hp_G) : hp_gs (hp_rw all B) (hp_rwo all B) (hp_rst all B) (all (B + 2)) rule noise x0 k g = hp_gc c A rule noise x0 k g := by
  unfold hp_gc
  rw [h.2.2.2.2.1.2.1]
  exact hp_gs_congr k g (fun i hi => hp_rw_eq h i (by omega))
/-- a change of the draws alone -/
theorem hp_RC6 {b : Nat} {c : Nat → Int32} {A : Nat → Nat → Int32} {all : Nat → Int32} {B : Nat} (h : hp_RC b c A all B) (X : Int32) : hp_RC b (upd c 10 X) A (upd all (B + 6) X) B := by
  obtain ⟨q1, q2, q3, q4, ⟨q5, q6, q7, q8, q9, q10, q11, q12⟩, q⟩ := h
  refine ⟨?_, ?_, q3, q4, ⟨?_, ?_, ?_, ?_, ?_, ?_, ?_, ?_⟩, fun i hi => ?_⟩
  · rw [hp_un (by decide)]; exact q1
  · rw [hp_un (by omega)]; exact q2
  · rw [hp_un (by omega), hp_un (by decide)]; exact q5
  · rw [hp_un (by omega), hp_un (by decide)]; exact q6
  · rw [hp_un (by omega), hp_un (by decide)]; exact q7
  · rw [hp_un (by omega), hp_un (by decide)]; exact q8
  · rw [hp_un (by omega), hp_un (by decide)]; exact q9
  · rw [hp_us, hp_us]
  · rw [hp_un (by omega), hp_un (by decide)]; exact q11
  · rw [hp_un (by omega), hp_un (by decide)]; exact q12
  · rw [hp_un (by omega), hp_un (by omega), hp_un (by omega), hp_un (by omega)]; exact q i hi
theorem hp_CI6 {b : Nat} {c : Nat → Int32} {A : Nat → Nat → Int32} (h : hp_CI b c A) (X : Int32) : hp_CI b (upd c 10 X) A := by
  obtain ⟨h1, h2, h3, h4, h5, h6⟩ := h
  exact ⟨by rw [hp_un (by decide)]; exact h1, by rw [hp_un (by decide)]; exact h2, by rw [hp_un (by decide)]; exact h3, by rw [hp_un (by decide)]; exact h4, by rw [hp_un (by decide)]; exact h5, h6⟩
/-- what was converted last -/
def hp_RL (b : Nat) (bits : Int32) (one late ap held : Nat → Int32) (sum hd left lates ones code was lb lsum lhd lleft lcode : Int32) (last : Nat → Int32) : Prop :=
  bits = nI b ∧ b ≤ 12 ∧ was = (if b = 0 then 0 else 1) ∧ (b ≠ 0 → lb = nI b ∧ lsum = sum ∧ lhd = hd ∧ lleft = left ∧ lcode = code ∧ lates = hp_sum late b ∧ ones = hp_sum one b ∧ ∀ i, i < b → last i = one i ∧ last (12 + i) = late i ∧ last (24 + i) = ap i ∧ last (36 + i) = held i ∧ (one i = 0 ∨ one i = 1) ∧ (late i = 0 ∨ late i = 1))
theorem hp_cv8 {o l d h : Nat → Int32} {r12 r15 x14 : Int32} {b : Nat} {f5 : Nat → Int32} {s hd : Int32} (hr : r12 = nI b) (hb : b ≤ 12) (hl : ∀ i, i < b → l i = 0 ∨ l i = 1) : ∀ (n k j : Nat) (last : Nat → Int32), j + k = b → k < n →
    (∀ i, i < j → last i = o i ∧ last (12 + i) = l i ∧ last (24 + i) = d i ∧ last (36 + i) = h i) →
    ∃ last', lp_X8_convert_90 f5 o l d h s hd r12 x14 r15 n (nI j) last = some (r15, f5, o, l, d, h, s, hd, 1, r12, s, hd, x14, r15, last') ∧ ∀ i, i < b → last' i = o i ∧ last' (12 + i) = l i ∧ last' (24 + i) = d i ∧ last' (36 + i) = h i := by
  intro n
  induction n with
  | zero => intro k j last h1 h2; omega
  | succ n ih =>
    intro k j last h1 h2 hi
    subst hr
    rw [lp_X8_convert_90]
    by_cases c : b ≤ j
    · rw [if_pos ((hp_eI (by omega) (by omega)).mpr c)]
      exact ⟨last, rfl, fun i hb => hi i (by omega)⟩
    · rw [if_neg (fun c' => c ((hp_eI (by omega) (by omega)).mp c'))]
      have hl := hl j (by omega)
      have e12 : (12 : Int32) + nI j = nI (12 + j) := nI_add 12 j
      have e24 : (24 : Int32) + nI j = nI (24 + j) := nI_add 24 j
      have e36 : (36 : Int32) + nI j = nI (36 + j) := nI_add 36 j
      simp only [nm, jn, e12, e24, e36, hp_cl (show j < 2147483648 by omega), hp_cl (show 12 + j < 2147483648 by omega), hp_cl (show 24 + j < 2147483648 by omega), hp_cl (show 36 + j < 2147483648 by omega), hp_ck (show j < 12 by omega) (show 12 < 2147483648 by decide), hp_ck (show j < 48 by omega) (show 48 < 2147483648 by decide), hp_ck (show 12 + j < 48 by omega) (show 48 < 2147483648 by decide), hp_ck (show 24 + j < 48 by omega) (show 48 < 2147483648 by decide), hp_ck (show 36 + j < 48 by omega) (show 48 < 2147483648 by decide), hp_i1]
      have core : ∃ last', lp_X8_convert_90 f5 o l d h s hd (nI b) x14 r15 n (nI (j + 1)) (upd (upd (upd (upd last j (o j)) (12 + j) (l j)) (24 + j) (d j)) (36 + j) (h j)) = some (r15, f5, o, l, d, h, s, hd, 1, nI b, s, hd, x14, r15, last') ∧ ∀ i, i < b → last' i = o i ∧ last' (12 + i) = l i ∧ last' (24 + i) = d i ∧ last' (36 + i) = h i := by
        refine ih (k - 1) (j + 1) _ (by omega) (by omega) (fun i hij => ?_)
        by_cases e : i = j
        · subst e
          refine ⟨?_, ?_, ?_, ?_⟩
          · rw [hp_un (by omega), hp_un (by omega), hp_un (by omega), hp_us]
          · rw [hp_un (by omega), hp_un (by omega), hp_us]
          · rw [hp_un (by omega), hp_us]
          · rw [hp_us]
        · obtain ⟨a1, a2, a3, a4⟩ := hi i (by omega)
          refine ⟨?_, ?_, ?_, ?_⟩
          · rw [hp_un (by omega), hp_un (by omega), hp_un (by omega), hp_un (by omega)]; exact a1
          · rw [hp_un (by omega), hp_un (by omega), hp_un (by omega), hp_un (by omega)]; exact a2
          · rw [hp_un (by omega), hp_un (by omega), hp_un (by omega), hp_un (by omega)]; exact a3
          · rw [hp_un (by omega), hp_un (by omega), hp_un (by omega), hp_un (by omega)]; exact a4
      rcases hl with hl | hl
      · rw [hl] at core
        rw [if_pos hl]; exact core
      · rw [hl] at core
        rw [if_neg (by rw [hl]; decide)]; exact core
