/-! Numbers: literals as nI, order, arithmetic without overflow; checks that hold; sums. -/
theorem hp_lit (n : Nat) : (OfNat.ofNat n : Int32) = nI n := rfl
theorem hp_lt (a b : Int32) : a < b ↔ a.toInt < b.toInt := Int32.lt_iff_toInt_lt
theorem hp_le (a b : Int32) : a ≤ b ↔ a.toInt ≤ b.toInt := Int32.le_iff_toInt_le
theorem hp_eq (a b : Int32) : a = b ↔ a.toInt = b.toInt := Int32.toInt_inj.symm
theorem hp_bm {x : Int} (h1 : -2147483648 ≤ x) (h2 : x < 2147483648) : x.bmod (2 ^ 32) = x := Int.bmod_eq_of_le (by omega) (by omega)
theorem hp_add {a b : Int32} (h1 : -2147483648 ≤ a.toInt + b.toInt) (h2 : a.toInt + b.toInt < 2147483648) : (a + b).toInt = a.toInt + b.toInt := by
  rw [Int32.toInt_add]; exact hp_bm h1 h2
theorem hp_sub {a b : Int32} (h1 : -2147483648 ≤ a.toInt - b.toInt) (h2 : a.toInt - b.toInt < 2147483648) : (a - b).toInt = a.toInt - b.toInt := by
  rw [Int32.toInt_sub]; exact hp_bm h1 h2
theorem hp_mul {a b : Int32} (h1 : -2147483648 ≤ a.toInt * b.toInt) (h2 : a.toInt * b.toInt < 2147483648) : (a * b).toInt = a.toInt * b.toInt := by
  rw [Int32.toInt_mul]; exact hp_bm h1 h2
theorem hp_neg {a : Int32} (h : -2147483648 < a.toInt) : (-a).toInt = -a.toInt := by
  have := a.toInt_lt
  rw [Int32.toInt_neg]; exact hp_bm (by omega) (by omega)
theorem hp_div {a b : Int32} (ha : 0 ≤ a.toInt) (hb : 0 < b.toInt) : (a / b).toInt = a.toInt / b.toInt := by
  rw [Int32.toInt_div_of_ne_right _ _ (fun e => by rw [e] at hb; exact absurd hb (by decide))]
  exact Int.tdiv_eq_ediv_of_nonneg ha
theorem hp_rng (a : Int32) : -2147483648 ≤ a.toInt ∧ a.toInt < 2147483648 := ⟨a.le_toInt, a.toInt_lt⟩
theorem hp_nT {n : Nat} (h : n < 2147483648) : (nI n).toInt = (n : Int) := nI_toInt (by omega)
theorem hp_cl {n : Nat} (h : n < 2147483648) : (nI n).toNatClampNeg = n := nI_clamp (by omega)
theorem hp_lI {a b : Nat} (ha : a < 2147483648) (hb : b < 2147483648) : (nI a < nI b) = (a < b) := by
  apply propext; exact nI_ltI (by omega) (by omega)
theorem hp_eI {a b : Nat} (ha : a < 2147483648) (hb : b < 2147483648) : (nI a ≤ nI b) = (a ≤ b) := by
  apply propext; exact nI_leI (by omega) (by omega)
theorem hp_qI {a b : Nat} (ha : a < 2147483648) (hb : b < 2147483648) : (nI a = nI b) = (a = b) := by
  apply propext; exact nI_eq (by omega) (by omega)
theorem hp_aI (a b : Nat) : nI a + nI b = nI (a + b) := nI_add a b
theorem hp_sI {a b : Nat} (h : b ≤ a) : nI a - nI b = nI (a - b) := pk_sub h
theorem hp_m1 {a : Nat} (h : 0 < a) : nI a + (-nI 1) = nI (a - 1) := by
  obtain ⟨b, rfl⟩ : ∃ b, a = b + 1 := ⟨a - 1, by omega⟩
  exact pk_m1 b
theorem hp_mI (a b : Nat) : nI a * nI b = nI (a * b) := pk_mul a b
theorem hp_dI {a d : Nat} (ha : a < 2147483648) (h0 : 0 < d) (hd : d < 2147483648) : nI a / nI d = nI (a / d) := pk_div (by omega) h0 (by omega)
theorem hp_of {x : Int32} (h : 0 ≤ x.toInt) : ∃ n : Nat, n < 2147483648 ∧ x = nI n ∧ x.toInt = (n : Int) := by
  have h2 := x.toInt_lt
  refine ⟨x.toInt.toNat, by omega, ?_, by omega⟩
  rw [hp_eq, hp_nT (by omega)]; omega
theorem hp_nneg (n : Nat) (h : n < 2147483648) : ¬ nI n < 0 := nI_pos (by omega)
theorem hp_ck {α : Type} {i N : Nat} {x : Option α} (h : i < N) (hN : N < 2147483648) : ckI (nI i) N x = x := by
  unfold ckI
  rw [if_neg (nI_in h (by omega))]
theorem hp_ckD {α : Type} {y : Int32} {x : Option α} (h : ¬ y = 0) : ckD y x = x := by
  unfold ckD; rw [if_neg h]
theorem hp_ckL {α : Type} {y : Int64} {x : Option α} (h : ¬ y = 0) : ckL y x = x := by
  unfold ckL; rw [if_neg h]
/-- a boolean as Java has it -/
def hp_b (c : Prop) [Decidable c] : Int32 := if c then 1 else 0
theorem hp_bt {c : Prop} [Decidable c] (h : c) : hp_b c = 1 := if_pos h
theorem hp_bf {c : Prop} [Decidable c] (h : ¬ c) : hp_b c = 0 := if_neg h
theorem hp_b0 {c : Prop} [Decidable c] : (hp_b c = 0) = ¬ c := by
  apply propext; by_cases h : c <;> simp [hp_b, h]
theorem hp_b1 {c : Prop} [Decidable c] : (hp_b c = 1) = c := by
  apply propext; by_cases h : c <;> simp [hp_b, h]
theorem hp_ckZ {α : Type} {c : Prop} [Decidable c] {x : Option α} : ckZ (hp_b c) x = x := by
  unfold ckZ hp_b
  by_cases h : c
  · simp only [h, if_true]; rfl
  · simp only [h, if_false]; rfl
theorem hp_narZ {c : Prop} [Decidable c] : vp_nar .boolean (hp_b c) = hp_b c := by
  by_cases h : c
  · rw [hp_bt h]; rfl
  · rw [hp_bf h]; rfl
/-- sums -/
def hp_sum (f : Nat → Int32) : Nat → Int32
  | 0 => 0
  | n + 1 => hp_sum f n + f n
theorem hp_sum_congr {f g : Nat → Int32} {n : Nat} (h : ∀ i, i < n → f i = g i) : hp_sum f n = hp_sum g n := by
  induction n with
  | zero => rfl
  | succ n ih => simp only [hp_sum]; rw [ih (fun i hi => h i (by omega)), h n (by omega)]
theorem hp_sum_add (f g : Nat → Int32) (n : Nat) : hp_sum f n + hp_sum g n = hp_sum (fun i => f i + g i) n := by
  induction n with
  | zero => rfl
  | succ n ih => simp only [hp_sum]; rw [← ih]; ac_rfl
theorem hp_sum_rng {f : Nat → Int32} {lo hi : Int} {n : Nat} (h : ∀ i, i < n → lo ≤ (f i).toInt ∧ (f i).toInt ≤ hi) (h1 : lo ≤ 0) (h2 : 0 ≤ hi) (h3 : -2147483648 ≤ n * lo) (h4 : n * hi < 2147483648) : n * lo ≤ (hp_sum f n).toInt ∧ (hp_sum f n).toInt ≤ n * hi := by
  induction n with
  | zero => simp [hp_sum]
  | succ n ih =>
    have e1 : ((n + 1 : Nat) : Int) * lo = n * lo + lo := by rw [Int.natCast_add, Int.add_mul]; simp
    have e2 : ((n + 1 : Nat) : Int) * hi = n * hi + hi := by rw [Int.natCast_add, Int.add_mul]; simp
    rw [e1] at h3 ⊢; rw [e2] at h4 ⊢
    obtain ⟨a, b⟩ := ih (fun i hi => h i (by omega)) (by omega) (by omega)
    obtain ⟨c, d⟩ := h n (by omega)
    simp only [hp_sum]
    rw [hp_add (by omega) (by omega)]
    omega
/-- the helpers of both sides -/
theorem hp_within (v lo hi : Int32) : pf_X7_within v lo hi = some (hp_b (lo ≤ v ∧ v ≤ hi), ()) := by
  unfold pf_X7_within hp_b
  by_cases h1 : v < lo
  · rw [if_pos h1, if_neg]; rintro ⟨a, -⟩; rw [hp_le] at a; rw [hp_lt] at h1; omega
  · rw [if_neg h1]
    by_cases h2 : hi < v
    · rw [if_pos h2, if_neg]; rintro ⟨-, a⟩; rw [hp_le] at a; rw [hp_lt] at h2; omega
    · rw [if_neg h2, if_pos]; constructor <;> rw [hp_le] <;> rw [hp_lt] at * <;> omega
theorem hp_isIn (v lo hi : Int32) : pf_X8_isIn v lo hi = some (hp_b (lo ≤ v ∧ v ≤ hi), ()) := hp_within v lo hi
theorem hp_get {all : Nat → Int32} {B a : Nat} (h : B + a < 800) : pf_X8_get (nI a) all (nI B) = some (all (B + a), ()) := by
  unfold pf_X8_get
  rw [hp_aI, hp_ck h (by decide), hp_cl (by omega)]
theorem hp_put {all : Nat → Int32} {B a : Nat} {v : Int32} (h : B + a < 800) : pf_X8_put (nI a) v all (nI B) = some (upd all (B + a) v) := by
  unfold pf_X8_put
  rw [hp_aI, hp_ck h (by decide), hp_cl (by omega)]
theorem hp_al (a i : Nat) : (OfNat.ofNat a : Int32) + nI i = nI (a + i) := nI_add a i
theorem hp_ar (a i : Nat) : nI i + (OfNat.ofNat a : Int32) = nI (i + a) := nI_add i a
theorem hp_a9 (i : Nat) : (9 : Int32) + nI i = nI (9 + i) := nI_add 9 i
theorem hp_a21 (i : Nat) : (21 : Int32) + nI i = nI (21 + i) := nI_add 21 i
theorem hp_a33 (i : Nat) : (33 : Int32) + nI i = nI (33 + i) := nI_add 33 i
theorem hp_a45 (i : Nat) : (45 : Int32) + nI i = nI (45 + i) := nI_add 45 i
theorem hp_a58 (i : Nat) : (58 : Int32) + nI i = nI (58 + i) := nI_add 58 i
theorem hp_a66 (i : Nat) : (66 : Int32) + nI i = nI (66 + i) := nI_add 66 i
theorem hp_a76 (i : Nat) : (76 : Int32) + nI i = nI (76 + i) := nI_add 76 i
theorem hp_i1 (i : Nat) : nI i + 1 = nI (i + 1) := nI_add i 1
theorem hp_getl {all : Nat → Int32} {B : Nat} (a : Nat) (h : B + a < 800) : pf_X8_get (OfNat.ofNat a) all (nI B) = some (all (B + a), ()) := hp_get h
theorem hp_putl {all : Nat → Int32} {B : Nat} {v : Int32} (a : Nat) (h : B + a < 800) : pf_X8_put (OfNat.ofNat a) v all (nI B) = some (upd all (B + a) v) := hp_put h
theorem hp_wt {i : Nat} {size off : Nat → Int32} (h : i < 12) : pf_X2_weight (nI i) size off = some (size i + off i, ()) := by
  unfold pf_X2_weight
  rw [hp_ck h (by decide), hp_ck h (by decide), hp_cl (by omega)]
theorem hp_wt8 {all : Nat → Int32} {B i : Nat} (h : i < 12) (hB : B ≤ 700) : pf_X8_weight (nI i) all (nI B) = some (all (B + (9 + i)) + all (B + (21 + i)), ()) := by
  unfold pf_X8_weight
  simp only [hp_lit, hp_aI]
  rw [hp_get (by omega), bi_0_s, hp_get (by omega), bi_0_s]
theorem hp_wb {size off : Nat → Int32} {k b : Nat} (hk : k ≤ 12 ∨ b ≤ 12) (hk2 : k < 2147483648) (hb : b < 2147483648) : pf_X2_weightsBelow (nI k) (nI b) size off = some (hp_sum (fun i => size i + off i) (min k b), ()) := by
  unfold pf_X2_weightsBelow
  have key : ∀ (n j : Nat) (s : Int32), j ≤ min k b → min k b - j < n → s = hp_sum (fun i => size i + off i) j → lp_X2_weightsBelow_4 (nI k) (nI b) off size n s (nI j) = some (hp_sum (fun i => size i + off i) (min k b), ()) := by
    intro n
    induction n with
    | zero => intro j s h1 h2; omega
    | succ n ih =>
      intro j s h1 h2 h3
      rw [lp_X2_weightsBelow_4]; simp (disch := omega) only [hp_eI]
      by_cases c1 : k ≤ j
      · rw [if_pos c1, h3, show min k b = j by omega]
      · rw [if_neg c1]
        by_cases c2 : b ≤ j
        · rw [if_pos c2, h3, show min k b = j by omega]
        · rw [if_neg c2, hp_wt (by omega), bi_0_s]
          simp only [nm, hp_lit, hp_aI]
          exact ih (j + 1) _ (by omega) (by omega) (by rw [h3]; rfl)
  exact key FU 0 0 (by omega) (by unfold FU; omega) rfl
theorem hp_aw {worth : Nat → Int32} {b : Nat} (hb : b ≤ 12) : pf_X2_allWorths (nI b) worth = some (hp_sum worth b, ()) := by
  unfold pf_X2_allWorths
  have key : ∀ (n j : Nat) (s : Int32), j ≤ b → b - j < n → s = hp_sum worth j → lp_X2_allWorths_4 (nI b) worth n s (nI j) = some (hp_sum worth b, ()) := by
    intro n
    induction n with
    | zero => intro j s h1 h2; omega
    | succ n ih =>
      intro j s h1 h2 h3
      rw [lp_X2_allWorths_4]; simp (disch := omega) only [hp_eI]
      by_cases c1 : b ≤ j
      · rw [if_pos c1, h3, show b = j by omega]
      · rw [if_neg c1, hp_ck (by omega) (by decide), hp_cl (by omega)]
        simp only [nm, hp_lit, hp_aI]
        exact ih (j + 1) _ (by omega) (by omega) (by rw [h3]; rfl)
  exact key FU 0 0 (by omega) (by unfold FU; omega) rfl
theorem hp_as {size : Nat → Int32} {b : Nat} (hb : b ≤ 12) : pf_X2_allSizes (nI b) size = some (hp_sum size b, ()) := by
  unfold pf_X2_allSizes
  have key : ∀ (n j : Nat) (s : Int32), j ≤ b → b - j < n → s = hp_sum size j → lp_X2_allSizes_4 (nI b) size n s (nI j) = some (hp_sum size b, ()) := by
    intro n
    induction n with
    | zero => intro j s h1 h2; omega
    | succ n ih =>
      intro j s h1 h2 h3
      rw [lp_X2_allSizes_4]; simp (disch := omega) only [hp_eI]
      by_cases c1 : b ≤ j
      · rw [if_pos c1, h3, show b = j by omega]
      · rw [if_neg c1, hp_ck (by omega) (by decide), hp_cl (by omega)]
        simp only [nm, hp_lit, hp_aI]
        exact ih (j + 1) _ (by omega) (by omega) (by rw [h3]; rfl)
  exact key FU 0 0 (by omega) (by unfold FU; omega) rfl
theorem hp_so {all : Nat → Int32} {B a k : Nat} (h : B + a + k ≤ 800) : pf_X8_sumOf (nI a) (nI k) all (nI B) = some (hp_sum (fun i => all (B + (a + i))) k, ()) := by
  unfold pf_X8_sumOf
  have key : ∀ (n j : Nat) (s : Int32), j ≤ k → k - j < n → s = hp_sum (fun i => all (B + (a + i))) j → lp_X8_sumOf_5 (nI a) (nI k) (nI B) all n s (nI j) = some (hp_sum (fun i => all (B + (a + i))) k, ()) := by
    intro n
    induction n with
    | zero => intro j s h1 h2; omega
    | succ n ih =>
      intro j s h1 h2 h3
      rw [lp_X8_sumOf_5]; simp (disch := omega) only [hp_eI]
      by_cases c1 : k ≤ j
      · rw [if_pos c1, h3, show k = j by omega]
      · rw [if_neg c1, hp_aI, hp_get (by omega), bi_0_s]
        simp only [nm, hp_lit, hp_aI]
        exact ih (j + 1) _ (by omega) (by omega) (by rw [h3]; rfl)
  exact key FU 0 0 (by omega) (by unfold FU; omega) rfl
theorem hp_re {all : Nat → Int32} {B k : Nat} (h : k ≤ 12) (hB : B ≤ 700) : pf_X8_reach (nI k) all (nI B) = some (hp_sum (fun i => all (B + (9 + i)) + all (B + (21 + i))) k, ()) := by
  unfold pf_X8_reach
  simp only [hp_lit]
  rw [hp_so (by omega), bi_0_s, hp_so (by omega), bi_0_s, hp_sum_add]
