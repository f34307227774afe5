/-! The tape: bytes alike on both sides; feed, end; what is next, numbers. The first rows (bt .. bp_b) are pasted from laws/BITS.to-paste. -/
def bt (x : Int32) (i : Nat) : Bool := x.toBitVec.getLsbD i
theorem b_ext {x y : Int32} (h : ∀ i, i < 32 → bt x i = bt y i) : x = y := Int32.toBitVec_inj.mp (BitVec.eq_of_getLsbD_eq (fun i hi => h i hi))
theorem b_and (x y : Int32) (i : Nat) : bt (x &&& y) i = (bt x i && bt y i) := by unfold bt; rw [Int32.toBitVec_and, BitVec.getLsbD_and]
theorem b_big {x : Int32} {i : Nat} (h : 32 ≤ i) : bt x i = false := BitVec.getLsbD_of_ge _ _ h
theorem b_255 (i : Nat) : bt 255 i = decide (i < 8) := by
  rcases Nat.lt_or_ge i 32 with h | h
  · exact (by decide +kernel : ∀ i, i < 32 → bt 255 i = decide (i < 8)) i h
  · rw [b_big h, decide_eq_false (by omega)]
theorem s_l : ∀ n, n < 32 → ((nI n &&& 31).toBitVec.smod 32).toNat = n := by decide +kernel
theorem s_u : ∀ n, n < 32 → (((nI n).toUInt32 &&& Int32.toUInt32 31).toBitVec % 32).toNat = n := by decide +kernel
theorem b_ushr (n : Nat) (hn : n < 32) (x : Int32) (i : Nat) : bt ((x.toUInt32 >>> ((nI n).toUInt32 &&& Int32.toUInt32 31)).toInt32) i = bt x (n + i) := by
  show (x.toUInt32 >>> ((nI n).toUInt32 &&& Int32.toUInt32 31)).toBitVec.getLsbD i = x.toUInt32.toBitVec.getLsbD (n + i)
  rw [UInt32.toBitVec_shiftRight]
  show (x.toUInt32.toBitVec >>> (((nI n).toUInt32 &&& Int32.toUInt32 31).toBitVec % 32).toNat).getLsbD i = _
  rw [s_u n hn, BitVec.getLsbD_ushiftRight]
theorem b_sshr (n : Nat) (hn : n < 32) (x : Int32) {i : Nat} (hi : i < 32) : bt (x >>> (nI n &&& 31)) i = if n + i < 32 then bt x (n + i) else bt x 31 := by
  unfold bt
  rw [Int32.toBitVec_shiftRight]
  show (x.toBitVec.sshiftRight ((nI n &&& 31).toBitVec.smod 32).toNat).getLsbD i = _
  rw [s_l n hn, BitVec.getLsbD_sshiftRight, BitVec.msb_eq_getLsbD_last]
  simp [hi]
theorem nx_and (a b : Nat) : nI a &&& nI b = nI (a &&& b) := by
  apply Int32.toBitVec_inj.1
  show BitVec.ofNat 32 a &&& BitVec.ofNat 32 b = BitVec.ofNat 32 (a &&& b)
  apply BitVec.eq_of_getLsbD_eq
  intro i hi
  simp [hi]
theorem bp_b (x : Int32) : x.toInt8.toInt32 &&& 255 = x &&& 255 := by
  apply Int32.toBitVec_inj.mp
  rw [Int32.toBitVec_and, Int32.toBitVec_and, Int8.toBitVec_toInt32, Int32.toBitVec_toInt8]
  apply BitVec.eq_of_getLsbD_eq
  intro i hi
  rw [BitVec.getLsbD_and, BitVec.getLsbD_and]
  have hm : ∀ i < 32, 8 ≤ i → (255 : Int32).toBitVec.getLsbD i = false := by decide
  rcases Nat.lt_or_ge i 8 with z | z
  · rw [BitVec.getLsbD_signExtend, BitVec.getLsbD_signExtend, if_pos z, if_pos hi]
    simp only [z, hi, decide_true, Bool.true_and]
  · rw [hm i hi z]; simp
theorem hx_sh (a : Int32) {s : Nat} (hs : s ≤ 24) : (a >>> (nI s &&& 31)) &&& 255 = ((a).toUInt32 >>> ((nI s).toUInt32 &&& Int32.toUInt32 31)).toInt32 &&& 255 := by
  apply b_ext
  intro i hi
  rw [b_and, b_and, b_255, b_ushr s (by omega), b_sshr s (by omega) a hi]
  by_cases h : i < 8
  · rw [if_pos (by omega)]
  · rw [decide_eq_false h, Bool.and_false, Bool.and_false]
theorem hx_255 (x : Int32) : ∃ k : Nat, k < 256 ∧ x &&& 255 = nI k := by
  have e : x = nI x.toBitVec.toNat := by
    apply Int32.toBitVec_inj.1
    show x.toBitVec = BitVec.ofNat 32 x.toBitVec.toNat
    simp
  refine ⟨x.toBitVec.toNat % 256, Nat.mod_lt _ (by omega), ?_⟩
  have e2 : nI x.toBitVec.toNat &&& nI 255 = nI (x.toBitVec.toNat % 256) := by
    rw [nx_and, show (255 : Nat) = 2 ^ 8 - 1 from rfl, Nat.and_two_pow_sub_one_eq_mod]
  rw [← e] at e2
  exact e2
/-- the bytes are alike -/
def hp_TP (bytes tape : Nat → Int32) (cnt taped : Int32) : Prop := ∃ m : Nat, m ≤ 400 ∧ cnt = nI m ∧ taped = nI m ∧ ∀ i, i < m → tape i &&& 255 = bytes i ∧ ∃ k : Nat, k < 256 ∧ bytes i = nI k
theorem hx_byte (a : Int32) {s : Nat} (hs : s ≤ 24) : (vp_nar .byte ((a >>> (nI s &&& 31)).toInt8.toInt32)) &&& 255 = ((a).toUInt32 >>> ((nI s).toUInt32 &&& Int32.toUInt32 31)).toInt32 &&& 255 := by
  rw [pk_vb, bp_b, hx_sh a hs]
theorem hx_four {m : Nat} (a : Int32) (hm : m + 4 ≤ 400) (bytes tape : Nat → Int32) (h : ∀ i, i < m → tape i &&& 255 = bytes i ∧ ∃ k : Nat, k < 256 ∧ bytes i = nI k) :
    ∃ b' t', pf_X5_append a bytes (nI m) = some (b', nI (m + 4)) ∧ pf_X8_four a tape (nI m) = some (t', nI (m + 4)) ∧ ∀ i, i < m + 4 → t' i &&& 255 = b' i ∧ ∃ k : Nat, k < 256 ∧ b' i = nI k := by
  have hF : 6 < FU := by unfold FU; omega
  have key : ∀ (k n j : Nat) (s : Int32) (by0 tp0 : Nat → Int32), j + k = 4 → k < n → s = nI (8 * k) - 8 → (∀ i, i < m + j → tp0 i &&& 255 = by0 i ∧ ∃ k : Nat, k < 256 ∧ by0 i = nI k) →
      ∃ b' t', lp_X5_append_3 a n s by0 (nI (m + j)) = some (b', nI (m + 4)) ∧ lp_X8_four_3 a n s tp0 (nI (m + j)) = some (t', nI (m + 4)) ∧ ∀ i, i < m + 4 → t' i &&& 255 = b' i ∧ ∃ k : Nat, k < 256 ∧ b' i = nI k := by
    intro k
    induction k with
    | zero =>
      intro n j s by0 tp0 h1 h2 h3 h4
      obtain ⟨n, rfl⟩ : ∃ q, n = q + 1 := ⟨n - 1, by omega⟩
      have s0 : s < 0 := by rw [h3]; decide
      have ej : j = 4 := by omega
      subst ej
      rw [lp_X5_append_3, lp_X8_four_3, if_pos s0, if_pos s0]
      exact ⟨by0, tp0, rfl, rfl, h4⟩
    | succ k ih =>
      intro n j s by0 tp0 h1 h2 h3 h4
      obtain ⟨n, rfl⟩ : ∃ q, n = q + 1 := ⟨n - 1, by omega⟩
      have es : s = nI (8 * k) := by
        rw [h3, show (8 : Int32) = nI 8 from rfl, hp_sI (by omega), show 8 * (k + 1) - 8 = 8 * k by omega]
      subst es
      have s0 : ¬ nI (8 * k) < 0 := hp_nneg _ (by omega)
      have c4 : ¬ (400 : Int32) ≤ nI (m + j) := fun e => by
        have := (hp_eI (a := 400) (by omega) (by omega)).mp e
        omega
      have e8 : nI (8 * k) + (-8) = nI (8 * k) - 8 := by rw [Int32.sub_eq_add_neg]
      rw [lp_X5_append_3, lp_X8_four_3, if_neg s0, if_neg s0, if_neg c4]
      rw [hp_nm, hp_ck (show m + j < 400 by omega) (by decide), hp_nm, hp_nm, hp_nm, hp_ck (show m + j < 400 by omega) (by decide), hp_nm, hp_nm, hp_i1, e8, hp_cl (show m + j < 2147483648 by omega)]
      refine ih n (j + 1) _ _ _ (by omega) (by omega) rfl (fun i hi => ?_)
      by_cases e : i = m + j
      · subst e
        rw [hp_us, hp_us]
        exact ⟨hx_byte a (by omega), hx_255 _⟩
      · rw [hp_un e, hp_un e]; exact h4 i (by omega)
  unfold pf_X5_append pf_X8_four
  generalize FU = F at *
  exact key 4 F 0 24 bytes tape (by omega) (by omega) (by decide) h
theorem op_feed (a1 a2 a3 a4 a5 : Int32) {bytes tape : Nat → Int32} {cnt taped : Int32} (h : hp_TP bytes tape cnt taped) :
    ∃ r b' n' t' n8, pf_X7_feed a1 a2 a3 a4 a5 bytes cnt = some (r, b', n') ∧ pf_X8_feed a1 a2 a3 a4 a5 tape taped = some (r, t', n8) ∧ hp_TP b' t' n' n8 := by
  obtain ⟨m, hm, rfl, rfl, hb⟩ := id h
  unfold pf_X7_feed pf_X8_feed
  have e20 : nI m + 20 = nI (m + 20) := nI_add m 20
  rw [e20]
  by_cases c : m + 20 ≤ 400
  · have c' : nI (m + 20) ≤ 400 := (hp_eI (b := 400) (by omega) (by omega)).mpr c
    rw [if_pos c', if_pos c']
    obtain ⟨b1, t1, x1, y1, z1⟩ := hx_four a1 (show m + 4 ≤ 400 by omega) bytes tape hb
    obtain ⟨b2, t2, x2, y2, z2⟩ := hx_four a2 (show m + 4 + 4 ≤ 400 by omega) b1 t1 z1
    obtain ⟨b3, t3, x3, y3, z3⟩ := hx_four a3 (show m + 4 + 4 + 4 ≤ 400 by omega) b2 t2 z2
    obtain ⟨b4, t4, x4, y4, z4⟩ := hx_four a4 (show m + 4 + 4 + 4 + 4 ≤ 400 by omega) b3 t3 z3
    obtain ⟨b5, t5, x5, y5, z5⟩ := hx_four a5 (show m + 4 + 4 + 4 + 4 + 4 ≤ 400 by omega) b4 t4 z4
    rw [x1, y1, hp_bv2, hp_bv2, x2, y2, hp_bv2, hp_bv2, x3, y3, hp_bv2, hp_bv2, x4, y4, hp_bv2, hp_bv2, x5, y5, hp_bv2, hp_bv2]
    exact ⟨_, _, _, _, _, rfl, rfl, m + 4 + 4 + 4 + 4 + 4, by omega, rfl, rfl, z5⟩
  · have c' : ¬ nI (m + 20) ≤ 400 := fun e => c ((hp_eI (b := 400) (by omega) (by omega)).mp e)
    rw [if_neg c', if_neg c']
    exact ⟨_, _, _, _, _, rfl, rfl, h⟩
theorem op_end (a : Int32) {bytes tape : Nat → Int32} {cnt taped : Int32} (h : hp_TP bytes tape cnt taped) :
    ∃ r n' n8, pf_X7_end a cnt = some (r, n') ∧ pf_X8_end a taped = some (r, n8) ∧ hp_TP bytes tape n' n8 := by
  obtain ⟨m, hm, rfl, rfl, hb⟩ := id h
  unfold pf_X7_end pf_X8_end
  rw [hp_isIn, hp_bi0]
  simp only [hp_b0]
  have z0 : (0 : Int32).toInt = 0 := by decide
  by_cases c : (0 : Int32) ≤ a ∧ a ≤ nI m
  · rw [if_neg (not_not_intro c), if_neg (show ¬ a < 0 by rw [hp_lt, z0]; have := c.1; rw [hp_le, z0] at this; omega), if_pos c.2]
    obtain ⟨c1, c2⟩ := c
    rw [hp_le, z0] at c1
    rw [hp_le, hp_nT (by omega)] at c2
    obtain ⟨k, k1, rfl, k3⟩ := hp_of (x := a) c1
    exact ⟨_, _, _, rfl, rfl, k, by omega, rfl, rfl, fun i hi => hb i (by omega)⟩
  · rw [if_pos c]
    by_cases c1 : a < 0
    · rw [if_pos c1]; exact ⟨_, _, _, rfl, rfl, h⟩
    · rw [if_neg c1, if_neg (fun e => c ⟨by rw [hp_le, z0]; rw [hp_lt, z0] at c1; omega, e⟩)]
      exact ⟨_, _, _, rfl, rfl, h⟩
theorem op_fault (f : Int32) : ∃ r, pf_X7_fault f = some (r, ()) ∧ pf_X8_fault f = some (r, ()) := ⟨f, rfl, rfl⟩
theorem op_stopped (f : Int32) : ∃ r, pf_X7_stopped f = some (r, ()) ∧ pf_X8_stopped f = some (r, ()) := ⟨f, rfl, rfl⟩
/-- what a bench told -/
def hp_RB (done : Int32) (told : Nat → Int32) (done8 : Int32) (told8 : Nat → Int32) : Prop := ∃ d : Nat, d ≤ 40 ∧ done = nI d ∧ done8 = nI d ∧ ∀ i, i < d → told i = told8 i
theorem op_row (k : Int32) {done done8 : Int32} {told told8 : Nat → Int32} (h : hp_RB done told done8 told8) : ∃ r, pf_X7_row k done told = some (r, ()) ∧ pf_X8_row k told8 done8 = some (r, ()) := by
  obtain ⟨d, hd, rfl, rfl, ht⟩ := h
  unfold pf_X7_row pf_X8_row
  rw [hp_isIn, hp_bi0]
  simp only [hp_b0]
  have z0 : (0 : Int32).toInt = 0 := by decide
  have z1 : (1 : Int32).toInt = 1 := by decide
  have ed : (nI d - 1).toInt = (d : Int) - 1 := by
    have := hp_nT (n := d) (by omega)
    rw [hp_sub (by rw [this, z1]; omega) (by rw [this, z1]; omega), this, z1]
  by_cases c : 0 ≤ k.toInt ∧ k.toInt < d
  · obtain ⟨j, j1, rfl, j3⟩ := hp_of (x := k) c.1
    rw [if_neg (hp_nneg j j1), if_neg (fun e => by have := (hp_eI (by omega) (by omega)).mp e; omega), if_neg (not_not_intro ⟨by rw [hp_le, z0]; omega, by rw [hp_le, ed]; omega⟩)]
    rw [hp_ck (show j < 40 by omega) (by decide), hp_ck (show j < 40 by omega) (by decide), hp_cl (by omega), ht j (by omega)]
    exact ⟨_, rfl, rfl⟩
  · refine ⟨-1000000, ?_, ?_⟩
    · by_cases c1 : k < 0
      · rw [if_pos c1]
      · rw [if_neg c1, if_pos]
        rw [hp_le, hp_nT (by omega)]
        rw [hp_lt, z0] at c1
        omega
    · rw [if_pos]
      rintro ⟨a1, a2⟩
      rw [hp_le, z0] at a1
      rw [hp_le, ed] at a2
      exact c ⟨a1, by omega⟩
/-! What is next. -/
def hx_y (bytes : Nat → Int32) (m p : Nat) : Int32 := if p < m then bytes p else -1
def hx_B (bytes tape : Nat → Int32) (m : Nat) : Prop := m ≤ 400 ∧ ∀ i, i < m → tape i &&& 255 = bytes i ∧ ∃ k : Nat, k < 256 ∧ bytes i = nI k
theorem hx_pk {bytes tape : Nat → Int32} {m p : Nat} (h : hx_B bytes tape m) (hp : p ≤ m) : pf_X5_peek bytes (nI m) (nI p) = some (hx_y bytes m p, ()) ∧ pf_X8_here tape (nI m) (nI p) = some (hx_y bytes m p, ()) := by
  obtain ⟨hm, hb⟩ := h
  unfold pf_X5_peek pf_X8_here hx_y
  rw [if_neg (hp_nneg p (by omega))]
  by_cases c : p < m
  · have c' : ¬ nI m ≤ nI p := fun e => by
      have := (hp_eI (by omega) (by omega)).mp e
      omega
    rw [if_neg c', if_neg c', if_pos c, hp_ck (show p < 400 by omega) (by decide), hp_ck (show p < 400 by omega) (by decide), hp_cl (by omega), (hb p c).1]
    exact ⟨rfl, rfl⟩
  · have c' : nI m ≤ nI p := (hp_eI (by omega) (by omega)).mpr (by omega)
    rw [if_pos c', if_pos c', if_neg c]
    exact ⟨rfl, rfl⟩
theorem hx_yr {bytes tape : Nat → Int32} {m p : Nat} (h : hx_B bytes tape m) : (hx_y bytes m p = -1 ∧ m ≤ p) ∨ (p < m ∧ ∃ k : Nat, k < 256 ∧ hx_y bytes m p = nI k) := by
  unfold hx_y
  by_cases c : p < m
  · rw [if_pos c]; exact Or.inr ⟨c, (h.2 p c).2⟩
  · rw [if_neg c]; exact Or.inl ⟨rfl, by omega⟩
theorem hx_yn {bytes tape : Nat → Int32} {m p : Nat} (h : hx_B bytes tape m) {v : Int32} (hv : 0 ≤ v.toInt) (e : hx_y bytes m p = v) : p < m := by
  rcases hx_yr (p := p) h with ⟨h1, -⟩ | ⟨h1, -⟩
  · rw [h1] at e
    rw [← e, show (-1 : Int32).toInt = -1 from by decide] at hv
    omega
  · exact h1
theorem hx_go {m p : Nat} (hm : m ≤ 400) (hp : p ≤ m) : pf_X5_goesOn (nI m) (nI p) (-1) = some (hp_b (p < m), ()) := by
  unfold pf_X5_goesOn
  rw [if_pos rfl]
  by_cases c : p < m
  · rw [if_neg (fun e => by have := (hp_eI (by omega) (by omega)).mp e; omega), hp_bt c]
  · rw [if_pos ((hp_eI (by omega) (by omega)).mpr (by omega)), hp_bf c]
theorem hx_nq (q : Nat) (hq : q ≤ 400) : ¬ nI q = -1 := by rw [hp_eq, hp_nT (by omega), show (-1 : Int32).toInt = -1 from by decide]; omega
theorem hx_gof {q : Nat} (hq : q ≤ 400) (c p : Int32) : pf_X5_goesOn c p (nI q) = some (0, ()) := by
  unfold pf_X5_goesOn; rw [if_neg (hx_nq q hq)]
theorem hx_bl (p : Int32) : pf_X5_blame p (-1) = some p := by unfold pf_X5_blame; rw [if_pos rfl]
theorem hx_blf {q : Nat} (hq : q ≤ 400) (p : Int32) : pf_X5_blame p (nI q) = some (nI q) := by unfold pf_X5_blame; rw [if_neg (hx_nq q hq)]
theorem hx_tk {bytes tape : Nat → Int32} {m p : Nat} (h : hx_B bytes tape m) (hp : p ≤ m) (s : Int32) : pf_X5_takes s bytes (nI m) (nI p) (-1) = if hx_y bytes m p = s then some (1, nI (p + 1)) else some (0, nI p) := by
  unfold pf_X5_takes
  rw [if_pos rfl, (hx_pk h hp).1, hp_bi0]
  by_cases c : hx_y bytes m p = s
  · rw [if_pos c, if_pos c, hp_nm, hp_i1]
  · rw [if_neg c, if_neg c]
theorem hx_tkf {q : Nat} (hq : q ≤ 400) (s : Int32) (bytes : Nat → Int32) (c p : Int32) : pf_X5_takes s bytes c p (nI q) = some (0, p) := by unfold pf_X5_takes; rw [if_neg (hx_nq q hq)]
theorem hx_ne {bytes tape : Nat → Int32} {m p : Nat} (h : hx_B bytes tape m) (hp : p ≤ m) (s : Int32) : pf_X5_needs s bytes (nI m) (nI p) (-1) = if hx_y bytes m p = s then some (nI (p + 1), -1) else some (nI p, nI p) := by
  unfold pf_X5_needs
  rw [hx_tk h hp]
  by_cases c : hx_y bytes m p = s
  · rw [if_pos c, if_pos c, hp_bi1, if_neg (by decide)]
  · rw [if_neg c, if_neg c, hp_bi1, if_pos rfl, hx_bl, hp_bv1]
theorem hx_nef {q : Nat} (hq : q ≤ 400) (s : Int32) (bytes : Nat → Int32) (c p : Int32) : pf_X5_needs s bytes c p (nI q) = some (p, nI q) := by
  unfold pf_X5_needs
  rw [hx_tkf hq, hp_bi1, if_pos rfl, hx_blf hq, hp_bv1]
theorem hx_ho (a p : Int32) (ha : a = 0 ∨ a = 1) (hp : ¬ p = -1) : pf_X5_holds a p (-1) = if a = 0 then some (0, p) else some (1, -1) := by
  unfold pf_X5_holds
  rw [hp_jn]
  rcases ha with e | e
  · rw [e, if_pos rfl, if_pos rfl, hx_bl, hp_bv1]
    dsimp only
    rw [if_neg hp]
  · rw [e, if_neg (by decide), if_neg (by decide)]
    dsimp only
    rw [if_pos rfl]
theorem hx_hof {q : Nat} (hq : q ≤ 400) (a p : Int32) : pf_X5_holds a p (nI q) = some (0, nI q) := by
  unfold pf_X5_holds
  rw [hp_jn]
  by_cases e : a = 0
  · rw [if_pos e, hx_blf hq, hp_bv1]
    dsimp only
    rw [if_neg (hx_nq q hq)]
  · rw [if_neg e]
    dsimp only
    rw [if_neg (hx_nq q hq)]
def hx_fig (c : Int32) : Prop := ¬ c < 48 ∧ ¬ 57 < c
theorem hx_f8 {c : Int32} : (hx_fig c → pf_X8_isFigure c = some (1, ())) ∧ (¬ hx_fig c → pf_X8_isFigure c = some (0, ())) := by
  unfold pf_X8_isFigure
  constructor
  · intro e
    rw [if_neg e.1, if_neg e.2]
  · intro e
    by_cases c1 : c < 48
    · rw [if_pos c1]
    · rw [if_neg c1]
      by_cases c2 : 57 < c
      · rw [if_pos c2]
      · exact absurd ⟨c1, c2⟩ e
theorem hx_f7 {bytes tape : Nat → Int32} {m p : Nat} (h : hx_B bytes tape m) (hp : p ≤ m) : (hx_fig (hx_y bytes m p) → pf_X5_isAtDigit bytes (nI m) (nI p) = some (1, ())) ∧ (¬ hx_fig (hx_y bytes m p) → pf_X5_isAtDigit bytes (nI m) (nI p) = some (0, ())) := by
  unfold pf_X5_isAtDigit
  rw [(hx_pk h hp).1, hp_bi0, hp_bi0]
  constructor
  · intro e
    rw [if_neg e.1, if_neg e.2]
  · intro e
    by_cases c1 : hx_y bytes m p < 48
    · rw [if_pos c1]
    · rw [if_neg c1]
      by_cases c2 : 57 < hx_y bytes m p
      · rw [if_pos c2]
      · exact absurd ⟨c1, c2⟩ e
theorem hx_fv {bytes tape : Nat → Int32} {m p : Nat} (h : hx_B bytes tape m) (e : hx_fig (hx_y bytes m p)) : p < m ∧ ∃ d : Nat, d ≤ 9 ∧ hx_y bytes m p = nI (48 + d) := by
  obtain ⟨e1, e2⟩ := e
  rw [hp_lt, show (48 : Int32).toInt = 48 from by decide] at e1
  rw [hp_lt, show (57 : Int32).toInt = 57 from by decide] at e2
  rcases hx_yr (p := p) h with ⟨h1, -⟩ | ⟨h1, k, k1, k2⟩
  · rw [h1, show (-1 : Int32).toInt = -1 from by decide] at e1; omega
  · rw [k2, hp_nT (by omega)] at e1 e2
    exact ⟨h1, k - 48, by omega, by rw [k2]; congr 1; omega⟩
theorem hx_t4 : ∀ c, c ≤ 4 → 10 ^ c ≤ 10000 := by decide
theorem hx_nl {bytes tape : Nat → Int32} {m p0 : Nat} (h : hx_B bytes tape m) : ∀ (n k c v : Nat), c + k = 4 → k < n → p0 + c ≤ m → v < 10 ^ c →
    ∃ c' v', c ≤ c' ∧ c' ≤ 4 ∧ v' < 10 ^ c' ∧ p0 + c' ≤ m ∧ (hx_fig (hx_y bytes m (p0 + c)) → c < 4 → c < c') ∧ (∀ J, lp_X5_number_21 (nI m) bytes J n (nI v) (nI c) (nI (p0 + c)) = J (nI v') (nI (p0 + c'))) ∧ (∀ J, lp_X8_readDigits_29 (nI m) (nI p0) tape J n (nI (p0 + c)) (nI v) = J (nI (p0 + c')) (nI v')) := by
  intro n
  induction n with
  | zero => intro k c v h1 h2; omega
  | succ n ih =>
    intro k c v h1 h2 h3 h4
    have hm := h.1
    have e0 : nI (p0 + c) - nI p0 = nI c := by rw [hp_sI (by omega)]; congr 1; omega
    have hh := (hx_pk h h3).2
    have h7 := (hx_pk h h3).1
    by_cases f : hx_fig (hx_y bytes m (p0 + c))
    · by_cases c4 : 4 ≤ c
      · have c4' : (4 : Int32) ≤ nI c := (hp_eI (a := 4) (by omega) (by omega)).mpr c4
        refine ⟨c, v, Nat.le_refl c, by omega, h4, h3, fun _ e => by omega, fun J => ?_, fun J => ?_⟩
        · rw [lp_X5_number_21, if_pos c4']
        · rw [lp_X8_readDigits_29, hh, hp_bi0, hx_f8.1 f, hp_bi0, if_neg (by decide), e0, if_pos c4']
      · have c4' : ¬ (4 : Int32) ≤ nI c := fun e => c4 ((hp_eI (a := 4) (by omega) (by omega)).mp e)
        obtain ⟨pm, d, d1, d2⟩ := hx_fv h f
        have t4 := hx_t4 c (by omega)
        have ev : nI v * 10 + nI (48 + d) - 48 = nI (10 * v + d) := by
          rw [show (10 : Int32) = nI 10 from rfl, show (48 : Int32) = nI 48 from rfl, hp_mI, hp_aI, hp_sI (by omega)]
          congr 1; omega
        have ev8 : 10 * nI v + nI (48 + d) - 48 = nI (10 * v + d) := by rw [Int32.mul_comm 10]; exact ev
        obtain ⟨c', v', i1, i2, i3, i4, i5, i6, i7⟩ := ih (k - 1) (c + 1) (10 * v + d) (by omega) (by omega) (by omega) (by rw [Nat.pow_succ]; omega)
        refine ⟨c', v', by omega, i2, i3, i4, fun _ _ => by omega, fun J => ?_, fun J => ?_⟩
        · rw [lp_X5_number_21, if_neg c4', (hx_f7 h h3).1 f, hp_bi0, if_neg (by decide), h7, hp_bi0, d2, hp_nm, hp_nm, hp_nm, ev, hp_i1, hp_i1]
          exact i6 J
        · rw [lp_X8_readDigits_29, hh, hp_bi0, hx_f8.1 f, hp_bi0, if_neg (by decide), e0, if_neg c4', hp_bi0, d2, hp_nm, hp_nm, ev8, hp_i1]
          exact i7 J
    · refine ⟨c, v, Nat.le_refl c, by omega, h4, h3, fun e => absurd e f, fun J => ?_, fun J => ?_⟩
      · rw [lp_X5_number_21]
        by_cases c4' : (4 : Int32) ≤ nI c
        · rw [if_pos c4']
        · rw [if_neg c4', (hx_f7 h h3).2 f, hp_bi0, if_pos rfl]
      · rw [lp_X8_readDigits_29, hh, hp_bi0, hx_f8.2 f, hp_bi0, if_pos rfl]
/-- a number: both read it alike -/
theorem hx_num {bytes tape : Nat → Int32} {m p : Nat} (h : hx_B bytes tape m) (hp : p ≤ m) (num : Int32) :
    ∃ v p' : Nat, v ≤ 9999 ∧ p ≤ p' ∧ p' ≤ m ∧
      ((p < p' ∧ hx_fig (hx_y bytes m p) ∧ pf_X5_number bytes (nI m) (nI p) (-1) = some (nI v, nI p', -1) ∧ pf_X8_readDigits tape (nI m) (nI p) (-1) num = some (1, nI p', -1, nI v)) ∨
       (∃ q num', q ≤ m ∧ pf_X5_number bytes (nI m) (nI p) (-1) = some (nI v, nI p', nI q) ∧ pf_X8_readDigits tape (nI m) (nI p) (-1) num = some (0, nI p', nI q, num'))) := by
  have hm := h.1
  have hF : 5 < FU := by unfold FU; omega
  unfold pf_X5_number pf_X8_readDigits
  rw [(hx_pk h hp).2, hp_bi0]
  by_cases f : hx_fig (hx_y bytes m p)
  · obtain ⟨c', v', i1, i2, i3, i4, i5, i6, i7⟩ := hx_nl (p0 := p) h FU 4 0 0 (by omega) (by omega) (by omega) (by decide)
    have t4 := hx_t4 c' i2
    have i5 := i5 f (by omega)
    generalize FU = F at *
    have i6 : ∀ J, lp_X5_number_21 (nI m) bytes J F 0 0 (nI p) = J (nI v') (nI (p + c')) := i6
    have i7 : ∀ J, lp_X8_readDigits_29 (nI m) (nI p) tape J F (nI p) 0 = J (nI (p + c')) (nI v') := i7
    rw [(hx_f7 h hp).1 f, hp_bi0, if_neg (by decide), hx_f8.1 f, hp_bi0, if_neg (by decide), hp_jn, hp_jn, i6, i7, (hx_pk h i4).2, hp_bi0]
    by_cases f2 : hx_fig (hx_y bytes m (p + c'))
    · rw [(hx_f7 h i4).1 f2, hp_bi0, if_neg (by decide), hx_f8.1 f2, hp_bi0, if_neg (by decide), hx_bl, hp_bv1]
      refine ⟨v', p + c', by omega, by omega, i4, Or.inr ⟨p + c', nI v', i4, rfl, ?_⟩⟩
      unfold pf_X8_fails
      rw [hp_bi1, if_pos rfl]
    · rw [(hx_f7 h i4).2 f2, hp_bi0, if_pos rfl, hx_f8.2 f2, hp_bi0, if_pos rfl]
      exact ⟨v', p + c', by omega, by omega, i4, Or.inl ⟨by omega, f, rfl, rfl⟩⟩
  · rw [(hx_f7 h hp).2 f, hp_bi0, if_pos rfl, hx_f8.2 f, hp_bi0, if_pos rfl, hx_bl, hp_bv1]
    refine ⟨0, p, by omega, Nat.le_refl p, hp, Or.inr ⟨p, num, hp, rfl, ?_⟩⟩
    unfold pf_X8_fails
    rw [hp_bi1, show ∀ z : Option (Int32 × Int32 × Int32 × Int32), ckZ 0 z = z from fun z => hf_ckZ (Or.inl rfl)]
