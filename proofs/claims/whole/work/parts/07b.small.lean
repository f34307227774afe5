/-! Small operations: heat, stick, off, set, seed, forget, is, bit, see, wipe. -/
def hp_ua (A : Nat → Nat → Int32) (k : Nat) (f : Nat → Int32) : Nat → Nat → Int32 := fun j => if j = k then f else A j
theorem hp_uas {A : Nat → Nat → Int32} {k : Nat} {f : Nat → Int32} : hp_ua A k f k = f := if_pos rfl
theorem hp_uan {A : Nat → Nat → Int32} {k j : Nat} {f : Nat → Int32} (h : j ≠ k) : hp_ua A k f j = A j := if_neg h
theorem hp_RC_row {b : Nat} {c : Nat → Int32} {A : Nat → Nat → Int32} {all all' : Nat → Int32} {B : Nat} (h : hp_RC b c A all B) (e : ∀ i, i < 57 → all' (B + i) = all (B + i)) : hp_RC b c A all' B := by
  obtain ⟨q1, q2, q3, q4, ⟨q5, q6, q7, q8, q9, q10, q11, q12⟩, q⟩ := h
  refine ⟨q1, (e 0 (by omega)).trans q2, q3, q4, ⟨(e _ (by omega)).trans q5, (e _ (by omega)).trans q6, (e _ (by omega)).trans q7, (e _ (by omega)).trans q8, (e _ (by omega)).trans q9, (e _ (by omega)).trans q10, (e _ (by omega)).trans q11, (e _ (by omega)).trans q12⟩, fun i hi => ?_⟩
  obtain ⟨a1, a2, a3, a4⟩ := q i hi
  exact ⟨(e _ (by omega)).trans a1, (e _ (by omega)).trans a2, (e _ (by omega)).trans a3, (e _ (by omega)).trans a4⟩
/-- one slot, one place -/
theorem hp_RC_slot {b : Nat} {c : Nat → Int32} {A : Nat → Nat → Int32} {all : Nat → Int32} {B j : Nat} (h : hp_RC b c A all B) (hj : 1 ≤ j ∧ j ≤ 8) (v : Int32) : hp_RC b (upd c (j + 4) v) A (upd all (B + j) v) B := by
  obtain ⟨q1, q2, q3, q4, ⟨q5, q6, q7, q8, q9, q10, q11, q12⟩, q⟩ := h
  have step : ∀ i : Nat, all (B + i) = c (i + 4) → upd all (B + j) v (B + i) = upd c (j + 4) v (i + 4) := by
    intro i hi
    by_cases e : i = j
    · subst e; rw [hp_us, hp_us]
    · rw [hp_un (by omega), hp_un (by omega)]; exact hi
  refine ⟨?_, ?_, q3, q4, ⟨step 1 q5, step 2 q6, step 3 q7, step 4 q8, step 5 q9, step 6 q10, step 7 q11, step 8 q12⟩, fun i hi => ?_⟩
  · rw [hp_un (by omega)]; exact q1
  · rw [hp_un (by omega)]; exact q2
  · rw [hp_un (by omega), hp_un (by omega), hp_un (by omega), hp_un (by omega)]; exact q i hi
/-- one element of a row -/
theorem hp_RC_elem {b : Nat} {c : Nat → Int32} {A : Nat → Nat → Int32} {all : Nat → Int32} {B k r p : Nat} (h : hp_RC b c A all B) (hr : (r = 2 ∧ p = 21) ∨ (r = 3 ∧ p = 33) ∨ (r = 4 ∧ p = 45)) (hk : k < 12) (v : Int32) : hp_RC b c (hp_ua A r (upd (A r) k v)) (upd all (B + (p + k)) v) B := by
  obtain ⟨q1, q2, q3, q4, ⟨q5, q6, q7, q8, q9, q10, q11, q12⟩, q⟩ := h
  have o : ∀ i : Nat, i ≤ 8 → upd all (B + (p + k)) v (B + i) = all (B + i) := fun i hi => hp_un (by omega)
  have row : ∀ (s t i : Nat), i < b → ((s = 1 ∧ t = 9) ∨ (s = 2 ∧ t = 21) ∨ (s = 3 ∧ t = 33) ∨ (s = 4 ∧ t = 45)) → all (B + (t + i)) = A s i → upd all (B + (p + k)) v (B + (t + i)) = hp_ua A r (upd (A r) k v) s i := by
    intro s t i hi hs he
    by_cases e : s = r
    · subst e
      rw [hp_uas]
      have : t = p := by omega
      subst this
      by_cases e2 : i = k
      · subst e2; rw [hp_us, hp_us]
      · rw [hp_un (by omega), hp_un e2]; exact he
    · rw [hp_uan e, hp_un (by omega)]; exact he
  refine ⟨q1, (o 0 (by omega)).trans q2, q3, q4, ⟨(o _ (by omega)).trans q5, (o _ (by omega)).trans q6, (o _ (by omega)).trans q7, (o _ (by omega)).trans q8, (o _ (by omega)).trans q9, (o _ (by omega)).trans q10, (o _ (by omega)).trans q11, (o _ (by omega)).trans q12⟩, fun i hi => ?_⟩
  obtain ⟨a1, a2, a3, a4⟩ := q i hi
  exact ⟨row 1 9 i hi (by omega) a1, row 2 21 i hi (by omega) a2, row 3 33 i hi (by omega) a3, row 4 45 i hi (by omega) a4⟩
theorem hp_put0 {all : Nat → Int32} {a : Nat} {v : Int32} (h : a < 800) : pf_X8_put (nI a) v all 0 = some (upd all a v) := by
  have := hp_put (all := all) (B := 0) (a := a) (v := v) (by omega)
  rw [Nat.zero_add] at this
  exact this
theorem op_heat {b : Nat} {c : Nat → Int32} {A : Nat → Nat → Int32} {all : Nat → Int32} (v : Int32) (h : hp_RC b c A all 0) (hc : hp_CI b c A) :
    ∃ r h' all', pf_X7_heat v (c 11) = some (r, h') ∧ pf_X8_heat v all 0 = some (r, all') ∧ hp_RC b (upd c 11 h') A all' 0 ∧ hp_CI b (upd c 11 h') A ∧ (∀ i, 57 ≤ i → all' i = all i) := by
  have hci : ∀ v, hp_CI b (upd c 11 v) A := by
    intro v
    obtain ⟨h1, h2, h3, h4, h5, h6⟩ := hc
    exact ⟨by rw [hp_un (by decide)]; exact h1, by rw [hp_un (by decide)]; exact h2, by rw [hp_un (by decide)]; exact h3, by rw [hp_un (by decide)]; exact h4, by rw [hp_un (by decide)]; exact h5, h6⟩
  unfold pf_X7_heat pf_X8_heat
  rw [hp_within, hp_isIn]
  simp only [hp_bi0, hp_b0]
  by_cases k : (0 : Int32) ≤ v ∧ v ≤ 99
  · rw [if_neg (not_not_intro k), if_neg (not_not_intro k), show pf_X8_put 7 v all 0 = some (upd all 7 v) from hp_put0 (a := 7) (by omega), hp_bv1]
    refine ⟨_, _, _, rfl, rfl, ?_, hci v, fun i hi => hp_un (by omega)⟩
    have := hp_RC_slot (j := 7) h (by omega) v
    rw [Nat.zero_add] at this
    exact this
  · rw [if_pos k, if_pos k]
    refine ⟨_, _, _, rfl, rfl, ?_, hci _, fun i hi => rfl⟩
    rw [hp_ui]; exact h
theorem op_seed {b : Nat} {c : Nat → Int32} {A : Nat → Nat → Int32} {all : Nat → Int32} (v : Int32) (h : hp_RC b c A all 0) (hc : hp_CI b c A) :
    ∃ r h' all', pf_X7_seed v (c 10) = some (r, h') ∧ pf_X8_seed v all 0 = some (r, all') ∧ hp_RC b (upd c 10 h') A all' 0 ∧ hp_CI b (upd c 10 h') A ∧ (∀ i, 57 ≤ i → all' i = all i) := by
  unfold pf_X7_seed pf_X8_seed
  have e : all 6 = c 10 := by have := h.2.2.2.2.1.2.2.2.2.2.1; rw [Nat.zero_add] at this; exact this
  rw [hp_get0l 6 (by omega), hp_bi0, show pf_X8_put 6 v all 0 = some (upd all 6 v) from hp_put0 (a := 6) (by omega), hp_bv1, e]
  refine ⟨_, _, _, rfl, rfl, ?_, hp_CI6 hc v, fun i hi => hp_un (by omega)⟩
  have := hp_RC_slot (j := 6) h (by omega) v
  rw [Nat.zero_add] at this
  exact this
theorem op_stick {b : Nat} {c : Nat → Int32} {A : Nat → Nat → Int32} {all : Nat → Int32} (i v : Int32) (h : hp_RC b c A all 0) (hc : hp_CI b c A) :
    ∃ r f all', pf_X7_stick i v (c 0) (A 4) = some (r, f) ∧ pf_X8_stick i v all 0 = some (r, all') ∧ hp_RC b c (hp_ua A 4 f) all' 0 ∧ hp_CI b c (hp_ua A 4 f) ∧ (∀ i, 57 ≤ i → all' i = all i) := by
  obtain ⟨q1, q2, q3, -⟩ := id h
  have nop : hp_RC b c (hp_ua A 4 (A 4)) all 0 ∧ hp_CI b c (hp_ua A 4 (A 4)) := by
    have e : hp_ua A 4 (A 4) = A := by
      funext j
      by_cases e : j = 4
      · subst e; rw [hp_uas]
      · rw [hp_uan e]
    rw [e]; exact ⟨h, hc⟩
  unfold pf_X7_stick pf_X8_stick
  rw [q1, hp_hasBit q3, hp_isBit0 q3 q2]
  simp only [hp_bi0, hp_b0, hp_within, hp_isIn]
  by_cases kk : 0 ≤ i.toInt ∧ i.toInt < b
  · rw [if_neg (not_not_intro kk), if_neg (not_not_intro kk)]
    by_cases k2 : (-1 : Int32) ≤ v ∧ v ≤ 1
    · rw [if_neg (not_not_intro k2), if_neg (not_not_intro k2)]
      obtain ⟨k, hk, rfl⟩ := hp_in_of kk (by omega)
      rw [hp_ck (show k < 12 by omega) (by decide), hp_cl (by omega), hp_a45, hp_put0 (by omega), hp_bv1]
      refine ⟨_, _, _, rfl, rfl, ?_, ?_, fun i hi => hp_un (by omega)⟩
      · have := hp_RC_elem (r := 4) (p := 45) (k := k) h (by omega) (by omega) v
        rw [Nat.zero_add] at this
        exact this
      · obtain ⟨h1, h2, h3, h4, h5, h6⟩ := hc
        refine ⟨h1, h2, h3, h4, h5, fun j hj => ?_⟩
        obtain ⟨a1, a2, a3, a4, a5⟩ := h6 j hj
        rw [hp_uan (by decide), hp_uan (by decide), hp_uan (by decide), hp_uas]
        refine ⟨a1, a2, a3, a4, ?_⟩
        by_cases e : j = k
        · subst e
          rw [hp_us]
          obtain ⟨v1, v2⟩ := k2
          rw [hp_le, show (-1 : Int32).toInt = -1 from by decide] at v1
          rw [hp_le, show (1 : Int32).toInt = 1 from by decide] at v2
          have : v.toInt = -1 ∨ v.toInt = 0 ∨ v.toInt = 1 := by omega
          rcases this with e | e | e
          · left; rw [hp_eq, e]; decide
          · right; left; rw [hp_eq, e]; decide
          · right; right; rw [hp_eq, e]; decide
        · rw [hp_un e]; exact a5
    · rw [if_pos k2, if_pos k2]
      exact ⟨_, _, _, rfl, rfl, nop.1, nop.2, fun i hi => rfl⟩
  · rw [if_pos kk, if_pos kk]
    exact ⟨_, _, _, rfl, rfl, nop.1, nop.2, fun i hi => rfl⟩
theorem hp_CI_elem {b : Nat} {c : Nat → Int32} {A : Nat → Nat → Int32} {r k : Nat} {v : Int32} (h : hp_CI b c A) (hv : (r = 2 ∧ -99 ≤ v.toInt ∧ v.toInt ≤ 120 ∧ 1 ≤ (A 1 k).toInt + v.toInt) ∨ (r = 3 ∧ 0 ≤ v.toInt ∧ v.toInt ≤ 9999 * 2 ^ k) ∨ (r = 4 ∧ (v = -1 ∨ v = 0 ∨ v = 1))) : hp_CI b c (hp_ua A r (upd (A r) k v)) := by
  obtain ⟨h1, h2, h3, h4, h5, h6⟩ := h
  refine ⟨h1, h2, h3, h4, h5, fun j hj => ?_⟩
  obtain ⟨a1, a2, a3, a4, a5⟩ := h6 j hj
  rcases hv with ⟨rfl, v1, v2, v3⟩ | ⟨rfl, v1, v2⟩ | ⟨rfl, v1⟩
  · rw [hp_uan (j := 1) (by decide), hp_uas, hp_uan (j := 3) (by decide), hp_uan (j := 4) (by decide)]
    by_cases e : j = k
    · subst e; rw [hp_us]; exact ⟨a1, ⟨v1, v2⟩, v3, a4, a5⟩
    · rw [hp_un e]; exact ⟨a1, a2, a3, a4, a5⟩
  · rw [hp_uan (j := 1) (by decide), hp_uas, hp_uan (j := 2) (by decide), hp_uan (j := 4) (by decide)]
    by_cases e : j = k
    · subst e; rw [hp_us]; exact ⟨a1, a2, a3, ⟨v1, v2⟩, a5⟩
    · rw [hp_un e]; exact ⟨a1, a2, a3, a4, a5⟩
  · rw [hp_uan (j := 1) (by decide), hp_uas, hp_uan (j := 2) (by decide), hp_uan (j := 3) (by decide)]
    by_cases e : j = k
    · subst e; rw [hp_us]; exact ⟨a1, a2, a3, a4, v1⟩
    · rw [hp_un e]; exact ⟨a1, a2, a3, a4, a5⟩
theorem hp_uai (A : Nat → Nat → Int32) (k : Nat) : hp_ua A k (A k) = A := by
  funext j
  by_cases e : j = k
  · subst e; rw [hp_uas]
  · rw [hp_uan e]
theorem hp_uaa (A : Nat → Nat → Int32) (k : Nat) (f g : Nat → Int32) : hp_ua (hp_ua A k f) k g = hp_ua A k g := by
  funext j
  by_cases e : j = k
  · subst e; rw [hp_uas, hp_uas]
  · rw [hp_uan e, hp_uan e, hp_uan e]
theorem op_off {b : Nat} {c : Nat → Int32} {A : Nat → Nat → Int32} {all : Nat → Int32} (i v : Int32) (h : hp_RC b c A all 0) (hc : hp_CI b c A) :
    ∃ r f all', pf_X7_off i v (c 0) (A 1) (A 2) = some (r, f) ∧ pf_X8_off i v all 0 = some (r, all') ∧ hp_RC b c (hp_ua A 2 f) all' 0 ∧ hp_CI b c (hp_ua A 2 f) ∧ (∀ i, 57 ≤ i → all' i = all i) := by
  obtain ⟨q1, q2, q3, -, -, q⟩ := id h
  have nop : hp_RC b c (hp_ua A 2 (A 2)) all 0 ∧ hp_CI b c (hp_ua A 2 (A 2)) := by
    rw [hp_uai]; exact ⟨h, hc⟩
  unfold pf_X7_off pf_X8_off
  rw [q1, hp_hasBit q3, hp_isBit0 q3 q2]
  simp only [hp_bi0, hp_b0, hp_within, hp_isIn]
  by_cases kk : 0 ≤ i.toInt ∧ i.toInt < b
  · rw [if_neg (not_not_intro kk), if_neg (not_not_intro kk)]
    by_cases k2 : (-99 : Int32) ≤ v ∧ v ≤ 99
    · rw [if_neg (not_not_intro k2), if_neg (not_not_intro k2)]
      obtain ⟨k, hk, rfl⟩ := hp_in_of kk (by omega)
      have e9 : all (9 + k) = A 1 k := by have := (q k hk).1; rw [Nat.zero_add] at this; exact this
      rw [hp_ck (show k < 12 by omega) (by decide), hp_cl (by omega), hp_a9, hp_get0 (by omega), hp_bi0, e9]
      by_cases k3 : 1 ≤ A 1 k + v
      · rw [if_pos k3, if_pos k3, hp_ck (show k < 12 by omega) (by decide), hp_a21, hp_put0 (by omega), hp_bv1]
        refine ⟨_, _, _, rfl, rfl, ?_, ?_, fun i hi => hp_un (by omega)⟩
        · have := hp_RC_elem (r := 2) (p := 21) (k := k) h (by omega) (by omega) v
          rw [Nat.zero_add] at this
          exact this
        · obtain ⟨v1, v2⟩ := k2
          rw [hp_le, show (-99 : Int32).toInt = -99 from by decide] at v1
          rw [hp_le, show (99 : Int32).toInt = 99 from by decide] at v2
          obtain ⟨s1, s2⟩ := (hc.2.2.2.2.2 k hk).1
          rw [hp_le, hp_add (by omega) (by omega), show (1 : Int32).toInt = 1 from by decide] at k3
          exact hp_CI_elem hc (Or.inl ⟨rfl, v1, by omega, k3⟩)
      · rw [if_neg k3, if_neg k3]
        exact ⟨_, _, _, rfl, rfl, nop.1, nop.2, fun i hi => rfl⟩
    · rw [if_pos k2, if_pos k2]
      exact ⟨_, _, _, rfl, rfl, nop.1, nop.2, fun i hi => rfl⟩
  · rw [if_pos kk, if_pos kk]
    exact ⟨_, _, _, rfl, rfl, nop.1, nop.2, fun i hi => rfl⟩
/-- five slots given anew -/
def hp_c5 (c : Nat → Int32) (a b d e f : Int32) : Nat → Int32 := upd (upd (upd (upd (upd c 5 a) 6 b) 7 d) 8 e) 9 f
theorem hp_c5i (c : Nat → Int32) : hp_c5 c (c 5) (c 6) (c 7) (c 8) (c 9) = c := by
  unfold hp_c5
  simp only [hp_ui]
def hp_lims (lows tops : Nat → Int32) : Prop := lows 0 = -99 ∧ tops 0 = 99 ∧ lows 1 = 0 ∧ tops 1 = 50 ∧ lows 2 = 0 ∧ tops 2 = 3 ∧ lows 3 = 0 ∧ tops 3 = 20 ∧ lows 4 = 1 ∧ tops 4 = 64
theorem hp_c5_0 (c : Nat → Int32) (v : Int32) : hp_c5 c v (c 6) (c 7) (c 8) (c 9) = upd c 5 v := by
  funext i
  unfold hp_c5 upd
  repeat' split
  all_goals first | rfl | (subst_vars; rfl) | omega
theorem hp_c5_1 (c : Nat → Int32) (v : Int32) : hp_c5 c (c 5) v (c 7) (c 8) (c 9) = upd c 6 v := by
  funext i
  unfold hp_c5 upd
  repeat' split
  all_goals first | rfl | (subst_vars; rfl) | omega
theorem hp_c5_2 (c : Nat → Int32) (v : Int32) : hp_c5 c (c 5) (c 6) v (c 8) (c 9) = upd c 7 v := by
  funext i
  unfold hp_c5 upd
  repeat' split
  all_goals first | rfl | (subst_vars; rfl) | omega
theorem hp_c5_3 (c : Nat → Int32) (v : Int32) : hp_c5 c (c 5) (c 6) (c 7) v (c 9) = upd c 8 v := by
  funext i
  unfold hp_c5 upd
  repeat' split
  all_goals first | rfl | (subst_vars; rfl) | omega
theorem hp_c5_4 (c : Nat → Int32) (v : Int32) : hp_c5 c (c 5) (c 6) (c 7) (c 8) v = upd c 9 v := by
  funext i
  unfold hp_c5 upd
  repeat' split
  all_goals first | rfl | (subst_vars; rfl) | omega
theorem hp_ne_0_1 : (((0 : Int32) = 1) = False) := eq_false (by decide)
theorem hp_ne_0_2 : (((0 : Int32) = 2) = False) := eq_false (by decide)
theorem hp_ne_0_3 : (((0 : Int32) = 3) = False) := eq_false (by decide)
theorem hp_ne_0_4 : (((0 : Int32) = 4) = False) := eq_false (by decide)
theorem hp_ne_1_0 : (((1 : Int32) = 0) = False) := eq_false (by decide)
theorem hp_ne_1_2 : (((1 : Int32) = 2) = False) := eq_false (by decide)
theorem hp_ne_1_3 : (((1 : Int32) = 3) = False) := eq_false (by decide)
theorem hp_ne_1_4 : (((1 : Int32) = 4) = False) := eq_false (by decide)
theorem hp_ne_2_0 : (((2 : Int32) = 0) = False) := eq_false (by decide)
theorem hp_ne_2_1 : (((2 : Int32) = 1) = False) := eq_false (by decide)
theorem hp_ne_2_3 : (((2 : Int32) = 3) = False) := eq_false (by decide)
theorem hp_ne_2_4 : (((2 : Int32) = 4) = False) := eq_false (by decide)
theorem hp_ne_3_0 : (((3 : Int32) = 0) = False) := eq_false (by decide)
theorem hp_ne_3_1 : (((3 : Int32) = 1) = False) := eq_false (by decide)
theorem hp_ne_3_2 : (((3 : Int32) = 2) = False) := eq_false (by decide)
theorem hp_ne_3_4 : (((3 : Int32) = 4) = False) := eq_false (by decide)
theorem hp_ne_4_0 : (((4 : Int32) = 0) = False) := eq_false (by decide)
theorem hp_ne_4_1 : (((4 : Int32) = 1) = False) := eq_false (by decide)
theorem hp_ne_4_2 : (((4 : Int32) = 2) = False) := eq_false (by decide)
theorem hp_ne_4_3 : (((4 : Int32) = 3) = False) := eq_false (by decide)
theorem op_set {b : Nat} {c : Nat → Int32} {A : Nat → Nat → Int32} {all lows tops : Nat → Int32} (i v : Int32) (h : hp_RC b c A all 0) (hc : hp_CI b c A) (hl : hp_lims lows tops) :
    ∃ r n1 n2 n3 n4 n5 all', pf_X7_set i v (c 5) (c 6) (c 7) (c 8) (c 9) = some (r, n1, n2, n3, n4, n5) ∧ pf_X8_set i v all 0 lows tops = some (r, all') ∧ hp_RC b (hp_c5 c n1 n2 n3 n4 n5) A all' 0 ∧ hp_CI b (hp_c5 c n1 n2 n3 n4 n5) A ∧ (∀ i, 57 ≤ i → all' i = all i) := by
  obtain ⟨l0, t0, l1, t1, l2, t2, l3, t3, l4, t4⟩ := hl
  obtain ⟨c1, c2, c3, c4, c5, c6⟩ := id hc
  have nop : hp_RC b (hp_c5 c (c 5) (c 6) (c 7) (c 8) (c 9)) A all 0 ∧ hp_CI b (hp_c5 c (c 5) (c 6) (c 7) (c 8) (c 9)) A := by
    rw [hp_c5i]; exact ⟨h, hc⟩
  have z4 : ∀ k : Nat, k ≤ 4 → ((0 : Int32) ≤ nI k ∧ nI k ≤ 4) := fun k hk => ⟨by rw [hp_le, hp_nT (by omega), show (0 : Int32).toInt = 0 from by decide]; omega, by rw [hp_le, hp_nT (by omega), show (4 : Int32).toInt = 4 from by decide]; omega⟩
  have rc : ∀ j : Nat, j ≤ 4 → hp_RC b (upd c (j + 5) v) A (upd all (j + 1) v) 0 := by
    intro j hj
    have := hp_RC_slot (j := j + 1) h (by omega) v
    rw [Nat.zero_add] at this
    exact this
  unfold pf_X7_set pf_X8_set pf_X2_mayBeSet pf_X2_put
  simp only [hp_within, hp_isIn, hp_bi0, hp_b0, hp_ckZ]
  have leaf : ∀ (j : Nat) (lo hi : Int32), j ≤ 4 → lows j = lo → tops j = hi → ∃ all', (if ¬ (lo ≤ v ∧ v ≤ hi) then (some (0, all) : Option (Int32 × (Nat → Int32))) else some (1, upd all (j + 1) v)) = some (hp_b (lo ≤ v ∧ v ≤ hi), all') ∧ (if ¬ ((0 : Int32) ≤ nI j ∧ nI j ≤ 4) then some ((0 : Int32), all) else ckI (nI j) 5 <| ckI (nI j) 5 <| if ¬ (lows (nI j).toNatClampNeg ≤ v ∧ v ≤ tops (nI j).toNatClampNeg) then some (0, all) else bv_1 (pf_X8_put (1 + nI j) v all 0) fun f3 => some (1, f3)) = some (hp_b (lo ≤ v ∧ v ≤ hi), all') ∧ (∀ i, 57 ≤ i → all' i = all i) ∧ (¬ (lo ≤ v ∧ v ≤ hi) → all' = all) ∧ ((lo ≤ v ∧ v ≤ hi) → all' = upd all (j + 1) v) := by
    intro j lo hi hj e1 e2
    rw [if_neg (not_not_intro (z4 j hj)), hp_ck (show j < 5 by omega) (by decide), hp_ck (show j < 5 by omega) (by decide), hp_cl (show j < 2147483648 by omega), e1, e2]
    by_cases k : lo ≤ v ∧ v ≤ hi
    · rw [if_neg (not_not_intro k), if_neg (not_not_intro k), hp_bt k, show (1 : Int32) + nI j = nI (j + 1) from by rw [Nat.add_comm]; exact nI_add 1 j, hp_put0 (by omega), hp_bv1]
      exact ⟨_, rfl, rfl, fun i hi => hp_un (by omega), fun n => absurd k n, fun _ => rfl⟩
    · rw [if_pos k, if_pos k, hp_bf k]
      exact ⟨_, rfl, rfl, fun i hi => rfl, fun _ => rfl, fun n => absurd n k⟩
  by_cases i0 : i = 0
  · subst i0
    obtain ⟨all', -, e8, f, g0, g1⟩ := leaf 0 (-99) 99 (by omega) l0 t0
    by_cases k : ((-99 : Int32) ≤ v ∧ v ≤ 99)
    · rw [hp_bt k] at e8
      refine ⟨1, v, c 6, c 7, c 8, c 9, all', ?_, e8, ?_, ?_, f⟩
      · simp only [if_true, if_false,  hp_bi0, hp_b0, if_neg (not_not_intro k), hp_bv5]
      · rw [g1 k]
        have := rc 0 (by omega)
        have e : hp_c5 c v (c 6) (c 7) (c 8) (c 9) = upd c 5 v := hp_c5_0 c v
        rw [e]; exact this
      · rw [hp_c5_0]
        obtain ⟨k1, k2⟩ := k
        rw [hp_le, show (-99 : Int32).toInt = -99 from by decide] at k1
        rw [hp_le, show (99 : Int32).toInt = 99 from by decide] at k2
        refine ⟨?_, ?_, ?_, ?_, ?_, c6⟩
        · rw [hp_us]; exact ⟨k1, k2⟩
        · rw [hp_un (by decide)]; exact c2
        · rw [hp_un (by decide)]; exact c3
        · rw [hp_un (by decide)]; exact c4
        · rw [hp_un (by decide)]; exact c5
    · rw [hp_bf k] at e8
      refine ⟨0, c 5, c 6, c 7, c 8, c 9, all', ?_, e8, ?_, nop.2, f⟩
      · simp only [if_true, if_false,  hp_bi0, hp_b0, if_pos k]
      · rw [g0 k]; exact nop.1
  by_cases i1 : i = 1
  · subst i1
    obtain ⟨all', -, e8, f, g0, g1⟩ := leaf 1 (0) 50 (by omega) l1 t1
    by_cases k : ((0 : Int32) ≤ v ∧ v ≤ 50)
    · rw [hp_bt k] at e8
      refine ⟨1, c 5, v, c 7, c 8, c 9, all', ?_, e8, ?_, ?_, f⟩
      · simp only [if_true, if_false, hp_ne_1_0, hp_bi0, hp_b0, if_neg (not_not_intro k), hp_bv5]
      · rw [g1 k]
        have := rc 1 (by omega)
        have e : hp_c5 c (c 5) v (c 7) (c 8) (c 9) = upd c 6 v := hp_c5_1 c v
        rw [e]; exact this
      · rw [hp_c5_1]
        obtain ⟨k1, k2⟩ := k
        rw [hp_le, show (0 : Int32).toInt = 0 from by decide] at k1
        rw [hp_le, show (50 : Int32).toInt = 50 from by decide] at k2
        refine ⟨?_, ?_, ?_, ?_, ?_, c6⟩
        · rw [hp_un (by decide)]; exact c1
        · rw [hp_us]; exact ⟨k1, k2⟩
        · rw [hp_un (by decide)]; exact c3
        · rw [hp_un (by decide)]; exact c4
        · rw [hp_un (by decide)]; exact c5
    · rw [hp_bf k] at e8
      refine ⟨0, c 5, c 6, c 7, c 8, c 9, all', ?_, e8, ?_, nop.2, f⟩
      · simp only [if_true, if_false, hp_ne_1_0, hp_bi0, hp_b0, if_pos k]
      · rw [g0 k]; exact nop.1
  by_cases i2 : i = 2
  · subst i2
    obtain ⟨all', -, e8, f, g0, g1⟩ := leaf 2 (0) 3 (by omega) l2 t2
    by_cases k : ((0 : Int32) ≤ v ∧ v ≤ 3)
    · rw [hp_bt k] at e8
      refine ⟨1, c 5, c 6, v, c 8, c 9, all', ?_, e8, ?_, ?_, f⟩
      · simp only [if_true, if_false, hp_ne_2_0, hp_ne_2_1, hp_bi0, hp_b0, if_neg (not_not_intro k), hp_bv5]
      · rw [g1 k]
        have := rc 2 (by omega)
        have e : hp_c5 c (c 5) (c 6) v (c 8) (c 9) = upd c 7 v := hp_c5_2 c v
        rw [e]; exact this
      · rw [hp_c5_2]
        obtain ⟨k1, k2⟩ := k
        rw [hp_le, show (0 : Int32).toInt = 0 from by decide] at k1
        rw [hp_le, show (3 : Int32).toInt = 3 from by decide] at k2
        refine ⟨?_, ?_, ?_, ?_, ?_, c6⟩
        · rw [hp_un (by decide)]; exact c1
        · rw [hp_un (by decide)]; exact c2
        · rw [hp_us]; exact ⟨k1, k2⟩
        · rw [hp_un (by decide)]; exact c4
        · rw [hp_un (by decide)]; exact c5
    · rw [hp_bf k] at e8
      refine ⟨0, c 5, c 6, c 7, c 8, c 9, all', ?_, e8, ?_, nop.2, f⟩
      · simp only [if_true, if_false, hp_ne_2_0, hp_ne_2_1, hp_bi0, hp_b0, if_pos k]
      · rw [g0 k]; exact nop.1
  by_cases i3 : i = 3
  · subst i3
    obtain ⟨all', -, e8, f, g0, g1⟩ := leaf 3 (0) 20 (by omega) l3 t3
    by_cases k : ((0 : Int32) ≤ v ∧ v ≤ 20)
    · rw [hp_bt k] at e8
      refine ⟨1, c 5, c 6, c 7, v, c 9, all', ?_, e8, ?_, ?_, f⟩
      · simp only [if_true, if_false, hp_ne_3_0, hp_ne_3_1, hp_ne_3_2, hp_bi0, hp_b0, if_neg (not_not_intro k), hp_bv5]
      · rw [g1 k]
        have := rc 3 (by omega)
        have e : hp_c5 c (c 5) (c 6) (c 7) v (c 9) = upd c 8 v := hp_c5_3 c v
        rw [e]; exact this
      · rw [hp_c5_3]
        obtain ⟨k1, k2⟩ := k
        rw [hp_le, show (0 : Int32).toInt = 0 from by decide] at k1
        rw [hp_le, show (20 : Int32).toInt = 20 from by decide] at k2
        refine ⟨?_, ?_, ?_, ?_, ?_, c6⟩
        · rw [hp_un (by decide)]; exact c1
        · rw [hp_un (by decide)]; exact c2
        · rw [hp_un (by decide)]; exact c3
        · rw [hp_us]; exact ⟨k1, k2⟩
        · rw [hp_un (by decide)]; exact c5
    · rw [hp_bf k] at e8
      refine ⟨0, c 5, c 6, c 7, c 8, c 9, all', ?_, e8, ?_, nop.2, f⟩
      · simp only [if_true, if_false, hp_ne_3_0, hp_ne_3_1, hp_ne_3_2, hp_bi0, hp_b0, if_pos k]
      · rw [g0 k]; exact nop.1
  by_cases i4 : i = 4
  · subst i4
    obtain ⟨all', -, e8, f, g0, g1⟩ := leaf 4 (1) 64 (by omega) l4 t4
    by_cases k : ((1 : Int32) ≤ v ∧ v ≤ 64)
    · rw [hp_bt k] at e8
      refine ⟨1, c 5, c 6, c 7, c 8, v, all', ?_, e8, ?_, ?_, f⟩
      · simp only [if_true, if_false, hp_ne_4_0, hp_ne_4_1, hp_ne_4_2, hp_ne_4_3, hp_bi0, hp_b0, if_neg (not_not_intro k), hp_bv5]
      · rw [g1 k]
        have := rc 4 (by omega)
        have e : hp_c5 c (c 5) (c 6) (c 7) (c 8) v = upd c 9 v := hp_c5_4 c v
        rw [e]; exact this
      · rw [hp_c5_4]
        obtain ⟨k1, k2⟩ := k
        rw [hp_le, show (1 : Int32).toInt = 1 from by decide] at k1
        rw [hp_le, show (64 : Int32).toInt = 64 from by decide] at k2
        refine ⟨?_, ?_, ?_, ?_, ?_, c6⟩
        · rw [hp_un (by decide)]; exact c1
        · rw [hp_un (by decide)]; exact c2
        · rw [hp_un (by decide)]; exact c3
        · rw [hp_un (by decide)]; exact c4
        · rw [hp_us]; exact ⟨k1, k2⟩
    · rw [hp_bf k] at e8
      refine ⟨0, c 5, c 6, c 7, c 8, c 9, all', ?_, e8, ?_, nop.2, f⟩
      · simp only [if_true, if_false, hp_ne_4_0, hp_ne_4_1, hp_ne_4_2, hp_ne_4_3, hp_bi0, hp_b0, if_pos k]
      · rw [g0 k]; exact nop.1
  refine ⟨0, c 5, c 6, c 7, c 8, c 9, all, ?_, ?_, nop.1, nop.2, fun _ _ => rfl⟩
  · rw [if_neg i0, if_neg i1, if_neg i2, if_neg i3, if_neg i4, hp_bi0, if_pos rfl]
  · rw [if_pos]
    rintro ⟨a1, a2⟩
    rw [hp_le, show (0 : Int32).toInt = 0 from by decide] at a1
    rw [hp_le, show (4 : Int32).toInt = 4 from by decide] at a2
    have : i.toInt = 0 ∨ i.toInt = 1 ∨ i.toInt = 2 ∨ i.toInt = 3 ∨ i.toInt = 4 := by omega
    rcases this with e | e | e | e | e
    · exact i0 (by rw [hp_eq, e]; decide)
    · exact i1 (by rw [hp_eq, e]; decide)
    · exact i2 (by rw [hp_eq, e]; decide)
    · exact i3 (by rw [hp_eq, e]; decide)
    · exact i4 (by rw [hp_eq, e]; decide)
theorem hp_szb {b : Nat} {c : Nat → Int32} {A : Nat → Nat → Int32} {f : Nat → Int32} (h : hp_CI b c (hp_ua A 3 f)) {j : Nat} (hj : j < b) : 1 ≤ (A 1 j).toInt ∧ (A 1 j).toInt ≤ 9999 := by
  have := (h.2.2.2.2.2 j hj).1
  rw [hp_uan (by decide)] at this
  exact this
theorem hp_RC_e0 {b : Nat} {c : Nat → Int32} {A : Nat → Nat → Int32} {all : Nat → Int32} {k r p : Nat} (h : hp_RC b c A all 0) (hr : (r = 2 ∧ p = 21) ∨ (r = 3 ∧ p = 33) ∨ (r = 4 ∧ p = 45)) (hk : k < 12) (v : Int32) : hp_RC b c (hp_ua A r (upd (A r) k v)) (upd all (p + k) v) 0 := by
  have := hp_RC_elem h hr hk v
  rw [Nat.zero_add] at this
  exact this
theorem hp_forget {b : Nat} {c : Nat → Int32} {A : Nat → Nat → Int32} (hb : b ≤ 12) : ∀ (n k j : Nat) (t : Int32) (f all : Nat → Int32), j + k = b → k < n → hp_RC b c (hp_ua A 3 f) all 0 → hp_CI b c (hp_ua A 3 f) →
    ∃ r f' all', lp_X7_forget_4 (nI b) (A 1) n t (nI j) f = some (r, f') ∧ lp_X8_forget_4 0 n t (nI j) all = some (r, all') ∧ hp_RC b c (hp_ua A 3 f') all' 0 ∧ hp_CI b c (hp_ua A 3 f') ∧ (∀ i, 57 ≤ i → all' i = all i) := by
  intro n
  induction n with
  | zero => intro k j t f all h1 h2; omega
  | succ n ih =>
    intro k j t f all h1 h2 h hc
    obtain ⟨q1, q2, q3, -, -, q⟩ := id h
    rw [lp_X7_forget_4, lp_X8_forget_4, hp_get0l 0 (by omega), hp_bi0, q2]
    by_cases d : b ≤ j
    · have d' := (hp_eI (show b < 2147483648 by omega) (show j < 2147483648 by omega)).mpr d
      rw [if_pos d', if_pos d']
      exact ⟨t, f, all, rfl, rfl, h, hc, fun i hi => rfl⟩
    · have d' : ¬ nI b ≤ nI j := fun d' => d ((hp_eI (by omega) (by omega)).mp d')
      have hj : j < b := by omega
      obtain ⟨a1, -, a3, -⟩ := q j hj
      rw [Nat.zero_add, hp_uan (by decide)] at a1
      rw [Nat.zero_add, hp_uas] at a3
      rw [if_neg d', if_neg d', hp_ck (show j < 12 by omega) (by decide), hp_ck (show j < 12 by omega) (by decide), hp_a33, hp_a9, hp_get0 (by omega), hp_bi0, hp_get0 (by omega), hp_bi0, a1, a3, hp_cl (show j < 2147483648 by omega), hp_jn, hp_jn]
      have e1 := hp_szb hc hj
      have hR := hp_RC_e0 (r := 3) (p := 33) (k := j) h (by omega) (by omega) (A 1 j)
      have hC := hp_CI_elem (r := 3) (k := j) (v := A 1 j) hc (Or.inr (Or.inl ⟨rfl, by omega, by
        have : (1 : Int) ≤ 2 ^ j := Int.pow_pos (by decide)
        omega⟩))
      rw [hp_uas, hp_uaa] at hR hC
      by_cases e : f j = A 1 j
      · rw [if_pos e, if_pos e]
        simp only [hp_nm, hp_bi0, hp_bv1, hp_put0 (show 33 + j < 800 by omega), hp_get0 (show 9 + j < 800 by omega), a1, hp_i1, hp_ck (show j < 12 by omega) (show 12 < 2147483648 by decide), Int32.add_zero]
        obtain ⟨r, f', all', b1, b2, b3, b4, b5⟩ := ih (k - 1) (j + 1) t (upd f j (A 1 j)) (upd all (33 + j) (A 1 j)) (by omega) (by omega) hR hC
        exact ⟨r, f', all', b1, b2, b3, b4, fun i hi => (b5 i hi).trans (hp_un (by omega))⟩
      · rw [if_neg e, if_neg e]
        simp only [hp_nm, hp_bi0, hp_bv1, hp_put0 (show 33 + j < 800 by omega), hp_get0 (show 9 + j < 800 by omega), a1, hp_i1, hp_ck (show j < 12 by omega) (show 12 < 2147483648 by decide), Int32.add_zero]
        obtain ⟨r, f', all', b1, b2, b3, b4, b5⟩ := ih (k - 1) (j + 1) (t + 1) (upd f j (A 1 j)) (upd all (33 + j) (A 1 j)) (by omega) (by omega) hR hC
        exact ⟨r, f', all', b1, b2, b3, b4, fun i hi => (b5 i hi).trans (hp_un (by omega))⟩
theorem op_forget {b : Nat} {c : Nat → Int32} {A : Nat → Nat → Int32} {all : Nat → Int32} (h : hp_RC b c A all 0) (hc : hp_CI b c A) :
    ∃ r f all', pf_X7_forget (c 0) (A 1) (A 3) = some (r, f) ∧ pf_X8_forget all 0 = some (r, all') ∧ hp_RC b c (hp_ua A 3 f) all' 0 ∧ hp_CI b c (hp_ua A 3 f) ∧ (∀ i, 57 ≤ i → all' i = all i) := by
  obtain ⟨q1, q2, q3, -, -, q⟩ := id h
  have hF : b < FU := by unfold FU; omega
  unfold pf_X7_forget pf_X8_forget
  generalize FU = F at *
  rw [q1]
  exact hp_forget q3 F b 0 0 (A 3) all (by omega) hF (by rw [hp_uai]; exact h) (by rw [hp_uai]; exact hc)
theorem hp_wb0 {b : Nat} {c : Nat → Int32} {A : Nat → Nat → Int32} {all : Nat → Int32} {k : Nat} (h : hp_RC b c A all 0) (hk : k ≤ b) : pf_X2_weightsBelow (nI k) (nI b) (A 1) (A 2) = some (hp_sum (hp_w A) k, ()) ∧ pf_X8_reach (nI k) all 0 = some (hp_sum (hp_w A) k, ()) := by
  have hb := h.2.2.1
  constructor
  · rw [hp_wb (by omega) (by omega) (by omega), show min k b = k by omega]
    rfl
  · have := hp_re (all := all) (B := 0) (k := k) (by omega) (by omega)
    rw [show hp_sum (fun i => all (0 + (9 + i)) + all (0 + (21 + i))) k = hp_sum (hp_w A) k from hp_sum_congr (fun i hi => (hp_rw_eq h i (by omega)).1)] at this
    exact this
theorem hp_short {b : Nat} {c : Nat → Int32} {A : Nat → Nat → Int32} {all : Nat → Int32} {k : Nat} (h : hp_RC b c A all 0) (hk : k < b) : pf_X2_isShort (nI k) (nI b) (A 1) (A 2) = some (hp_b (¬ hp_w A k ≤ hp_sum (hp_w A) k), ()) ∧ pf_X8_isShort (nI k) all 0 = some (hp_b (¬ hp_w A k ≤ hp_sum (hp_w A) k), ()) := by
  have hb := h.2.2.1
  obtain ⟨w1, w2⟩ := hp_wb0 h (show k ≤ b by omega)
  have e : hp_rw all 0 k = hp_w A k := (hp_rw_eq h k hk).1
  have w8 : pf_X8_weight (nI k) all 0 = some (hp_w A k, ()) := by
    have := hp_wt8 (all := all) (B := 0) (i := k) (by omega) (by omega)
    rw [← e]; exact this
  unfold pf_X2_isShort pf_X8_isShort
  rw [w1, w2, w8, hp_wt (by omega), hp_bi0, hp_bi0, hp_bi0, hp_bi0]
  have s : (if hp_w A k ≤ hp_sum (hp_w A) k then (some ((0 : Int32), ()) : Option (Int32 × Unit)) else some (1, ())) = some (hp_b (¬ hp_w A k ≤ hp_sum (hp_w A) k), ()) := by
    by_cases d : hp_w A k ≤ hp_sum (hp_w A) k
    · rw [if_pos d, hp_bf (not_not_intro d)]
    · rw [if_neg d, hp_bt d]
  exact ⟨s, s⟩
theorem op_bit {b : Nat} {c : Nat → Int32} {A : Nat → Nat → Int32} {all : Nat → Int32} (i w : Int32) (h : hp_RC b c A all 0) :
    ∃ r, pf_X7_bit i w (c 0) (A 1) (A 2) (A 3) (A 4) = some (r, ()) ∧ pf_X8_bit i w all 0 = some (r, ()) := by
  obtain ⟨q1, q2, q3, -, -, q⟩ := id h
  unfold pf_X7_bit pf_X8_bit
  rw [q1, hp_hasBit q3, hp_isBit0 q3 q2]
  simp only [hp_bi0, hp_b0]
  by_cases kk : 0 ≤ i.toInt ∧ i.toInt < b
  · rw [if_neg (not_not_intro kk), if_neg (not_not_intro kk)]
    obtain ⟨k, hk, rfl⟩ := hp_in_of kk (by omega)
    obtain ⟨a1, a2, a3, a4⟩ := q k hk
    rw [Nat.zero_add] at a1 a2 a3 a4
    have e : hp_rw all 0 k = hp_w A k := (hp_rw_eq h k hk).1
    have w8 : pf_X8_weight (nI k) all 0 = some (hp_w A k, ()) := by
      have := hp_wt8 (all := all) (B := 0) (i := k) (by omega) (by omega)
      rw [← e]; exact this
    obtain ⟨s1, s2⟩ := hp_short h hk
    rw [hp_a9, hp_a21, hp_a33, hp_a45, hp_get0 (by omega), hp_get0 (by omega), hp_get0 (by omega), hp_get0 (by omega), a1, a2, a3, a4, w8, hp_wt (by omega), s1, s2]
    simp only [hp_bi0, hp_ck (show k < 12 by omega) (show 12 < 2147483648 by decide), hp_cl (show k < 2147483648 by omega)]
    have one : ∀ z : Option (Int32 × Unit), (∃ r, z = some (r, ())) → ∃ r, z = some (r, ()) ∧ z = some (r, ()) := fun z ⟨r, h⟩ => ⟨r, h, h⟩
    refine one _ ?_
    repeat' split
    all_goals exact ⟨_, rfl⟩
  · rw [if_pos kk, if_pos kk]
    exact ⟨_, rfl, rfl⟩
theorem op_is {b : Nat} {c : Nat → Int32} {A : Nat → Nat → Int32} {all : Nat → Int32} {taped : Int32} (w : Int32) (h : hp_RC b c A all 0) (hs : all 57 = c 16) :
    ∃ r, pf_X7_is w (c 0) (A 1) (A 2) (A 3) (c 5) (c 6) (c 7) (c 8) (c 9) (c 10) (c 11) (c 12) (c 16) taped = some (r, ()) ∧ pf_X8_is w all 0 taped = some (r, ()) := by
  obtain ⟨q1, q2, q3, q4, ⟨q5, q6, q7, q8, q9, q10, q11, q12⟩, q⟩ := id h
  rw [Nat.zero_add] at q5 q6 q7 q8 q9 q10 q11 q12
  unfold pf_X7_is pf_X8_is
  obtain ⟨w1, w2⟩ := hp_wb0 h (Nat.le_refl b)
  have so := hp_so (all := all) (B := 0) (a := 33) (k := b) (by omega)
  rw [show hp_sum (fun i => all (0 + (33 + i))) b = hp_sum (A 3) b from hp_sum_congr (fun i hi => (q i hi).2.2.1)] at so
  have so' : pf_X8_sumOf 33 (nI b) all 0 = some (hp_sum (A 3) b, ()) := so
  rw [hp_get0l 0 (by omega), hp_bi0, q2, q1, hp_isIn, w1, w2, so', hp_aw q3, hp_get0l 57 (by omega), hp_get0l 7 (by omega), hp_get0l 8 (by omega), q11, q12, hs]
  simp only [hp_bi0, hp_b0]
  have z1 : (1 : Int32).toInt = 1 := by decide
  have z6 : (6 : Int32).toInt = 6 := by decide
  by_cases k : (1 : Int32) ≤ w ∧ w ≤ 6
  · rw [if_neg (not_not_intro k)]
    obtain ⟨k1, k2⟩ := k
    rw [hp_le, z1] at k1
    rw [hp_le, z6] at k2
    have lit : ∀ (z : Int32), z.toInt = w.toInt → w = z := fun z e => by rw [hp_eq, e]
    have : w.toInt = 1 ∨ w.toInt = 2 ∨ w.toInt = 3 ∨ w.toInt = 4 ∨ w.toInt = 5 ∨ w.toInt = 6 := by omega
    rcases this with e | e | e | e | e | e
    · have := lit 1 (by rw [e]; decide)
      subst this
      refine ⟨c 5, rfl, ?_⟩
      rw [hp_get0l 1 (by omega), hp_bi0, q5]
    · have := lit 2 (by rw [e]; decide)
      subst this
      refine ⟨c 6, rfl, ?_⟩
      rw [hp_get0l 2 (by omega), hp_bi0, q6]
    · have := lit 3 (by rw [e]; decide)
      subst this
      refine ⟨c 7, rfl, ?_⟩
      rw [hp_get0l 3 (by omega), hp_bi0, q7]
    · have := lit 4 (by rw [e]; decide)
      subst this
      refine ⟨c 8, rfl, ?_⟩
      rw [hp_get0l 4 (by omega), hp_bi0, q8]
    · have := lit 5 (by rw [e]; decide)
      subst this
      refine ⟨c 9, rfl, ?_⟩
      rw [hp_get0l 5 (by omega), hp_bi0, q9]
    · have := lit 6 (by rw [e]; decide)
      subst this
      refine ⟨c 10, rfl, ?_⟩
      rw [hp_get0l 6 (by omega), hp_bi0, q10]
  · rw [if_pos k]
    have n : ∀ j : Nat, 1 ≤ j → j ≤ 6 → ¬ w = nI j := by
      intro j j1 j2 e
      subst e
      exact k ⟨by rw [hp_le, z1, hp_nT (by omega)]; omega, by rw [hp_le, z6, hp_nT (by omega)]; omega⟩
    by_cases k0 : w = 0
    · rw [if_pos k0, if_pos k0]; exact ⟨_, rfl, rfl⟩
    rw [if_neg k0, if_neg k0]
    iterate 2 rw [if_neg (show ¬ w = 1 from n 1 (by omega) (by omega))]
    iterate 2 rw [if_neg (show ¬ w = 2 from n 2 (by omega) (by omega))]
    iterate 2 rw [if_neg (show ¬ w = 3 from n 3 (by omega) (by omega))]
    iterate 2 rw [if_neg (show ¬ w = 4 from n 4 (by omega) (by omega))]
    iterate 2 rw [if_neg (show ¬ w = 5 from n 5 (by omega) (by omega))]
    iterate 2 rw [if_neg (show ¬ w = 6 from n 6 (by omega) (by omega))]
    have one : ∀ z : Option (Int32 × Unit), (∃ r, z = some (r, ())) → ∃ r, z = some (r, ()) ∧ z = some (r, ()) := fun z ⟨r, h⟩ => ⟨r, h, h⟩
    refine one _ ?_
    repeat' split
    all_goals exact ⟨_, rfl⟩
/-- what was seen -/
def hp_RS (c : Nat → Int32) (A : Nat → Nat → Int32) (all : Nat → Int32) (B : Nat) : Prop := ∃ m : Nat, m ≤ 8 ∧ c 16 = nI m ∧ all (B + 57) = nI m ∧ ∀ i, i < m → all (B + (58 + i)) = A 14 i ∧ all (B + (66 + i)) = A 15 i
theorem hp_RS_row {c : Nat → Int32} {A : Nat → Nat → Int32} {all all' : Nat → Int32} {B : Nat} (h : hp_RS c A all B) (e : ∀ i, 57 ≤ i → i < 74 → all' (B + i) = all (B + i)) : hp_RS c A all' B := by
  obtain ⟨m, h1, h2, h3, h4⟩ := h
  refine ⟨m, h1, h2, (e 57 (by omega) (by omega)).trans h3, fun i hi => ?_⟩
  exact ⟨(e _ (by omega) (by omega)).trans (h4 i hi).1, (e _ (by omega) (by omega)).trans (h4 i hi).2⟩
theorem op_see {c : Nat → Int32} {A : Nat → Nat → Int32} {all : Nat → Int32} (x code : Int32) (h : hp_RS c A all 0) :
    ∃ r f g n all', pf_X7_see x code (A 14) (A 15) (c 16) = some (r, f, g, n) ∧ pf_X8_see x code all 0 = some (r, all') ∧ hp_RS (upd c 16 n) (hp_ua (hp_ua A 14 f) 15 g) all' 0 ∧ (∀ i, i < 57 ∨ 74 ≤ i → all' i = all i) := by
  obtain ⟨m, h1, h2, h3, h4⟩ := id h
  rw [Nat.zero_add] at h3
  unfold pf_X7_see pf_X8_see
  rw [hp_near, hp_isX, h2]
  simp only [hp_bi0, hp_b0]
  have nop : hp_RS (upd c 16 (nI m)) (hp_ua (hp_ua A 14 (A 14)) 15 (A 15)) all 0 := by
    rw [hp_uai, hp_uai, ← h2, hp_ui]; exact h
  by_cases k : -100000 ≤ x.toInt ∧ x.toInt ≤ 100000
  · rw [if_neg (not_not_intro k), if_neg (not_not_intro k), hp_get0l 57 (by omega), hp_bi0, h3]
    by_cases d : m = 8
    · subst d
      rw [if_pos (show nI 8 = 8 from rfl), if_neg (show ¬ nI 8 < 8 by decide)]
      exact ⟨_, _, _, _, _, rfl, rfl, nop, fun i hi => rfl⟩
    · rw [if_neg (show ¬ nI m = 8 from fun e => d ((hp_qI (show m < 2147483648 by omega) (show 8 < 2147483648 by omega)).mp e)), if_pos (show nI m < 8 from (hp_lI (show m < 2147483648 by omega) (show 8 < 2147483648 by omega)).mpr (by omega))]
      rw [hp_ck (show m < 8 by omega) (by decide), hp_ck (show m < 8 by omega) (by decide), hp_nm, hp_a58, hp_a66, hp_i1, hp_put0 (by omega), hp_bv1, hp_put0 (by omega), hp_bv1, show pf_X8_put 57 (nI (m + 1)) (upd (upd all (58 + m) x) (66 + m) code) 0 = some (upd (upd (upd all (58 + m) x) (66 + m) code) 57 (nI (m + 1))) from hp_put0 (a := 57) (by omega), hp_bv1, hp_cl (by omega)]
      refine ⟨_, _, _, _, _, rfl, rfl, ⟨m + 1, by omega, hp_us, ?_, fun i hi => ?_⟩, fun i hi => ?_⟩
      · exact hp_us
      · rw [Nat.zero_add, Nat.zero_add, hp_uan (j := 14) (by decide), hp_uas, hp_uas]
        by_cases e : i = m
        · subst e
          rw [hp_un (by omega), hp_un (by omega), hp_us, hp_us, hp_un (by omega), hp_us, hp_us]
          exact ⟨rfl, rfl⟩
        · obtain ⟨a1, a2⟩ := h4 i (by omega)
          rw [Nat.zero_add] at a1 a2
          rw [hp_un (by omega), hp_un (by omega), hp_un (by omega), hp_un (by omega), hp_un (by omega), hp_un (by omega), hp_un (by omega), hp_un (by omega)]
          exact ⟨a1, a2⟩
      · rw [hp_un (by omega), hp_un (by omega), hp_un (by omega)]
  · rw [if_pos k, if_pos k]
    exact ⟨_, _, _, _, _, rfl, rfl, nop, fun i hi => rfl⟩
theorem op_wipe {c : Nat → Int32} {A : Nat → Nat → Int32} {all : Nat → Int32} (h : hp_RS c A all 0) :
    ∃ r n all', pf_X7_wipe (c 16) = some (r, n) ∧ pf_X8_wipe all 0 = some (r, all') ∧ hp_RS (upd c 16 n) A all' 0 ∧ (∀ i, i < 57 ∨ 74 ≤ i → all' i = all i) := by
  obtain ⟨m, h1, h2, h3, h4⟩ := id h
  rw [Nat.zero_add] at h3
  unfold pf_X7_wipe pf_X8_wipe
  rw [hp_get0l 57 (by omega), hp_bi0, show pf_X8_put 57 0 all 0 = some (upd all 57 0) from hp_put0 (a := 57) (by omega), hp_bv1, h2, h3]
  exact ⟨_, _, _, rfl, rfl, ⟨0, by omega, hp_us, hp_us, fun i hi => by omega⟩, fun i hi => hp_un (by omega)⟩
