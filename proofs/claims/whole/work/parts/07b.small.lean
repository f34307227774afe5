/-! Small operations: heat, stick, off, set, seed, forget, is, bit, see, wipe. -/
def hp_ua (A : Nat → Nat → Int32) (k : Nat) (f : Nat → Int32) : Nat → Nat → Int32 := fun j => if j = k then f else A j
theorem hp_uas {A : Nat → Nat → Int32} {k : Nat} {f : Nat → Int32} : hp_ua A k f k = f := if_pos rfl
theorem hp_uan {A : Nat → Nat → Int32} {k j : Nat} {f : Nat → Int32} (h : j ≠ k) : hp_ua A k f j = A j := if_neg h
theorem hp_RC_row {b : Nat} {c : Nat → Int32} {A : Nat → Nat → Int32} {all all' : Nat → Int32} {B : Nat} (h : hp_RC b c A all B) (e : ∀ i, i < 57 → all' (B + i) = all (B + i)) : hp_RC b c A all' B := by
  obtain ⟨q1, q2, q3, q4, ⟨q5, q6, q7, q8, q9, q10, q11, q12⟩, q⟩ := h
  refine ⟨q1, (e 0 (by omega)).trans q2, q3, q4, ⟨(e _ (by omega)).trans q5, (e _ (by omega)).trans q6, (e _ (by omega)).trans q7, (e _ (by omega)).trans q8, (e _ (by omega)).trans q9, (e _ (by omega)).trans q10, (e _ (by omega)).trans q11, (e _ (by omega)).trans q12⟩, fun i hi => ?_⟩
  obtain ⟨a1, a2, a3, a4⟩ := q i hi
  exact ⟨(e _ (by omega)).trans a1, (e _ (by omega)).trans a2, (e _ (by omega)).trans a3, (e _ (by omega)).trans a4⟩
/-- one slot, one place -/
theorem hp_RC_slot {b : Nat} {c : Nat → Int32} {A : Nat → Nat → Int32} {all : Nat → Int32} {B j : Nat} (h : hp_RC b c A all B) (hj : 1 ≤ j ∧ j ≤ 8) (v : Int32) : hp_RC b (upd c (j + 4) v) A (upd all (B + j) v) B := by
  obtain ⟨q1, q2, q3, q4, ⟨q5, q6, q7, q8, q9, q10, q11, q12⟩, q⟩ := h
  have step : ∀ i : Nat, all (B + i) = c (i + 4) → upd all (B + j) v (B + i) = upd c (j + 4) v (i + 4) := by
    intro i hi
    by_cases e : i = j
    · subst e; rw [hp_us, hp_us]
    · rw [hp_un (by omega), hp_un (by omega)]; exact hi
  refine ⟨?_, ?_, q3, q4, ⟨step 1 q5, step 2 q6, step 3 q7, step 4 q8, step 5 q9, step 6 q10, step 7 q11, step 8 q12⟩, fun i hi => ?_⟩
  · rw [hp_un (by omega)]; exact q1
  · rw [hp_un (by omega)]; exact q2
  · rw [hp_un (by omega), hp_un (by omega), hp_un (by omega), hp_un (by omega)]; exact q i hi
/-- one element of a row -/
theorem hp_RC_elem {b : Nat} {c : Nat → Int32} {A : Nat → Nat → Int32} {all : Nat → Int32} {B k r p : Nat} (h : hp_RC b c A all B) (hr : (r = 2 ∧ p = 21) ∨ (r = 3 ∧ p = 33) ∨ (r = 4 ∧ p = 45)) (hk : k < 12) (v : Int32) : hp_RC b c (hp_ua A r (upd (A r) k v)) (upd all (B + (p + k)) v) B := by
  obtain ⟨q1, q2, q3, q4, ⟨q5, q6, q7, q8, q9, q10, q11, q12⟩, q⟩ := h
  have o : ∀ i : Nat, i ≤ 8 → upd all (B + (p + k)) v (B + i) = all (B + i) := fun i hi => hp_un (by omega)
  have row : ∀ (s t i : Nat), i < b → ((s = 1 ∧ t = 9) ∨ (s = 2 ∧ t = 21) ∨ (s = 3 ∧ t = 33) ∨ (s = 4 ∧ t = 45)) → all (B + (t + i)) = A s i → upd all (B + (p + k)) v (B + (t + i)) = hp_ua A r (upd (A r) k v) s i := by
    intro s t i hi hs he
    by_cases e : s = r
    · subst e
      rw [hp_uas]
      have : t = p := by omega
      subst this
      by_cases e2 : i = k
      · subst e2; rw [hp_us, hp_us]
      · rw [hp_un (by omega), hp_un e2]; exact he
    · rw [hp_uan e, hp_un (by omega)]; exact he
  refine ⟨q1, (o 0 (by omega)).trans q2, q3, q4, ⟨(o _ (by omega)).trans q5, (o _ (by omega)).trans q6, (o _ (by omega)).trans q7, (o _ (by omega)).trans q8, (o _ (by omega)).trans q9, (o _ (by omega)).trans q10, (o _ (by omega)).trans q11, (o _ (by omega)).trans q12⟩, fun i hi => ?_⟩
  obtain ⟨a1, a2, a3, a4⟩ := q i hi
  exact ⟨row 1 9 i hi (by omega) a1, row 2 21 i hi (by omega) a2, row 3 33 i hi (by omega) a3, row 4 45 i hi (by omega) a4⟩
theorem hp_put0 {all : Nat → Int32} {a : Nat} {v : Int32} (h : a < 800) : pf_X8_put (nI a) v all 0 = some (upd all a v) := by
  have := hp_put (all := all) (B := 0) (a := a) (v := v) (by omega)
  rw [Nat.zero_add] at this
  exact this
theorem op_heat {b : Nat} {c : Nat → Int32} {A : Nat → Nat → Int32} {all : Nat → Int32} (v : Int32) (h : hp_RC b c A all 0) (hc : hp_CI b c A) :
    ∃ r h' all', pf_X7_heat v (c 11) = some (r, h') ∧ pf_X8_heat v all 0 = some (r, all') ∧ hp_RC b (upd c 11 h') A all' 0 ∧ hp_CI b (upd c 11 h') A ∧ (∀ i, 57 ≤ i → all' i = all i) := by
  have hci : ∀ v, hp_CI b (upd c 11 v) A := by
    intro v
    obtain ⟨h1, h2, h3, h4, h5, h6⟩ := hc
    exact ⟨by rw [hp_un (by decide)]; exact h1, by rw [hp_un (by decide)]; exact h2, by rw [hp_un (by decide)]; exact h3, by rw [hp_un (by decide)]; exact h4, by rw [hp_un (by decide)]; exact h5, h6⟩
  unfold pf_X7_heat pf_X8_heat
  rw [hp_within, hp_isIn]
  simp only [hp_bi0, hp_b0]
  by_cases k : (0 : Int32) ≤ v ∧ v ≤ 99
  · rw [if_neg (not_not_intro k), if_neg (not_not_intro k), show pf_X8_put 7 v all 0 = some (upd all 7 v) from hp_put0 (a := 7) (by omega), hp_bv1]
    refine ⟨_, _, _, rfl, rfl, ?_, hci v, fun i hi => hp_un (by omega)⟩
    have := hp_RC_slot (j := 7) h (by omega) v
    rw [Nat.zero_add] at this
    exact this
  · rw [if_pos k, if_pos k]
    refine ⟨_, _, _, rfl, rfl, ?_, hci _, fun i hi => rfl⟩
    rw [hp_ui]; exact h
theorem op_seed {b : Nat} {c : Nat → Int32} {A : Nat → Nat → Int32} {all : Nat → Int32} (v : Int32) (h : hp_RC b c A all 0) (hc : hp_CI b c A) :
    ∃ r h' all', pf_X7_seed v (c 10) = some (r, h') ∧ pf_X8_seed v all 0 = some (r, all') ∧ hp_RC b (upd c 10 h') A all' 0 ∧ hp_CI b (upd c 10 h') A ∧ (∀ i, 57 ≤ i → all' i = all i) := by
  unfold pf_X7_seed pf_X8_seed
  have e : all 6 = c 10 := by have := h.2.2.2.2.1.2.2.2.2.2.1; rw [Nat.zero_add] at this; exact this
  rw [hp_get0l 6 (by omega), hp_bi0, show pf_X8_put 6 v all 0 = some (upd all 6 v) from hp_put0 (a := 6) (by omega), hp_bv1, e]
  refine ⟨_, _, _, rfl, rfl, ?_, hp_CI6 hc v, fun i hi => hp_un (by omega)⟩
  have := hp_RC_slot (j := 6) h (by omega) v
  rw [Nat.zero_add] at this
  exact this
theorem op_stick {b : Nat} {c : Nat → Int32} {A : Nat → Nat → Int32} {all : Nat → Int32} (i v : Int32) (h : hp_RC b c A all 0) (hc : hp_CI b c A) :
    ∃ r f all', pf_X7_stick i v (c 0) (A 4) = some (r, f) ∧ pf_X8_stick i v all 0 = some (r, all') ∧ hp_RC b c (hp_ua A 4 f) all' 0 ∧ hp_CI b c (hp_ua A 4 f) ∧ (∀ i, 57 ≤ i → all' i = all i) := by
  obtain ⟨q1, q2, q3, -⟩ := id h
  have nop : hp_RC b c (hp_ua A 4 (A 4)) all 0 ∧ hp_CI b c (hp_ua A 4 (A 4)) := by
    have e : hp_ua A 4 (A 4) = A := by
      funext j
      by_cases e : j = 4
      · subst e; rw [hp_uas]
      · rw [hp_uan e]
    rw [e]; exact ⟨h, hc⟩
  unfold pf_X7_stick pf_X8_stick
  rw [q1, hp_hasBit q3, hp_isBit0 q3 q2]
  simp only [hp_bi0, hp_b0, hp_within, hp_isIn]
  by_cases kk : 0 ≤ i.toInt ∧ i.toInt < b
  · rw [if_neg (not_not_intro kk), if_neg (not_not_intro kk)]
    by_cases k2 : (-1 : Int32) ≤ v ∧ v ≤ 1
    · rw [if_neg (not_not_intro k2), if_neg (not_not_intro k2)]
      obtain ⟨k, hk, rfl⟩ := hp_in_of kk (by omega)
      rw [hp_ck (show k < 12 by omega) (by decide), hp_cl (by omega), hp_a45, hp_put0 (by omega), hp_bv1]
      refine ⟨_, _, _, rfl, rfl, ?_, ?_, fun i hi => hp_un (by omega)⟩
      · have := hp_RC_elem (r := 4) (p := 45) (k := k) h (by omega) (by omega) v
        rw [Nat.zero_add] at this
        exact this
      · obtain ⟨h1, h2, h3, h4, h5, h6⟩ := hc
        refine ⟨h1, h2, h3, h4, h5, fun j hj => ?_⟩
        obtain ⟨a1, a2, a3, a4, a5⟩ := h6 j hj
        rw [hp_uan (by decide), hp_uan (by decide), hp_uan (by decide), hp_uas]
        refine ⟨a1, a2, a3, a4, ?_⟩
        by_cases e : j = k
        · subst e
          rw [hp_us]
          obtain ⟨v1, v2⟩ := k2
          rw [hp_le, show (-1 : Int32).toInt = -1 from by decide] at v1
          rw [hp_le, show (1 : Int32).toInt = 1 from by decide] at v2
          have : v.toInt = -1 ∨ v.toInt = 0 ∨ v.toInt = 1 := by omega
          rcases this with e | e | e
          · left; rw [hp_eq, e]; decide
          · right; left; rw [hp_eq, e]; decide
          · right; right; rw [hp_eq, e]; decide
        · rw [hp_un e]; exact a5
    · rw [if_pos k2, if_pos k2]
      exact ⟨_, _, _, rfl, rfl, nop.1, nop.2, fun i hi => rfl⟩
  · rw [if_pos kk, if_pos kk]
    exact ⟨_, _, _, rfl, rfl, nop.1, nop.2, fun i hi => rfl⟩
