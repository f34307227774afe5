/-! TEXT FORM. A number within its limits. -/
def hz_N (lo hi num : Int32) (m : Nat) (bytes tape : Nat → Int32) (p : Nat) (X : Option (Int32 × Int32 × Int32)) : Prop :=
  ∃ (a : Int32) (p' : Nat), p ≤ p' ∧ p' ≤ m ∧ -9999 ≤ a.toInt ∧ a.toInt ≤ 9999 ∧ (0 ≤ lo → 0 ≤ a.toInt) ∧
    ((p < p' ∧ X = some (a, nI p', -1) ∧ ((lo ≤ a ∧ a ≤ hi) → pf_X8_readNumber lo hi tape (nI m) (nI p) (-1) num = some (1, nI p', -1, a)) ∧ (¬ (lo ≤ a ∧ a ≤ hi) → pf_X8_readNumber lo hi tape (nI m) (nI p) (-1) num = some (0, nI p', nI p, a))) ∨
     (∃ (q : Nat) (at8 n8 : Int32), q ≤ m ∧ X = some (a, nI p', nI q) ∧ pf_X8_readNumber lo hi tape (nI m) (nI p) (-1) num = some (0, at8, nI q, n8)))
theorem hz_n0 {bytes tape : Nat → Int32} {m p : Nat} (h : hx_B bytes tape m) (hp : p ≤ m) (lo hi num : Int32) (hl : 0 ≤ lo) : hz_N lo hi num m bytes tape p (pf_X5_number bytes (nI m) (nI p) (-1)) := by
  obtain ⟨v, p', v9, pp, pm, hh⟩ := hx_num h hp num
  have ev := hp_nT (n := v) (by omega)
  refine ⟨nI v, p', pp, pm, by omega, by omega, fun _ => by omega, ?_⟩
  rcases hh with ⟨e1, -, e2, e3⟩ | ⟨q, num', e1, e2, e3⟩
  · refine Or.inl ⟨e1, e2, fun k => ?_, fun k => ?_⟩
    · unfold pf_X8_readNumber
      rw [hp_jn, hp_jn, if_pos hl]; dsimp only; rw [hp_jn, if_pos rfl]; dsimp only; rw [e3, hp_bi3, if_neg (by decide), hp_jn, if_pos rfl]; dsimp only; rw [hp_isIn, hp_bi0, hp_bt k, if_neg (by decide)]
    · unfold pf_X8_readNumber pf_X8_fails
      rw [hp_jn, hp_jn, if_pos hl]; dsimp only; rw [hp_jn, if_pos rfl]; dsimp only; rw [e3, hp_bi3, if_neg (by decide), hp_jn, if_pos rfl]; dsimp only; rw [hp_isIn, hp_bi0, hp_bf k, if_pos rfl, hp_bi1, if_pos rfl]
  · refine Or.inr ⟨q, nI p', num', e1, e2, ?_⟩
    unfold pf_X8_readNumber
    rw [hp_jn, hp_jn, if_pos hl]; dsimp only; rw [hp_jn, if_pos rfl]; dsimp only; rw [e3, hp_bi3, if_pos rfl]
theorem hz_n1 {bytes tape : Nat → Int32} {m p : Nat} (h : hx_B bytes tape m) (hp : p ≤ m) (lo hi num : Int32) (hl : ¬ 0 ≤ lo) : hz_N lo hi num m bytes tape p (pf_X5_signedNumber bytes (nI m) (nI p) (-1)) := by
  have hm := h.1
  unfold hz_N pf_X5_signedNumber
  rw [hx_tk h hp]
  by_cases c : hx_y bytes m p = 45
  · have pm := hx_yn (v := 45) h (by decide) c
    obtain ⟨v, p', v9, pp, pm, hh⟩ := hx_num h (show p + 1 ≤ m by omega) num
    have ev := hp_nT (n := v) (by omega)
    have en : (-nI v).toInt = -(v : Int) := by rw [hp_neg (by omega), ev]
    rw [if_pos c, hp_bi1]
    refine ⟨-nI v, p', by omega, pm, by omega, by omega, fun e => absurd e hl, ?_⟩
    rcases hh with ⟨e1, -, e2, e3⟩ | ⟨q, num', e1, e2, e3⟩
    · refine Or.inl ⟨by omega, ?_, fun k => ?_, fun k => ?_⟩
      · rw [e2, hp_bi2, if_neg (by decide)]
      · unfold pf_X8_readNumber
        rw [hp_jn, hp_jn, if_neg hl, (hx_pk h hp).2, hp_bi0, if_pos c]; dsimp only; rw [hp_jn, if_neg (by decide), hp_nm, hp_i1]; dsimp only; rw [e3, hp_bi3, if_neg (by decide), hp_jn, if_neg (by decide), hp_nm]; dsimp only; rw [hp_isIn, hp_bi0, hp_bt k, if_neg (by decide)]
      · unfold pf_X8_readNumber pf_X8_fails
        rw [hp_jn, hp_jn, if_neg hl, (hx_pk h hp).2, hp_bi0, if_pos c]; dsimp only; rw [hp_jn, if_neg (by decide), hp_nm, hp_i1]; dsimp only; rw [e3, hp_bi3, if_neg (by decide), hp_jn, if_neg (by decide), hp_nm]; dsimp only; rw [hp_isIn, hp_bi0, hp_bf k, if_pos rfl, hp_bi1, if_pos rfl]
    · refine Or.inr ⟨q, nI p', num', e1, ?_, ?_⟩
      · rw [e2, hp_bi2, if_neg (by decide)]
      · unfold pf_X8_readNumber
        rw [hp_jn, hp_jn, if_neg hl, (hx_pk h hp).2, hp_bi0, if_pos c]; dsimp only; rw [hp_jn, if_neg (by decide), hp_nm, hp_i1]; dsimp only; rw [e3, hp_bi3, if_pos rfl]
  · obtain ⟨v, p', v9, pp, pm, hh⟩ := hx_num h hp num
    have ev := hp_nT (n := v) (by omega)
    rw [if_neg c, hp_bi1]
    refine ⟨nI v, p', pp, pm, by omega, by omega, fun _ => by omega, ?_⟩
    rcases hh with ⟨e1, -, e2, e3⟩ | ⟨q, num', e1, e2, e3⟩
    · refine Or.inl ⟨e1, ?_, fun k => ?_, fun k => ?_⟩
      · rw [e2, hp_bi2, if_pos rfl]
      · unfold pf_X8_readNumber
        rw [hp_jn, hp_jn, if_neg hl, (hx_pk h hp).2, hp_bi0, if_neg c]; dsimp only; rw [hp_jn, if_pos rfl]; dsimp only; rw [e3, hp_bi3, if_neg (by decide), hp_jn, if_pos rfl]; dsimp only; rw [hp_isIn, hp_bi0, hp_bt k, if_neg (by decide)]
      · unfold pf_X8_readNumber pf_X8_fails
        rw [hp_jn, hp_jn, if_neg hl, (hx_pk h hp).2, hp_bi0, if_neg c]; dsimp only; rw [hp_jn, if_pos rfl]; dsimp only; rw [e3, hp_bi3, if_neg (by decide), hp_jn, if_pos rfl]; dsimp only; rw [hp_isIn, hp_bi0, hp_bf k, if_pos rfl, hp_bi1, if_pos rfl]
    · refine Or.inr ⟨q, nI p', num', e1, ?_, ?_⟩
      · rw [e2, hp_bi2, if_pos rfl]
      · unfold pf_X8_readNumber
        rw [hp_jn, hp_jn, if_neg hl, (hx_pk h hp).2, hp_bi0, if_neg c]; dsimp only; rw [hp_jn, if_pos rfl]; dsimp only; rw [e3, hp_bi3, if_pos rfl]
/-! The letters of the settings. -/
theorem hz_so (y : Int32) : (∃ r : Nat, r < 5 ∧ pf_X6_settingOf y = some (nI r, ()) ∧ pf_X8_ruleOf y = some (nI r, ())) ∨ (pf_X6_settingOf y = some (-1, ()) ∧ pf_X8_ruleOf y = some (-1, ())) := by
  have hF : 6 < FU := by unfold FU; omega
  unfold pf_X6_settingOf pf_X8_ruleOf
  generalize FU = F at *
  obtain ⟨F, rfl⟩ : ∃ g, F = g + 6 := ⟨F - 6, by omega⟩
  have st : ∀ (n k : Nat), k < 5 → lp_X6_settingOf_2 y (n + 1) (nI k) = if hm_letters k = y then some (nI k, ()) else lp_X6_settingOf_2 y n (nI (k + 1)) := by
    intro n k hk
    rw [lp_X6_settingOf_2, if_neg (fun e => by have := (hp_eI (a := 5) (by omega) (by omega)).mp e; omega), hp_ck hk (by decide), hp_cl (by omega), hp_nm, hp_i1]
  have en : ∀ n : Nat, lp_X6_settingOf_2 y (n + 1) (nI 5) = some (-1, ()) := by
    intro n
    rw [lp_X6_settingOf_2, if_pos (by decide)]
  rw [show (0 : Int32) = nI 0 from rfl, st (F + 5) 0 (by omega), st (F + 4) 1 (by omega), st (F + 3) 2 (by omega), st (F + 2) 3 (by omega), st (F + 1) 4 (by omega), en F]
  rw [show hm_letters 0 = 111 from rfl, show hm_letters 1 = 100 from rfl, show hm_letters 2 = 114 from rfl, show hm_letters 3 = 110 from rfl, show hm_letters 4 = 103 from rfl]
  by_cases c0 : y = 111
  · rw [if_pos c0, if_pos c0.symm]; exact Or.inl ⟨0, by omega, rfl, rfl⟩
  rw [if_neg c0, if_neg (Ne.symm c0)]
  by_cases c1 : y = 100
  · rw [if_pos c1, if_pos c1.symm]; exact Or.inl ⟨1, by omega, rfl, rfl⟩
  rw [if_neg c1, if_neg (Ne.symm c1)]
  by_cases c2 : y = 114
  · rw [if_pos c2, if_pos c2.symm]; exact Or.inl ⟨2, by omega, rfl, rfl⟩
  rw [if_neg c2, if_neg (Ne.symm c2)]
  by_cases c3 : y = 110
  · rw [if_pos c3, if_pos c3.symm]; exact Or.inl ⟨3, by omega, rfl, rfl⟩
  rw [if_neg c3, if_neg (Ne.symm c3)]
  by_cases c4 : y = 103
  · rw [if_pos c4, if_pos c4.symm]; exact Or.inl ⟨4, by omega, rfl, rfl⟩
  rw [if_neg c4, if_neg (Ne.symm c4)]
  exact Or.inr ⟨rfl, rfl⟩
theorem hz_told : ∀ t, t < 32 → ∀ r, r < 5 → ((nI t &&& (1 <<< (nI r &&& 31))) = 0 ↔ ¬ ((nI t >>> (nI r &&& 31)) &&& 1) = 1) := by decide
theorem hz_tell : ∀ t, t < 32 → ∀ r, r < 5 → ∃ t', t' < 32 ∧ (nI t ||| (1 <<< (nI r &&& 31))) = nI t' := by decide
/-- what may be set -/
theorem hz_may {lows tops : Nat → Int32} (hl : hp_lims lows tops) {r : Nat} (hr : r < 5) (a : Int32) : pf_X2_mayBeSet (nI r) a = some (hp_b (lows r ≤ a ∧ a ≤ tops r), ()) := by
  obtain ⟨l0, t0, l1, t1, l2, t2, l3, t3, l4, t4⟩ := hl
  unfold pf_X2_mayBeSet
  simp only [hp_within, hp_bi0, hp_ckZ]
  rcases (show r = 0 ∨ r = 1 ∨ r = 2 ∨ r = 3 ∨ r = 4 by omega) with rfl | rfl | rfl | rfl | rfl
  · rw [l0, t0]; rfl
  · rw [l1, t1]; rfl
  · rw [l2, t2]; rfl
  · rw [l3, t3]; rfl
  · rw [l4, t4]; rfl
theorem hz_put {r : Nat} (hr : r < 5) (v : Int32) (nr : Nat → Int32) : pf_X2_put (nI r) v (nr 0) (nr 1) (nr 2) (nr 3) (nr 4) = some (upd nr r v 0, upd nr r v 1, upd nr r v 2, upd nr r v 3, upd nr r v 4) := by
  unfold pf_X2_put
  rcases (show r = 0 ∨ r = 1 ∨ r = 2 ∨ r = 3 ∨ r = 4 by omega) with rfl | rfl | rfl | rfl | rfl <;> rfl
