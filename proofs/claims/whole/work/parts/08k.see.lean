/-! SEEN: what is seen is near. -/
theorem op_seeb {c : Nat → Int32} {A : Nat → Nat → Int32} {all f g : Nat → Int32} {x code r n : Int32} (h : hp_RS c A all 0) (hs : hp_SB c A) (e : pf_X7_see x code (A 14) (A 15) (c 16) = some (r, f, g, n)) : hp_SB (upd c 16 n) (hp_ua (hp_ua A 14 f) 15 g) := by
  obtain ⟨m, h1, h2, -, -⟩ := h
  have t100 : (-100000 : Int32).toInt = -100000 := by decide
  unfold pf_X7_see at e
  rw [hp_near, h2, hp_bi0] at e
  have nop : hp_SB (upd c 16 (nI m)) (hp_ua (hp_ua A 14 (A 14)) 15 (A 15)) := by
    rw [hp_uai, hp_uai, ← h2, hp_ui]; exact hs
  by_cases k : -100000 ≤ x.toInt ∧ x.toInt ≤ 100000
  · rw [if_neg (by rw [hp_bt k]; decide)] at e
    by_cases d : m = 8
    · subst d
      rw [if_neg (show ¬ nI 8 < 8 by decide)] at e
      cases e; exact nop
    · rw [if_pos (show nI m < 8 from (hp_lI (show m < 2147483648 by omega) (show 8 < 2147483648 by omega)).mpr (by omega)), hp_ck (show m < 8 by omega) (by decide), hp_ck (show m < 8 by omega) (by decide), hp_nm, hp_i1, hp_cl (by omega)] at e
      cases e
      intro m' e1 e2 i hi
      rw [hp_us] at e1
      have e3 := congrArg Int32.toInt e1
      rw [hp_nT (by omega), hp_nT (by omega)] at e3
      rw [hp_uan (j := 14) (by decide), hp_uas]
      by_cases e : i = m
      · subst e; rw [hp_us]; exact k
      · rw [hp_un e]; exact hs m h2 h1 i (by omega)
  · rw [if_pos (by rw [hp_bf k])] at e
    cases e; exact nop
