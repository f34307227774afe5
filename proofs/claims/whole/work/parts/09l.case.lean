/-! THE LAW: a kept converter is taken out of the pool, and laid back. -/
theorem lw_takeK {E : hm_E} {kp : Nat → Option Nat} {RK : Nat → Nat → Nat} {dK : Nat → Nat} {kc : Nat → Nat → Int32} {kA : Nat → Nat → Nat → Int32} {LD : List Nat} {rD : Nat → Nat → Nat} {vD : Nat → Nat → Int32} {DD : Nat → Nat → Nat → Int32} {k a : Nat} (hk : k < 3) (ha : kp k = some a) :
    ∃ M : va_W, (lw_pl E kp RK dK kc kA LD rD vD DD).Perm (lw_XK E a (RK k) (dK k) (kc k) (kA k) ++ M) ∧
      ∀ (d : Nat) (c : Nat → Int32) (A : Nat → Nat → Int32), (lw_XK E a (RK k) d c A ++ M).Perm (lw_pl E kp RK (lw_ud dK k d) (lw_ud kc k c) (lw_ud kA k A) LD rD vD DD) := by
  rcases (show k = 0 ∨ k = 1 ∨ k = 2 by omega) with rfl | rfl | rfl
  · refine ⟨(lw_K E (kp 1) (RK 1) (dK 1) (kc 1) (kA 1) ++ lw_K E (kp 2) (RK 2) (dK 2) (kc 2) (kA 2)) ++ LD.flatMap (fun a => lw_XD E a (rD a) (vD a) (DD a)), ?_, fun d c A => ?_⟩
    · unfold lw_pl
      rw [ha, List.append_assoc (lw_K E (some a) (RK 0) (dK 0) (kc 0) (kA 0))]
      exact List.Perm.refl _
    · unfold lw_pl
      rw [ha, List.append_assoc (lw_K E (some a) (RK 0) (lw_ud dK 0 d 0) (lw_ud kc 0 c 0) (lw_ud kA 0 A 0))]
      exact List.Perm.refl _
  · refine ⟨(lw_K E (kp 0) (RK 0) (dK 0) (kc 0) (kA 0) ++ lw_K E (kp 2) (RK 2) (dK 2) (kc 2) (kA 2)) ++ LD.flatMap (fun a => lw_XD E a (rD a) (vD a) (DD a)), ?_, fun d c A => ?_⟩
    · unfold lw_pl
      rw [ha]
      refine ((List.perm_append_comm_assoc _ _ _).append_right _).trans ?_
      rw [List.append_assoc (lw_K E (some a) (RK 1) (dK 1) (kc 1) (kA 1))]
      exact List.Perm.refl _
    · unfold lw_pl
      rw [ha]
      refine List.Perm.symm (((List.perm_append_comm_assoc _ _ _).append_right _).trans ?_)
      rw [List.append_assoc (lw_K E (some a) (RK 1) (lw_ud dK 1 d 1) (lw_ud kc 1 c 1) (lw_ud kA 1 A 1))]
      exact List.Perm.refl _
  · refine ⟨(lw_K E (kp 0) (RK 0) (dK 0) (kc 0) (kA 0) ++ lw_K E (kp 1) (RK 1) (dK 1) (kc 1) (kA 1)) ++ LD.flatMap (fun a => lw_XD E a (rD a) (vD a) (DD a)), ?_, fun d c A => ?_⟩
    · unfold lw_pl
      rw [ha, ← List.append_assoc (lw_K E (kp 0) (RK 0) (dK 0) (kc 0) (kA 0))]
      refine (List.perm_append_comm.append_right _).trans ?_
      rw [List.append_assoc (lw_K E (some a) (RK 2) (dK 2) (kc 2) (kA 2))]
      exact List.Perm.refl _
    · unfold lw_pl
      rw [ha, ← List.append_assoc (lw_K E (kp 0) (RK 0) (lw_ud dK 2 d 0) (lw_ud kc 2 c 0) (lw_ud kA 2 A 0))]
      refine List.Perm.symm ((List.perm_append_comm.append_right _).trans ?_)
      rw [List.append_assoc (lw_K E (some a) (RK 2) (lw_ud dK 2 d 2) (lw_ud kc 2 c 2) (lw_ud kA 2 A 2))]
      exact List.Perm.refl _
theorem lw_in3 {a : Int32} (h : (0 : Int32) ≤ a ∧ a ≤ 2) : ∃ k : Nat, k < 3 ∧ a = nI k := by
  obtain ⟨h1, h2⟩ := h
  rw [hp_le, show (0 : Int32).toInt = 0 from by decide] at h1
  rw [hp_le, show (2 : Int32).toInt = 2 from by decide] at h2
  obtain ⟨k, k1, k2, k3⟩ := hp_of (x := a) h1
  exact ⟨k, by omega, k2⟩
theorem lw_tk {X Y N M pl : va_W} (h : pl.Perm (N ++ M)) : (X ++ (Y ++ pl)).Perm ((X ++ N) ++ (Y ++ M)) := by
  rw [List.append_assoc X]
  exact List.Perm.append_left X ((List.Perm.append_left Y h).trans (List.perm_append_comm_assoc _ _ _))
theorem lw_tb {X Y N M pl : va_W} (h : (N ++ M).Perm pl) : ((X ++ N) ++ (Y ++ M)).Perm (X ++ (Y ++ pl)) := (lw_tk h.symm).symm
theorem lw_RKc {b B : Nat} {c : Nat → Int32} {A Z : Nat → Nat → Int32} {v : Nat → Int32} {D : Nat → Nat → Int32} {all : Nat → Int32} (h : lw_RK b c A v D all B) : lw_RK b c (hq_cp A Z) v D all B := by
  obtain ⟨⟨q1, q2, q3, q4, q5, q⟩, hC, ⟨m, m1, m2, m3, m4⟩, hB, hD⟩ := h
  obtain ⟨c1, c2, c3, c4, c5, c6⟩ := hC
  refine ⟨⟨q1, q2, q3, q4, q5, fun i hi => ?_⟩, ⟨c1, c2, c3, c4, c5, fun i hi => ?_⟩, ⟨m, m1, m2, m3, fun i hi => ?_⟩, fun m' e1 e2 i hi => ?_, hD⟩
  · rw [hq_cpi (by omega) (by omega), hq_cpi (by omega) (by omega), hq_cpi (by omega) (by omega), hq_cpi (by omega) (by omega)]
    exact q i hi
  · rw [hq_cpi (by omega) (by omega), hq_cpi (by omega) (by omega), hq_cpi (by omega) (by omega), hq_cpi (by omega) (by omega)]
    exact c6 i hi
  · rw [hq_cpj (by omega) (Or.inl rfl), hq_cpj (by omega) (Or.inr rfl)]
    exact m4 i hi
  · rw [hq_cpj (by omega) (Or.inl rfl)]
    exact hB m' e1 e2 i hi
