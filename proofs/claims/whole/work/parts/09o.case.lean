/-! THE LAW: a new kept converter. -/
theorem lw_udn {α : Type} {g : Nat → α} {k i : Nat} {v : α} (h : ¬ i = k) : lw_ud g k v i = g i := if_neg h
theorem lw_newG {X Y w1 w2 w8 N pl pl' : va_W} {n : Nat} (hN : (N ++ pl).Perm pl') (hn : X.length = n) (isC isR : List Nat) (hk : (List.range n).isPerm (isC ++ isR) = true) (e1 : hm_pk X isC = w1) (e2 : hm_pk X isR = w2) (e8 : w8 = w1 ++ N) : (w8 ++ (w2 ++ (Y ++ pl))).Perm (Y ++ (X ++ pl')) := by
  subst e8
  rw [List.append_assoc w1]
  refine List.Perm.trans (List.Perm.append_left w1 ?_) (lw_backP (Z := Y) (rest := pl') hn isC isR hk e1 e2)
  refine (List.perm_append_comm_assoc _ _ _).trans (List.Perm.append_left w2 ?_)
  exact (List.perm_append_comm_assoc _ _ _).trans (List.Perm.append_left Y hN)
theorem lw_newK {E : hm_E} {kp : Nat → Option Nat} {RK : Nat → Nat → Nat} {dK : Nat → Nat} {kc : Nat → Nat → Int32} {kA : Nat → Nat → Nat → Int32} {LD : List Nat} {rD : Nat → Nat → Nat} {vD : Nat → Nat → Int32} {DD : Nat → Nat → Nat → Int32} {k : Nat} (hk : k < 3) (ha : kp k = none) (q : Nat) (r : Nat → Nat) (d : Nat) (c : Nat → Int32) (A : Nat → Nat → Int32) :
    (lw_XK E q r d c A ++ lw_pl E kp RK dK kc kA LD rD vD DD).Perm (lw_pl E (va_up kp (nI k).toNatClampNeg (some q)) (lw_ud RK k r) (lw_ud dK k d) (lw_ud kc k c) (lw_ud kA k A) LD rD vD DD) := by
  rw [hp_cl (show k < 2147483648 by omega)]
  rcases (show k = 0 ∨ k = 1 ∨ k = 2 by omega) with rfl | rfl | rfl
  · unfold lw_pl
    rw [ha, ← List.append_assoc]
    exact List.Perm.refl _
  · unfold lw_pl
    rw [ha, ← List.append_assoc]
    refine List.Perm.append_right _ ?_
    exact List.perm_append_comm_assoc _ _ _
  · unfold lw_pl
    rw [ha, ← List.append_assoc]
    refine List.Perm.append_right _ ?_
    refine (List.perm_append_comm_assoc _ _ _).trans (List.Perm.append_left _ ?_)
    refine (List.perm_append_comm_assoc _ _ _).trans (List.Perm.append_left _ ?_)
    exact List.Perm.of_eq (List.append_nil _)
