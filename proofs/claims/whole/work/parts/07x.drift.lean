/-! DRIFT, read: THINGS, PRODUCTS, SUMS, choices: recursion and machine alike. -/
theorem hk_lo {y : Int32} (h : ¬ (y = 105 ∨ y = 115 ∨ y = 119 ∨ y = 104 ∨ y = 116)) : pf_X8_letterOf y = some (-1, ()) := by
  unfold pf_X8_letterOf
  rw [if_neg (fun e => h (Or.inl e)), if_neg (fun e => h (Or.inr (Or.inl e))), if_neg (fun e => h (Or.inr (Or.inr (Or.inl e)))), if_neg (fun e => h (Or.inr (Or.inr (Or.inr (Or.inl e))))), if_neg (fun e => h (Or.inr (Or.inr (Or.inr (Or.inr e)))))]
theorem hk_ll {y : Int32} (h : y = 105 ∨ y = 115 ∨ y = 119 ∨ y = 104 ∨ y = 116) : ∃ k, pf_X8_letterOf y = some (k, ()) ∧ ¬ k = -1 ∧ hd_leaf y 0 (10000 + k) ∧ ¬ hx_fig y := by
  have nf : ∀ z : Int32, 57 < z → ¬ hx_fig z := fun z hz e => e.2 hz
  rcases h with e | e | e | e | e
  · subst e; exact ⟨0, rfl, by decide, Or.inr (Or.inl ⟨rfl, rfl⟩), nf _ (by decide)⟩
  · subst e; exact ⟨1, rfl, by decide, Or.inr (Or.inr (Or.inl ⟨rfl, rfl⟩)), nf _ (by decide)⟩
  · subst e; exact ⟨2, rfl, by decide, Or.inr (Or.inr (Or.inr (Or.inl ⟨rfl, rfl⟩))), nf _ (by decide)⟩
  · subst e; exact ⟨3, rfl, by decide, Or.inr (Or.inr (Or.inr (Or.inr (Or.inl ⟨rfl, rfl⟩)))), nf _ (by decide)⟩
  · subst e; exact ⟨4, rfl, by decide, Or.inr (Or.inr (Or.inr (Or.inr (Or.inr ⟨rfl, rfl⟩)))), nf _ (by decide)⟩
def hk_va (y : Int32) : Prop := hx_fig y ∨ (y = 105 ∨ y = 115 ∨ y = 119 ∨ y = 104 ∨ y = 116) ∨ y = 40 ∨ y = 91 ∨ y = 45
section HK
variable {J : hk_JT} {m F : Nat} {bytes tape : Nat → Int32} {g p N T o : Nat} {dg op st sg ss ps : Nat → Int32} {num : Int32}
theorem hk_op (k : Int32) (ho : o + 1 < 10) : pf_X8_openOne k op st ss ps (nI o) = some (upd op (o + 1) k, upd st (o + 1) 0, upd ss (o + 1) 0, upd ps (o + 1) 0, nI (o + 1)) := by
  unfold pf_X8_openOne
  rw [hp_nm, hp_i1, hp_ck ho (by decide), hp_ck ho (by decide), hp_ck ho (by decide), hp_ck ho (by decide), hp_cl (by omega)]
noncomputable def hk_GO (m p : Nat) (tape dg op st ss ps : Nat → Int32) (num : Int32) (N T o : Nat) (y : Int32) : Option (Int32 × Int32 × Int32 × Int32 × (Nat → Int32) × Int32 × Int32 × (Nat → Int32) × (Nat → Int32) × (Nat → Int32) × (Nat → Int32) × Int32) :=
  nm (nI T + 1) fun x4 =>
  bi_0 (pf_X8_isFigure y) fun r5 =>
  if r5 = 0 then
    nm (nI p + 1) fun x6 =>
    bi_0 (pf_X8_letterOf y) fun r7 =>
    if r7 = (-1) then
      if y = 40 then
        bv_5 (pf_X8_openOne 1 op st ss ps (nI o)) fun f18 f19 f20 f21 x22 => some (0, x6, -1, num, dg, nI N, x4, f18, f19, f20, f21, x22)
      else
        if y = 91 then
          bv_5 (pf_X8_openOne 2 op st ss ps (nI o)) fun f13 f14 f15 f16 x17 => some (0, x6, -1, num, dg, nI N, x4, f13, f14, f15, f16, x17)
        else
          bv_5 (pf_X8_openOne 3 op st ss ps (nI o)) fun f8 f9 f10 f11 x12 => some (0, x6, -1, num, dg, nI N, x4, f8, f9, f10, f11, x12)
    else
      bi_0 (pf_X8_letterOf y) fun r23 =>
      bv_2 (pf_X8_does (10000 + r23) dg (nI N)) fun f24 x25 => some (1, x6, -1, num, f24, x25, x4, op, st, ss, ps, nI o)
  else
    bi_3 (pf_X8_readDigits tape (nI m) (nI p) (-1) num) fun r26 x27 x28 x29 =>
    if r26 = 0 then
      some ((-1), x27, x28, x29, dg, nI N, x4, op, st, ss, ps, nI o)
    else
      bv_2 (pf_X8_does x29 dg (nI N)) fun f30 x31 => some (1, x27, x28, x29, f30, x31, x4, op, st, ss, ps, nI o)
theorem hk_tv (h : hx_B bytes tape m) (hp : p ≤ m) : (hk_va (hx_y bytes m p) → pf_X8_readThing tape (nI m) (nI p) (-1) num dg (nI N) (nI T) op st ss ps (nI o) = if nI T = 40 then some ((-1), nI p, nI p, num, dg, nI N, nI T, op, st, ss, ps, nI o) else if nI o = 8 then some ((-1), nI p, nI p, num, dg, nI N, nI T, op, st, ss, ps, nI o) else hk_GO m p tape dg op st ss ps num N T o (hx_y bytes m p)) ∧
    (¬ hk_va (hx_y bytes m p) → pf_X8_readThing tape (nI m) (nI p) (-1) num dg (nI N) (nI T) op st ss ps (nI o) = some ((-1), nI p, nI p, num, dg, nI N, nI T, op, st, ss, ps, nI o)) := by
  have n10 : ¬ (1 : Int32) = 0 := by decide
  unfold pf_X8_readThing
  rw [(hx_pk h hp).2, hp_bi0]
  generalize hx_y bytes m p = y at *
  constructor
  · intro hv
    rcases hv with hv | hv | hv | hv | hv
    · rw [hx_f8.1 hv, hp_bi0, hp_jn, hp_jn, if_neg n10]
      dsimp only
      rw [hp_jn, if_neg n10]
      unfold hk_GO
      rw [hx_f8.1 hv]
    · obtain ⟨k, k1, k2, k3, k4⟩ := hk_ll hv
      rw [hx_f8.2 k4, hp_bi0, hp_jn, hp_jn, if_pos rfl, k1, hp_bi0, if_neg k2]
      dsimp only
      rw [hp_jn, if_neg n10]
      unfold hk_GO
      rw [hx_f8.2 k4, k1]
    · subst hv
      have e1 : pf_X8_isFigure 40 = some (0, ()) := rfl
      have e2 : pf_X8_letterOf 40 = some (-1, ()) := rfl
      rw [e1, hp_bi0, hp_jn, hp_jn, if_pos rfl, e2, hp_bi0, if_pos rfl, if_pos rfl]
      dsimp only
      rw [hp_jn, if_neg n10]
      unfold hk_GO
      rw [e1, e2]
    · subst hv
      have e1 : pf_X8_isFigure 91 = some (0, ()) := rfl
      have e2 : pf_X8_letterOf 91 = some (-1, ()) := rfl
      rw [e1, hp_bi0, hp_jn, hp_jn, if_pos rfl, e2, hp_bi0, if_pos rfl, if_neg (by decide), if_pos rfl]
      dsimp only
      rw [hp_jn, if_neg n10]
      unfold hk_GO
      rw [e1, e2]
    · subst hv
      have e1 : pf_X8_isFigure 45 = some (0, ()) := rfl
      have e2 : pf_X8_letterOf 45 = some (-1, ()) := rfl
      rw [e1, hp_bi0, hp_jn, hp_jn, if_pos rfl, e2, hp_bi0, if_pos rfl, if_neg (by decide), if_neg (by decide), if_pos rfl]
      dsimp only
      rw [hp_jn, if_neg n10]
      unfold hk_GO
      rw [e1, e2]
  · intro hv
    have v1 : ¬ hx_fig y := fun e => hv (Or.inl e)
    have v2 := fun e => hv (Or.inr (Or.inl e))
    rw [hx_f8.2 v1, hp_bi0, hp_jn, hp_jn, if_pos rfl, hk_lo v2, hp_bi0, if_pos rfl, if_neg (fun e => hv (Or.inr (Or.inr (Or.inl e)))), if_neg (fun e => hv (Or.inr (Or.inr (Or.inr (Or.inl e))))), if_neg (fun e => hv (Or.inr (Or.inr (Or.inr (Or.inr e)))))]
    dsimp only
    rw [hp_jn, if_pos rfl]
theorem hk_RA (h : hx_B bytes tape m) (hp : p ≤ m) (hT : T ≤ 40) (hF : 60 ≤ F) (ho : o ≤ 8) (hv : ¬ hk_va (hx_y bytes m p) ∨ T = 40 ∨ o = 8) : hk_R J m F tape p dg N T num op st sg ss ps o = some (0, nI p, nI p, num, dg, nI N, nI T, op, st, sg, ss, ps, nI o) := by
  have e : pf_X8_readThing tape (nI m) (nI p) (-1) num dg (nI N) (nI T) op st ss ps (nI o) = some ((-1), nI p, nI p, num, dg, nI N, nI T, op, st, ss, ps, nI o) := by
    by_cases c : hk_va (hx_y bytes m p)
    · rw [(hk_tv h hp).1 c]
      rcases hv with hv | hv | hv
      · exact absurd c hv
      · rw [if_pos (by rw [hv]; rfl)]
      · by_cases c1 : nI T = 40
        · rw [if_pos c1]
        · rw [if_neg c1, if_pos (by rw [hv]; rfl)]
    · exact (hk_tv h hp).2 c
  unfold hk_R
  rw [show F - T = (F - (T + 1)) + 1 by omega, lp_X8_readDrift_43, if_neg (by decide), e, hp_bi11, if_pos rfl]
theorem hk_Rgo (h : hx_B bytes tape m) (hp : p ≤ m) (hT : T < 40) (hF : 60 ≤ F) (ho : o < 8) (hv : hk_va (hx_y bytes m p)) : hk_R J m F tape p dg N T num op st sg ss ps o = bi_11 (hk_GO m p tape dg op st ss ps num N T o (hx_y bytes m p)) fun r32 x33 x34 x35 f36 x37 x38 f39 f40 f41 f42 x43 =>
      if r32 = (-1) then
        some (0, x33, x34, x35, f36, x37, x38, f39, f40, sg, f41, f42, x43)
      else
        if r32 = 0 then
          lp_X8_readDrift_43 (nI m) tape J (F - (T + 1)) 1 x33 x34 x35 f36 x37 x38 f39 f40 sg f41 f42 x43
        else
          bi_9 (pf_X8_goesOn tape (nI m) x33 x34 f36 x37 f39 f40 sg f41 f42 x43) (hk_C J m tape (F - (T + 1)) x35 x38 f39) := by
  have e1 : ¬ nI T = 40 := fun e => by have := (hp_qI (b := 40) (by omega) (by omega)).mp e; omega
  have e2 : ¬ nI o = 8 := fun e => by have := (hp_qI (b := 8) (by omega) (by omega)).mp e; omega
  unfold hk_R
  rw [show F - T = (F - (T + 1)) + 1 by omega, lp_X8_readDrift_43, if_neg (by decide), (hk_tv h hp).1 hv, if_neg e1, if_neg e2]
  rfl
theorem hk_RO (h : hx_B bytes tape m) (hp : p ≤ m) (hT : T < 40) (hF : 60 ≤ F) (ho : o < 8) {k : Int32} (hy : (hx_y bytes m p = 40 ∧ k = 1) ∨ (hx_y bytes m p = 91 ∧ k = 2) ∨ (hx_y bytes m p = 45 ∧ k = 3)) : hk_R J m F tape p dg N T num op st sg ss ps o = hk_R J m F tape (p + 1) dg N (T + 1) num (upd op (o + 1) k) (upd st (o + 1) 0) sg (upd ss (o + 1) 0) (upd ps (o + 1) 0) (o + 1) := by
  have n01 : ¬ (0 : Int32) = -1 := by decide
  rcases hy with ⟨e, rfl⟩ | ⟨e, rfl⟩ | ⟨e, rfl⟩
  · rw [hk_Rgo h hp hT hF ho (Or.inr (Or.inr (Or.inl e)))]
    unfold hk_GO
    rw [e, hp_nm, show pf_X8_isFigure 40 = some (0, ()) from rfl, hp_bi0, if_pos rfl, hp_nm, show pf_X8_letterOf 40 = some (-1, ()) from rfl, hp_bi0, if_pos rfl, if_pos rfl, hk_op _ (by omega), hp_bv5, hp_bi11, if_neg n01, if_pos rfl, hp_i1, hp_i1]
    rfl
  · rw [hk_Rgo h hp hT hF ho (Or.inr (Or.inr (Or.inr (Or.inl e))))]
    unfold hk_GO
    rw [e, hp_nm, show pf_X8_isFigure 91 = some (0, ()) from rfl, hp_bi0, if_pos rfl, hp_nm, show pf_X8_letterOf 91 = some (-1, ()) from rfl, hp_bi0, if_pos rfl, if_neg (by decide), if_pos rfl, hk_op _ (by omega), hp_bv5, hp_bi11, if_neg n01, if_pos rfl, hp_i1, hp_i1]
    rfl
  · rw [hk_Rgo h hp hT hF ho (Or.inr (Or.inr (Or.inr (Or.inr e))))]
    unfold hk_GO
    rw [e, hp_nm, show pf_X8_isFigure 45 = some (0, ()) from rfl, hp_bi0, if_pos rfl, hp_nm, show pf_X8_letterOf 45 = some (-1, ()) from rfl, hp_bi0, if_pos rfl, if_neg (by decide), if_neg (by decide), hk_op _ (by omega), hp_bv5, hp_bi11, if_neg n01, if_pos rfl, hp_i1, hp_i1]
    rfl
theorem hk_RL (h : hx_B bytes tape m) (hp : p ≤ m) (hT : T < 40) (hF : 60 ≤ F) (ho : o < 8) (hN : N < 84) {k : Int32} (hy : hx_y bytes m p = 105 ∨ hx_y bytes m p = 115 ∨ hx_y bytes m p = 119 ∨ hx_y bytes m p = 104 ∨ hx_y bytes m p = 116) (hk : pf_X8_letterOf (hx_y bytes m p) = some (k, ())) (hk1 : ¬ k = -1) (hf : ¬ hx_fig (hx_y bytes m p)) :
    hk_R J m F tape p dg N T num op st sg ss ps o = hk_G J m F tape FU (p + 1) (upd dg N (10000 + k)) (N + 1) (T + 1) num op st sg ss ps o := by
  rw [hk_Rgo h hp hT hF ho (Or.inr (Or.inl hy))]
  unfold hk_GO
  rw [hp_nm, hx_f8.2 hf, hp_bi0, if_pos rfl, hp_nm, hk, hp_bi0, if_neg hk1, hp_bi0, hk_do _ hN, hp_bv2, hp_bi11, if_neg (by decide), if_neg (by decide), hp_i1, hp_i1, hk_go]
  rfl
theorem hk_RD (h : hx_B bytes tape m) (hp : p ≤ m) (hT : T < 40) (hF : 60 ≤ F) (ho : o < 8) (hN : N < 84) (hf : hx_fig (hx_y bytes m p)) {v p' : Nat} :
    (pf_X8_readDigits tape (nI m) (nI p) (-1) num = some (1, nI p', -1, nI v) → hk_R J m F tape p dg N T num op st sg ss ps o = hk_G J m F tape FU p' (upd dg N (nI v)) (N + 1) (T + 1) (nI v) op st sg ss ps o) ∧
    (∀ q num', pf_X8_readDigits tape (nI m) (nI p) (-1) num = some (0, nI p', nI q, num') → hk_R J m F tape p dg N T num op st sg ss ps o = some (0, nI p', nI q, num', dg, nI N, nI (T + 1), op, st, sg, ss, ps, nI o)) := by
  rw [hk_Rgo h hp hT hF ho (Or.inl hf)]
  unfold hk_GO
  rw [hp_nm, hx_f8.1 hf, hp_bi0, if_neg (by decide)]
  constructor
  · intro e
    rw [e, hp_bi3, if_neg (by decide), hk_do _ hN, hp_bv2, hp_bi11, if_neg (by decide), if_neg (by decide), hp_i1, hk_go]
    rfl
  · intro q num' e
    rw [e, hp_bi3, if_pos rfl, hp_bi11, if_pos rfl, hp_i1]
end HK
/-! what a unit read says -/
def hk_P (kd vl dg : Nat → Int32) (N H : Nat) : Prop := ∃ h, hd_ht kd vl dg h N ∧ h N = H
theorem hk_Pa {kd vl dg : Nat → Int32} {N H H' : Nat} {k v d : Int32} (w : hk_P kd vl dg N H) (s : hd_st k v d H H') : hk_P (upd kd N k) (upd vl N v) (upd dg N d) (N + 1) H' := by
  obtain ⟨h, ⟨w1, w2⟩, w3⟩ := w
  refine ⟨fun i => if i = N + 1 then H' else h i, ⟨?_, fun i hi => ?_⟩, if_pos rfl⟩
  · show (if (0 : Nat) = N + 1 then H' else h 0) = 0
    rw [if_neg (by omega)]; exact w1
  · show hd_st (upd kd N k i) (upd vl N v i) (upd dg N d i) (if i = N + 1 then H' else h i) (if i + 1 = N + 1 then H' else h (i + 1))
    by_cases e : i = N
    · subst e
      rw [hp_us, hp_us, hp_us, if_neg (by omega), if_pos rfl, w3]; exact s
    · rw [hp_un e, hp_un e, hp_un e, if_neg (by omega), if_neg (by omega)]; exact w2 i (by omega)
def hk_a (o : Nat) (op st sg ss ps op' st' sg' ss' ps' : Nat → Int32) : Prop := ∀ i, i ≤ o → op' i = op i ∧ st' i = st i ∧ sg' i = sg i ∧ ss' i = ss i ∧ ps' i = ps i
abbrev hk_6 : Type := Option ((Nat → Int32) × (Nat → Int32) × Int32 × Int32 × Int32 × Int32)
abbrev hk_Z : Type := Int32 × (Nat → Int32) × Int32 × Int32 × (Nat → Int32) × (Nat → Int32) × (Nat → Int32) × (Nat → Int32) × (Nat → Int32) × Int32
def hk_ok (J : hk_JT) (m F : Nat) (tape : Nat → Int32) (o : Nat) (op st sg ss ps : Nat → Int32) (N T p H : Nat) (X : hk_X) (r : hk_6) (Q : Nat → Prop) : Prop :=
  ∃ (kd' vl' : Nat → Int32) (N' T' p' : Nat) (flt : Int32), r = some (kd', vl', nI N', nI T', nI p', flt) ∧ p' ≤ m ∧ N' ≤ 80 ∧
    ((flt = -1 ∧ p < p' ∧ T < T' ∧ T' ≤ 40 ∧ N' + 1 ≤ N + 2 * (T' - T) ∧ Q p' ∧ ∃ (dg' op' st' sg' ss' ps' : Nat → Int32) (num' : Int32), hk_P kd' vl' dg' N' (H + 1) ∧ hk_a o op st sg ss ps op' st' sg' ss' ps' ∧ ∀ g, o < g → X = hk_G J m F tape g p' dg' N' T' num' op' st' sg' ss' ps' o) ∨
     (∃ (q : Nat) (a : Int32) (z : hk_Z), q ≤ m ∧ flt = nI q ∧ X = some (0, a, nI q, z)))
abbrev hk_CT : Type := (Nat → Int32) → (Nat → Int32) → Int32 → Int32 → (Nat → Int32) → Int32 → Int32 → Int32 → hk_6
def hk_U (J : hk_JT) (m F : Nat) (bytes tape : Nat → Int32) (C : hk_CT) (o : Nat) (pre : Int32 → Int32 → Int32 → Prop) (Q : Nat → Prop) : Prop :=
  ∀ (kd vl dg : Nat → Int32) (N T p H : Nat) (op st sg ss ps : Nat → Int32) (num : Int32), p ≤ m → N ≤ 2 * T → T ≤ 40 → H ≤ T → hk_P kd vl dg N H → pre (op o) (ss o) (ps o) →
    hk_ok J m F tape o op st sg ss ps N T p H (hk_R J m F tape p dg N T num op st sg ss ps o) (C kd vl (nI N) (nI T) bytes (nI m) (nI p) (-1)) Q
/-- behind a fault nothing goes on -/
def hk_V (m : Nat) (bytes : Nat → Int32) (C : hk_CT) : Prop :=
  ∀ (kd vl : Nat → Int32) (N p q : Nat) (T : Int32), N ≤ 80 → p ≤ m → q ≤ m → ∃ kd' vl' N', N' ≤ 80 ∧ C kd vl (nI N) T bytes (nI m) (nI p) (nI q) = some (kd', vl', nI N', T, nI p, nI q)
theorem hk_ad (k v : Int32) (kd vl : Nat → Int32) {N : Nat} (hN : N < 80) : pf_X3_add k v kd vl (nI N) = some (upd kd N k, upd vl N v, nI (N + 1)) := by
  unfold pf_X3_add
  rw [if_neg (fun e => by have := (hp_eI (a := 80) (by omega) (by omega)).mp e; omega), hp_ck hN (by decide), hp_ck hN (by decide), hp_nm, hp_i1, hp_cl (by omega)]
theorem hk_adx (k v : Int32) (kd vl : Nat → Int32) {N : Nat} (hN : N ≤ 80) : ∃ kd' vl' N', N' ≤ 80 ∧ pf_X3_add k v kd vl (nI N) = some (kd', vl', nI N') := by
  by_cases c : N < 80
  · exact ⟨_, _, N + 1, by omega, hk_ad k v kd vl c⟩
  · refine ⟨kd, vl, N, hN, ?_⟩
    unfold pf_X3_add
    have e : (80 : Int32) ≤ nI N := (hp_eI (a := 80) (b := N) (by omega) (by omega)).mpr (by omega)
    rw [if_pos e]
def hk_s1 (y : Int32) : Prop := y = 42 ∨ y = 47 ∨ y = 37
def hk_s2 (y : Int32) : Prop := y = 43 ∨ y = 45 ∨ y = 43
theorem hk_s1d {y : Int32} (h : hk_s1 y) : ∃ d, pf_X8_doingOf y = some (d, ()) ∧ hd_bin y d ∧ ¬ y = 0 ∧ 0 ≤ y.toInt := by
  rcases h with e | e | e
  · subst e; exact ⟨10012, rfl, Or.inr (Or.inr (Or.inl ⟨rfl, rfl⟩)), by decide, by decide⟩
  · subst e; exact ⟨10013, rfl, Or.inr (Or.inr (Or.inr (Or.inl ⟨rfl, rfl⟩))), by decide, by decide⟩
  · subst e; exact ⟨10014, rfl, Or.inr (Or.inr (Or.inr (Or.inr ⟨rfl, rfl⟩))), by decide, by decide⟩
theorem hk_s2d {y : Int32} (h : hk_s2 y) : ∃ d, pf_X8_doingOf y = some (d, ()) ∧ hd_bin y d ∧ ¬ y = 0 ∧ 0 ≤ y.toInt := by
  rcases h with e | e | e
  · subst e; exact ⟨10010, rfl, Or.inl ⟨rfl, rfl⟩, by decide, by decide⟩
  · subst e; exact ⟨10011, rfl, Or.inr (Or.inl ⟨rfl, rfl⟩), by decide, by decide⟩
  · subst e; exact ⟨10010, rfl, Or.inl ⟨rfl, rfl⟩, by decide, by decide⟩
abbrev hk_TT : Type := Int32 → hk_CT
theorem hk_pl {J : hk_JT} {m F o : Nat} {bytes tape : Nat → Int32} {TT : hk_TT} (h : hx_B bytes tape m) (ho : o ≤ 8) (hU : hk_U J m F bytes tape (TT (nI (o + 1))) o (fun _ _ _ => True) (fun _ => True)) (hV : hk_V m bytes (TT (nI (o + 1)))) {op0 st0 sg0 ss0 ps0 : Nat → Int32} (h3 : ¬ op0 o = 3) (hps0 : ps0 o = 0) {N0 T0 p0 H0 : Nat} {X : hk_X} (hN0 : N0 ≤ 2 * T0) (hH0 : H0 ≤ T0) :
    ∀ (n c : Nat) (kd vl dg : Nat → Int32) (N T p : Nat) (op st sg ss ps : Nat → Int32) (num : Int32), m - p < n → c ≤ p → p ≤ m → p0 < p → T0 < T → T ≤ 40 → N + 1 ≤ N0 + 2 * (T - T0) → hk_P kd vl dg N (H0 + 1) → hk_a o op0 st0 sg0 ss0 ps0 op st sg ss ps → (∀ g, o < g → X = hk_G J m F tape g p dg N T num op st sg ss ps o) →
    hk_ok J m F tape o op0 st0 sg0 ss0 ps0 N0 T0 p0 H0 X (lp_X3_readProduct_8 TT (nI (o + 1)) (nI m) bytes n (nI c) kd vl (nI N) (nI T) (nI p) (-1)) (fun p' => ¬ hk_s1 (hx_y bytes m p')) := by
  have hm := h.1
  intro n
  induction n with
  | zero => intro c kd vl dg N T p op st sg ss ps num h1; omega
  | succ n ih =>
    intro c kd vl dg N T p op st sg ss ps num h1 h2 hp hpp hTT hT hN hP ha hX
    obtain ⟨a1, -, -, a4, a5⟩ := ha o (Nat.le_refl o)
    rw [hps0] at a5
    have stop : ¬ hk_s1 (hx_y bytes m p) → hk_ok J m F tape o op0 st0 sg0 ss0 ps0 N0 T0 p0 H0 X (some (kd, vl, nI N, nI T, nI p, -1)) (fun p' => ¬ hk_s1 (hx_y bytes m p')) := fun hy =>
      ⟨kd, vl, N, T, p, -1, rfl, hp, by omega, Or.inl ⟨rfl, hpp, hTT, hT, hN, hy, dg, op, st, sg, ss, ps, num, hP, ha, hX⟩⟩
    rw [lp_X3_readProduct_8]
    by_cases c4 : (400 : Int32) ≤ nI c
    · rw [if_pos c4]
      refine stop (fun hy => ?_)
      have := (hp_eI (a := 400) (by omega) (by omega)).mp c4
      obtain ⟨d, -, -, -, d4⟩ := hk_s1d hy
      have := hx_yn h d4 rfl
      omega
    · rw [if_neg c4, hx_go hm hp, hp_bi0]
      by_cases cp : p < m
      · rw [hp_bt cp, if_neg (by decide), (hx_pk h hp).1, hp_bi0, hp_jn]
        by_cases hy : hk_s1 (hx_y bytes m p)
        · obtain ⟨d, d1, d2, d3, d4⟩ := hk_s1d hy
          have hX1 : X = hk_R J m F tape (p + 1) dg N T num op st sg ss (upd ps o (hx_y bytes m p)) o := by
            rw [hX (o + 1) (by omega), hk_Gt h hp (by omega) (by rw [a1]; exact h3) a5 hy]
          have u := hU kd vl dg N T (p + 1) (H0 + 1) op st sg ss (upd ps o (hx_y bytes m p)) num (by omega) (by omega) hT (by omega) hP trivial
          obtain ⟨kd1, vl1, N1, T1, p1, flt, u1, u2, u3, u4⟩ := u
          have go : (if hx_y bytes m p = 42 then (nm (nI p + 1) fun x16 => bv_6 (TT (nI (o + 1)) kd vl (nI N) (nI T) bytes (nI m) x16 (-1)) fun f17 f18 x19 x20 x21 x22 => bv_3 (pf_X3_add (hx_y bytes m p) 0 f17 f18 x19) fun f23 f24 x25 => nm (nI c + 1) fun x26 => lp_X3_readProduct_8 TT (nI (o + 1)) (nI m) bytes n x26 f23 f24 x25 x20 x21 x22) else if hx_y bytes m p = 47 then (nm (nI p + 1) fun x16 => bv_6 (TT (nI (o + 1)) kd vl (nI N) (nI T) bytes (nI m) x16 (-1)) fun f17 f18 x19 x20 x21 x22 => bv_3 (pf_X3_add (hx_y bytes m p) 0 f17 f18 x19) fun f23 f24 x25 => nm (nI c + 1) fun x26 => lp_X3_readProduct_8 TT (nI (o + 1)) (nI m) bytes n x26 f23 f24 x25 x20 x21 x22) else if hx_y bytes m p = 37 then (nm (nI p + 1) fun x16 => bv_6 (TT (nI (o + 1)) kd vl (nI N) (nI T) bytes (nI m) x16 (-1)) fun f17 f18 x19 x20 x21 x22 => bv_3 (pf_X3_add (hx_y bytes m p) 0 f17 f18 x19) fun f23 f24 x25 => nm (nI c + 1) fun x26 => lp_X3_readProduct_8 TT (nI (o + 1)) (nI m) bytes n x26 f23 f24 x25 x20 x21 x22) else some (kd, vl, nI N, nI T, nI p, -1)) = bv_3 (pf_X3_add (hx_y bytes m p) 0 kd1 vl1 (nI N1)) fun f23 f24 x25 => lp_X3_readProduct_8 TT (nI (o + 1)) (nI m) bytes n (nI (c + 1)) f23 f24 x25 (nI T1) (nI p1) flt := by
            have e : (nm (nI p + 1) fun x16 => bv_6 (TT (nI (o + 1)) kd vl (nI N) (nI T) bytes (nI m) x16 (-1)) fun f17 f18 x19 x20 x21 x22 => bv_3 (pf_X3_add (hx_y bytes m p) 0 f17 f18 x19) fun f23 f24 x25 => nm (nI c + 1) fun x26 => lp_X3_readProduct_8 TT (nI (o + 1)) (nI m) bytes n x26 f23 f24 x25 x20 x21 x22) = bv_3 (pf_X3_add (hx_y bytes m p) 0 kd1 vl1 (nI N1)) fun f23 f24 x25 => lp_X3_readProduct_8 TT (nI (o + 1)) (nI m) bytes n (nI (c + 1)) f23 f24 x25 (nI T1) (nI p1) flt := by
              rw [hp_nm, hp_i1, u1, hp_bv6]
              simp only [hp_nm, hp_i1]
            rw [e]
            rcases hy with y | y | y
            · rw [if_pos y]
            · by_cases y2 : hx_y bytes m p = 42
              · rw [if_pos y2]
              · rw [if_neg y2, if_pos y]
            · by_cases y2 : hx_y bytes m p = 42
              · rw [if_pos y2]
              · rw [if_neg y2]
                by_cases y3 : hx_y bytes m p = 47
                · rw [if_pos y3]
                · rw [if_neg y3, if_pos y]
          rw [go]
          rcases u4 with ⟨f1, f2, f3, f4, f5, -, dg1, op1, st1, sg1, ss1, ps1, num1, f6, f7, f8⟩ | ⟨q, a, z, f1, f2, f3⟩
          · subst f1
            obtain ⟨b1, -, -, -, b5⟩ := f7 o (Nat.le_refl o)
            rw [hp_us] at b5
            rw [hk_ad _ _ _ _ (show N1 < 80 by omega), hp_bv3]
            refine ih (c + 1) _ _ (upd dg1 N1 d) (N1 + 1) T1 p1 op1 st1 sg1 ss1 (upd ps1 o 0) num1 (by omega) (by omega) u2 (by omega) (by omega) f4 (by omega) (hk_Pa f6 (Or.inr (Or.inr (Or.inl ⟨d2, by omega, by omega⟩)))) (fun i hi => ?_) (fun g hg => ?_)
            · obtain ⟨x1, x2, x3, x4, x5⟩ := f7 i hi
              obtain ⟨w1, w2, w3, w4, w5⟩ := ha i hi
              refine ⟨x1.trans w1, x2.trans w2, x3.trans w3, x4.trans w4, ?_⟩
              by_cases e : i = o
              · subst e; rw [hp_us, hps0]
              · rw [hp_un e, x5, hp_un e, w5]
            · obtain ⟨g', rfl⟩ : ∃ g', g = g' + 1 := ⟨g - 1, by omega⟩
              rw [hX1, f8 (g' + 1) hg]
              exact hk_Gp (by omega) (by rw [b1, a1]; exact h3) (by omega) (by rw [b5]; exact d3) (by rw [b5]; exact d1)
          · subst f2
            obtain ⟨kd2, vl2, N2, e1, e2⟩ := hk_adx (hx_y bytes m p) 0 kd1 vl1 u3
            obtain ⟨n', rfl⟩ : ∃ n', n = n' + 1 := ⟨n - 1, by omega⟩
            rw [e2, hp_bv3, lp_X3_readProduct_8]
            refine ⟨kd2, vl2, N2, T1, p1, nI q, ?_, u2, e1, Or.inr ⟨q, a, z, f1, rfl, by rw [hX1]; exact f3⟩⟩
            rw [hx_gof (by omega), hp_bi0, if_pos rfl]
            split <;> rfl
        · rw [if_neg (fun e => hy (Or.inl e)), if_neg (fun e => hy (Or.inr (Or.inl e))), if_neg (fun e => hy (Or.inr (Or.inr e)))]
          exact stop hy
      · rw [hp_bf cp, if_pos rfl]
        refine stop (fun hy => ?_)
        obtain ⟨d, -, -, -, d4⟩ := hk_s1d hy
        exact cp (hx_yn h d4 rfl)
theorem hk_pr {J : hk_JT} {m F o : Nat} {bytes tape : Nat → Int32} {TT : hk_TT} (h : hx_B bytes tape m) (ho : o ≤ 8) (hU : hk_U J m F bytes tape (TT (nI (o + 1))) o (fun _ _ _ => True) (fun _ => True)) (hV : hk_V m bytes (TT (nI (o + 1)))) :
    hk_U J m F bytes tape (pf_X3_readProduct TT (nI (o + 1))) o (fun a _ c => ¬ a = 3 ∧ c = 0) (fun p' => ¬ hk_s1 (hx_y bytes m p')) := by
  have hF : 402 < FU := by unfold FU; omega
  have hm := h.1
  intro kd vl dg N T p H op st sg ss ps num hp hN hT hH hP hpre
  obtain ⟨kd1, vl1, N1, T1, p1, flt, u1, u2, u3, u4⟩ := hU kd vl dg N T p H op st sg ss ps num hp hN hT hH hP trivial
  unfold pf_X3_readProduct
  rw [u1, hp_bv6]
  rcases u4 with ⟨f1, f2, f3, f4, f5, -, dg1, op1, st1, sg1, ss1, ps1, num1, f6, f7, f8⟩ | ⟨q, a, z, f1, f2, f3⟩
  · subst f1
    exact hk_pl h ho hU hV hpre.1 hpre.2 hN hH FU 0 kd1 vl1 dg1 N1 T1 p1 op1 st1 sg1 ss1 ps1 num1 (by omega) (by omega) u2 f2 f3 f4 f5 f6 f7 f8
  · subst f2
    obtain ⟨F', hF'⟩ : ∃ F', FU = F' + 1 := ⟨FU - 1, by omega⟩
    rw [hF', lp_X3_readProduct_8]
    refine ⟨kd1, vl1, N1, T1, p1, nI q, ?_, u2, u3, Or.inr ⟨q, a, z, f1, rfl, f3⟩⟩
    rw [hx_gof (by omega), hp_bi0, if_pos rfl]
    split <;> rfl
theorem hk_prV {m : Nat} {bytes : Nat → Int32} {TT : hk_TT} {d : Int32} (hm : m ≤ 400) (hV : hk_V m bytes (TT d)) : hk_V m bytes (pf_X3_readProduct TT d) := by
  have hF : 402 < FU := by unfold FU; omega
  intro kd vl N p q T hN hp hq
  obtain ⟨kd1, vl1, N1, e1, e2⟩ := hV kd vl N p q T hN hp hq
  unfold pf_X3_readProduct
  obtain ⟨F', hF'⟩ : ∃ F', FU = F' + 1 := ⟨FU - 1, by omega⟩
  rw [e2, hp_bv6, hF', lp_X3_readProduct_8]
  refine ⟨kd1, vl1, N1, e1, ?_⟩
  rw [hx_gof (by omega), hp_bi0, if_pos rfl]
  split <;> rfl
