/-! DRIFT, read: the class by recursion, the reference by a machine with frames: the machine's steps. -/
abbrev hk_X : Type := Option (Int32 × Int32 × Int32 × Int32 × (Nat → Int32) × Int32 × Int32 × (Nat → Int32) × (Nat → Int32) × (Nat → Int32) × (Nat → Int32) × (Nat → Int32) × Int32)
abbrev hk_JT : Type := Int32 → Int32 → Int32 → (Nat → Int32) → Int32 → Int32 → (Nat → Int32) → (Nat → Int32) → (Nat → Int32) → (Nat → Int32) → (Nat → Int32) → Int32 → hk_X
noncomputable def hk_K1 (m : Nat) (st sg : Nat → Int32) : Int32 → (Nat → Int32) → Int32 → (Nat → Int32) → (Nat → Int32) → Int32 → Option (Int32 × Int32 × Int32 × (Nat → Int32) × Int32 × (Nat → Int32) × (Nat → Int32) × (Nat → Int32) × (Nat → Int32) × Int32) :=
  fun x1 f2 x3 f4 f5 x6 => if nI m ≤ x1 then some (0, x1, -1, f2, x3, st, sg, f4, f5, x6) else bi_1 (pf_X8_fails x1) fun r7 x8 => if r7 = 0 then some (0, x1, x8, f2, x3, st, sg, f4, f5, x6) else some (1, x1, x8, f2, x3, st, sg, f4, f5, x6)
noncomputable def hk_K2 (m : Nat) (tape st sg : Nat → Int32) : Int32 → Int32 → (Nat → Int32) → Int32 → (Nat → Int32) → (Nat → Int32) → Int32 → Option (Int32 × Int32 × Int32 × (Nat → Int32) × Int32 × (Nat → Int32) × (Nat → Int32) × (Nat → Int32) × (Nat → Int32) × Int32) :=
  fun x9 x10 f11 x12 f13 f14 x15 => bi_0 (pf_X8_here tape (nI m) x10) fun r16 => ckI x9 10 <| nm (x10 + 1) fun x17 => some (1, x17, -1, f11, x12, st, sg, (upd f13 x9.toNatClampNeg r16), f14, x15)
noncomputable def hk_K3 (m : Nat) (tape st sg : Nat → Int32) : Int32 → Int32 → (Nat → Int32) → Int32 → (Nat → Int32) → (Nat → Int32) → Int32 → Option (Int32 × Int32 × Int32 × (Nat → Int32) × Int32 × (Nat → Int32) × (Nat → Int32) × (Nat → Int32) × (Nat → Int32) × Int32) :=
  fun x18 x19 f20 x21 f22 f23 x24 => bi_0 (pf_X8_here tape (nI m) x19) fun r25 => ckI x18 10 <| nm (x19 + 1) fun x26 => some (1, x26, -1, f20, x21, st, sg, f22, (upd f23 x18.toNatClampNeg r25), x24)
theorem hk_go (m : Nat) (tape dg op st sg ss ps : Nat → Int32) (p N o : Int32) : pf_X8_goesOn tape (nI m) p (-1) dg N op st sg ss ps o = lp_X8_goesOn_0 (nI m) (-1) op sg st tape (hk_K1 m st sg) (hk_K2 m tape st sg) (hk_K3 m tape st sg) FU p dg N ss ps o := by
  unfold pf_X8_goesOn
  generalize FU = F
  rw [hp_jn, hp_jn, hp_jn]
  rfl
noncomputable def hk_C (J : hk_JT) (m : Nat) (tape : Nat → Int32) (n : Nat) (num T : Int32) (op : Nat → Int32) : Int32 → Int32 → Int32 → (Nat → Int32) → Int32 → (Nat → Int32) → (Nat → Int32) → (Nat → Int32) → (Nat → Int32) → Int32 → hk_X :=
  fun r44 x45 x46 f47 x48 f49 f50 f51 f52 x53 => if r44 = 0 then lp_X8_readDrift_43 (nI m) tape J n 0 x45 x46 num f47 x48 T op f49 f50 f51 f52 x53 else lp_X8_readDrift_43 (nI m) tape J n 1 x45 x46 num f47 x48 T op f49 f50 f51 f52 x53
/-- at a THING; behind a whole one -/
noncomputable def hk_R (J : hk_JT) (m F : Nat) (tape : Nat → Int32) (p : Nat) (dg : Nat → Int32) (N T : Nat) (num : Int32) (op st sg ss ps : Nat → Int32) (o : Nat) : hk_X := lp_X8_readDrift_43 (nI m) tape J (F - T) 1 (nI p) (-1) num dg (nI N) (nI T) op st sg ss ps (nI o)
noncomputable def hk_G (J : hk_JT) (m F : Nat) (tape : Nat → Int32) (g p : Nat) (dg : Nat → Int32) (N T : Nat) (num : Int32) (op st sg ss ps : Nat → Int32) (o : Nat) : hk_X :=
  bi_9 (lp_X8_goesOn_0 (nI m) (-1) op sg st tape (hk_K1 m st sg) (hk_K2 m tape st sg) (hk_K3 m tape st sg) g (nI p) dg (nI N) ss ps (nI o)) (hk_C J m tape (F - T) num (nI T) op)
section HK
variable {J : hk_JT} {m F : Nat} {bytes tape : Nat → Int32} {g p N T o : Nat} {dg op st sg ss ps : Nat → Int32} {num : Int32}
theorem hk_do (v : Int32) (hN : N < 84) : pf_X8_does v dg (nI N) = some (upd dg N v, nI (N + 1)) := by
  unfold pf_X8_does
  rw [hp_ck hN (by decide), hp_nm, hp_i1, hp_cl (by omega)]
theorem hk_1t (h : hx_B bytes tape m) (hp : p ≤ m) {a b c : Int32} (e : hx_y bytes m p = a ∨ hx_y bytes m p = b ∨ hx_y bytes m p = c) : pf_X8_isOne a b c tape (nI m) (nI p) = some (1, ()) := by
  unfold pf_X8_isOne
  rw [(hx_pk h hp).2, hp_bi0, hp_bi0, hp_bi0]
  by_cases c1 : hx_y bytes m p = a
  · rw [if_pos c1]
  · rw [if_neg c1]
    by_cases c2 : hx_y bytes m p = b
    · rw [if_pos c2]
    · rw [if_neg c2]
      by_cases c3 : hx_y bytes m p = c
      · rw [if_pos c3]
      · rcases e with e | e | e
        · exact absurd e c1
        · exact absurd e c2
        · exact absurd e c3
theorem hk_1f (h : hx_B bytes tape m) (hp : p ≤ m) {a b c : Int32} (e : ¬ (hx_y bytes m p = a ∨ hx_y bytes m p = b ∨ hx_y bytes m p = c)) : pf_X8_isOne a b c tape (nI m) (nI p) = some (0, ()) := by
  unfold pf_X8_isOne
  rw [(hx_pk h hp).2, hp_bi0, hp_bi0, hp_bi0, if_neg (fun x => e (Or.inl x)), if_neg (fun x => e (Or.inr (Or.inl x))), if_neg (fun x => e (Or.inr (Or.inr x)))]
/-- a minus ends -/
theorem hk_G3 (ho : o + 1 < 10) (h3 : op (o + 1) = 3) (hN : N < 84) : hk_G J m F tape (g + 1) p dg N T num op st sg ss ps (o + 1) = hk_G J m F tape g p (upd dg N 10015) (N + 1) T num op st sg ss ps o := by
  unfold hk_G
  rw [lp_X8_goesOn_0, hp_ck ho (by decide), hp_cl (by omega), if_pos h3, hk_do _ hN, hp_bv2, hp_nm, show nI (o + 1) - 1 = nI o from hp_pS o]
/-- a product's sign is done -/
theorem hk_Gp (ho : o < 10) (h3 : ¬ op o = 3) (hN : N < 84) {d : Int32} (h0 : ¬ ps o = 0) (hd : pf_X8_doingOf (ps o) = some (d, ())) : hk_G J m F tape (g + 1) p dg N T num op st sg ss ps o = hk_G J m F tape (g + 1) p (upd dg N d) (N + 1) T num op st sg ss (upd ps o 0) o := by
  unfold hk_G
  rw [lp_X8_goesOn_0, lp_X8_goesOn_0]
  rw [hp_ck ho (by decide), hp_ck ho (by decide), hp_cl (show o < 2147483648 by omega), if_neg h3, if_neg h3, hp_ck ho (by decide), hp_ck ho (by decide), hp_jn, hp_jn, if_neg h0, hp_us, if_pos rfl, hp_ck ho (by decide), hd, hp_bi0, hk_do _ hN, hp_bv2, hp_uu]
/-- a sum's sign is done -/
theorem hk_Gs (h : hx_B bytes tape m) (hp : p ≤ m) (ho : o < 10) (h3 : ¬ op o = 3) (hN : N < 84) {d : Int32} (hps : ps o = 0) (hy : ¬ (hx_y bytes m p = 42 ∨ hx_y bytes m p = 47 ∨ hx_y bytes m p = 37)) (h0 : ¬ ss o = 0) (hd : pf_X8_doingOf (ss o) = some (d, ())) : hk_G J m F tape (g + 1) p dg N T num op st sg ss ps o = hk_G J m F tape (g + 1) p (upd dg N d) (N + 1) T num op st sg (upd ss o 0) ps o := by
  unfold hk_G
  rw [lp_X8_goesOn_0, lp_X8_goesOn_0]
  rw [hp_ck ho (by decide), hp_ck ho (by decide), hp_cl (show o < 2147483648 by omega), if_neg h3, if_neg h3, hp_ck ho (by decide), hp_ck ho (by decide), hp_jn, hp_jn, if_pos hps, if_pos hps]
  dsimp only
  rw [hp_ck ho (by decide), hk_1f h hp hy, hp_bi0, if_pos rfl, hp_ck ho (by decide), hp_jn, if_neg h0, hp_ck ho (by decide), hd, hp_bi0, hk_do _ hN, hp_bv2]
  rw [hp_ck ho (by decide), hp_bi0, if_pos rfl, hp_ck ho (by decide), hp_jn, hp_us, if_pos rfl, hp_uu]
/-- a product goes on -/
theorem hk_Gt (h : hx_B bytes tape m) (hp : p ≤ m) (ho : o < 10) (h3 : ¬ op o = 3) (hps : ps o = 0) (hy : hx_y bytes m p = 42 ∨ hx_y bytes m p = 47 ∨ hx_y bytes m p = 37) : hk_G J m F tape (g + 1) p dg N T num op st sg ss ps o = hk_R J m F tape (p + 1) dg N T num op st sg ss (upd ps o (hx_y bytes m p)) o := by
  unfold hk_G hk_R
  rw [lp_X8_goesOn_0, hp_ck ho (by decide), hp_cl (show o < 2147483648 by omega), if_neg h3, hp_ck ho (by decide), hp_jn, if_pos hps]
  dsimp only
  rw [hp_ck ho (by decide), hk_1t h hp hy, hp_bi0, if_neg (by decide)]
  unfold hk_K3
  rw [(hx_pk h hp).2, hp_bi0, hp_ck ho (by decide), hp_nm, hp_i1, hp_bi9, hp_cl (by omega), hp_uu]
  unfold hk_C
  rw [if_neg (by decide)]
/-- a sum goes on -/
theorem hk_Gu (h : hx_B bytes tape m) (hp : p ≤ m) (ho : o < 10) (h3 : ¬ op o = 3) (hps : ps o = 0) (hss : ss o = 0) (hy0 : ¬ (hx_y bytes m p = 42 ∨ hx_y bytes m p = 47 ∨ hx_y bytes m p = 37)) (hy : hx_y bytes m p = 43 ∨ hx_y bytes m p = 45 ∨ hx_y bytes m p = 43) : hk_G J m F tape (g + 1) p dg N T num op st sg ss ps o = hk_R J m F tape (p + 1) dg N T num op st sg (upd ss o (hx_y bytes m p)) ps o := by
  have e1 : upd ps o 0 = ps := by rw [← hps, hp_ui]
  unfold hk_G hk_R
  rw [lp_X8_goesOn_0, hp_ck ho (by decide), hp_cl (show o < 2147483648 by omega), if_neg h3, hp_ck ho (by decide), hp_jn, if_pos hps]
  dsimp only
  rw [hp_ck ho (by decide), hk_1f h hp hy0, hp_bi0, if_pos rfl, hp_ck ho (by decide), hp_jn, if_pos hss]
  dsimp only
  rw [hp_ck ho (by decide), hk_1t h hp hy, hp_bi0, if_neg (by decide)]
  unfold hk_K2
  rw [(hx_pk h hp).2, hp_bi0, hp_ck ho (by decide), hp_nm, hp_i1, hp_bi9, hp_cl (by omega), hp_uu, e1]
  unfold hk_C
  rw [if_neg (by decide)]
/-- neither sign: what the frame asks for -/
theorem hk_Ge (h : hx_B bytes tape m) (hp : p ≤ m) (ho : o < 10) (h3 : ¬ op o = 3) (hps : ps o = 0) (hss : ss o = 0) (hy0 : ¬ (hx_y bytes m p = 42 ∨ hx_y bytes m p = 47 ∨ hx_y bytes m p = 37)) (hy : ¬ (hx_y bytes m p = 43 ∨ hx_y bytes m p = 45 ∨ hx_y bytes m p = 43)) :
    (op o = 0 → hk_G J m F tape (g + 1) p dg N T num op st sg ss ps o = lp_X8_readDrift_43 (nI m) tape J (F - T) 0 (nI p) (if m ≤ p then -1 else nI p) num dg (nI N) (nI T) op st sg ss ps (nI o)) ∧
    (∀ o', o = o' + 1 → op o = 1 → hx_y bytes m p = 41 → hk_G J m F tape (g + 1) p dg N T num op st sg ss ps o = hk_G J m F tape g (p + 1) dg N T num op st sg ss ps o') ∧
    (op o = 1 → ¬ hx_y bytes m p = 41 → F - T ≠ 0 → hk_G J m F tape (g + 1) p dg N T num op st sg ss ps o = lp_X8_readDrift_43 (nI m) tape J (F - T) 0 (nI p) (nI p) num dg (nI N) (nI T) op st sg ss ps (nI o)) ∧
    (∀ o', o = o' + 1 → op o = 2 → st o = 3 → N < 84 → hx_y bytes m p = 93 → hk_G J m F tape (g + 1) p dg N T num op st sg ss ps o = hk_G J m F tape g (p + 1) (upd dg N (sg o)) (N + 1) T num op st sg ss ps o') ∧
    (op o = 2 → st o = 3 → ¬ hx_y bytes m p = 93 → hk_G J m F tape (g + 1) p dg N T num op st sg ss ps o = lp_X8_readDrift_43 (nI m) tape J (F - T) 0 (nI p) (nI p) num dg (nI N) (nI T) op st sg ss ps (nI o)) ∧
    (op o = 2 → st o = 0 → (hx_y bytes m p = 60 ∨ hx_y bytes m p = 61) → hk_G J m F tape (g + 1) p dg N T num op st sg ss ps o = hk_R J m F tape (p + 1) dg N T num op (upd st o 1) (upd sg o (if hx_y bytes m p = 60 then 10016 else 10017)) ss ps o) ∧
    (op o = 2 → st o = 0 → ¬ (hx_y bytes m p = 60 ∨ hx_y bytes m p = 61) → hk_G J m F tape (g + 1) p dg N T num op st sg ss ps o = lp_X8_readDrift_43 (nI m) tape J (F - T) 0 (nI p) (nI p) num dg (nI N) (nI T) op st sg ss ps (nI o)) ∧
    (∀ k : Nat, (k = 1 ∨ k = 2) → op o = 2 → st o = nI k → hx_y bytes m p = (if k = 1 then 63 else 58) → hk_G J m F tape (g + 1) p dg N T num op st sg ss ps o = hk_R J m F tape (p + 1) dg N T num op (upd st o (nI (k + 1))) sg ss ps o) ∧
    (∀ k : Nat, (k = 1 ∨ k = 2) → op o = 2 → st o = nI k → ¬ hx_y bytes m p = (if k = 1 then 63 else 58) → hk_G J m F tape (g + 1) p dg N T num op st sg ss ps o = lp_X8_readDrift_43 (nI m) tape J (F - T) 0 (nI p) (nI p) num dg (nI N) (nI T) op st sg ss ps (nI o)) := by
  have e1 : upd ps o 0 = ps := by rw [← hps, hp_ui]
  have e2 : upd ss o 0 = ss := by rw [← hss, hp_ui]
  have hm := h.1
  have base : hk_G J m F tape (g + 1) p dg N T num op st sg ss ps o = bi_9 (if op o = 0 then hk_K1 m st sg (nI p) dg (nI N) ss ps (nI o) else ckI (nI o) 10 <|
            jn (bi_0 (pf_X8_here tape (nI m) (nI p)) fun r39 =>
            ckI (nI o) 10 <|
            jn (fun (x40 : Int32) =>
            if r39 = x40 then
              nm (nI p + 1) fun x41 =>
              ckI (nI o) 10 <|
              jn (fun (f42 : Nat → Int32) (x43 : Int32) =>
              nm (nI o - 1) fun x44 =>
              lp_X8_goesOn_0 (nI m) (-1) op sg st tape (hk_K1 m st sg) (hk_K2 m tape st sg) (hk_K3 m tape st sg) g x41 f42 x43 ss ps x44) fun J292 =>
              if op o = 2 then
                ckI (nI o) 10 <|
                bv_2 (pf_X8_does (sg o) dg (nI N)) fun f45 x46 =>
                J292 f45 x46
              else
                J292 dg (nI N)
            else
              bi_1 (pf_X8_fails (nI p)) fun r47 x48 =>
              ckZ r47 <|
              some (r47, (nI p), x48, dg, (nI N), st, sg, ss, ps, (nI o))) fun J250 =>
            if op o = 1 then
              J250 41
            else
              J250 93) fun J229 =>
            if op o = 2 then
              ckI (nI o) 10 <|
              if 3 ≤ st o then
                J229
              else
                bi_4 (pf_X8_partsOn (nI o) tape (nI m) (nI p) (-1) st sg) fun r49 x50 x51 f52 f53 =>
                ckZ r49 <|
                some (r49, x50, x51, dg, (nI N), f52, f53, ss, ps, (nI o))
            else
              J229) (hk_C J m tape (F - T) num (nI T) op) := by
    unfold hk_G
    rw [lp_X8_goesOn_0, hp_ck ho (by decide), hp_cl (show o < 2147483648 by omega), if_neg h3, hp_ck ho (by decide), hp_jn, if_pos hps]
    dsimp only
    rw [hp_ck ho (by decide), hk_1f h hp hy0, hp_bi0, if_pos rfl, hp_ck ho (by decide), hp_jn, if_pos hss]
    dsimp only
    rw [hp_ck ho (by decide), hk_1f h hp hy, hp_bi0, if_pos rfl, hp_ck ho (by decide), e1, e2]
  have here := (hx_pk h hp).2
  have ckZ0 : ∀ {α : Type} (z : Option α), ckZ 0 z = z := fun z => hf_ckZ (Or.inl rfl)
  have ckZ1 : ∀ {α : Type} (z : Option α), ckZ 1 z = z := fun z => hf_ckZ (Or.inr rfl)
  have n10 : ¬ (1 : Int32) = 0 := by decide
  have n12 : ¬ (1 : Int32) = 2 := by decide
  have n20 : ¬ (2 : Int32) = 0 := by decide
  have n21 : ¬ (2 : Int32) = 1 := by decide
  have fl : pf_X8_fails (nI p) = some (0, nI p) := rfl
  rw [base]
  refine ⟨fun k0 => ?_, fun o' eo k1 ky => ?_, fun k1 ky _ => ?_, fun o' eo k2 ks hN ky => ?_, fun k2 ks ky => ?_, fun k2 ks ky => ?_, fun k2 ks ky => ?_, fun k hk k2 ks ky => ?_, fun k hk k2 ks ky => ?_⟩
  · rw [if_pos k0]
    unfold hk_K1
    by_cases c : m ≤ p
    · rw [if_pos ((hp_eI (by omega) (by omega)).mpr c), if_pos c, hp_bi9]
      unfold hk_C
      rw [if_pos rfl]
    · rw [if_neg (fun e => c ((hp_eI (by omega) (by omega)).mp e)), if_neg c, fl, hp_bi1, if_pos rfl, hp_bi9]
      unfold hk_C
      rw [if_pos rfl]
  · rw [k1, if_neg n10, hp_ck ho (by decide), hp_jn, if_neg n12, here, hp_bi0, hp_ck ho (by decide), hp_jn, if_pos rfl]
    dsimp only
    rw [if_pos ky, hp_nm, hp_ck ho (by decide), hp_jn]
    dsimp only
    rw [hp_nm, hp_i1, eo, show nI (o' + 1) - 1 = nI o' from hp_pS o']
    rfl
  · rw [k1, if_neg n10, hp_ck ho (by decide), hp_jn, if_neg n12, here, hp_bi0, hp_ck ho (by decide), hp_jn, if_pos rfl]
    dsimp only
    rw [if_neg ky, fl, hp_bi1, ckZ0, hp_bi9]
    unfold hk_C
    rw [if_pos rfl]
  · rw [k2, if_neg n20, hp_ck ho (by decide), hp_jn, if_pos rfl, hp_ck ho (by decide), ks, if_pos (by decide), here, hp_bi0, hp_ck ho (by decide), hp_jn, if_neg n21]
    dsimp only
    rw [if_pos ky, hp_nm, hp_ck ho (by decide), hp_jn, hp_ck ho (by decide), hk_do _ hN, hp_bv2, if_pos rfl]
    dsimp only
    rw [hp_nm, hp_i1, eo, show nI (o' + 1) - 1 = nI o' from hp_pS o']
    rfl
  · rw [k2, if_neg n20, hp_ck ho (by decide), hp_jn, if_pos rfl, hp_ck ho (by decide), ks, if_pos (by decide), here, hp_bi0, hp_ck ho (by decide), hp_jn, if_neg n21]
    dsimp only
    rw [if_neg ky, fl, hp_bi1, ckZ0, hp_bi9]
    unfold hk_C
    rw [if_pos rfl]
  · rw [k2, if_neg n20, hp_ck ho (by decide), hp_jn, if_pos rfl, hp_ck ho (by decide), ks, if_neg (by decide)]
    have pe : pf_X8_partsOn (nI o) tape (nI m) (nI p) (-1) st sg = some (1, nI (p + 1), -1, upd st o 1, upd sg o (if hx_y bytes m p = 60 then 10016 else 10017)) := by
      unfold pf_X8_partsOn
      rw [hp_ck ho (by decide), hp_jn, hp_cl (show o < 2147483648 by omega), ks, if_pos rfl, hk_1t h hp (a := 60) (b := 61) (c := 60) (by rcases ky with e | e; exact Or.inl e; exact Or.inr (Or.inl e)), hp_bi0]
      dsimp only
      rw [if_neg n10, hp_ck ho (by decide), hp_jn, if_pos rfl, here, hp_bi0, hp_jn]
      dsimp only
      by_cases c : hx_y bytes m p = 60
      · rw [if_pos c, if_pos c]
        rw [hp_ck ho (by decide), hp_nm, hp_ck ho (by decide), hp_nm, hp_ck ho (by decide), hp_i1]
        rfl
      · rw [if_neg c, if_neg c]
        rw [hp_ck ho (by decide), hp_nm, hp_ck ho (by decide), hp_nm, hp_ck ho (by decide), hp_i1]
        rfl
    rw [pe, hp_bi4, ckZ1, hp_bi9]
    unfold hk_C
    rw [if_neg n10]
    rfl
  · rw [k2, if_neg n20, hp_ck ho (by decide), hp_jn, if_pos rfl, hp_ck ho (by decide), ks, if_neg (by decide)]
    have pe : pf_X8_partsOn (nI o) tape (nI m) (nI p) (-1) st sg = some (0, nI p, nI p, st, sg) := by
      unfold pf_X8_partsOn
      rw [hp_ck ho (by decide), hp_jn, hp_cl (show o < 2147483648 by omega), ks, if_pos rfl, hk_1f h hp (a := 60) (b := 61) (c := 60) (fun e => ky (by rcases e with e | e | e; exact Or.inl e; exact Or.inr e; exact Or.inl e)), hp_bi0]
      dsimp only
      rw [if_pos rfl, fl, hp_bi1, ckZ0]
    rw [pe, hp_bi4, ckZ0, hp_bi9]
    unfold hk_C
    rw [if_pos rfl]
  · have nk0 : ¬ nI k = 0 := by rcases hk with e | e <;> rw [e] <;> decide
    have nk3 : ¬ (3 : Int32) ≤ nI k := by rcases hk with e | e <;> rw [e] <;> decide
    rw [k2, if_neg n20, hp_ck ho (by decide), hp_jn, if_pos rfl, hp_ck ho (by decide), ks, if_neg nk3]
    have pe : pf_X8_partsOn (nI o) tape (nI m) (nI p) (-1) st sg = some (1, nI (p + 1), -1, upd st o (nI (k + 1)), sg) := by
      unfold pf_X8_partsOn
      rw [hp_ck ho (by decide), hp_jn, hp_cl (show o < 2147483648 by omega), ks, if_neg nk0, here, hp_bi0, hp_ck ho (by decide), hp_jn]
      rcases hk with e | e
      · subst e
        rw [if_pos (show nI 1 = 1 from rfl)]
        dsimp only
        rw [if_pos (show hx_y bytes m p = 63 from ky), if_neg n10, hp_ck ho (by decide), hp_jn, if_neg nk0]
        dsimp only
        rw [hp_nm, hp_ck ho (by decide), hp_nm, hp_ck ho (by decide), hp_i1, hp_i1]
      · subst e
        rw [if_neg (show ¬ nI 2 = 1 by decide)]
        dsimp only
        rw [if_pos (show hx_y bytes m p = 58 from ky), if_neg n10, hp_ck ho (by decide), hp_jn, if_neg nk0]
        dsimp only
        rw [hp_nm, hp_ck ho (by decide), hp_nm, hp_ck ho (by decide), hp_i1, hp_i1]
    rw [pe, hp_bi4, ckZ1, hp_bi9]
    unfold hk_C
    rw [if_neg n10]
    rfl
  · have nk0 : ¬ nI k = 0 := by rcases hk with e | e <;> rw [e] <;> decide
    have nk3 : ¬ (3 : Int32) ≤ nI k := by rcases hk with e | e <;> rw [e] <;> decide
    rw [k2, if_neg n20, hp_ck ho (by decide), hp_jn, if_pos rfl, hp_ck ho (by decide), ks, if_neg nk3]
    have pe : pf_X8_partsOn (nI o) tape (nI m) (nI p) (-1) st sg = some (0, nI p, nI p, st, sg) := by
      unfold pf_X8_partsOn
      rw [hp_ck ho (by decide), hp_jn, hp_cl (show o < 2147483648 by omega), ks, if_neg nk0, here, hp_bi0, hp_ck ho (by decide), hp_jn]
      rcases hk with e | e
      · subst e
        rw [if_pos (show nI 1 = 1 from rfl)]
        dsimp only
        rw [if_neg (show ¬ hx_y bytes m p = 63 from ky), if_pos rfl, fl, hp_bi1, ckZ0]
      · subst e
        rw [if_neg (show ¬ nI 2 = 1 by decide)]
        dsimp only
        rw [if_neg (show ¬ hx_y bytes m p = 58 from ky), if_pos rfl, fl, hp_bi1, ckZ0]
    rw [pe, hp_bi4, ckZ0, hp_bi9]
    unfold hk_C
    rw [if_pos rfl]
end HK
