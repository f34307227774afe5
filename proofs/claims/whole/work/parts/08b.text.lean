/-! TEXT FORM. One item. -/
def hz_I (b : Nat) (sz of wo st ns no : Nat → Int32) : Prop := ∀ i, i < b → sz i = ns i ∧ of i = no i ∧ wo i = ns i ∧ st i = -1 ∧ (1 ≤ (ns i).toInt ∧ (ns i).toInt ≤ 9999) ∧ (-99 ≤ (no i).toInt ∧ (no i).toInt ≤ 99) ∧ 1 ≤ (ns i).toInt + (no i).toInt
def hz_B (lows tops nr : Nat → Int32) : Prop := ∀ r, r < 5 → lows r ≤ nr r ∧ nr r ≤ tops r
noncomputable def hz_J (tape : Nat → Int32) (c : Int32) : Int32 → Int32 → Int32 → (Nat → Int32) → (Nat → Int32) → (Nat → Int32) → Int32 → Int32 → Option (Int32 × Int32 × Int32 × Int32 × (Nat → Int32) × (Nat → Int32) × (Nat → Int32) × Int32 × Int32) :=
  fun x4 x5 x6 f7 f8 f9 x10 x11 =>
  bi_0 (pf_X8_here tape c x4) fun r12 =>
  if r12 = 59 then
    nm (x4 + 1) fun x13 =>
    some (1, x13, x5, x6, f7, f8, f9, x10, x11)
  else
    bi_1 (pf_X8_fails x4) fun r14 x15 =>
    ckZ r14 <|
    some (r14, x4, x15, x6, f7, f8, f9, x10, x11)
theorem hz_J1 {bytes tape : Nat → Int32} {m p : Nat} (h : hx_B bytes tape m) (hp : p ≤ m) (e : hx_y bytes m p = 59) (x5 x6 x10 x11 : Int32) (f7 f8 f9 : Nat → Int32) : hz_J tape (nI m) (nI p) x5 x6 f7 f8 f9 x10 x11 = some (1, nI (p + 1), x5, x6, f7, f8, f9, x10, x11) := by
  unfold hz_J
  rw [(hx_pk h hp).2, hp_bi0, if_pos e, hp_nm, hp_i1]
theorem hz_J0 {bytes tape : Nat → Int32} {m p : Nat} (h : hx_B bytes tape m) (hp : p ≤ m) (e : ¬ hx_y bytes m p = 59) (x5 x6 x10 x11 : Int32) (f7 f8 f9 : Nat → Int32) : hz_J tape (nI m) (nI p) x5 x6 f7 f8 f9 x10 x11 = some (0, nI p, nI p, x6, f7, f8, f9, x10, x11) := by
  unfold hz_J pf_X8_fails
  rw [(hx_pk h hp).2, hp_bi0, if_neg e, hp_bi1, hf_ckZ (Or.inl rfl)]
theorem hz_i98 {bytes tape : Nat → Int32} {m p : Nat} (h : hx_B bytes tape m) (hp : p ≤ m) (y : hx_y bytes m p = 98) (fp num bb tt : Int32) (lows tops ns no nr : Nat → Int32) :
    pf_X8_readItem tape (nI m) (nI p) fp num lows tops ns no nr bb tt = bi_6 (pf_X8_readBit tape (nI m) (nI p) fp num ns no bb) fun r26 x27 x28 x29 f30 f31 x32 => if r26 = 0 then some (0, x27, x28, x29, f30, f31, nr, x32, tt) else hz_J tape (nI m) x27 x28 x29 f30 f31 nr x32 tt := by
  unfold pf_X8_readItem
  rw [(hx_pk h hp).2, hp_bi0, y, show pf_X8_ruleOf 98 = some (-1, ()) from rfl, hp_bi0, hp_bi0, hp_jn, if_pos rfl]
  rfl
theorem hz_c12 {b : Nat} (hb : b < 12) : ¬ nI b = 12 ∧ nI b < 12 ∧ ¬ (12 : Int32) ≤ nI b := by
  have e := hp_nT (n := b) (by omega)
  have t : (12 : Int32).toInt = 12 := by decide
  refine ⟨?_, ?_, ?_⟩
  · rw [hp_eq, e, t]; omega
  · rw [hp_lt, e, t]; omega
  · rw [hp_le, e, t]; omega
theorem hz_bit {bytes tape : Nat → Int32} {m p b : Nat} (h : hx_B bytes tape m) (hp : p < m) (y : hx_y bytes m p = 98) (hb : b ≤ 12) (num tt : Int32) (lows tops : Nat → Int32) {sz of wo st ns no nr : Nat → Int32} (I : hz_I b sz of wo st ns no) :
    (∃ (p' : Nat) (sz' of' wo' st' ns' no' : Nat → Int32) (num' : Int32), p < p' ∧ p' ≤ m ∧ b < 12 ∧ pf_X6_readBit bytes (nI m) (nI p) (-1) (nI b) sz of wo st = some (nI p', -1, nI (b + 1), sz', of', wo', st') ∧ pf_X8_readItem tape (nI m) (nI p) (-1) num lows tops ns no nr (nI b) tt = some (1, nI p', -1, num', ns', no', nr, nI (b + 1), tt) ∧ hz_I (b + 1) sz' of' wo' st' ns' no') ∨
    (∃ q : Nat, q ≤ m ∧ (∃ at7 b' sz' of' wo' st', pf_X6_readBit bytes (nI m) (nI p) (-1) (nI b) sz of wo st = some (at7, nI q, b', sz', of', wo', st')) ∧ (∃ at8 n8 ns' no' b', pf_X8_readItem tape (nI m) (nI p) (-1) num lows tops ns no nr (nI b) tt = some (0, at8, nI q, n8, ns', no', nr, b', tt))) := by
  have hm := h.1
  rw [hz_i98 h (by omega) y]
  unfold pf_X6_readBit pf_X8_readBit
  by_cases b12 : b = 12
  · subst b12
    right
    refine ⟨p, by omega, ⟨nI p, nI 12, sz, of, wo, st, ?_⟩, ⟨nI p, num, ns, no, nI 12, ?_⟩⟩
    · rw [if_neg (by decide), hx_bl, hp_bv1]
    · unfold pf_X8_fails
      rw [if_pos (by decide), hp_bi1, hf_ckZ (Or.inl rfl), hp_bi6, if_pos rfl]
  obtain ⟨d1, d2, d3⟩ := hz_c12 (b := b) (by omega)
  have cb := hp_cl (n := b) (by omega)
  have cc : ∀ {α : Type} (x : Option α), ckI (nI b) 12 x = x := fun x => hp_ck (by omega) (by decide)
  rw [if_pos d2, if_neg d1, hp_nm, hp_nm, hp_i1]
  obtain ⟨a, p1, g1, g2, g3, g4, g5, hh⟩ := hz_n0 h (show p + 1 ≤ m by omega) 1 9999 num (by decide)
  have g5 := g5 (by decide)
  rcases hh with ⟨g6, e1, e2, e3⟩ | ⟨q, at8, n8, q1, e1, e2⟩
  · rw [e1, hp_bi2]
    have t1 : (1 : Int32).toInt = 1 := by decide
    have t9 : (9999 : Int32).toInt = 9999 := by decide
    by_cases k : (1 : Int32) ≤ a ∧ a ≤ 9999
    · rw [e2 k, hp_bi3, if_neg (by decide)]
      have ka := k.1
      rw [hp_le, t1] at ka
      rw [hp_jn, if_neg (show ¬ a < 1 by rw [hp_lt, t1]; omega)]
      dsimp only
      rw [hx_ho 1 _ (Or.inr rfl) (hx_nq _ (by omega)), if_neg (by decide), hp_bi1, if_neg (by decide), cc, cc, (hx_pk h g2).2, hp_bi0, hx_tk h g2, hp_jn]
      -- the rest, behind the off
      have tail : ∀ (P : Nat) (x10 n8 : Int32) (f10 : Nat → Int32), p < P → P ≤ m → -99 ≤ x10.toInt → x10.toInt ≤ 99 → f10 b = x10 → (∀ i, i < b → f10 i = no i) →
          (∃ (p' : Nat) (sz' of' wo' st' ns' no' : Nat → Int32) (num' : Int32), p < p' ∧ p' ≤ m ∧ b < 12 ∧
            (bv_2 (pf_X5_needs 59 bytes (nI m) (nI P) (-1)) fun x13 x14 => jn (fun (x15 : Int32) => bi_1 (pf_X5_holds x15 (nI p) x14) fun r16 x17 => if r16 = 0 then some (x13, x17, nI b, sz, of, wo, st) else bv_5 (pf_X2_addBit a x10 (nI b) sz of wo st) fun x18 f19 f20 f21 f22 => some (x13, x17, x18, f19, f20, f21, f22)) fun J120 => if (a + x10) < 1 then J120 0 else J120 1) = some (nI p', -1, nI (b + 1), sz', of', wo', st') ∧
            (bi_6 (bi_0 (pf_X8_here tape (nI m) (nI P)) fun r11 => jn (nm (nI b + 1) fun x12 => some (1, nI P, -1, n8, (upd ns (nI b).toNatClampNeg a), f10, x12)) fun J149 => if r11 = 59 then ckI (nI b) 12 <| ckI (nI b) 12 <| if 1 ≤ (((upd ns (nI b).toNatClampNeg a) (nI b).toNatClampNeg) + (f10 (nI b).toNatClampNeg)) then J149 else bi_1 (pf_X8_fails (nI p)) fun r13 x14 => ckZ r13 <| some (r13, nI P, x14, n8, (upd ns (nI b).toNatClampNeg a), f10, nI b) else J149) fun r26 x27 x28 x29 f30 f31 x32 => if r26 = 0 then some (0, x27, x28, x29, f30, f31, nr, x32, tt) else hz_J tape (nI m) x27 x28 x29 f30 f31 nr x32 tt) = some (1, nI p', -1, num', ns', no', nr, nI (b + 1), tt) ∧ hz_I (b + 1) sz' of' wo' st' ns' no') ∨
          (∃ q : Nat, q ≤ m ∧ (∃ at7 b' sz' of' wo' st', (bv_2 (pf_X5_needs 59 bytes (nI m) (nI P) (-1)) fun x13 x14 => jn (fun (x15 : Int32) => bi_1 (pf_X5_holds x15 (nI p) x14) fun r16 x17 => if r16 = 0 then some (x13, x17, nI b, sz, of, wo, st) else bv_5 (pf_X2_addBit a x10 (nI b) sz of wo st) fun x18 f19 f20 f21 f22 => some (x13, x17, x18, f19, f20, f21, f22)) fun J120 => if (a + x10) < 1 then J120 0 else J120 1) = some (at7, nI q, b', sz', of', wo', st')) ∧
            (∃ at8 n8' ns' no' b', (bi_6 (bi_0 (pf_X8_here tape (nI m) (nI P)) fun r11 => jn (nm (nI b + 1) fun x12 => some (1, nI P, -1, n8, (upd ns (nI b).toNatClampNeg a), f10, x12)) fun J149 => if r11 = 59 then ckI (nI b) 12 <| ckI (nI b) 12 <| if 1 ≤ (((upd ns (nI b).toNatClampNeg a) (nI b).toNatClampNeg) + (f10 (nI b).toNatClampNeg)) then J149 else bi_1 (pf_X8_fails (nI p)) fun r13 x14 => ckZ r13 <| some (r13, nI P, x14, n8, (upd ns (nI b).toNatClampNeg a), f10, nI b) else J149) fun r26 x27 x28 x29 f30 f31 x32 => if r26 = 0 then some (0, x27, x28, x29, f30, f31, nr, x32, tt) else hz_J tape (nI m) x27 x28 x29 f30 f31 nr x32 tt) = some (0, at8, nI q, n8', ns', no', nr, b', tt))) := by
        intro P x10 n8 f10 pP pm x1 x2 fb fi
        have es : (a + x10).toInt = a.toInt + x10.toInt := hp_add (by omega) (by omega)
        rw [(hx_pk h pm).2, hp_bi0, hp_jn, hp_nm, hp_i1, hx_ne h pm, cb, hp_us, fb, cc, cc]
        by_cases y9 : hx_y bytes m P = 59
        · have P1 := hx_yn (v := 59) h (by decide) y9
          rw [if_pos y9, hp_bv2, hp_jn, if_pos y9]
          by_cases s : 1 ≤ a + x10
          · have s' := s
            rw [hp_le, t1, es] at s'
            left
            rw [if_neg (show ¬ a + x10 < 1 by rw [hp_lt, t1, es]; omega), if_pos s, hp_bi6, if_neg (show ¬ (1 : Int32) = 0 by decide), hz_J1 h pm y9]
            dsimp only
            rw [hx_ho 1 _ (Or.inr rfl) (hx_nq _ (by omega)), if_neg (by decide), hp_bi1, if_neg (by decide)]
            unfold pf_X2_addBit
            rw [if_neg d3, cc, cc, cc, cc, hp_nm, hp_i1, hp_bv5, cb]
            refine ⟨P + 1, _, _, _, _, _, _, n8, by omega, by omega, by omega, rfl, rfl, fun i hi => ?_⟩
            by_cases e : i = b
            · subst e
              rw [hp_us, hp_us, hp_us, hp_us, hp_us, fb]
              exact ⟨rfl, rfl, rfl, rfl, ⟨ka, by omega⟩, ⟨x1, x2⟩, s'⟩
            · rw [hp_un e, hp_un e, hp_un e, hp_un e, hp_un e, fi i (by omega)]
              exact I i (by omega)
          · have s' := s
            rw [hp_le, t1, es] at s'
            right
            unfold pf_X8_fails
            rw [if_pos (show a + x10 < 1 by rw [hp_lt, t1, es]; omega), if_neg s, hp_bi1, hf_ckZ (Or.inl rfl), hp_bi6, if_pos rfl]
            dsimp only
            rw [hx_ho 0 _ (Or.inl rfl) (hx_nq _ (by omega)), if_pos rfl, hp_bi1, if_pos rfl]
            exact ⟨p, by omega, ⟨_, _, _, _, _, _, rfl⟩, ⟨_, _, _, _, _, rfl⟩⟩
        · right
          rw [if_neg y9, if_neg y9, hp_bv2, hp_jn, hp_bi6, if_neg (show ¬ (1 : Int32) = 0 by decide), hz_J0 h pm y9]
          dsimp only
          rw [hx_hof (show P ≤ 400 by omega), hx_hof (show P ≤ 400 by omega), hp_bi1, if_pos rfl, ite_self]
          exact ⟨P, pm, ⟨_, _, _, _, _, _, rfl⟩, ⟨_, _, _, _, _, rfl⟩⟩
      by_cases y8 : hx_y bytes m p1 = 58
      · have P1 := hx_yn (v := 58) h (by decide) y8
        rw [if_pos y8, hp_bi1, hp_jn, if_neg (by decide), if_pos y8, hp_nm, hp_i1]
        obtain ⟨a2, p2, k1, k2, k3, k4, -, hh⟩ := hz_n1 h (show p1 + 1 ≤ m by omega) (-99) 99 a (by decide)
        rcases hh with ⟨k6, f1, f2, f3⟩ | ⟨q, at8, n8, q1, f1, f2⟩
        · rw [f1, hp_bi2, hp_within, hp_bi0]
          by_cases kk : (-99 : Int32) ≤ a2 ∧ a2 ≤ 99
          · rw [f2 kk, hp_bi3, if_neg (by decide), hp_bt kk, hx_ho 1 _ (Or.inr rfl) (hx_nq _ (by omega)), if_neg (by decide), hp_bi1, cc]
            obtain ⟨kk1, kk2⟩ := kk
            rw [hp_le, show (-99 : Int32).toInt = -99 from by decide] at kk1
            rw [hp_le, show (99 : Int32).toInt = 99 from by decide] at kk2
            exact tail p2 a2 a2 _ (by omega) k2 kk1 kk2 (by rw [cb, hp_us]) (fun i hi => by rw [cb, hp_un (by omega), hp_un (by omega)])
          · right
            rw [f3 kk, hp_bi3, if_pos rfl, hp_bf kk, hx_ho 0 _ (Or.inl rfl) (hx_nq _ (by omega)), if_pos rfl, hp_bi1]; dsimp only; rw [hx_nef (by omega), hp_bv2, hp_jn]
            dsimp only
            rw [hx_hof (by omega), hx_hof (by omega), hp_bi1, if_pos rfl, ite_self, hp_bi6, if_pos rfl]
            exact ⟨p1 + 1, by omega, ⟨_, _, _, _, _, _, rfl⟩, ⟨_, _, _, _, _, rfl⟩⟩
        · right
          rw [f1, hp_bi2, f2, hp_bi3, if_pos rfl, hp_within, hp_bi0, hx_hof (show q ≤ 400 by omega), hp_bi1]; dsimp only; rw [hx_nef (show q ≤ 400 by omega), hp_bv2, hp_jn]
          dsimp only
          rw [hx_hof (show q ≤ 400 by omega), hx_hof (show q ≤ 400 by omega), hp_bi1, if_pos rfl, ite_self, hp_bi6, if_pos rfl]
          exact ⟨q, q1, ⟨_, _, _, _, _, _, rfl⟩, ⟨_, _, _, _, _, rfl⟩⟩
      · rw [if_neg y8, hp_bi1, hp_jn, if_pos rfl, if_neg y8]
        exact tail p1 0 a _ (by omega) g2 (by decide) (by decide) (by rw [cb, hp_us]) (fun i hi => by rw [cb, hp_un (by omega)])
    · right
      rw [e3 k, hp_bi3, if_pos rfl]
      rw [hp_le, hp_le, t1, t9] at k
      rw [hp_jn, if_pos (show a < 1 by rw [hp_lt, t1]; omega)]; dsimp only; rw [hx_ho 0 _ (Or.inl rfl) (hx_nq _ (by omega)), if_pos rfl, hp_bi1, if_pos rfl]
      rw [hp_bi6, if_pos rfl]
      exact ⟨p + 1, by omega, ⟨_, _, _, _, _, _, rfl⟩, ⟨_, _, _, _, _, rfl⟩⟩
  · right
    rw [e1, hp_bi2, e2, hp_bi3, if_pos rfl, hp_jn]
    dsimp only
    rw [hx_hof (show q ≤ 400 by omega), hx_hof (show q ≤ 400 by omega), hp_bi1, if_pos rfl, ite_self]
    rw [hp_bi6, if_pos rfl]
    exact ⟨q, q1, ⟨_, _, _, _, _, _, rfl⟩, ⟨_, _, _, _, _, rfl⟩⟩
