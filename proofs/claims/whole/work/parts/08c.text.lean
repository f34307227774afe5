/-! TEXT FORM. A setting; the loop. -/
theorem hz_set {bytes tape : Nat → Int32} {m p t : Nat} {lows tops : Nat → Int32} (h : hx_B bytes tape m) (hl : hp_lims lows tops) (hp : p < m) (y : ¬ hx_y bytes m p = 98) (ht : t < 32) (num bb : Int32) (ns no nr : Nat → Int32) (hb : hz_B lows tops nr) :
    (∃ (p' t' : Nat) (r : Int32) (nr' : Nat → Int32) (num' : Int32), p < p' ∧ p' ≤ m ∧ t' < 32 ∧ (nI t ||| r) = nI t' ∧ pf_X6_readSetting (nI t) bytes (nI m) (nI p) (-1) (nr 0) (nr 1) (nr 2) (nr 3) (nr 4) = some (r, nI p', -1, nr' 0, nr' 1, nr' 2, nr' 3, nr' 4) ∧ pf_X8_readItem tape (nI m) (nI p) (-1) num lows tops ns no nr bb (nI t) = some (1, nI p', -1, num', ns, no, nr', bb, nI t') ∧ hz_B lows tops nr') ∨
    (∃ q : Nat, q ≤ m ∧ (∃ r at7 n1 n2 n3 n4 n5, pf_X6_readSetting (nI t) bytes (nI m) (nI p) (-1) (nr 0) (nr 1) (nr 2) (nr 3) (nr 4) = some (r, at7, nI q, n1, n2, n3, n4, n5)) ∧ (∃ at8 n8 ns' no' nr' b' t', pf_X8_readItem tape (nI m) (nI p) (-1) num lows tops ns no nr bb (nI t) = some (0, at8, nI q, n8, ns', no', nr', b', t'))) := by
  have hm := h.1
  obtain ⟨y7, y8⟩ := hx_pk (p := p) h (by omega)
  unfold pf_X6_readSetting pf_X8_readItem
  rw [y7, hp_bi0, y8, hp_bi0]
  rcases hz_so (hx_y bytes m p) with ⟨r, r5, s7, s8⟩ | ⟨s7, s8⟩
  · rw [s7, hp_bi0, if_neg (hx_nq r (by omega)), s8, hp_bi0, hp_bi0, hp_jn, if_neg y, if_neg (hx_nq r (by omega))]
    have told := hz_told t ht r r5
    obtain ⟨t', t32, et⟩ := hz_tell t ht r r5
    by_cases k : (nI t &&& (1 <<< (nI r &&& 31))) = 0
    · rw [if_pos k, if_neg (told.mp k), hp_nm, hp_nm, hp_nm, hp_i1, hp_ck r5 (by decide), hp_ck r5 (by decide), hp_cl (show r < 2147483648 by omega), hp_jn, et]
      dsimp only
      -- the number
      have N : ∃ X : Option (Int32 × Int32 × Int32), hz_N (lows r) (tops r) num m bytes tape (p + 1) X ∧ ∀ {β : Type} (J : Int32 → Int32 → Int32 → Option β), (if nI r = 0 then bi_2 (pf_X5_signedNumber bytes (nI m) (nI (p + 1)) (-1)) fun r21 x22 x23 => J r21 x22 x23 else bi_2 (pf_X5_number bytes (nI m) (nI (p + 1)) (-1)) fun r18 x19 x20 => J r18 x19 x20) = bi_2 X fun a b c => J a b c := by
        obtain ⟨l0, t0, l1, t1, l2, t2, l3, t3, l4, t4⟩ := hl
        by_cases r0 : r = 0
        · subst r0
          exact ⟨_, hz_n1 h (by omega) _ _ _ (by rw [l0]; decide), fun J => if_pos rfl⟩
        · refine ⟨_, hz_n0 h (by omega) _ _ _ ?_, fun J => if_neg ?_⟩
          · rcases (show r = 1 ∨ r = 2 ∨ r = 3 ∨ r = 4 by omega) with rfl | rfl | rfl | rfl
            · rw [l1]; decide
            · rw [l2]; decide
            · rw [l3]; decide
            · rw [l4]; decide
          · rw [hp_eq, hp_nT (by omega), show (0 : Int32).toInt = 0 from by decide]; omega
      obtain ⟨X, ⟨a, p1, g1, g2, g3, g4, -, hh⟩, eX⟩ := N
      have eX := fun J => eX (β := Int32 × Int32 × Int32 × Int32 × Int32 × Int32 × Int32 × Int32) J
      rw [eX (fun x5 x6 x7 => _)]
      rcases hh with ⟨g6, e1, e2, e3⟩ | ⟨q, at8, n8, q1, e1, e2⟩
      · rw [e1, hp_bi2]
        by_cases kk : lows r ≤ a ∧ a ≤ tops r
        · rw [e2 kk, hp_bi3, if_neg (show ¬ (1 : Int32) = 0 by decide), hp_ck r5 (by decide), hz_may hl r5, hp_bi0, hp_bt kk, hx_ho 1 _ (Or.inr rfl) (hx_nq _ (by omega)), if_neg (show ¬ (1 : Int32) = 0 by decide), hp_bi1, hx_ne h g2]
          by_cases y9 : hx_y bytes m p1 = 59
          · have P1 := hx_yn (v := 59) h (by decide) y9
            left
            rw [if_pos y9, hp_bv2, if_pos rfl, hz_put r5, hp_bv5]
            refine ⟨p1 + 1, t', _, upd nr r a, a, by omega, by omega, t32, et, rfl, hz_J1 h g2 y9 _ _ _ _ _ _ _, fun i hi => ?_⟩
            by_cases e : i = r
            · subst e; rw [hp_us]; exact kk
            · rw [hp_un e]; exact hb i hi
          · right
            rw [if_neg y9, hp_bv2, if_neg (hx_nq p1 (by omega))]
            exact ⟨p1, g2, ⟨_, _, _, _, _, _, _, rfl⟩, ⟨_, _, _, _, _, _, _, hz_J0 h g2 y9 _ _ _ _ _ _ _⟩⟩
        · right
          rw [e3 kk, hp_bi3, if_pos rfl, hz_may hl r5, hp_bi0, hp_bf kk, hx_ho 0 _ (Or.inl rfl) (hx_nq _ (by omega)), if_pos rfl, hp_bi1, hx_nef (by omega), hp_bv2, if_neg (hx_nq (p + 1) (by omega))]
          exact ⟨p + 1, by omega, ⟨_, _, _, _, _, _, _, rfl⟩, ⟨_, _, _, _, _, _, _, rfl⟩⟩
      · right
        rw [e1, hp_bi2, e2, hp_bi3, if_pos rfl, hz_may hl r5, hp_bi0, hx_hof (show q ≤ 400 by omega), hp_bi1, hx_nef (show q ≤ 400 by omega), hp_bv2, if_neg (hx_nq q (by omega))]
        exact ⟨q, q1, ⟨_, _, _, _, _, _, _, rfl⟩, ⟨_, _, _, _, _, _, _, rfl⟩⟩
    · right
      have k' : ((nI t >>> (nI r &&& 31)) &&& 1) = 1 := Decidable.of_not_not fun e => k (told.mpr e)
      unfold pf_X8_fails
      rw [if_neg k, if_pos k', hx_bl, hp_bv1, hp_bi1, hf_ckZ (Or.inl rfl)]
      exact ⟨p, by omega, ⟨_, _, _, _, _, _, _, rfl⟩, ⟨_, _, _, _, _, _, _, rfl⟩⟩
  · right
    unfold pf_X8_fails
    rw [s7, hp_bi0, if_pos rfl, hx_bl, hp_bv1, s8, hp_bi0, hp_bi0, hp_jn, if_neg y, if_pos rfl, hp_bi1, hf_ckZ (Or.inl rfl)]
    exact ⟨p, by omega, ⟨_, _, _, _, _, _, _, rfl⟩, ⟨_, _, _, _, _, _, _, rfl⟩⟩
theorem hz_loop {bytes tape : Nat → Int32} {m : Nat} {lows tops : Nat → Int32} (h : hx_B bytes tape m) (hl : hp_lims lows tops) : ∀ (n p k t b : Nat) (num : Int32) (sz of wo st ns no nr : Nat → Int32), m - p < n → p ≤ m → k ≤ p → t < 32 → b ≤ 12 → hz_I b sz of wo st ns no → hz_B lows tops nr →
    (∃ (t' b' : Nat) (num' : Int32) (sz' of' wo' st' ns' no' nr' : Nat → Int32), b' ≤ 12 ∧ hz_I b' sz' of' wo' st' ns' no' ∧ hz_B lows tops nr' ∧
      (∀ J, lp_X6_read_8 (nI m) bytes J n (nI t) (nI k) (nI p) (-1) (nI b) sz of wo st (nr 0) (nr 1) (nr 2) (nr 3) (nr 4) = J (nI m) (-1) (nI b') sz' of' wo' st' (nr' 0) (nr' 1) (nr' 2) (nr' 3) (nr' 4)) ∧
      (∀ J, lp_X8_readText_58 (nI m) lows tape tops J n (nI p) (-1) num ns no nr (nI b) (nI t) = J (nI m) (-1) num' ns' no' nr' (nI b') (nI t'))) ∨
    (∃ q : Nat, q ≤ m ∧ (∃ at7 b' sz' of' wo' st' n1 n2 n3 n4 n5, ∀ J, lp_X6_read_8 (nI m) bytes J n (nI t) (nI k) (nI p) (-1) (nI b) sz of wo st (nr 0) (nr 1) (nr 2) (nr 3) (nr 4) = J at7 (nI q) b' sz' of' wo' st' n1 n2 n3 n4 n5) ∧
      (∃ at8 n8 ns' no' nr' b' t', ∀ J, lp_X8_readText_58 (nI m) lows tape tops J n (nI p) (-1) num ns no nr (nI b) (nI t) = some (0, at8, nI q, n8, ns', no', nr', b', t'))) := by
  have hm := h.1
  intro n
  induction n with
  | zero => intro p k t b num sz of wo st ns no nr h1; omega
  | succ n ih =>
    intro p k t b num sz of wo st ns no nr h1 h2 h3 h4 h5 h6 h7
    by_cases c : p < m
    · have c4 : ¬ (400 : Int32) ≤ nI k := fun e => by
        have := (hp_eI (a := 400) (by omega) (by omega)).mp e
        omega
      have cm : ¬ nI m ≤ nI p := fun e => by
        have := (hp_eI (by omega) (by omega)).mp e
        omega
      -- where a fault is, the class goes out
      have out : ∀ (q : Nat) (J : _) (x16 x17 x18 x20 : Int32) (f21 f22 f23 f24 : Nat → Int32) (x25 x26 x27 x28 x29 : Int32), q ≤ m → lp_X6_read_8 (nI m) bytes J n x16 x17 x18 (nI q) x20 f21 f22 f23 f24 x25 x26 x27 x28 x29 = J x18 (nI q) x20 f21 f22 f23 f24 x25 x26 x27 x28 x29 := by
        intro q J x16 x17 x18 x20 f21 f22 f23 f24 x25 x26 x27 x28 x29 hq
        obtain ⟨n, rfl⟩ : ∃ g, n = g + 1 := ⟨n - 1, by omega⟩
        rw [lp_X6_read_8]
        by_cases e : (400 : Int32) ≤ x17
        · rw [if_pos e]
        · rw [if_neg e, hx_gof (by omega), hp_bi0, if_pos rfl]
      by_cases y : hx_y bytes m p = 98
      · rcases hz_bit h c y h5 num (nI t) lows tops (nr := nr) h6 with ⟨p', sz', of', wo', st', ns', no', num', i1, i2, i3, i4, i5, i6⟩ | ⟨q, q1, ⟨at7, b', sz', of', wo', st', e7⟩, ⟨at8, n8, ns', no', b8, e8⟩⟩
        · have e7 : ∀ J, lp_X6_read_8 (nI m) bytes J (n + 1) (nI t) (nI k) (nI p) (-1) (nI b) sz of wo st (nr 0) (nr 1) (nr 2) (nr 3) (nr 4) = lp_X6_read_8 (nI m) bytes J n (nI t) (nI (k + 1)) (nI p') (-1) (nI (b + 1)) sz' of' wo' st' (nr 0) (nr 1) (nr 2) (nr 3) (nr 4) := by
            intro J
            rw [lp_X6_read_8, if_neg c4, hx_go hm h2, hp_bi0, hp_bt c, if_neg (by decide), (hx_pk h h2).1, hp_bi0, if_pos y, i4, hp_bv7, hp_nm, hp_i1]
          have e8 : ∀ J, lp_X8_readText_58 (nI m) lows tape tops J (n + 1) (nI p) (-1) num ns no nr (nI b) (nI t) = lp_X8_readText_58 (nI m) lows tape tops J n (nI p') (-1) num' ns' no' nr (nI (b + 1)) (nI t) := by
            intro J
            rw [lp_X8_readText_58, if_neg cm, i5, hp_bi8, if_neg (by decide)]
          simp only [e7, e8]
          exact ih p' (k + 1) t (b + 1) num' sz' of' wo' st' ns' no' nr (by omega) i2 (by omega) h4 (by omega) i6 h7
        · refine Or.inr ⟨q, q1, ⟨at7, b', sz', of', wo', st', nr 0, nr 1, nr 2, nr 3, nr 4, fun J => ?_⟩, ⟨at8, n8, ns', no', nr, b8, nI t, fun J => ?_⟩⟩
          · rw [lp_X6_read_8, if_neg c4, hx_go hm h2, hp_bi0, hp_bt c, if_neg (by decide), (hx_pk h h2).1, hp_bi0, if_pos y, e7, hp_bv7, hp_nm]
            exact out q J _ _ _ _ _ _ _ _ _ _ _ _ _ q1
          · rw [lp_X8_readText_58, if_neg cm, e8, hp_bi8, if_pos rfl]
      · rcases hz_set h hl c y h4 num (nI b) ns no nr h7 with ⟨p', t', r, nr', num', i1, i2, i3, i4, i5, i6, i7⟩ | ⟨q, q1, ⟨r, at7, n1, n2, n3, n4, n5, e7⟩, ⟨at8, n8, ns', no', nr', b8, t8, e8⟩⟩
        · have e7 : ∀ J, lp_X6_read_8 (nI m) bytes J (n + 1) (nI t) (nI k) (nI p) (-1) (nI b) sz of wo st (nr 0) (nr 1) (nr 2) (nr 3) (nr 4) = lp_X6_read_8 (nI m) bytes J n (nI t') (nI (k + 1)) (nI p') (-1) (nI b) sz of wo st (nr' 0) (nr' 1) (nr' 2) (nr' 3) (nr' 4) := by
            intro J
            rw [lp_X6_read_8, if_neg c4, hx_go hm h2, hp_bi0, hp_bt c, if_neg (by decide), (hx_pk h h2).1, hp_bi0, if_neg y, i5, hp_bi7, hp_nm, hp_nm, hp_i1, i4]
          have e8 : ∀ J, lp_X8_readText_58 (nI m) lows tape tops J (n + 1) (nI p) (-1) num ns no nr (nI b) (nI t) = lp_X8_readText_58 (nI m) lows tape tops J n (nI p') (-1) num' ns no nr' (nI b) (nI t') := by
            intro J
            rw [lp_X8_readText_58, if_neg cm, i6, hp_bi8, if_neg (by decide)]
          simp only [e7, e8]
          exact ih p' (k + 1) t' b num' sz of wo st ns no nr' (by omega) i2 (by omega) i3 h5 h6 i7
        · refine Or.inr ⟨q, q1, ⟨at7, nI b, sz, of, wo, st, n1, n2, n3, n4, n5, fun J => ?_⟩, ⟨at8, n8, ns', no', nr', b8, t8, fun J => ?_⟩⟩
          · rw [lp_X6_read_8, if_neg c4, hx_go hm h2, hp_bi0, hp_bt c, if_neg (by decide), (hx_pk h h2).1, hp_bi0, if_neg y, e7, hp_bi7, hp_nm, hp_nm]
            exact out q J _ _ _ _ _ _ _ _ _ _ _ _ _ q1
          · rw [lp_X8_readText_58, if_neg cm, e8, hp_bi8, if_pos rfl]
    · have e : p = m := by omega
      subst e
      refine Or.inl ⟨t, b, num, sz, of, wo, st, ns, no, nr, h5, h6, h7, fun J => ?_, fun J => ?_⟩
      · rw [lp_X6_read_8]
        by_cases e : (400 : Int32) ≤ nI k
        · rw [if_pos e]
        · rw [if_neg e, hx_go hm h2, hp_bi0, hp_bf c, if_pos rfl]
      · rw [lp_X8_readText_58, if_pos ((hp_eI (by omega) (by omega)).mpr h2)]
