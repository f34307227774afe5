/-! TEXT FORM. The whole. -/
def hz_r5 (f : Nat → Int32) : Nat → Int32 := upd (upd (upd (upd (upd f 0 0) 1 0) 2 3) 3 0) 4 1
theorem hz_22 {J : (Nat → Int32) → Option (Int32 × Int32 × Int32 × Int32 × (Nat → Int32) × (Nat → Int32) × (Nat → Int32) × Int32 × Int32)} (n : Nat) (f : Nat → Int32) : lp_X8_readText_22 J (n + 6) 0 f = J (hz_r5 f) := by
  have st : ∀ (n k : Nat) (f : Nat → Int32), k < 5 → lp_X8_readText_22 J (n + 1) (nI k) f = lp_X8_readText_22 J n (nI (k + 1)) (upd f k (if nI k = 2 then 3 else if nI k = 4 then 1 else 0)) := by
    intro n k f hk
    rw [lp_X8_readText_22, if_neg (fun e => by have := (hp_eI (a := 5) (by omega) (by omega)).mp e; omega), hp_jn]
    rcases (show k = 0 ∨ k = 1 ∨ k = 2 ∨ k = 3 ∨ k = 4 by omega) with rfl | rfl | rfl | rfl | rfl <;> rfl
  rw [show (0 : Int32) = nI 0 from rfl, st (n + 5) 0 f (by omega), st (n + 4) 1 _ (by omega), st (n + 3) 2 _ (by omega), st (n + 2) 3 _ (by omega), st (n + 1) 4 _ (by omega), lp_X8_readText_22, if_pos (by decide)]
  rfl
def hz_w5 (f g : Nat → Int32) : Nat → Int32 := upd (upd (upd (upd (upd f 1 (g 0)) 2 (g 1)) 3 (g 2)) 4 (g 3)) 5 (g 4)
theorem hz_27 {g : Nat → Int32} {J : (Nat → Int32) → Option (Int32 × (Nat → Int32) × Int32 × Int32 × Int32 × Int32 × (Nat → Int32) × (Nat → Int32) × (Nat → Int32) × Int32 × Int32 × Int32)} (n : Nat) (f : Nat → Int32) : lp_X8_text_27 0 g J (n + 6) 0 f = J (hz_w5 f g) := by
  have st : ∀ (n k : Nat) (f : Nat → Int32), k < 5 → lp_X8_text_27 0 g J (n + 1) (nI k) f = lp_X8_text_27 0 g J n (nI (k + 1)) (upd f (1 + k) (g k)) := by
    intro n k f hk
    rw [lp_X8_text_27, if_neg (fun e => by have := (hp_eI (a := 5) (by omega) (by omega)).mp e; omega), hp_ck hk (by decide), hp_cl (by omega), show (1 : Int32) + nI k = nI (1 + k) from nI_add 1 k, hp_put0 (by omega), hp_bv1, hp_nm, hp_i1]
  rw [show (0 : Int32) = nI 0 from rfl] at *
  rw [st (n + 5) 0 f (by omega), st (n + 4) 1 _ (by omega), st (n + 3) 2 _ (by omega), st (n + 2) 3 _ (by omega), st (n + 1) 4 _ (by omega), lp_X8_text_27, if_pos (by decide)]
  rfl
theorem hz_53 {ns no : Nat → Int32} {b : Nat} (hb : b ≤ 12) : ∀ (n k j : Nat) (f : Nat → Int32), j + k = b → k < n →
    (∀ i, i < j → f (9 + i) = ns i ∧ f (21 + i) = no i ∧ f (33 + i) = ns i ∧ f (45 + i) = -1) →
    ∃ f', (∀ J, lp_X8_text_53 0 ns no (nI b) J n (nI j) f = J f') ∧ (∀ i, i < b → f' (9 + i) = ns i ∧ f' (21 + i) = no i ∧ f' (33 + i) = ns i ∧ f' (45 + i) = -1) ∧ (∀ i, i < 9 ∨ 57 ≤ i → f' i = f i) := by
  intro n
  induction n with
  | zero => intro k j f h1 h2; omega
  | succ n ih =>
    intro k j f h1 h2 h3
    by_cases c : b ≤ j
    · refine ⟨f, fun J => ?_, fun i hi => h3 i (by omega), fun i _ => rfl⟩
      rw [lp_X8_text_53, if_pos ((hp_eI (by omega) (by omega)).mpr c)]
    · obtain ⟨f', i1, i2, i3⟩ := ih (k - 1) (j + 1) (upd (upd (upd (upd f (9 + j) (ns j)) (21 + j) (no j)) (33 + j) (ns j)) (45 + j) (-1)) (by omega) (by omega) (fun i hi => by
        by_cases e : i = j
        · subst e
          refine ⟨?_, ?_, ?_, ?_⟩
          · rw [hp_un (by omega), hp_un (by omega), hp_un (by omega), hp_us]
          · rw [hp_un (by omega), hp_un (by omega), hp_us]
          · rw [hp_un (by omega), hp_us]
          · rw [hp_us]
        · obtain ⟨g1, g2, g3, g4⟩ := h3 i (by omega)
          refine ⟨?_, ?_, ?_, ?_⟩
          · rw [hp_un (by omega), hp_un (by omega), hp_un (by omega), hp_un (by omega)]; exact g1
          · rw [hp_un (by omega), hp_un (by omega), hp_un (by omega), hp_un (by omega)]; exact g2
          · rw [hp_un (by omega), hp_un (by omega), hp_un (by omega), hp_un (by omega)]; exact g3
          · rw [hp_un (by omega), hp_un (by omega), hp_un (by omega), hp_un (by omega)]; exact g4)
      refine ⟨f', fun J => ?_, i2, fun i hi => ?_⟩
      · rw [lp_X8_text_53, if_neg (fun e => c ((hp_eI (by omega) (by omega)).mp e)), hp_ck (show j < 12 by omega) (by decide), hp_ck (show j < 12 by omega) (by decide), hp_cl (by omega)]
        unfold pf_X8_layBit
        rw [hp_a9, hp_put0 (by omega), hp_bv1, hp_a21, hp_put0 (by omega), hp_bv1, hp_a33, hp_put0 (by omega), hp_bv1, hp_a45, hp_put0 (by omega), hp_bv1, hp_bv1, hp_nm, hp_i1]
        exact i1 J
      · rw [i3 i hi, hp_un (by omega), hp_un (by omega), hp_un (by omega), hp_un (by omega)]
theorem hz_lim {lows tops nr : Nat → Int32} (hl : hp_lims lows tops) (hb : hz_B lows tops nr) : (-99 ≤ (nr 0).toInt ∧ (nr 0).toInt ≤ 99) ∧ (0 ≤ (nr 1).toInt ∧ (nr 1).toInt ≤ 50) ∧ (0 ≤ (nr 2).toInt ∧ (nr 2).toInt ≤ 3) ∧ (0 ≤ (nr 3).toInt ∧ (nr 3).toInt ≤ 20) ∧ (1 ≤ (nr 4).toInt ∧ (nr 4).toInt ≤ 64) := by
  obtain ⟨l0, t0, l1, t1, l2, t2, l3, t3, l4, t4⟩ := hl
  have b0 := hb 0 (by omega)
  have b1 := hb 1 (by omega)
  have b2 := hb 2 (by omega)
  have b3 := hb 3 (by omega)
  have b4 := hb 4 (by omega)
  rw [hp_le, hp_le, l0, t0] at b0
  rw [hp_le, hp_le, l1, t1] at b1
  rw [hp_le, hp_le, l2, t2] at b2
  rw [hp_le, hp_le, l3, t3] at b3
  rw [hp_le, hp_le, l4, t4] at b4
  exact ⟨b0, b1, b2, b3, b4⟩
/-- the converter that a text form makes -/
def hz_C (c : Nat → Int32) (b : Nat) (nr : Nat → Int32) : Nat → Int32 := upd (hp_c5 (upd c 0 (nI b)) (nr 0) (nr 1) (nr 2) (nr 3) (nr 4)) 16 0
def hz_A (A : Nat → Nat → Int32) (f1 f2 f3 f4 : Nat → Int32) : Nat → Nat → Int32 := hp_ua (hp_ua (hp_ua (hp_ua A 1 f1) 2 f2) 3 f3) 4 f4
theorem op_text {b : Nat} {c : Nat → Int32} {A : Nat → Nat → Int32} {all lows tops bytes tape : Nat → Int32} {cnt taped : Int32} (h : hp_RC b c A all 0) (hx : hp_TP bytes tape cnt taped) (hl : hp_lims lows tops) (sz of wo st : Nat → Int32) (lb num was : Int32) (ns no nr : Nat → Int32) :
    (∃ (q ab n1 n2 n3 n4 n5 at7 : Int32) (sz' of' wo' st' : Nat → Int32) (at8 n8 : Int32) (ns' no' nr' : Nat → Int32) (b8 t8 : Int32),
      pf_X7_text sz of wo st lb (c 0) (A 1) (A 2) (A 3) (A 4) (c 5) (c 6) (c 7) (c 8) (c 9) (c 16) bytes cnt = some (-1, q, ab, sz', of', wo', st', n1, n2, n3, n4, n5, lb, c 0, A 1, A 2, A 3, A 4, c 5, c 6, c 7, c 8, c 9, c 16, 0, at7, q) ∧
      pf_X8_text all 0 tape taped num lows tops ns no nr was = some (-1, all, 0, at8, q, n8, ns', no', nr', b8, t8, was)) ∨
    (∃ (b' : Nat) (nr' : Nat → Int32) (at7 : Int32) (sz' of' wo' st' f1 f2 f3 f4 : Nat → Int32) (all' : Nat → Int32) (at8 n8 : Int32) (ns' no' : Nat → Int32) (t8 : Int32),
      pf_X7_text sz of wo st lb (c 0) (A 1) (A 2) (A 3) (A 4) (c 5) (c 6) (c 7) (c 8) (c 9) (c 16) bytes cnt = some (nI b', -1, nI b', sz', of', wo', st', nr' 0, nr' 1, nr' 2, nr' 3, nr' 4, 0, nI b', f1, f2, f3, f4, nr' 0, nr' 1, nr' 2, nr' 3, nr' 4, 0, 0, at7, -1) ∧
      pf_X8_text all 0 tape taped num lows tops ns no nr was = some (nI b', all', 0, at8, -1, n8, ns', no', nr', nI b', t8, 0) ∧
      hp_RC b' (hz_C c b' nr') (hz_A A f1 f2 f3 f4) all' 0 ∧ hp_CI b' (hz_C c b' nr') (hz_A A f1 f2 f3 f4) ∧ hp_RS (hz_C c b' nr') (hz_A A f1 f2 f3 f4) all' 0 ∧ (∀ i, 74 ≤ i → all' i = all i)) := by
  obtain ⟨m, hm, rfl, rfl, hb⟩ := hx
  have hB : hx_B bytes tape m := ⟨hm, hb⟩
  have hF : 500 < FU := by unfold FU; omega
  have hr0 : hz_B lows tops (hz_r5 nr) := by
    obtain ⟨l0, t0, l1, t1, l2, t2, l3, t3, l4, t4⟩ := hl
    intro r hr
    rcases (show r = 0 ∨ r = 1 ∨ r = 2 ∨ r = 3 ∨ r = 4 by omega) with rfl | rfl | rfl | rfl | rfl
    · rw [l0, t0]; exact ⟨show (-99 : Int32) ≤ 0 by decide, show (0 : Int32) ≤ 99 by decide⟩
    · rw [l1, t1]; exact ⟨show (0 : Int32) ≤ 0 by decide, show (0 : Int32) ≤ 50 by decide⟩
    · rw [l2, t2]; exact ⟨show (0 : Int32) ≤ 3 by decide, show (3 : Int32) ≤ 3 by decide⟩
    · rw [l3, t3]; exact ⟨show (0 : Int32) ≤ 0 by decide, show (0 : Int32) ≤ 20 by decide⟩
    · rw [l4, t4]; exact ⟨show (1 : Int32) ≤ 1 by decide, show (1 : Int32) ≤ 64 by decide⟩
  have L := hz_loop hB hl FU 0 0 0 0 num sz of wo st ns no (hz_r5 nr) (by omega) (by omega) (by omega) (by omega) (by omega) (fun i hi => by omega) hr0
  have L53 := fun (b' : Nat) (hb' : b' ≤ 12) (ns' no' f : Nat → Int32) => hz_53 (ns := ns') (no := no') hb' FU b' 0 f (by omega) (by omega) (fun i hi => by omega)
  unfold pf_X7_text pf_X8_text pf_X6_read pf_X8_readText pf_X7_leaveTape
  generalize FU = F at *
  obtain ⟨G, rfl⟩ : ∃ g, F = g + 6 := ⟨F - 6, by omega⟩
  rw [show pf_X2_clear = some (0, 0, 0, 3, 0, 1) from rfl, hp_bv6, show pf_X5_rewind = some (0, -1) from rfl, hp_bv2, hp_jn, hp_jn, hz_22]
  rw [hp_jn]
  rcases L with ⟨t', b', num', sz', of', wo', st', ns', no', nr', i1, i2, i3, e7, e8⟩ | ⟨q, q1, ⟨at7, b7, sz', of', wo', st', n1, n2, n3, n4, n5, e7⟩, ⟨at8, n8, ns', no', nr', b8, t8, e8⟩⟩
  · have e7 : ∀ J, lp_X6_read_8 (nI m) bytes J (G + 6) 0 0 0 (-1) 0 sz of wo st 0 0 3 0 1 = J (nI m) (-1) (nI b') sz' of' wo' st' (nr' 0) (nr' 1) (nr' 2) (nr' 3) (nr' 4) := e7
    have e8 : ∀ J, lp_X8_readText_58 (nI m) lows tape tops J (G + 6) 0 (-1) num ns no (hz_r5 nr) 0 0 = J (nI m) (-1) num' ns' no' nr' (nI b') (nI t') := e8
    rw [e7, e8]
    by_cases c2 : 2 ≤ b'
    · right
      have t2 : (2 : Int32) ≤ nI b' := (hp_eI (a := 2) (by omega) (by omega)).mpr c2
      have t1 : (1 : Int32) < nI b' := by rw [hp_lt, hp_nT (by omega), show (1 : Int32).toInt = 1 from by decide]; omega
      rw [if_pos t2, if_pos t1, hp_bv12, if_pos rfl, hp_bi2, if_neg (show ¬ (1 : Int32) = 0 by decide), hp_bi8, if_neg (show ¬ (1 : Int32) = 0 by decide)]
      unfold pf_X2_takeForm
      obtain ⟨f', w1, w2, w3⟩ := L53 b' i1 ns' no' (hz_w5 (upd all 0 (nI b')) nr')
      rw [hp_bv10, show pf_X8_put 0 (nI b') all 0 = some (upd all 0 (nI b')) from hp_put0 (a := 0) (by omega), hp_bv1, hp_jn, hz_27]
      rw [hp_jn]
      have w1 : ∀ J, lp_X8_text_53 0 ns' no' (nI b') J (G + 6) 0 (hz_w5 (upd all 0 (nI b')) nr') = J f' := w1
      rw [w1, show pf_X8_put 57 0 f' 0 = some (upd f' 57 0) from hp_put0 (a := 57) (by omega), hp_bv1]
      refine ⟨b', nr', _, _, _, _, _, _, _, _, _, _, _, _, _, _, _, rfl, rfl, ?_, ?_, ?_, ?_⟩
      · refine ⟨rfl, ?_, i1, Or.inr c2, ⟨?_, ?_, ?_, ?_, ?_, ?_, ?_, ?_⟩, fun i hi => ?_⟩
        · rw [hp_un (by omega), w3 0 (by omega)]; rfl
        · rw [hp_un (by omega), w3 (0 + 1) (by omega)]; rfl
        · rw [hp_un (by omega), w3 (0 + 2) (by omega)]; rfl
        · rw [hp_un (by omega), w3 (0 + 3) (by omega)]; rfl
        · rw [hp_un (by omega), w3 (0 + 4) (by omega)]; rfl
        · rw [hp_un (by omega), w3 (0 + 5) (by omega)]; rfl
        · rw [hp_un (by omega), w3 (0 + 6) (by omega)]; exact h.2.2.2.2.1.2.2.2.2.2.1
        · rw [hp_un (by omega), w3 (0 + 7) (by omega)]; exact h.2.2.2.2.1.2.2.2.2.2.2.1
        · rw [hp_un (by omega), w3 (0 + 8) (by omega)]; exact h.2.2.2.2.1.2.2.2.2.2.2.2
        · obtain ⟨u1, u2, u3, u4⟩ := w2 i hi
          obtain ⟨v1, v2, v3, v4, -⟩ := i2 i hi
          have cp : ∀ f g : Nat → Int32, va_cpy f g 0 0 12 i = f i := fun f g => by
            rw [pk_cpy_in (by omega) (by omega)]; simp
          refine ⟨?_, ?_, ?_, ?_⟩
          · rw [hp_un (by omega), Nat.zero_add, u1]; exact (v1.symm.trans (cp sz' _).symm)
          · rw [hp_un (by omega), Nat.zero_add, u2]; exact (v2.symm.trans (cp of' _).symm)
          · rw [hp_un (by omega), Nat.zero_add, u3]; exact (v3.symm.trans (cp wo' _).symm)
          · rw [hp_un (by omega), Nat.zero_add, u4]; exact (v4.symm.trans (cp st' _).symm)
      · obtain ⟨k0, k1, k2, k3, k4⟩ := hz_lim hl i3
        refine ⟨k0, k1, k2, k3, k4, fun i hi => ?_⟩
        obtain ⟨v1, v2, v3, v4, v5, v6, v7⟩ := i2 i hi
        have cp : ∀ f g : Nat → Int32, va_cpy f g 0 0 12 i = f i := fun f g => by
          rw [pk_cpy_in (by omega) (by omega)]; simp
        show (1 ≤ (va_cpy sz' (A 1) 0 0 12 i).toInt ∧ (va_cpy sz' (A 1) 0 0 12 i).toInt ≤ 9999) ∧ (-99 ≤ (va_cpy of' (A 2) 0 0 12 i).toInt ∧ (va_cpy of' (A 2) 0 0 12 i).toInt ≤ 120) ∧ 1 ≤ (va_cpy sz' (A 1) 0 0 12 i).toInt + (va_cpy of' (A 2) 0 0 12 i).toInt ∧ (0 ≤ (va_cpy wo' (A 3) 0 0 12 i).toInt ∧ (va_cpy wo' (A 3) 0 0 12 i).toInt ≤ 9999 * 2 ^ i) ∧ (va_cpy st' (A 4) 0 0 12 i = -1 ∨ va_cpy st' (A 4) 0 0 12 i = 0 ∨ va_cpy st' (A 4) 0 0 12 i = 1)
        rw [cp, cp, cp, cp, v1, v2, v3, v4]
        have e2 : (1 : Int) ≤ 2 ^ i := by
          have : 1 ≤ 2 ^ i := Nat.one_le_two_pow
          exact_mod_cast this
        exact ⟨v5, ⟨by omega, by omega⟩, v7, ⟨by omega, by omega⟩, Or.inl rfl⟩
      · refine ⟨0, by omega, rfl, ?_, fun i hi => by omega⟩
        rw [Nat.zero_add, hp_us]; rfl
      · intro i hi
        rw [hp_un (by omega), w3 i (by omega)]
        unfold hz_w5
        rw [hp_un (by omega), hp_un (by omega), hp_un (by omega), hp_un (by omega), hp_un (by omega), hp_un (by omega)]
    · left
      have t2 : ¬ (2 : Int32) ≤ nI b' := fun e => c2 ((hp_eI (a := 2) (by omega) (by omega)).mp e)
      have t1 : ¬ (1 : Int32) < nI b' := by rw [hp_lt, hp_nT (by omega), show (1 : Int32).toInt = 1 from by decide]; omega
      rw [if_neg t2, if_neg t1, hx_bl, hp_bv1, hp_bv12, if_neg (hx_nq m (by omega)), hp_bi2, if_pos rfl]
      unfold pf_X8_fails
      rw [hp_bi1, if_pos rfl, hp_bi8, if_pos rfl]
      exact ⟨_, _, _, _, _, _, _, _, _, _, _, _, _, _, _, _, _, _, _, rfl, rfl⟩
  · left
    have e7 : ∀ J, lp_X6_read_8 (nI m) bytes J (G + 6) 0 0 0 (-1) 0 sz of wo st 0 0 3 0 1 = J at7 (nI q) b7 sz' of' wo' st' n1 n2 n3 n4 n5 := e7
    have e8 : ∀ J, lp_X8_readText_58 (nI m) lows tape tops J (G + 6) 0 (-1) num ns no (hz_r5 nr) 0 0 = some (0, at8, nI q, n8, ns', no', nr', b8, t8) := e8
    rw [e7, e8, hp_bi8, if_pos rfl]
    by_cases c2 : 2 ≤ b7
    · rw [if_pos c2, hp_bv12, if_neg (hx_nq q (by omega)), hp_bi2, if_pos rfl]
      exact ⟨_, _, _, _, _, _, _, _, _, _, _, _, _, _, _, _, _, _, _, rfl, rfl⟩
    · rw [if_neg c2, hx_blf (show q ≤ 400 by omega), hp_bv1, hp_bv12, if_neg (hx_nq q (by omega)), hp_bi2, if_pos rfl]
      exact ⟨_, _, _, _, _, _, _, _, _, _, _, _, _, _, _, _, _, _, _, rfl, rfl⟩
