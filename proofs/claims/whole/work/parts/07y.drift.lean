/-! DRIFT, read: SUMS, choices, THINGS. -/
theorem hk_sl {J : hk_JT} {m F o : Nat} {bytes tape : Nat → Int32} {TT : hk_TT} (h : hx_B bytes tape m) (ho : o ≤ 8) (hU : hk_U J m F bytes tape (pf_X3_readProduct TT (nI (o + 1))) o (fun a _ c => ¬ a = 3 ∧ c = 0) (fun p' => ¬ hk_s1 (hx_y bytes m p'))) {op0 st0 sg0 ss0 ps0 : Nat → Int32} (h3 : ¬ op0 o = 3) (hss0 : ss0 o = 0) (hps0 : ps0 o = 0) {N0 T0 p0 H0 : Nat} {X : hk_X} (hN0 : N0 ≤ 2 * T0) (hH0 : H0 ≤ T0) :
    ∀ (n c : Nat) (kd vl dg : Nat → Int32) (N T p : Nat) (op st sg ss ps : Nat → Int32) (num : Int32), m - p < n → c ≤ p → p ≤ m → p0 < p → T0 < T → T ≤ 40 → N + 1 ≤ N0 + 2 * (T - T0) → ¬ hk_s1 (hx_y bytes m p) → hk_P kd vl dg N (H0 + 1) → hk_a o op0 st0 sg0 ss0 ps0 op st sg ss ps → (∀ g, o < g → X = hk_G J m F tape g p dg N T num op st sg ss ps o) →
    hk_ok J m F tape o op0 st0 sg0 ss0 ps0 N0 T0 p0 H0 X (lp_X3_readSum_8 TT (nI (o + 1)) (nI m) bytes n (nI c) kd vl (nI N) (nI T) (nI p) (-1)) (fun p' => ¬ hk_s1 (hx_y bytes m p') ∧ ¬ hk_s2 (hx_y bytes m p')) := by
  have hm := h.1
  intro n
  induction n with
  | zero => intro c kd vl dg N T p op st sg ss ps num h1; omega
  | succ n ih =>
    intro c kd vl dg N T p op st sg ss ps num h1 h2 hp hpp hTT hT hN hy1 hP ha hX
    obtain ⟨a1, -, -, a4, a5⟩ := ha o (Nat.le_refl o)
    rw [hps0] at a5
    rw [hss0] at a4
    have stop : ¬ hk_s2 (hx_y bytes m p) → hk_ok J m F tape o op0 st0 sg0 ss0 ps0 N0 T0 p0 H0 X (some (kd, vl, nI N, nI T, nI p, -1)) (fun p' => ¬ hk_s1 (hx_y bytes m p') ∧ ¬ hk_s2 (hx_y bytes m p')) := fun hy =>
      ⟨kd, vl, N, T, p, -1, rfl, hp, by omega, Or.inl ⟨rfl, hpp, hTT, hT, hN, ⟨hy1, hy⟩, dg, op, st, sg, ss, ps, num, hP, ha, hX⟩⟩
    rw [lp_X3_readSum_8]
    by_cases c4 : (400 : Int32) ≤ nI c
    · rw [if_pos c4]
      refine stop (fun hy => ?_)
      have := (hp_eI (a := 400) (by omega) (by omega)).mp c4
      obtain ⟨d, -, -, -, d4⟩ := hk_s2d hy
      have := hx_yn h d4 rfl
      omega
    · rw [if_neg c4, hx_go hm hp, hp_bi0]
      by_cases cp : p < m
      · rw [hp_bt cp, if_neg (by decide), (hx_pk h hp).1, hp_bi0, hp_jn]
        by_cases hy : hk_s2 (hx_y bytes m p)
        · obtain ⟨d, d1, d2, d3, d4⟩ := hk_s2d hy
          have hX1 : X = hk_R J m F tape (p + 1) dg N T num op st sg (upd ss o (hx_y bytes m p)) ps o := by
            rw [hX (o + 1) (by omega), hk_Gu h hp (by omega) (by rw [a1]; exact h3) a5 a4 hy1 hy]
          have u := hU kd vl dg N T (p + 1) (H0 + 1) op st sg (upd ss o (hx_y bytes m p)) ps num (by omega) (by omega) hT (by omega) hP ⟨by rw [a1]; exact h3, a5⟩
          obtain ⟨kd1, vl1, N1, T1, p1, flt, u1, u2, u3, u4⟩ := u
          have go : (if hx_y bytes m p = 43 then (nm (nI p + 1) fun x16 => bv_6 (pf_X3_readProduct TT (nI (o + 1)) kd vl (nI N) (nI T) bytes (nI m) x16 (-1)) fun f17 f18 x19 x20 x21 x22 => bv_3 (pf_X3_add (hx_y bytes m p) 0 f17 f18 x19) fun f23 f24 x25 => nm (nI c + 1) fun x26 => lp_X3_readSum_8 TT (nI (o + 1)) (nI m) bytes n x26 f23 f24 x25 x20 x21 x22) else if hx_y bytes m p = 45 then (nm (nI p + 1) fun x16 => bv_6 (pf_X3_readProduct TT (nI (o + 1)) kd vl (nI N) (nI T) bytes (nI m) x16 (-1)) fun f17 f18 x19 x20 x21 x22 => bv_3 (pf_X3_add (hx_y bytes m p) 0 f17 f18 x19) fun f23 f24 x25 => nm (nI c + 1) fun x26 => lp_X3_readSum_8 TT (nI (o + 1)) (nI m) bytes n x26 f23 f24 x25 x20 x21 x22) else some (kd, vl, nI N, nI T, nI p, -1)) = bv_3 (pf_X3_add (hx_y bytes m p) 0 kd1 vl1 (nI N1)) fun f23 f24 x25 => lp_X3_readSum_8 TT (nI (o + 1)) (nI m) bytes n (nI (c + 1)) f23 f24 x25 (nI T1) (nI p1) flt := by
            have e : (nm (nI p + 1) fun x16 => bv_6 (pf_X3_readProduct TT (nI (o + 1)) kd vl (nI N) (nI T) bytes (nI m) x16 (-1)) fun f17 f18 x19 x20 x21 x22 => bv_3 (pf_X3_add (hx_y bytes m p) 0 f17 f18 x19) fun f23 f24 x25 => nm (nI c + 1) fun x26 => lp_X3_readSum_8 TT (nI (o + 1)) (nI m) bytes n x26 f23 f24 x25 x20 x21 x22) = bv_3 (pf_X3_add (hx_y bytes m p) 0 kd1 vl1 (nI N1)) fun f23 f24 x25 => lp_X3_readSum_8 TT (nI (o + 1)) (nI m) bytes n (nI (c + 1)) f23 f24 x25 (nI T1) (nI p1) flt := by
              rw [hp_nm, hp_i1, u1, hp_bv6]
              simp only [hp_nm, hp_i1]
            rw [e]
            by_cases y2 : hx_y bytes m p = 43
            · rw [if_pos y2]
            · rw [if_neg y2]
              rcases hy with y | y | y
              · exact absurd y y2
              · rw [if_pos y]
              · exact absurd y y2
          rw [go]
          rcases u4 with ⟨f1, f2, f3, f4, f5, fq, dg1, op1, st1, sg1, ss1, ps1, num1, f6, f7, f8⟩ | ⟨q, a, z, f1, f2, f3⟩
          · subst f1
            obtain ⟨b1, -, -, b4, b5⟩ := f7 o (Nat.le_refl o)
            rw [hp_us] at b4
            rw [hk_ad _ _ _ _ (show N1 < 80 by omega), hp_bv3]
            refine ih (c + 1) _ _ (upd dg1 N1 d) (N1 + 1) T1 p1 op1 st1 sg1 (upd ss1 o 0) ps1 num1 (by omega) (by omega) u2 (by omega) (by omega) f4 (by omega) fq (hk_Pa f6 (Or.inr (Or.inr (Or.inl ⟨d2, by omega, by omega⟩)))) (fun i hi => ?_) (fun g hg => ?_)
            · obtain ⟨x1, x2, x3, x4, x5⟩ := f7 i hi
              obtain ⟨w1, w2, w3, w4, w5⟩ := ha i hi
              refine ⟨x1.trans w1, x2.trans w2, x3.trans w3, ?_, x5.trans w5⟩
              by_cases e : i = o
              · subst e; rw [hp_us, hss0]
              · rw [hp_un e, x4, hp_un e, w4]
            · obtain ⟨g', rfl⟩ : ∃ g', g = g' + 1 := ⟨g - 1, by omega⟩
              rw [hX1, f8 (g' + 1) hg]
              exact hk_Gs h u2 (by omega) (by rw [b1, a1]; exact h3) (by omega) (b5.trans a5) fq (by rw [b4]; exact d3) (by rw [b4]; exact d1)
          · subst f2
            obtain ⟨kd2, vl2, N2, e1, e2⟩ := hk_adx (hx_y bytes m p) 0 kd1 vl1 u3
            obtain ⟨n', rfl⟩ : ∃ n', n = n' + 1 := ⟨n - 1, by omega⟩
            rw [e2, hp_bv3, lp_X3_readSum_8]
            refine ⟨kd2, vl2, N2, T1, p1, nI q, ?_, u2, e1, Or.inr ⟨q, a, z, f1, rfl, by rw [hX1]; exact f3⟩⟩
            rw [hx_gof (by omega), hp_bi0, if_pos rfl]
            split <;> rfl
        · rw [if_neg (fun e => hy (Or.inl e)), if_neg (fun e => hy (Or.inr (Or.inl e)))]
          exact stop hy
      · rw [hp_bf cp, if_pos rfl]
        refine stop (fun hy => ?_)
        obtain ⟨d, -, -, -, d4⟩ := hk_s2d hy
        exact cp (hx_yn h d4 rfl)
theorem hk_sm {J : hk_JT} {m F o : Nat} {bytes tape : Nat → Int32} {TT : hk_TT} (h : hx_B bytes tape m) (ho : o ≤ 8) (hU : hk_U J m F bytes tape (pf_X3_readProduct TT (nI (o + 1))) o (fun a _ c => ¬ a = 3 ∧ c = 0) (fun p' => ¬ hk_s1 (hx_y bytes m p'))) :
    hk_U J m F bytes tape (pf_X3_readSum TT (nI (o + 1))) o (fun a b c => ¬ a = 3 ∧ b = 0 ∧ c = 0) (fun p' => ¬ hk_s1 (hx_y bytes m p') ∧ ¬ hk_s2 (hx_y bytes m p')) := by
  have hF : 402 < FU := by unfold FU; omega
  have hm := h.1
  intro kd vl dg N T p H op st sg ss ps num hp hN hT hH hP hpre
  obtain ⟨kd1, vl1, N1, T1, p1, flt, u1, u2, u3, u4⟩ := hU kd vl dg N T p H op st sg ss ps num hp hN hT hH hP ⟨hpre.1, hpre.2.2⟩
  unfold pf_X3_readSum
  rw [u1, hp_bv6]
  rcases u4 with ⟨f1, f2, f3, f4, f5, fq, dg1, op1, st1, sg1, ss1, ps1, num1, f6, f7, f8⟩ | ⟨q, a, z, f1, f2, f3⟩
  · subst f1
    exact hk_sl h ho hU hpre.1 hpre.2.1 hpre.2.2 hN hH FU 0 kd1 vl1 dg1 N1 T1 p1 op1 st1 sg1 ss1 ps1 num1 (by omega) (by omega) u2 f2 f3 f4 f5 fq f6 f7 f8
  · subst f2
    obtain ⟨F', hF'⟩ : ∃ F', FU = F' + 1 := ⟨FU - 1, by omega⟩
    rw [hF', lp_X3_readSum_8]
    refine ⟨kd1, vl1, N1, T1, p1, nI q, ?_, u2, u3, Or.inr ⟨q, a, z, f1, rfl, f3⟩⟩
    rw [hx_gof (by omega), hp_bi0, if_pos rfl]
    split <;> rfl
theorem hk_smV {m : Nat} {bytes : Nat → Int32} {TT : hk_TT} {d : Int32} (hm : m ≤ 400) (hV : hk_V m bytes (pf_X3_readProduct TT d)) : hk_V m bytes (pf_X3_readSum TT d) := by
  have hF : 402 < FU := by unfold FU; omega
  intro kd vl N p q T hN hp hq
  obtain ⟨kd1, vl1, N1, e1, e2⟩ := hV kd vl N p q T hN hp hq
  unfold pf_X3_readSum
  obtain ⟨F', hF'⟩ : ∃ F', FU = F' + 1 := ⟨FU - 1, by omega⟩
  rw [e2, hp_bv6, hF', lp_X3_readSum_8]
  refine ⟨kd1, vl1, N1, e1, ?_⟩
  rw [hx_gof (by omega), hp_bi0, if_pos rfl]
  split <;> rfl
/-- a fault told by the machine -/
def hk_Jf (J : hk_JT) : Prop := ∀ (q : Nat), q ≤ 400 → ∀ (a num : Int32) (dg : Nat → Int32) (N T : Int32) (op st sg ss ps : Nat → Int32) (o : Int32), ∃ z : hk_Z, J a (nI q) num dg N T op st sg ss ps o = some (0, a, nI q, z)
theorem hk_fl {J : hk_JT} {m : Nat} {tape : Nat → Int32} (hJ : hk_Jf J) {n q : Nat} (hn : 1 ≤ n) (hq : q ≤ 400) (a num : Int32) (dg : Nat → Int32) (N T : Int32) (op st sg ss ps : Nat → Int32) (o : Int32) : ∃ z : hk_Z, lp_X8_readDrift_43 (nI m) tape J n 0 a (nI q) num dg N T op st sg ss ps o = some (0, a, nI q, z) := by
  obtain ⟨n, rfl⟩ : ∃ k, n = k + 1 := ⟨n - 1, by omega⟩
  rw [lp_X8_readDrift_43, if_pos rfl]
  exact hJ q hq a num dg N T op st sg ss ps o
/-- a choice -/
theorem hk_ch {J : hk_JT} {m F o : Nat} {bytes tape : Nat → Int32} {TT : hk_TT} (h : hx_B bytes tape m) (hJ : hk_Jf J) (hF : 60 ≤ F) (ho : o + 1 ≤ 8) (hU : hk_U J m F bytes tape (pf_X3_readSum TT (nI (o + 2))) (o + 1) (fun a b c => ¬ a = 3 ∧ b = 0 ∧ c = 0) (fun p' => ¬ hk_s1 (hx_y bytes m p') ∧ ¬ hk_s2 (hx_y bytes m p'))) (hV : hk_V m bytes (pf_X3_readSum TT (nI (o + 2))))
    (kd vl dg : Nat → Int32) (N T p H : Nat) (op st sg ss ps : Nat → Int32) (num : Int32) (hp : p ≤ m) (hN : N + 1 ≤ 2 * T) (hT : T ≤ 40) (hH : H + 1 ≤ T) (hP : hk_P kd vl dg N H) (h2 : op (o + 1) = 2) (hst : st (o + 1) = 0) (hss : ss (o + 1) = 0) (hps : ps (o + 1) = 0) :
    hk_ok J m F tape o op st sg ss ps (N + 1) T p H (hk_R J m F tape p dg N T num op st sg ss ps (o + 1)) (pf_X3_readChoice TT (nI (o + 2)) kd vl (nI N) (nI T) bytes (nI m) (nI p) (-1)) (fun _ => True) := by
  have hm := h.1
  have n23 : ¬ (2 : Int32) = 3 := by decide
  -- behind a fault
  have v4 : ∀ (r7 : Int32) (kd vl : Nat → Int32) (N p q : Nat) (T : Int32), N ≤ 80 → p ≤ m → q ≤ m → ∃ kd' vl' N', N' ≤ 80 ∧ (bv_2 (pf_X5_needs 93 bytes (nI m) (nI p) (nI q)) fun x34 x35 => bv_3 (pf_X3_add r7 0 kd vl (nI N)) fun f36 f37 x38 => some (f36, f37, x38, T, x34, x35)) = some (kd', vl', nI N', T, nI p, nI q) := by
    intro r7 kd vl N p q T hN hp hq
    obtain ⟨kd2, vl2, N2, e1, e2⟩ := hk_adx r7 0 kd vl hN
    rw [hx_nef (by omega), hp_bv2, e2, hp_bv3]
    exact ⟨_, _, N2, e1, rfl⟩
  have v3 : ∀ (r7 : Int32) (kd vl : Nat → Int32) (N p q : Nat) (T : Int32), N ≤ 80 → p ≤ m → q ≤ m → ∃ kd' vl' N', N' ≤ 80 ∧ (bv_2 (pf_X5_needs 58 bytes (nI m) (nI p) (nI q)) fun x26 x27 => bv_6 (pf_X3_readSum TT (nI (o + 2)) kd vl (nI N) T bytes (nI m) x26 x27) fun f28 f29 x30 x31 x32 x33 => bv_2 (pf_X5_needs 93 bytes (nI m) x32 x33) fun x34 x35 => bv_3 (pf_X3_add r7 0 f28 f29 x30) fun f36 f37 x38 => some (f36, f37, x38, x31, x34, x35)) = some (kd', vl', nI N', T, nI p, nI q) := by
    intro r7 kd vl N p q T hN hp hq
    obtain ⟨kd2, vl2, N2, e1, e2⟩ := hV kd vl N p q T hN hp hq
    rw [hx_nef (by omega), hp_bv2, e2, hp_bv6]
    exact v4 r7 kd2 vl2 N2 p q T e1 hp hq
  have v2 : ∀ (r7 : Int32) (kd vl : Nat → Int32) (N p q : Nat) (T : Int32), N ≤ 80 → p ≤ m → q ≤ m → ∃ kd' vl' N', N' ≤ 80 ∧ (bv_2 (pf_X5_needs 63 bytes (nI m) (nI p) (nI q)) fun x18 x19 => bv_6 (pf_X3_readSum TT (nI (o + 2)) kd vl (nI N) T bytes (nI m) x18 x19) fun f20 f21 x22 x23 x24 x25 => bv_2 (pf_X5_needs 58 bytes (nI m) x24 x25) fun x26 x27 => bv_6 (pf_X3_readSum TT (nI (o + 2)) f20 f21 x22 x23 bytes (nI m) x26 x27) fun f28 f29 x30 x31 x32 x33 => bv_2 (pf_X5_needs 93 bytes (nI m) x32 x33) fun x34 x35 => bv_3 (pf_X3_add r7 0 f28 f29 x30) fun f36 f37 x38 => some (f36, f37, x38, x31, x34, x35)) = some (kd', vl', nI N', T, nI p, nI q) := by
    intro r7 kd vl N p q T hN hp hq
    obtain ⟨kd2, vl2, N2, e1, e2⟩ := hV kd vl N p q T hN hp hq
    rw [hx_nef (by omega), hp_bv2, e2, hp_bv6]
    exact v3 r7 kd2 vl2 N2 p q T e1 hp hq
  have v1 : ∀ (r7 : Int32) (kd vl : Nat → Int32) (N p q : Nat) (T : Int32), N ≤ 80 → p ≤ m → q ≤ m → ∃ kd' vl' N', N' ≤ 80 ∧ (bv_6 (pf_X3_readSum TT (nI (o + 2)) kd vl (nI N) T bytes (nI m) (nI p) (nI q)) fun f12 f13 x14 x15 x16 x17 => bv_2 (pf_X5_needs 63 bytes (nI m) x16 x17) fun x18 x19 => bv_6 (pf_X3_readSum TT (nI (o + 2)) f12 f13 x14 x15 bytes (nI m) x18 x19) fun f20 f21 x22 x23 x24 x25 => bv_2 (pf_X5_needs 58 bytes (nI m) x24 x25) fun x26 x27 => bv_6 (pf_X3_readSum TT (nI (o + 2)) f20 f21 x22 x23 bytes (nI m) x26 x27) fun f28 f29 x30 x31 x32 x33 => bv_2 (pf_X5_needs 93 bytes (nI m) x32 x33) fun x34 x35 => bv_3 (pf_X3_add r7 0 f28 f29 x30) fun f36 f37 x38 => some (f36, f37, x38, x31, x34, x35)) = some (kd', vl', nI N', T, nI p, nI q) := by
    intro r7 kd vl N p q T hN hp hq
    obtain ⟨kd2, vl2, N2, e1, e2⟩ := hV kd vl N p q T hN hp hq
    rw [e2, hp_bv6]
    exact v2 r7 kd2 vl2 N2 p q T e1 hp hq
  have flt : ∀ (X : hk_X) (r : hk_6) (T1 p1 q : Nat), p1 ≤ m → q ≤ m → (∃ kd' vl' N', N' ≤ 80 ∧ r = some (kd', vl', nI N', nI T1, nI p1, nI q)) → (∃ (a : Int32) (z : hk_Z), X = some (0, a, nI q, z)) → hk_ok J m F tape o op st sg ss ps (N + 1) T p H X r (fun _ => True) := by
    intro X r T1 p1 q h1 h2 h3 h4
    obtain ⟨kd', vl', N', e1, e2⟩ := h3
    obtain ⟨a, z, e3⟩ := h4
    exact ⟨kd', vl', N', T1, p1, nI q, e2, h1, e1, Or.inr ⟨q, a, z, h2, rfl, e3⟩⟩
  unfold pf_X3_readChoice
  obtain ⟨kd1, vl1, N1, T1, p1, flt1, u1, u2, u3, u4⟩ := hU kd vl dg N T p H op st sg ss ps num hp (by omega) hT (by omega) hP ⟨by rw [h2]; exact n23, hss, hps⟩
  rw [u1, hp_bv6, (hx_pk h u2).1, hp_bi0]
  rcases u4 with ⟨f1, f2, f3, f4, f5, fq, dg1, op1, st1, sg1, ss1, ps1, num1, f6, f7, f8⟩ | ⟨q, a, z, f1, f2, f3⟩
  · subst f1
    obtain ⟨b1, b2, b3, b4, b5⟩ := f7 (o + 1) (Nat.le_refl _)
    rw [h2] at b1; rw [hst] at b2; rw [hss] at b4; rw [hps] at b5
    have ge := hk_Ge (J := J) (F := F) (g := o + 1) (N := N1) (T := T1) (dg := dg1) (op := op1) (ss := ss1) (ps := ps1) (st := st1) (sg := sg1) (num := num1) h u2 (show o + 1 < 10 by omega) (by rw [b1]; exact n23) b5 b4 fq.1 fq.2
    obtain ⟨-, -, -, -, -, g6, g7, -, -⟩ := ge
    rw [hx_tk h u2]
    by_cases y1 : hx_y bytes m p1 = 60 ∨ hx_y bytes m p1 = 61
    · have X1 := (f8 (o + 1 + 1) (by omega)).trans (g6 b1 b2 y1)
      have hp1 : p1 < m := by
        rcases y1 with e | e
        · exact hx_yn h (by decide) e
        · exact hx_yn h (by decide) e
      have e26 : (bi_1 (if hx_y bytes m p1 = 60 then some ((1 : Int32), nI (p1 + 1)) else some (0, nI p1)) fun r8 x9 =>
          jn (fun (x10 : Int32) (x11 : Int32) =>
          bv_6 (pf_X3_readSum TT (nI (o + 2)) kd1 vl1 (nI N1) (nI T1) bytes (nI m) x10 x11) fun f12 f13 x14 x15 x16 x17 =>
          bv_2 (pf_X5_needs 63 bytes (nI m) x16 x17) fun x18 x19 =>
          bv_6 (pf_X3_readSum TT (nI (o + 2)) f12 f13 x14 x15 bytes (nI m) x18 x19) fun f20 f21 x22 x23 x24 x25 =>
          bv_2 (pf_X5_needs 58 bytes (nI m) x24 x25) fun x26 x27 =>
          bv_6 (pf_X3_readSum TT (nI (o + 2)) f20 f21 x22 x23 bytes (nI m) x26 x27) fun f28 f29 x30 x31 x32 x33 =>
          bv_2 (pf_X5_needs 93 bytes (nI m) x32 x33) fun x34 x35 =>
          bv_3 (pf_X3_add (hx_y bytes m p1) 0 f28 f29 x30) fun f36 f37 x38 =>
          some (f36, f37, x38, x31, x34, x35)) fun J26 =>
          if r8 = 0 then
            bv_2 (pf_X5_needs 61 bytes (nI m) x9 (-1)) fun x39 x40 => J26 x39 x40
          else J26 x9 (-1)) =
          (bv_6 (pf_X3_readSum TT (nI (o + 2)) kd1 vl1 (nI N1) (nI T1) bytes (nI m) (nI (p1 + 1)) (-1)) fun f12 f13 x14 x15 x16 x17 =>
          bv_2 (pf_X5_needs 63 bytes (nI m) x16 x17) fun x18 x19 =>
          bv_6 (pf_X3_readSum TT (nI (o + 2)) f12 f13 x14 x15 bytes (nI m) x18 x19) fun f20 f21 x22 x23 x24 x25 =>
          bv_2 (pf_X5_needs 58 bytes (nI m) x24 x25) fun x26 x27 =>
          bv_6 (pf_X3_readSum TT (nI (o + 2)) f20 f21 x22 x23 bytes (nI m) x26 x27) fun f28 f29 x30 x31 x32 x33 =>
          bv_2 (pf_X5_needs 93 bytes (nI m) x32 x33) fun x34 x35 =>
          bv_3 (pf_X3_add (hx_y bytes m p1) 0 f28 f29 x30) fun f36 f37 x38 =>
          some (f36, f37, x38, x31, x34, x35)) := by
        by_cases y0 : hx_y bytes m p1 = 60
        · rw [if_pos y0, hp_bi1, hp_jn, if_neg (by decide)]
        · have y61 : hx_y bytes m p1 = 61 := by
            rcases y1 with e | e
            · exact absurd e y0
            · exact e
          rw [if_neg y0, hp_bi1, hp_jn, if_pos rfl, hx_ne h u2, if_pos y61, hp_bv2]
      refine Eq.mpr (congrArg (fun r => hk_ok J m F tape o op st sg ss ps (N + 1) T p H _ r (fun _ => True)) e26) ?_
      -- second sum
      obtain ⟨kd2, vl2, N2, T2, p2, flt2, w1, w2, w3, w4⟩ := hU kd1 vl1 dg1 N1 T1 (p1 + 1) (H + 1) op1 (upd st1 (o + 1) 1) (upd sg1 (o + 1) (if hx_y bytes m p1 = 60 then 10016 else 10017)) ss1 ps1 num1 (by omega) (by omega) f4 (by omega) f6 ⟨by rw [b1]; exact n23, b4, b5⟩
      rw [w1, hp_bv6]
      rcases w4 with ⟨i1, i2, i3, i4, i5, iq, dg2, op2, st2, sg2, ss2, ps2, num2, i6, i7, i8⟩ | ⟨q, a, z, i1, i2, i3⟩
      · subst i1
        obtain ⟨c1, c2, c3, c4, c5⟩ := i7 (o + 1) (Nat.le_refl _)
        rw [b1] at c1; rw [hp_us] at c2; rw [hp_us] at c3; rw [b4] at c4; rw [b5] at c5
        obtain ⟨-, -, -, -, -, -, -, g8, g9⟩ := hk_Ge (J := J) (F := F) (g := o + 1) (N := N2) (T := T2) (dg := dg2) (op := op2) (ss := ss2) (ps := ps2) (st := st2) (sg := sg2) (num := num2) h w2 (show o + 1 < 10 by omega) (by rw [c1]; exact n23) c5 c4 iq.1 iq.2
        rw [hx_ne h w2]
        by_cases y2 : hx_y bytes m p2 = 63
        · have X2 := (X1.trans (i8 (o + 1 + 1) (by omega))).trans (g8 1 (Or.inl rfl) c1 c2 y2)
          have hp2 : p2 < m := hx_yn h (by decide) y2
          rw [if_pos y2, hp_bv2]
          obtain ⟨kd3, vl3, N3, T3, p3, flt3, x1, x2, x3, x4⟩ := hU kd2 vl2 dg2 N2 T2 (p2 + 1) (H + 1 + 1) op2 (upd st2 (o + 1) (nI (1 + 1))) sg2 ss2 ps2 num2 (by omega) (by omega) i4 (by omega) i6 ⟨by rw [c1]; exact n23, c4, c5⟩
          rw [x1, hp_bv6]
          rcases x4 with ⟨j1, j2, j3, j4, j5, jq, dg3, op3, st3, sg3, ss3, ps3, num3, j6, j7, j8⟩ | ⟨q, a, z, j1, j2, j3⟩
          · subst j1
            obtain ⟨d1, d2, d3, d4, d5⟩ := j7 (o + 1) (Nat.le_refl _)
            rw [c1] at d1; rw [hp_us] at d2; rw [c3] at d3; rw [c4] at d4; rw [c5] at d5
            obtain ⟨-, -, -, -, -, -, -, g8, g9⟩ := hk_Ge (J := J) (F := F) (g := o + 1) (N := N3) (T := T3) (dg := dg3) (op := op3) (ss := ss3) (ps := ps3) (st := st3) (sg := sg3) (num := num3) h x2 (show o + 1 < 10 by omega) (by rw [d1]; exact n23) d5 d4 jq.1 jq.2
            rw [hx_ne h x2]
            by_cases y3 : hx_y bytes m p3 = 58
            · have X3 := (X2.trans (j8 (o + 1 + 1) (by omega))).trans (g8 2 (Or.inr rfl) d1 d2 y3)
              have hp3 : p3 < m := hx_yn h (by decide) y3
              rw [if_pos y3, hp_bv2]
              obtain ⟨kd4, vl4, N4, T4, p4, flt4, r1, r2, r3, r4⟩ := hU kd3 vl3 dg3 N3 T3 (p3 + 1) (H + 1 + 1 + 1) op3 (upd st3 (o + 1) (nI (2 + 1))) sg3 ss3 ps3 num3 (by omega) (by omega) j4 (by omega) j6 ⟨by rw [d1]; exact n23, d4, d5⟩
              rw [r1, hp_bv6]
              rcases r4 with ⟨k1, k2, k3, k4, k5, kq, dg4, op4, st4, sg4, ss4, ps4, num4, k6, k7, k8⟩ | ⟨q, a, z, k1, k2, k3⟩
              · subst k1
                obtain ⟨l1, l2, l3, l4, l5⟩ := k7 (o + 1) (Nat.le_refl _)
                rw [d1] at l1; rw [hp_us] at l2; rw [d3] at l3; rw [d4] at l4; rw [d5] at l5
                obtain ⟨-, -, -, g4, g5, -, -, -, -⟩ := hk_Ge (J := J) (F := F) (g := o + 1) (N := N4) (T := T4) (dg := dg4) (op := op4) (ss := ss4) (ps := ps4) (st := st4) (sg := sg4) (num := num4) h r2 (show o + 1 < 10 by omega) (by rw [l1]; exact n23) l5 l4 kq.1 kq.2
                rw [hx_ne h r2]
                by_cases y4 : hx_y bytes m p4 = 93
                · have hp4 : p4 < m := hx_yn h (by decide) y4
                  rw [if_pos y4, hp_bv2, hk_ad _ _ _ _ (show N4 < 80 by omega), hp_bv3]
                  refine ⟨_, _, N4 + 1, T4, p4 + 1, -1, rfl, by omega, by omega, Or.inl ⟨rfl, by omega, by omega, k4, by omega, trivial, upd dg4 N4 (sg4 (o + 1)), op4, st4, sg4, ss4, ps4, num4, hk_Pa k6 (Or.inr (Or.inr (Or.inr ⟨?_, by omega, by omega⟩))), fun i hi => ?_, fun g hg => ?_⟩⟩
                  · rw [l3]
                    rcases y1 with e | e
                    · rw [e, if_pos rfl]; exact Or.inl ⟨rfl, rfl⟩
                    · rw [e, if_neg (by decide)]; exact Or.inr ⟨rfl, rfl⟩
                  · have hne : i ≠ o + 1 := by omega
                    obtain ⟨z1, z2, z3, z4, z5⟩ := k7 i (by omega)
                    obtain ⟨s1, s2, s3, s4, s5⟩ := j7 i (by omega)
                    obtain ⟨q1, q2, q3, q4, q5⟩ := i7 i (by omega)
                    obtain ⟨t1, t2, t3, t4, t5⟩ := f7 i (by omega)
                    rw [hp_un hne] at z2 s2 q2
                    rw [hp_un hne] at q3
                    exact ⟨z1.trans (s1.trans (q1.trans t1)), z2.trans (s2.trans (q2.trans t2)), z3.trans (s3.trans (q3.trans t3)), z4.trans (s4.trans (q4.trans t4)), z5.trans (s5.trans (q5.trans t5))⟩
                  · obtain ⟨-, -, -, g4, -, -, -, -, -⟩ := hk_Ge (J := J) (F := F) (g := g) (N := N4) (T := T4) (dg := dg4) (op := op4) (ss := ss4) (ps := ps4) (st := st4) (sg := sg4) (num := num4) h r2 (show o + 1 < 10 by omega) (by rw [l1]; exact n23) l5 l4 kq.1 kq.2
                    exact (X3.trans (k8 (g + 1) (by omega))).trans (g4 o rfl l1 l2 (by omega) y4)
                · rw [if_neg y4, hp_bv2]
                  obtain ⟨kd5, vl5, N5, e1, e2⟩ := hk_adx (hx_y bytes m p1) 0 kd4 vl4 r3
                  rw [e2, hp_bv3]
                  obtain ⟨z, hz⟩ := hk_fl (J := J) (m := m) (tape := tape) hJ (n := F - T4) (q := p4) (by omega) (by omega) (nI p4) num4 dg4 (nI N4) (nI T4) op4 st4 sg4 ss4 ps4 (nI (o + 1))
                  exact flt _ _ T4 p4 p4 r2 r2 ⟨_, _, N5, e1, rfl⟩ ⟨_, z, ((X3.trans (k8 (o + 1 + 1) (by omega))).trans (g5 l1 l2 y4)).trans hz⟩
              · subst k2
                exact flt _ _ T4 p4 q r2 k1 (v4 _ _ _ _ _ _ _ r3 r2 k1) ⟨a, z, X3.trans k3⟩
            · rw [if_neg y3, hp_bv2]
              obtain ⟨z, hz⟩ := hk_fl (J := J) (m := m) (tape := tape) hJ (n := F - T3) (q := p3) (by omega) (by omega) (nI p3) num3 dg3 (nI N3) (nI T3) op3 st3 sg3 ss3 ps3 (nI (o + 1))
              have v3' := v3 (hx_y bytes m p1) kd3 vl3 N3 p3 p3 (nI T3) x3 x2 x2
              rw [hx_nef (by omega), hp_bv2] at v3'
              exact flt _ _ T3 p3 p3 x2 x2 v3' ⟨_, z, ((X2.trans (j8 (o + 1 + 1) (by omega))).trans (g9 2 (Or.inr rfl) d1 d2 y3)).trans hz⟩
          · subst j2
            exact flt _ _ T3 p3 q x2 j1 (v3 _ _ _ _ _ _ _ x3 x2 j1) ⟨a, z, X2.trans j3⟩
        · rw [if_neg y2, hp_bv2]
          obtain ⟨z, hz⟩ := hk_fl (J := J) (m := m) (tape := tape) hJ (n := F - T2) (q := p2) (by omega) (by omega) (nI p2) num2 dg2 (nI N2) (nI T2) op2 st2 sg2 ss2 ps2 (nI (o + 1))
          have v2' := v2 (hx_y bytes m p1) kd2 vl2 N2 p2 p2 (nI T2) w3 w2 w2
          rw [hx_nef (by omega), hp_bv2] at v2'
          exact flt _ _ T2 p2 p2 w2 w2 v2' ⟨_, z, ((X1.trans (i8 (o + 1 + 1) (by omega))).trans (g9 1 (Or.inl rfl) c1 c2 y2)).trans hz⟩
      · subst i2
        exact flt _ _ T2 p2 q w2 i1 (v2 _ _ _ _ _ _ _ w3 w2 i1) ⟨a, z, X1.trans i3⟩
    · rw [if_neg (fun e => y1 (Or.inl e)), hp_bi1, hp_jn, if_pos rfl, hx_ne h u2, if_neg (fun e => y1 (Or.inr e)), hp_bv2]
      obtain ⟨z, hz⟩ := hk_fl (J := J) (m := m) (tape := tape) hJ (n := F - T1) (q := p1) (by omega) (by omega) (nI p1) num1 dg1 (nI N1) (nI T1) op1 st1 sg1 ss1 ps1 (nI (o + 1))
      exact flt _ _ T1 p1 p1 u2 u2 (v1 _ _ _ _ _ _ _ u3 u2 u2) ⟨_, z, ((f8 (o + 1 + 1) (by omega)).trans (g7 b1 b2 y1)).trans hz⟩
  · subst f2
    rw [hx_tkf (by omega), hp_bi1, hp_jn, if_pos rfl, hx_nef (by omega), hp_bv2]
    exact flt _ _ T1 p1 q u2 f1 (v1 _ _ _ _ _ _ _ u3 u2 f1) ⟨a, z, f3⟩
