/-! DRIFT, read: THINGS; the whole. -/
theorem hk_gf {m : Nat} {op sg st tape : Nat → Int32} {J1 : Int32 → (Nat → Int32) → Int32 → (Nat → Int32) → (Nat → Int32) → Int32 → Option (Int32 × Int32 × Int32 × (Nat → Int32) × Int32 × (Nat → Int32) × (Nat → Int32) × (Nat → Int32) × (Nat → Int32) × Int32)} {J2 J3 : Int32 → Int32 → (Nat → Int32) → Int32 → (Nat → Int32) → (Nat → Int32) → Int32 → Option (Int32 × Int32 × Int32 × (Nat → Int32) × Int32 × (Nat → Int32) × (Nat → Int32) × (Nat → Int32) × (Nat → Int32) × Int32)} :
    ∀ (n n' o : Nat) (p : Int32) (dg : Nat → Int32) (N : Int32) (ss ps : Nat → Int32), o < n → o < n' → lp_X8_goesOn_0 (nI m) (-1) op sg st tape J1 J2 J3 n p dg N ss ps (nI o) = lp_X8_goesOn_0 (nI m) (-1) op sg st tape J1 J2 J3 n' p dg N ss ps (nI o) := by
  intro n
  induction n with
  | zero => intro n' o p dg N ss ps h; omega
  | succ n ih =>
    intro n' o p dg N ss ps h1 h2
    obtain ⟨n', rfl⟩ : ∃ k, n' = k + 1 := ⟨n' - 1, by omega⟩
    have key : ∀ (p : Int32) (dg : Nat → Int32) (N : Int32) (ss ps : Nat → Int32), lp_X8_goesOn_0 (nI m) (-1) op sg st tape J1 J2 J3 n p dg N ss ps (nI o - 1) = lp_X8_goesOn_0 (nI m) (-1) op sg st tape J1 J2 J3 n' p dg N ss ps (nI o - 1) := by
      intro p dg N ss ps
      by_cases c : o = 0
      · subst c
        have z : ∀ k, lp_X8_goesOn_0 (nI m) (-1) op sg st tape J1 J2 J3 k p dg N ss ps (nI 0 - 1) = none := by
          intro k
          cases k with
          | zero => rw [lp_X8_goesOn_0]
          | succ k =>
            rw [lp_X8_goesOn_0]
            unfold ckI
            rw [if_pos (Or.inl (by decide))]
        rw [z, z]
      · obtain ⟨o', rfl⟩ : ∃ k, o = k + 1 := ⟨o - 1, by omega⟩
        rw [show nI (o' + 1) - 1 = nI o' from hp_pS o']
        exact ih n' o' p dg N ss ps (by omega) (by omega)
    rw [lp_X8_goesOn_0, lp_X8_goesOn_0]
    simp only [hp_nm, key]
theorem hk_Gg {J : hk_JT} {m F : Nat} {tape : Nat → Int32} {g g' p N T o : Nat} {dg op st sg ss ps : Nat → Int32} {num : Int32} (h : o < g) (h' : o < g') : hk_G J m F tape g p dg N T num op st sg ss ps o = hk_G J m F tape g' p dg N T num op st sg ss ps o := by
  unfold hk_G
  rw [hk_gf g g' o _ _ _ _ _ h h']
theorem hk_vn : ¬ hk_va (-1) := by
  rintro (h | h | h | h | h)
  · exact h.1 (by decide)
  · rcases h with h | h | h | h | h <;> exact absurd h (by decide)
  · exact absurd h (by decide)
  · exact absurd h (by decide)
  · exact absurd h (by decide)
theorem hk_th {J : hk_JT} {m F : Nat} {bytes tape : Nat → Int32} (h : hx_B bytes tape m) (hJ : hk_Jf J) (hF : 60 ≤ F) : ∀ (n o : Nat), 10 ≤ n + (o + 1) → o ≤ 8 → hk_U J m F bytes tape (pf_X3_readThing n (nI (o + 1))) o (fun _ _ _ => True) (fun _ => True) ∧ hk_V m bytes (pf_X3_readThing n (nI (o + 1))) := by
  have hm := h.1
  have hFU : 20 < FU := by unfold FU; omega
  intro n
  induction n with
  | zero => intro o h1 h2; omega
  | succ n ih =>
    intro o h1 ho
    constructor
    · intro kd vl dg N T p H op st sg ss ps num hp hN hT hH hP _
      have flt : ∀ (r : hk_6) (T1 p1 q : Nat), p1 ≤ m → q ≤ m → (∃ kd' vl' N', N' ≤ 80 ∧ r = some (kd', vl', nI N', nI T1, nI p1, nI q)) → (∃ (a : Int32) (z : hk_Z), hk_R J m F tape p dg N T num op st sg ss ps o = some (0, a, nI q, z)) → hk_ok J m F tape o op st sg ss ps N T p H (hk_R J m F tape p dg N T num op st sg ss ps o) r (fun _ => True) := by
        intro r T1 p1 q h1 h2 h3 h4
        obtain ⟨kd', vl', N', e1, e2⟩ := h3
        obtain ⟨a, z, e3⟩ := h4
        exact ⟨kd', vl', N', T1, p1, nI q, e2, h1, e1, Or.inr ⟨q, a, z, h2, rfl, e3⟩⟩
      have bad : ∀ (T1 : Nat), (¬ hk_va (hx_y bytes m p) ∨ T = 40 ∨ o = 8) → hk_ok J m F tape o op st sg ss ps N T p H (hk_R J m F tape p dg N T num op st sg ss ps o) (some (kd, vl, nI N, nI T1, nI p, nI p)) (fun _ => True) := by
        intro T1 hv
        exact flt _ T1 p p hp hp ⟨kd, vl, N, by omega, rfl⟩ ⟨_, _, hk_RA h hp hT hF ho hv⟩
      rw [pf_X3_readThing, hx_go hm hp, hp_bi0]
      by_cases cp : p < m
      · rw [hp_bt cp, if_neg (by decide)]
        by_cases c40 : T = 40
        · have e : (40 : Int32) ≤ nI T := (hp_eI (a := 40) (b := T) (by omega) (by omega)).mpr (by omega)
          rw [if_pos e, hx_bl, hp_bv1]
          exact bad T (Or.inr (Or.inl c40))
        · have e : ¬ (40 : Int32) ≤ nI T := fun e => by
            have := (hp_eI (a := 40) (b := T) (by omega) (by omega)).mp e
            omega
          rw [if_neg e]
          by_cases c8 : o = 8
          · have e : ¬ nI (o + 1) ≤ 8 := fun e => by
              have := (hp_eI (a := o + 1) (b := 8) (by omega) (by omega)).mp e
              omega
            rw [if_neg e, hx_bl, hp_bv1]
            exact bad T (Or.inr (Or.inr c8))
          · have e : nI (o + 1) ≤ 8 := (hp_eI (a := o + 1) (b := 8) (by omega) (by omega)).mpr (by omega)
            rw [if_pos e, hp_nm, show nI T + 1 = nI (T + 1) from hp_i1 T, show nI (o + 1) + 1 = nI (o + 1 + 1) from hp_i1 (o + 1)]
            obtain ⟨hU, hV⟩ : hk_U J m F bytes tape (pf_X3_readThing n (nI (o + 1 + 1))) (o + 1) (fun _ _ _ => True) (fun _ => True) ∧ hk_V m bytes (pf_X3_readThing n (nI (o + 1 + 1))) := ih (o + 1) (by omega) (by omega)
            have hUs := hk_sm h (by omega) (hk_pr h (by omega) hU hV)
            have hVs := hk_smV hm (hk_prV hm hV)
            by_cases f : hx_fig (hx_y bytes m p)
            · rw [(hx_f7 h hp).1 f, hp_bi0, if_neg (by decide)]
              obtain ⟨v, p', v9, pp, pm, hh⟩ := hx_num h hp num
              have rd := hk_RD (J := J) (F := F) (T := T) (o := o) (N := N) (dg := dg) (num := num) (op := op) (st := st) (sg := sg) (ss := ss) (ps := ps) h hp (by omega) hF (by omega) (by omega) f (v := v) (p' := p')
              rcases hh with ⟨e1, -, e2, e3⟩ | ⟨q, num', e1, e2, e3⟩
              · rw [e2, hp_bi2, hk_ad _ _ _ _ (show N < 80 by omega), hp_bv3]
                have rd := rd.1 e3
                refine ⟨_, _, N + 1, T + 1, p', -1, rfl, pm, by omega, Or.inl ⟨rfl, e1, by omega, by omega, by omega, trivial, _, op, st, sg, ss, ps, nI v, hk_Pa hP (Or.inl ⟨Or.inl ⟨rfl, ?_, ?_, rfl⟩, by omega, rfl⟩), fun i _ => ⟨rfl, rfl, rfl, rfl, rfl⟩, fun g hg => ?_⟩⟩
                · rw [hp_nT (by omega)]; omega
                · rw [hp_nT (by omega)]; omega
                · rw [rd]; exact hk_Gg (by omega) hg
              · rw [e2, hp_bi2, hk_ad _ _ _ _ (show N < 80 by omega), hp_bv3]
                exact flt _ (T + 1) p' q pm e1 ⟨_, _, N + 1, by omega, rfl⟩ ⟨_, _, rd.2 q num' e3⟩
            · rw [(hx_f7 h hp).2 f, hp_bi0, if_pos rfl, (hx_pk h hp).1, hp_bi0, hp_jn]
              by_cases L : hx_y bytes m p = 105 ∨ hx_y bytes m p = 115 ∨ hx_y bytes m p = 119 ∨ hx_y bytes m p = 104 ∨ hx_y bytes m p = 116
              · obtain ⟨k, k1, k2, k3, k4⟩ := hk_ll L
                have rl := hk_RL (J := J) (F := F) (T := T) (o := o) (N := N) (dg := dg) (num := num) (op := op) (st := st) (sg := sg) (ss := ss) (ps := ps) h hp (by omega) hF (by omega) (by omega) L k1 k2 k4
                have core : hk_ok J m F tape o op st sg ss ps N T p H (hk_R J m F tape p dg N T num op st sg ss ps o) (nm (nI p + 1) fun x7 => bv_3 (pf_X3_add (hx_y bytes m p) 0 kd vl (nI N)) fun f8 f9 x10 => some (f8, f9, x10, nI (T + 1), x7, -1)) (fun _ => True) := by
                  rw [hp_nm, hp_i1, hk_ad _ _ _ _ (show N < 80 by omega), hp_bv3]
                  refine ⟨_, _, N + 1, T + 1, p + 1, -1, rfl, by omega, by omega, Or.inl ⟨rfl, by omega, by omega, by omega, by omega, trivial, _, op, st, sg, ss, ps, num, hk_Pa hP (Or.inl ⟨k3, by omega, rfl⟩), fun i _ => ⟨rfl, rfl, rfl, rfl, rfl⟩, fun g hg => ?_⟩⟩
                  rw [rl]; exact hk_Gg (by omega) hg
                rw [hp_i1] at core
                rw [hp_i1]
                by_cases l1 : hx_y bytes m p = 105
                · rw [if_pos l1]; exact core
                rw [if_neg l1]
                by_cases l2 : hx_y bytes m p = 115
                · rw [if_pos l2]; exact core
                rw [if_neg l2]
                by_cases l3 : hx_y bytes m p = 119
                · rw [if_pos l3]; exact core
                rw [if_neg l3]
                by_cases l4 : hx_y bytes m p = 104
                · rw [if_pos l4]; exact core
                rw [if_neg l4]
                have l5 : hx_y bytes m p = 116 := by
                  rcases L with e | e | e | e | e
                  · exact absurd e l1
                  · exact absurd e l2
                  · exact absurd e l3
                  · exact absurd e l4
                  · exact e
                rw [if_pos l5]; exact core
              · rw [if_neg (fun e => L (Or.inl e)), if_neg (fun e => L (Or.inr (Or.inl e))), if_neg (fun e => L (Or.inr (Or.inr (Or.inl e)))), if_neg (fun e => L (Or.inr (Or.inr (Or.inr (Or.inl e))))), if_neg (fun e => L (Or.inr (Or.inr (Or.inr (Or.inr e)))))]
                rw [hx_tk h hp]
                by_cases y1 : hx_y bytes m p = 40
                · have ro := hk_RO (J := J) (F := F) (T := T) (o := o) (N := N) (dg := dg) (num := num) (op := op) (st := st) (sg := sg) (ss := ss) (ps := ps) h hp (by omega) hF (by omega) (Or.inl ⟨y1, rfl⟩)
                  rw [if_pos y1, hp_bi1, if_neg (by decide)]
                  obtain ⟨kd1, vl1, N1, T1, p1, flt1, u1, u2, u3, u4⟩ := hUs kd vl dg N (T + 1) (p + 1) H (upd op (o + 1) 1) (upd st (o + 1) 0) sg (upd ss (o + 1) 0) (upd ps (o + 1) 0) num (by omega) (by omega) (by omega) (by omega) hP ⟨by rw [hp_us]; decide, hp_us, hp_us⟩
                  rw [u1, hp_bv6]
                  rcases u4 with ⟨f1, f2, f3, f4, f5, fq, dg1, op1, st1, sg1, ss1, ps1, num1, f6, f7, f8⟩ | ⟨q, a, z, f1, f2, f3⟩
                  · subst f1
                    obtain ⟨b1, b2, b3, b4, b5⟩ := f7 (o + 1) (Nat.le_refl _)
                    rw [hp_us] at b1 b2 b4 b5
                    have n13 : ¬ op1 (o + 1) = 3 := by rw [b1]; decide
                    rw [hx_ne h u2]
                    by_cases y2 : hx_y bytes m p1 = 41
                    · have hp1 : p1 < m := hx_yn h (by decide) y2
                      rw [if_pos y2, hp_bv2]
                      refine ⟨kd1, vl1, N1, T1, p1 + 1, -1, rfl, by omega, u3, Or.inl ⟨rfl, by omega, by omega, f4, by omega, trivial, dg1, op1, st1, sg1, ss1, ps1, num1, f6, fun i hi => ?_, fun g hg => ?_⟩⟩
                      · obtain ⟨z1, z2, z3, z4, z5⟩ := f7 i (by omega)
                        rw [hp_un (show i ≠ o + 1 by omega)] at z1 z2 z4 z5
                        exact ⟨z1, z2, z3, z4, z5⟩
                      · obtain ⟨-, g2, -⟩ := hk_Ge (J := J) (F := F) (g := g) (N := N1) (T := T1) (dg := dg1) (op := op1) (ss := ss1) (ps := ps1) (st := st1) (sg := sg1) (num := num1) h u2 (show o + 1 < 10 by omega) n13 b5 b4 fq.1 fq.2
                        rw [ro, f8 (g + 1) (by omega)]
                        exact g2 o rfl b1 y2
                    · rw [if_neg y2, hp_bv2]
                      obtain ⟨-, -, g3, -⟩ := hk_Ge (J := J) (F := F) (g := o + 1) (N := N1) (T := T1) (dg := dg1) (op := op1) (ss := ss1) (ps := ps1) (st := st1) (sg := sg1) (num := num1) h u2 (show o + 1 < 10 by omega) n13 b5 b4 fq.1 fq.2
                      obtain ⟨z, hz⟩ := hk_fl (J := J) (m := m) (tape := tape) hJ (n := F - T1) (q := p1) (by omega) (by omega) (nI p1) num1 dg1 (nI N1) (nI T1) op1 st1 sg1 ss1 ps1 (nI (o + 1))
                      exact flt _ T1 p1 p1 u2 u2 ⟨kd1, vl1, N1, u3, rfl⟩ ⟨_, z, (ro.trans (f8 (o + 1 + 1) (by omega))).trans ((g3 b1 y2 (by omega)).trans hz)⟩
                  · subst f2
                    rw [hx_nef (by omega), hp_bv2]
                    exact flt _ T1 p1 q u2 f1 ⟨kd1, vl1, N1, u3, rfl⟩ ⟨a, z, ro.trans f3⟩
                · rw [if_neg y1, hp_bi1, if_pos rfl, hx_tk h hp]
                  by_cases y2 : hx_y bytes m p = 45
                  · have ro := hk_RO (J := J) (F := F) (T := T) (o := o) (N := N) (dg := dg) (num := num) (op := op) (st := st) (sg := sg) (ss := ss) (ps := ps) h hp (by omega) hF (by omega) (Or.inr (Or.inr ⟨y2, rfl⟩))
                    rw [if_pos y2, hp_bi1, if_neg (by decide)]
                    obtain ⟨kd1, vl1, N1, T1, p1, flt1, u1, u2, u3, u4⟩ := hU kd vl dg N (T + 1) (p + 1) H (upd op (o + 1) 3) (upd st (o + 1) 0) sg (upd ss (o + 1) 0) (upd ps (o + 1) 0) num (by omega) (by omega) (by omega) (by omega) hP trivial
                    rw [u1, hp_bv6]
                    rcases u4 with ⟨f1, f2, f3, f4, f5, fq, dg1, op1, st1, sg1, ss1, ps1, num1, f6, f7, f8⟩ | ⟨q, a, z, f1, f2, f3⟩
                    · subst f1
                      have b1 := (f7 (o + 1) (Nat.le_refl _)).1
                      rw [hp_us] at b1
                      rw [hk_ad _ _ _ _ (show N1 < 80 by omega), hp_bv3]
                      refine ⟨_, _, N1 + 1, T1, p1, -1, rfl, u2, by omega, Or.inl ⟨rfl, by omega, by omega, f4, by omega, trivial, upd dg1 N1 10015, op1, st1, sg1, ss1, ps1, num1, hk_Pa f6 (Or.inr (Or.inl ⟨rfl, rfl, by omega, rfl⟩)), fun i hi => ?_, fun g hg => ?_⟩⟩
                      · obtain ⟨z1, z2, z3, z4, z5⟩ := f7 i (by omega)
                        rw [hp_un (show i ≠ o + 1 by omega)] at z1 z2 z4 z5
                        exact ⟨z1, z2, z3, z4, z5⟩
                      · rw [ro, f8 (g + 1) (by omega)]
                        exact hk_G3 (by omega) b1 (by omega)
                    · subst f2
                      obtain ⟨kd2, vl2, N2, e1, e2⟩ := hk_adx 110 0 kd1 vl1 u3
                      rw [e2, hp_bv3]
                      exact flt _ T1 p1 q u2 f1 ⟨kd2, vl2, N2, e1, rfl⟩ ⟨a, z, ro.trans f3⟩
                  · rw [if_neg y2, hp_bi1, if_pos rfl, hx_tk h hp]
                    by_cases y3 : hx_y bytes m p = 91
                    · have ro := hk_RO (J := J) (F := F) (T := T) (o := o) (N := N) (dg := dg) (num := num) (op := op) (st := st) (sg := sg) (ss := ss) (ps := ps) h hp (by omega) hF (by omega) (Or.inr (Or.inl ⟨y3, rfl⟩))
                      rw [if_pos y3, hp_bi1, if_neg (by decide)]
                      have ch := hk_ch (J := J) (F := F) (o := o) h hJ hF (by omega) hUs hVs kd vl dg N (T + 1) (p + 1) H (upd op (o + 1) 2) (upd st (o + 1) 0) sg (upd ss (o + 1) 0) (upd ps (o + 1) 0) num (by omega) (by omega) (by omega) (by omega) hP hp_us hp_us hp_us hp_us
                      rw [← ro] at ch
                      obtain ⟨kd1, vl1, N1, T1, p1, flt1, u1, u2, u3, u4⟩ := ch
                      rw [u1, hp_bv6]
                      refine ⟨kd1, vl1, N1, T1, p1, flt1, rfl, u2, u3, ?_⟩
                      rcases u4 with ⟨f1, f2, f3, f4, f5, fq, dg1, op1, st1, sg1, ss1, ps1, num1, f6, f7, f8⟩ | u4
                      · refine Or.inl ⟨f1, by omega, by omega, f4, by omega, trivial, dg1, op1, st1, sg1, ss1, ps1, num1, f6, fun i hi => ?_, f8⟩
                        obtain ⟨z1, z2, z3, z4, z5⟩ := f7 i hi
                        rw [hp_un (show i ≠ o + 1 by omega)] at z1 z2 z4 z5
                        exact ⟨z1, z2, z3, z4, z5⟩
                      · exact Or.inr u4
                    · rw [if_neg y3, hp_bi1, if_pos rfl, hx_bl, hp_bv1]
                      refine bad (T + 1) (Or.inl ?_)
                      rintro (e | e | e | e | e)
                      · exact f e
                      · exact L e
                      · exact y1 e
                      · exact y3 e
                      · exact y2 e
      · rw [hp_bf cp, if_pos rfl, hx_bl, hp_bv1]
        refine bad T (Or.inl ?_)
        have : hx_y bytes m p = -1 := by unfold hx_y; rw [if_neg cp]
        rw [this]; exact hk_vn
    · intro kd vl N p q T hN hp hq
      refine ⟨kd, vl, N, hN, ?_⟩
      rw [pf_X3_readThing, hx_gof (by omega), hp_bi0, if_pos rfl, hx_blf (by omega), hp_bv1]
def hk_J79 : hk_JT := fun x7 x8 x9 f10 x11 x12 f13 f14 f15 f16 f17 x18 => if x8 = (-1) then some (1, x7, x8, x9, f10, x11, x12, f13, f14, f15, f16, f17, x18) else some (0, x7, x8, x9, f10, x11, x12, f13, f14, f15, f16, f17, x18)
theorem hk_J79f : hk_Jf hk_J79 := by
  intro q hq a num dg N T op st sg ss ps o
  unfold hk_J79
  rw [if_neg (hx_nq q hq)]
  exact ⟨_, rfl⟩
theorem hk_read {m : Nat} {bytes tape : Nat → Int32} (h : hx_B bytes tape m) (num : Int32) (dg op st sg ss ps : Nat → Int32) :
    ∃ (kd vl : Nat → Int32) (N T p : Nat) (flt : Int32), pf_X3_read (fun _ => 0) (fun _ => 0) 0 0 bytes (nI m) = some (kd, vl, nI N, nI T, nI p, flt) ∧
      ((flt = -1 ∧ ∃ (dg' : Nat → Int32) (H : Nat) (a num' : Int32) (op' st' sg' ss' ps' : Nat → Int32) (o' : Int32), N ≤ 80 ∧ hk_P kd vl dg' N H ∧ (H = 1 ∨ N = 0) ∧ pf_X8_readDrift tape (nI m) num dg op st sg ss ps = some (1, a, -1, num', dg', nI N, nI T, op', st', sg', ss', ps', o')) ∨
       (∃ (q : Nat) (a : Int32) (z : hk_Z), q ≤ 400 ∧ flt = nI q ∧ pf_X8_readDrift tape (nI m) num dg op st sg ss ps = some (0, a, nI q, z))) := by
  have hm := h.1
  have hF : 60 ≤ FU := by unfold FU; omega
  have eo : pf_X8_openOne 0 op st ss ps (-1) = some (upd op 0 0, upd st 0 0, upd ss 0 0, upd ps 0 0, nI 0) := by
    unfold pf_X8_openOne
    rw [hp_nm, show (-1 : Int32) + 1 = nI 0 by decide, hp_ck (show 0 < 10 by omega) (by decide), hp_ck (show 0 < 10 by omega) (by decide), hp_ck (show 0 < 10 by omega) (by decide), hp_ck (show 0 < 10 by omega) (by decide)]
    rfl
  have e8 : pf_X8_readDrift tape (nI m) num dg op st sg ss ps = lp_X8_readDrift_43 (nI m) tape hk_J79 FU (if m = 0 then 0 else 1) (nI 0) (-1) num dg (nI 0) (nI 0) (upd op 0 0) (upd st 0 0) sg (upd ss 0 0) (upd ps 0 0) (nI 0) := by
    unfold pf_X8_readDrift
    generalize FU = F
    rw [eo, hp_bv5, hp_jn]
    by_cases c : m = 0
    · have e : nI m ≤ 0 := by rw [c]; decide
      rw [if_pos e, if_pos c]
      dsimp only
      rw [hp_jn]
      rfl
    · have e : ¬ nI m ≤ 0 := fun e => by
        have := (hp_eI (b := 0) (by omega) (by omega)).mp e
        omega
      rw [if_neg e, if_neg c]
      dsimp only
      rw [hp_jn]
      rfl
  rw [e8]
  unfold pf_X3_read
  rw [show pf_X5_rewind = some (0, -1) from rfl, hp_bv2]
  by_cases c : m = 0
  · have e : nI m = 0 := by rw [c]; rfl
    rw [if_pos e, if_pos c]
    refine ⟨_, _, 0, 0, 0, -1, rfl, Or.inl ⟨rfl, dg, 0, nI 0, num, upd op 0 0, upd st 0 0, sg, upd ss 0 0, upd ps 0 0, nI 0, by omega, ⟨fun _ => 0, ⟨rfl, fun k hk => by omega⟩, rfl⟩, Or.inr rfl, ?_⟩⟩
    obtain ⟨F', hF'⟩ : ∃ F', FU = F' + 1 := ⟨FU - 1, by omega⟩
    rw [hF', lp_X8_readDrift_43, if_pos rfl]
    unfold hk_J79
    rw [if_pos rfl]
  · have e : ¬ nI m = 0 := by rw [hp_nz (by omega)]; exact c
    rw [if_neg e, if_neg c]
    obtain ⟨hU, hV⟩ := hk_th (J := hk_J79) (F := FU) h hk_J79f hF 12 0 (by omega) (by omega)
    have hUs := hk_sm h (by omega) (hk_pr h (by omega) hU hV)
    obtain ⟨kd1, vl1, N1, T1, p1, flt1, u1, u2, u3, u4⟩ := hUs (fun _ => 0) (fun _ => 0) dg 0 0 0 0 (upd op 0 0) (upd st 0 0) sg (upd ss 0 0) (upd ps 0 0) num (by omega) (by omega) (by omega) (by omega) ⟨fun _ => 0, ⟨rfl, fun k hk => by omega⟩, rfl⟩ ⟨by rw [hp_us]; decide, hp_us, hp_us⟩
    have u1 : pf_X3_readSum (pf_X3_readThing 12) 1 (fun _ => 0) (fun _ => 0) 0 0 bytes (nI m) 0 (-1) = _ := u1
    have eR : hk_R hk_J79 m FU tape 0 dg 0 0 num (upd op 0 0) (upd st 0 0) sg (upd ss 0 0) (upd ps 0 0) 0 = lp_X8_readDrift_43 (nI m) tape hk_J79 FU 1 (nI 0) (-1) num dg (nI 0) (nI 0) (upd op 0 0) (upd st 0 0) sg (upd ss 0 0) (upd ps 0 0) (nI 0) := by
      unfold hk_R
      rw [Nat.sub_zero]
    rw [eR] at u4
    rw [u1, hp_bv6]
    rcases u4 with ⟨f1, f2, f3, f4, f5, fq, dg1, op1, st1, sg1, ss1, ps1, num1, f6, f7, f8⟩ | ⟨q, a, z, f1, f2, f3⟩
    · subst f1
      obtain ⟨b1, b2, b3, b4, b5⟩ := f7 0 (Nat.le_refl _)
      rw [hp_us] at b1 b2 b4 b5
      obtain ⟨g0, -⟩ := hk_Ge (J := hk_J79) (F := FU) (g := 0) (N := N1) (T := T1) (dg := dg1) (op := op1) (ss := ss1) (ps := ps1) (st := st1) (sg := sg1) (num := num1) h u2 (show 0 < 10 by omega) (by rw [b1]; decide) b5 b4 fq.1 fq.2
      rw [f8 (0 + 1) (by omega), g0 b1]
      obtain ⟨F', hF'⟩ : ∃ F', FU - T1 = F' + 1 := ⟨FU - T1 - 1, by omega⟩
      rw [hF', lp_X8_readDrift_43, if_pos rfl]
      unfold hk_J79
      by_cases cm : m ≤ p1
      · rw [if_pos ((hp_eI (by omega) (by omega)).mpr cm), if_pos cm, if_pos rfl]
        exact ⟨kd1, vl1, N1, T1, p1, -1, rfl, Or.inl ⟨rfl, dg1, 1, _, _, _, _, _, _, _, _, u3, f6, Or.inl rfl, rfl⟩⟩
      · rw [if_neg (fun e => cm ((hp_eI (by omega) (by omega)).mp e)), if_neg cm, hx_bl, hp_bv1, if_neg (hx_nq p1 (by omega))]
        exact ⟨kd1, vl1, N1, T1, p1, nI p1, rfl, Or.inr ⟨p1, _, _, by omega, rfl, rfl⟩⟩
    · subst f2
      rw [f3]
      by_cases cm : m ≤ p1
      · rw [if_pos ((hp_eI (by omega) (by omega)).mpr cm)]
        exact ⟨kd1, vl1, N1, T1, p1, nI q, rfl, Or.inr ⟨q, a, z, by omega, rfl, rfl⟩⟩
      · rw [if_neg (fun e => cm ((hp_eI (by omega) (by omega)).mp e)), hx_blf (by omega), hp_bv1]
        exact ⟨kd1, vl1, N1, T1, p1, nI q, rfl, Or.inr ⟨q, a, z, by omega, rfl, rfl⟩⟩
theorem hk_wr {all f : Nat → Int32} {N : Nat} (hN : N ≤ 80) (x7 a num o : Int32) (dgx T op st sg ss ps : Nat → Int32) (x6 : Int32) (h6 : x6 = nI N) : ∀ (n k j : Nat) (al : Nat → Int32), j + k = N → k < n → (∀ i, i < j → al (76 + i) = f i) → (∀ q, q < 76 ∨ 76 + j ≤ q → al q = all q) → ∃ all', lp_X8_drift_38 0 a (-1) num f x6 x7 op st sg ss ps o n (nI j) al = some (x7, all', 0, a, -1, num, f, x6, x7, op, st, sg, ss, ps, o) ∧ (∀ i, i < N → all' (76 + i) = f i) ∧ (∀ q, q < 76 ∨ 76 + N ≤ q → all' q = all q) := by
  subst h6
  intro n
  induction n with
  | zero => intro k j al h1 h2; omega
  | succ n ih =>
    intro k j al h1 h2 h3 h4
    rw [lp_X8_drift_38]
    by_cases d : N ≤ j
    · have ej : j = N := by omega
      subst ej
      rw [if_pos ((hp_eI (by omega) (by omega)).mpr d)]
      exact ⟨al, rfl, h3, h4⟩
    · have d' : ¬ nI N ≤ nI j := fun e => d ((hp_eI (by omega) (by omega)).mp e)
      rw [if_neg d', hp_ck (show j < 84 by omega) (by decide), hp_a76, hp_put0 (by omega), hp_bv1, hp_nm, hp_i1, hp_cl (by omega)]
      refine ih (k - 1) (j + 1) _ (by omega) (by omega) (fun i hi => ?_) (fun q hq => ?_)
      · by_cases e : i = j
        · subst e; rw [hp_us]
        · rw [hp_un (by omega)]; exact h3 i (by omega)
      · rw [hp_un (by omega)]; exact h4 q (by omega)
theorem op_drift {all bytes tape : Nat → Int32} {cnt taped : Int32} (h : hp_TP bytes tape cnt taped) (num : Int32) (dg op st sg ss ps : Nat → Int32) :
    (∃ (T : Int32) (kd vl : Nat → Int32) (N at7 : Int32) (all' : Nat → Int32) (a num' : Int32) (dg' : Nat → Int32) (N8 T8 : Int32) (op' st' sg' ss' ps' : Nat → Int32) (o' : Int32), pf_X7_drift_t bytes cnt = some (T, kd, vl, N, 0, T, -1, 0, at7, -1) ∧
      pf_X8_drift all 0 tape taped num dg op st sg ss ps = some (T, all', 0, a, -1, num', dg', N8, T8, op', st', sg', ss', ps', o') ∧ hp_RD kd vl N all' 0 ∧ (∀ i, i < 74 ∨ 160 ≤ i → all' i = all i)) ∨
    (∃ (kd vl : Nat → Int32) (N T at7 q a num' : Int32) (dg' : Nat → Int32) (N8 T8 : Int32) (op' st' sg' ss' ps' : Nat → Int32) (o' : Int32), pf_X7_drift_f bytes cnt = some (-1, kd, vl, N, 0, T, q, 0, at7, q) ∧
      pf_X8_drift all 0 tape taped num dg op st sg ss ps = some (-1, all, 0, a, q, num', dg', N8, T8, op', st', sg', ss', ps', o')) := by
  obtain ⟨m, hm, rfl, rfl, hb⟩ := h
  have hF : 90 < FU := by unfold FU; omega
  obtain ⟨kd, vl, N, T, p, flt, r1, r2⟩ := hk_read (tape := tape) ⟨hm, hb⟩ num dg op st sg ss ps
  rcases r2 with ⟨f1, dg', H, a, num', op', st', sg', ss', ps', o', f2, f3, f4, f5⟩ | ⟨q, a, z, f1, f2, f3⟩
  · left
    subst f1
    obtain ⟨all', w1, w2, w3⟩ := hk_wr (all := upd (upd all 74 (nI T)) 75 (nI N)) (f := dg') f2 (nI T) a num' o' dg' dg' op' st' sg' ss' ps' (nI N) rfl FU N 0 (upd (upd all 74 (nI T)) 75 (nI N)) (by omega) (by omega) (fun i hi => by omega) (fun q _ => rfl)
    refine ⟨nI T, kd, vl, nI N, nI p, all', a, num', dg', nI N, nI T, op', st', sg', ss', ps', o', ?_, ?_, ?_, fun i hi => ?_⟩
    · unfold pf_X7_drift_t pf_X7_leaveTape
      rw [show pf_X3_init = some () from rfl, hp_bv0, r1, hp_bv6, if_pos rfl, hp_bi2, if_neg (by decide)]
    · unfold pf_X8_drift
      generalize FU = F at *
      rw [f5, hp_bi12, if_neg (by decide), show pf_X8_put 74 (nI T) all 0 = some (upd all 74 (nI T)) from hp_put0 (a := 74) (by omega), hp_bv1, show pf_X8_put 75 (nI N) (upd all 74 (nI T)) 0 = some (upd (upd all 74 (nI T)) 75 (nI N)) from hp_put0 (a := 75) (by omega), hp_bv1]
      exact w1
    · obtain ⟨hh, ⟨g1, g2⟩, g3⟩ := f3
      refine ⟨N, hh, f2, rfl, ?_, ⟨g1, fun k hk => ?_⟩, ?_⟩
      · rw [Nat.zero_add, w3 75 (by omega), hp_us]
      · show hd_st (kd k) (vl k) (all' (0 + (76 + k))) (hh k) (hh (k + 1))
        rw [Nat.zero_add, w2 k hk]; exact g2 k hk
      · rw [g3]; exact f4
    · rw [w3 i (by omega), hp_un (by omega), hp_un (by omega)]
  · right
    subst f2
    obtain ⟨num', dg', N8, T8, op', st', sg', ss', ps', o'⟩ := z
    refine ⟨kd, vl, nI N, nI T, nI p, nI q, a, num', dg', N8, T8, op', st', sg', ss', ps', o', ?_, ?_⟩
    · unfold pf_X7_drift_f pf_X7_leaveTape
      rw [show pf_X3_init = some () from rfl, hp_bv0, r1, hp_bv6, if_neg (hx_nq q f1), hp_bi2, if_pos rfl]
    · unfold pf_X8_drift
      rw [f3, hp_bi12, if_pos rfl]
