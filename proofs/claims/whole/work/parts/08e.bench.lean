/-! BENCH. The acts are read. -/
def hy_V (f num : Int32) (m : Nat) (tape : Nat → Int32) (p : Nat) (X : Option (Int32 × Int32 × Int32)) : Prop :=
  ∃ (a : Int32) (p' : Nat), p ≤ p' ∧ p' ≤ m ∧ -9999 ≤ a.toInt ∧ a.toInt ≤ 9999 ∧
    ((p < p' ∧ X = some (a, nI p', -1) ∧ pf_X8_readValue f tape (nI m) (nI p) (-1) num = some (1, nI p', -1, a)) ∨
     (∃ (q : Nat) (at8 n8 : Int32), q ≤ m ∧ X = some (a, nI p', nI q) ∧ pf_X8_readValue f tape (nI m) (nI p) (-1) num = some (0, at8, nI q, n8)))
theorem hy_v0 {bytes tape : Nat → Int32} {m p : Nat} (h : hx_B bytes tape m) (hp : p ≤ m) (num : Int32) : hy_V 0 num m tape p (pf_X5_number bytes (nI m) (nI p) (-1)) := by
  obtain ⟨v, p', v9, pp, pm, hh⟩ := hx_num h hp num
  have ev := hp_nT (n := v) (by omega)
  refine ⟨nI v, p', pp, pm, by omega, by omega, ?_⟩
  rcases hh with ⟨e1, -, e2, e3⟩ | ⟨q, num', e1, e2, e3⟩
  · refine Or.inl ⟨e1, e2, ?_⟩
    unfold pf_X8_readValue
    rw [hp_jn, hp_jn, if_pos rfl]; dsimp only; rw [hp_jn, if_pos rfl]; dsimp only; rw [e3, hp_bi3, if_neg (by decide), hp_jn, if_pos rfl]
  · refine Or.inr ⟨q, nI p', num', e1, e2, ?_⟩
    unfold pf_X8_readValue
    rw [hp_jn, hp_jn, if_pos rfl]; dsimp only; rw [hp_jn, if_pos rfl]; dsimp only; rw [e3, hp_bi3, if_pos rfl]
theorem hy_v1 {bytes tape : Nat → Int32} {m p : Nat} (h : hx_B bytes tape m) (hp : p ≤ m) (num : Int32) : hy_V 1 num m tape p (pf_X5_signedNumber bytes (nI m) (nI p) (-1)) := by
  have hm := h.1
  unfold hy_V pf_X5_signedNumber
  rw [hx_tk h hp]
  by_cases c : hx_y bytes m p = 45
  · have pm := hx_yn (v := 45) h (by decide) c
    obtain ⟨v, p', v9, pp, pm, hh⟩ := hx_num h (show p + 1 ≤ m by omega) num
    have ev := hp_nT (n := v) (by omega)
    have en : (-nI v).toInt = -(v : Int) := by rw [hp_neg (by omega), ev]
    rw [if_pos c, hp_bi1]
    refine ⟨-nI v, p', by omega, pm, by omega, by omega, ?_⟩
    rcases hh with ⟨e1, -, e2, e3⟩ | ⟨q, num', e1, e2, e3⟩
    · refine Or.inl ⟨by omega, ?_, ?_⟩
      · rw [e2, hp_bi2, if_neg (by decide)]
      · unfold pf_X8_readValue
        rw [hp_jn, hp_jn, if_neg (by decide), (hx_pk h hp).2, hp_bi0, if_pos c]; dsimp only; rw [hp_jn, if_neg (by decide), hp_nm, hp_i1]; dsimp only; rw [e3, hp_bi3, if_neg (by decide), hp_jn, if_neg (by decide)]
    · refine Or.inr ⟨q, nI p', num', e1, ?_, ?_⟩
      · rw [e2, hp_bi2, if_neg (by decide)]
      · unfold pf_X8_readValue
        rw [hp_jn, hp_jn, if_neg (by decide), (hx_pk h hp).2, hp_bi0, if_pos c]; dsimp only; rw [hp_jn, if_neg (by decide), hp_nm, hp_i1]; dsimp only; rw [e3, hp_bi3, if_pos rfl]
  · obtain ⟨v, p', v9, pp, pm, hh⟩ := hx_num h hp num
    have ev := hp_nT (n := v) (by omega)
    rw [if_neg c, hp_bi1]
    refine ⟨nI v, p', pp, pm, by omega, by omega, ?_⟩
    rcases hh with ⟨e1, -, e2, e3⟩ | ⟨q, num', e1, e2, e3⟩
    · refine Or.inl ⟨e1, ?_, ?_⟩
      · rw [e2, hp_bi2, if_pos rfl]
      · unfold pf_X8_readValue
        rw [hp_jn, hp_jn, if_neg (by decide), (hx_pk h hp).2, hp_bi0, if_neg c]; dsimp only; rw [hp_jn, if_pos rfl]; dsimp only; rw [e3, hp_bi3, if_neg (by decide), hp_jn, if_pos rfl]
    · refine Or.inr ⟨q, nI p', num', e1, ?_, ?_⟩
      · rw [e2, hp_bi2, if_pos rfl]
      · unfold pf_X8_readValue
        rw [hp_jn, hp_jn, if_neg (by decide), (hx_pk h hp).2, hp_bi0, if_neg c]; dsimp only; rw [hp_jn, if_pos rfl]; dsimp only; rw [e3, hp_bi3, if_pos rfl]
/-- with a fault told already -/
theorem hy_f0 {bytes tape : Nat → Int32} {m p q : Nat} (h : hx_B bytes tape m) (hp : p ≤ m) (hq : q ≤ 400) : ∃ (a : Int32) (p' : Nat), p' ≤ m ∧ pf_X5_number bytes (nI m) (nI p) (nI q) = some (a, nI p', nI q) := by
  have hm := h.1
  have hF : 5 < FU := by unfold FU; omega
  unfold pf_X5_number
  by_cases f : hx_fig (hx_y bytes m p)
  · obtain ⟨c', v', i1, i2, i3, i4, i5, i6, i7⟩ := hx_nl (p0 := p) h FU 4 0 0 (by omega) (by omega) (by omega) (by decide)
    generalize FU = F at *
    have i6 : ∀ J, lp_X5_number_21 (nI m) bytes J F 0 0 (nI p) = J (nI v') (nI (p + c')) := i6
    rw [(hx_f7 h hp).1 f, hp_bi0, if_neg (by decide), hp_jn, i6]
    by_cases f2 : hx_fig (hx_y bytes m (p + c'))
    · rw [(hx_f7 h i4).1 f2, hp_bi0, if_neg (by decide), hx_blf hq, hp_bv1]
      exact ⟨_, _, i4, rfl⟩
    · rw [(hx_f7 h i4).2 f2, hp_bi0, if_pos rfl]
      exact ⟨_, _, i4, rfl⟩
  · rw [(hx_f7 h hp).2 f, hp_bi0, if_pos rfl, hx_blf hq, hp_bv1]
    exact ⟨_, _, hp, rfl⟩
theorem hy_f1 {bytes tape : Nat → Int32} {m p q : Nat} (h : hx_B bytes tape m) (hp : p ≤ m) (hq : q ≤ 400) : ∃ (a : Int32) (p' : Nat), p' ≤ m ∧ pf_X5_signedNumber bytes (nI m) (nI p) (nI q) = some (a, nI p', nI q) := by
  obtain ⟨a, p', h1, h2⟩ := hy_f0 h hp hq
  unfold pf_X5_signedNumber
  rw [hx_tkf hq, hp_bi1, h2, hp_bi2, if_pos rfl]
  exact ⟨_, _, h1, rfl⟩
/-! One act. -/
def hy_L (y : Int32) : Prop := y = 61 ∨ y = 99 ∨ y = 102 ∨ y = 104 ∨ y = 108 ∨ y = 111 ∨ y = 112 ∨ y = 115 ∨ y = 120
theorem hy_ia (y : Int32) : (hy_L y ∧ pf_X0_isAct y = some (1, ()) ∧ pf_X8_isAct y = some (1, ())) ∨ (pf_X0_isAct y = some (0, ()) ∧ pf_X8_isAct y = some (0, ())) := by
  unfold pf_X0_isAct pf_X8_isAct hy_L
  by_cases c0 : y = 61
  · subst c0; exact Or.inl ⟨by decide, rfl, rfl⟩
  by_cases c1 : y = 99
  · subst c1; exact Or.inl ⟨by decide, rfl, rfl⟩
  by_cases c2 : y = 102
  · subst c2; exact Or.inl ⟨by decide, rfl, rfl⟩
  by_cases c3 : y = 104
  · subst c3; exact Or.inl ⟨by decide, rfl, rfl⟩
  by_cases c4 : y = 108
  · subst c4; exact Or.inl ⟨by decide, rfl, rfl⟩
  by_cases c5 : y = 111
  · subst c5; exact Or.inl ⟨by decide, rfl, rfl⟩
  by_cases c6 : y = 112
  · subst c6; exact Or.inl ⟨by decide, rfl, rfl⟩
  by_cases c7 : y = 115
  · subst c7; exact Or.inl ⟨by decide, rfl, rfl⟩
  by_cases c8 : y = 120
  · subst c8; exact Or.inl ⟨by decide, rfl, rfl⟩
  right
  rw [if_neg c0, if_neg c1, if_neg c2, if_neg c3, if_neg c4, if_neg c5, if_neg c6, if_neg c7, if_neg c8, if_neg c1, if_neg c4, if_neg c6, if_neg c3, if_neg c7, if_neg c5, if_neg c2, if_neg c8, if_neg c0]
  exact ⟨rfl, rfl⟩
def hy_R (k : Nat) (kd on tw ac aA aB : Nat → Int32) : Prop := ∀ i, i < k → kd i = ac i ∧ on i = aA i ∧ tw i = aB i ∧ -9999 ≤ (on i).toInt ∧ (on i).toInt ≤ 9999 ∧ hy_L (kd i)
def hy_K (m p k : Nat) (X : Option (Int32 × (Nat → Int32) × (Nat → Int32) × (Nat → Int32) × Int32 × Int32)) (Y : Option (Int32 × Int32 × Int32 × Int32 × (Nat → Int32) × (Nat → Int32) × (Nat → Int32) × Int32)) : Prop :=
  (∃ (p' : Nat) (kd' on' tw' : Nat → Int32) (n' : Int32) (ac' aA' aB' : Nat → Int32), p < p' ∧ p' ≤ m ∧ k < 40 ∧ X = some (nI (k + 1), kd', on', tw', nI p', -1) ∧ Y = some (1, nI p', -1, n', ac', aA', aB', nI (k + 1)) ∧ hy_R (k + 1) kd' on' tw' ac' aA' aB') ∨
  (∃ q : Nat, q ≤ m ∧ (∃ c kd' on' tw' at7, X = some (c, kd', on', tw', at7, nI q)) ∧ (∃ at8 n8 ac' aA' aB' k8, Y = some (0, at8, nI q, n8, ac', aA', aB', k8)))
noncomputable def hy_7e (y : Int32) (k : Nat) (kd bytes : Nat → Int32) (cnt : Int32) (f5 : Nat → Int32) : (Nat → Int32) → Int32 → Int32 → Option (Int32 × (Nat → Int32) × (Nat → Int32) × (Nat → Int32) × Int32 × Int32) :=
  fun f8 x9 x10 => bv_2 (pf_X5_needs 59 bytes cnt x9 x10) fun x11 x12 => nm (nI k + 1) fun x13 => some (x13, (upd kd (nI k).toNatClampNeg y), f5, f8, x11, x12)
noncomputable def hy_7 (y : Int32) (k : Nat) (kd tw bytes : Nat → Int32) (cnt : Int32) : (Nat → Int32) → Int32 → Int32 → Option (Int32 × (Nat → Int32) × (Nat → Int32) × (Nat → Int32) × Int32 × Int32) :=
  fun f5 x6 x7 =>
    jn (hy_7e y k kd bytes cnt f5) fun J173 =>
    jn (bv_2 (pf_X5_needs 44 bytes cnt x6 x7) fun x14 x15 =>
    jn (fun (x16 : Int32) (x17 : Int32) (x18 : Int32) =>
    ckI (nI k) 40 <|
    J173 (upd (upd tw (nI k).toNatClampNeg 0) (nI k).toNatClampNeg x16) x17 x18) fun J172 =>
    if y = 108 then
      bi_2 (pf_X5_number bytes cnt x14 x15) fun r22 x23 x24 =>
      J172 r22 x23 x24
    else
      bi_2 (pf_X5_signedNumber bytes cnt x14 x15) fun r19 x20 x21 =>
      J172 r19 x20 x21) fun J141 =>
    if y = 108 then
      J141
    else
      if y = 115 then
        J141
      else
        if y = 111 then
          J141
        else
          J173 (upd tw (nI k).toNatClampNeg 0) x6 x7
noncomputable def hy_8e (y : Int32) (k : Nat) (ac tape : Nat → Int32) (cnt : Int32) (f9 : Nat → Int32) : Int32 → Int32 → Int32 → (Nat → Int32) → Option (Int32 × Int32 × Int32 × Int32 × (Nat → Int32) × (Nat → Int32) × (Nat → Int32) × Int32) :=
  fun x10 x11 x12 f13 =>
    bi_0 (pf_X8_here tape cnt x10) fun r14 =>
    if r14 = 59 then
      nm (x10 + 1) fun x15 =>
      nm (nI k + 1) fun x16 =>
      some (1, x15, x11, x12, (upd ac (nI k).toNatClampNeg y), f9, f13, x16)
    else
      bi_1 (pf_X8_fails x10) fun r17 x18 =>
      ckZ r17 <|
      some (r17, x10, x18, x12, (upd ac (nI k).toNatClampNeg y), f9, f13, nI k)
noncomputable def hy_8 (y : Int32) (k : Nat) (ac aB tape : Nat → Int32) (cnt : Int32) : Int32 → Int32 → Int32 → (Nat → Int32) → Option (Int32 × Int32 × Int32 × Int32 × (Nat → Int32) × (Nat → Int32) × (Nat → Int32) × Int32) :=
  fun x6 x7 x8 f9 =>
    jn (hy_8e y k ac tape cnt f9) fun J200 =>
    jn (bi_0 (pf_X8_here tape cnt x6) fun r19 =>
    if r19 = 44 then
      nm (x6 + 1) fun x20 =>
      jn (fun (x21 : Int32) =>
      bi_3 (pf_X8_readValue x21 tape cnt x20 x7 x8) fun r22 x23 x24 x25 =>
      if r22 = 0 then
        some (0, x23, x24, x25, (upd ac (nI k).toNatClampNeg y), f9, (upd aB (nI k).toNatClampNeg 0), nI k)
      else
        ckI (nI k) 40 <|
        J200 x23 x24 x25 (upd (upd aB (nI k).toNatClampNeg 0) (nI k).toNatClampNeg x25)) fun J179 =>
      if y = 108 then
        J179 0
      else
        J179 1
    else
      bi_1 (pf_X8_fails x6) fun r26 x27 =>
      ckZ r26 <|
      some (r26, x6, x27, x8, (upd ac (nI k).toNatClampNeg y), f9, (upd aB (nI k).toNatClampNeg 0), nI k)) fun J139 =>
    if y = 108 then
      J139
    else
      if y = 115 then
        J139
      else
        if y = 111 then
          J139
        else
          J200 x6 x7 x8 (upd aB (nI k).toNatClampNeg 0)
/-- the end of an act -/
theorem hy_e {bytes tape : Nat → Int32} {m p P k : Nat} {y n8 : Int32} {kd on tw ac aA aB f5 f8 f9 f13 : Nat → Int32} (hL : hy_L y) (h : hx_B bytes tape m) (hP : P ≤ m) (pP : p < P) (hk : k < 40) (R : hy_R k kd on tw ac aA aB)
    (h5 : ∀ i, i < k → f5 i = on i) (h9 : ∀ i, i < k → f9 i = aA i) (h8 : ∀ i, i < k → f8 i = tw i) (h13 : ∀ i, i < k → f13 i = aB i) (e1 : f5 k = f9 k) (b1 : -9999 ≤ (f5 k).toInt ∧ (f5 k).toInt ≤ 9999) (e2 : f8 k = f13 k) :
    hy_K m p k (hy_7e y k kd bytes (nI m) f5 f8 (nI P) (-1)) (hy_8e y k ac tape (nI m) f9 (nI P) (-1) n8 f13) := by
  have ck := hp_cl (n := k) (by omega)
  unfold hy_7e hy_8e
  rw [hx_ne h hP, (hx_pk h hP).2, hp_bi0, ck]
  by_cases c : hx_y bytes m P = 59
  · have P1 := hx_yn (v := 59) h (by decide) c
    rw [if_pos c, if_pos c, hp_bv2, hp_nm, hp_nm, hp_nm, hp_i1, hp_i1]
    refine Or.inl ⟨P + 1, _, _, _, _, _, _, _, by omega, by omega, hk, rfl, rfl, fun i hi => ?_⟩
    by_cases e : i = k
    · subst e; rw [hp_us, hp_us]; exact ⟨rfl, e1, e2, b1.1, b1.2, hL⟩
    · obtain ⟨g1, g2, g3, g4⟩ := R i (by omega)
      have hi : i < k := by omega
      rw [hp_un e, hp_un e, h5 i hi, h9 i hi, h8 i hi, h13 i hi]
      exact ⟨g1, g2, g3, g4⟩
  · unfold pf_X8_fails
    rw [if_neg c, if_neg c, hp_bv2, hp_nm, hp_bi1, hf_ckZ (Or.inl rfl)]
    exact Or.inr ⟨P, hP, ⟨_, _, _, _, _, rfl⟩, ⟨_, _, _, _, _, _, rfl⟩⟩
theorem hy_ef {bytes : Nat → Int32} {k q : Nat} {y cnt P : Int32} {kd f5 f8 : Nat → Int32} (hq : q ≤ 400) : ∃ c kd' on' tw' at7, hy_7e y k kd bytes cnt f5 f8 P (nI q) = some (c, kd', on', tw', at7, nI q) := by
  unfold hy_7e
  rw [hx_nef hq, hp_bv2, hp_nm]
  exact ⟨_, _, _, _, _, rfl⟩
