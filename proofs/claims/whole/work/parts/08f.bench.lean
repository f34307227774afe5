/-! BENCH. One act is read; all are. -/
theorem hy_7f {bytes tape : Nat → Int32} {m P k q : Nat} {y : Int32} {kd tw f5 : Nat → Int32} (h : hx_B bytes tape m) (hP : P ≤ m) (hq : q ≤ 400) (hk : k < 40) : ∃ c kd' on' tw' at7, hy_7 y k kd tw bytes (nI m) f5 (nI P) (nI q) = some (c, kd', on', tw', at7, nI q) := by
  unfold hy_7
  rw [hp_jn, hp_jn, hx_nef hq, hp_bv2, hp_jn]
  obtain ⟨a0, p0, -, v0⟩ := hy_f0 h hP hq
  obtain ⟨a1, p1, -, v1⟩ := hy_f1 h hP hq
  have cc : ∀ {α : Type} (x : Option α), ckI (nI k) 40 x = x := fun x => hp_ck (by omega) (by decide)
  have mid : ∃ c kd' on' tw' at7, (if y = 108 then bi_2 (pf_X5_number bytes (nI m) (nI P) (nI q)) fun r22 x23 x24 => (fun (x16 : Int32) (x17 : Int32) (x18 : Int32) => ckI (nI k) 40 (hy_7e y k kd bytes (nI m) f5 (upd (upd tw (nI k).toNatClampNeg 0) (nI k).toNatClampNeg x16) x17 x18)) r22 x23 x24 else bi_2 (pf_X5_signedNumber bytes (nI m) (nI P) (nI q)) fun r19 x20 x21 => (fun (x16 : Int32) (x17 : Int32) (x18 : Int32) => ckI (nI k) 40 (hy_7e y k kd bytes (nI m) f5 (upd (upd tw (nI k).toNatClampNeg 0) (nI k).toNatClampNeg x16) x17 x18)) r19 x20 x21) = some (c, kd', on', tw', at7, nI q) := by
    rw [v0, v1, hp_bi2, hp_bi2]
    dsimp only
    rw [cc, cc]
    by_cases c : y = 108
    · rw [if_pos c]; exact hy_ef hq
    · rw [if_neg c]; exact hy_ef hq
  by_cases c1 : y = 108
  · rw [if_pos c1]; exact mid
  rw [if_neg c1]
  by_cases c2 : y = 115
  · rw [if_pos c2]; exact mid
  rw [if_neg c2]
  by_cases c3 : y = 111
  · rw [if_pos c3]; exact mid
  rw [if_neg c3]
  exact hy_ef hq
theorem hy_m {bytes tape : Nat → Int32} {m p P k : Nat} {y n8 : Int32} {kd on tw ac aA aB f5 f9 : Nat → Int32} (hL : hy_L y) (h : hx_B bytes tape m) (hP : P ≤ m) (pP : p < P) (hk : k < 40) (R : hy_R k kd on tw ac aA aB)
    (h5 : ∀ i, i < k → f5 i = on i) (h9 : ∀ i, i < k → f9 i = aA i) (e1 : f5 k = f9 k) (b1 : -9999 ≤ (f5 k).toInt ∧ (f5 k).toInt ≤ 9999) :
    hy_K m p k (hy_7 y k kd tw bytes (nI m) f5 (nI P) (-1)) (hy_8 y k ac aB tape (nI m) (nI P) (-1) n8 f9) := by
  have hm := h.1
  have ck := hp_cl (n := k) (by omega)
  have cc : ∀ {α : Type} (x : Option α), ckI (nI k) 40 x = x := fun x => hp_ck (by omega) (by decide)
  unfold hy_7 hy_8
  rw [hp_jn, hp_jn, hp_jn, hp_jn, hx_ne h hP, (hx_pk h hP).2, hp_bi0]
  have mid : hy_K m p k (bv_2 (if hx_y bytes m P = 44 then some (nI (P + 1), -1) else some (nI P, nI P)) fun x14 x15 => jn (fun (x16 : Int32) (x17 : Int32) (x18 : Int32) => ckI (nI k) 40 <| hy_7e y k kd bytes (nI m) f5 (upd (upd tw (nI k).toNatClampNeg 0) (nI k).toNatClampNeg x16) x17 x18) fun J172 => if y = 108 then bi_2 (pf_X5_number bytes (nI m) x14 x15) fun r22 x23 x24 => J172 r22 x23 x24 else bi_2 (pf_X5_signedNumber bytes (nI m) x14 x15) fun r19 x20 x21 => J172 r19 x20 x21)
      (if hx_y bytes m P = 44 then nm (nI P + 1) fun x20 => jn (fun (x21 : Int32) => bi_3 (pf_X8_readValue x21 tape (nI m) x20 (-1) n8) fun r22 x23 x24 x25 => if r22 = 0 then some (0, x23, x24, x25, (upd ac (nI k).toNatClampNeg y), f9, (upd aB (nI k).toNatClampNeg 0), nI k) else ckI (nI k) 40 <| hy_8e y k ac tape (nI m) f9 x23 x24 x25 (upd (upd aB (nI k).toNatClampNeg 0) (nI k).toNatClampNeg x25)) fun J179 => if y = 108 then J179 0 else J179 1 else bi_1 (pf_X8_fails (nI P)) fun r26 x27 => ckZ r26 <| some (r26, nI P, x27, n8, (upd ac (nI k).toNatClampNeg y), f9, (upd aB (nI k).toNatClampNeg 0), nI k)) := by
    by_cases c : hx_y bytes m P = 44
    · have P1 := hx_yn (v := 44) h (by decide) c
      rw [if_pos c, if_pos c, hp_bv2, hp_jn, hp_nm, hp_jn, hp_i1]
      have fin : ∀ (f : Int32) (X : Option (Int32 × Int32 × Int32)), hy_V f n8 m tape (P + 1) X → hy_K m p k (bi_2 X fun r22 x23 x24 => ckI (nI k) 40 <| hy_7e y k kd bytes (nI m) f5 (upd (upd tw (nI k).toNatClampNeg 0) (nI k).toNatClampNeg r22) x23 x24)
          (bi_3 (pf_X8_readValue f tape (nI m) (nI (P + 1)) (-1) n8) fun r22 x23 x24 x25 => if r22 = 0 then some (0, x23, x24, x25, (upd ac (nI k).toNatClampNeg y), f9, (upd aB (nI k).toNatClampNeg 0), nI k) else ckI (nI k) 40 <| hy_8e y k ac tape (nI m) f9 x23 x24 x25 (upd (upd aB (nI k).toNatClampNeg 0) (nI k).toNatClampNeg x25)) := by
        rintro f X ⟨a, p', g1, g2, g3, g4, ⟨g5, g6, g7⟩ | ⟨q, at8, n9, g5, g6, g7⟩⟩
        · rw [g6, g7, hp_bi2, hp_bi3, if_neg (by decide), cc, cc, ck]
          exact hy_e hL h g2 (by omega) hk R h5 h9 (fun i hi => by rw [hp_un (by omega), hp_un (by omega)]) (fun i hi => by rw [hp_un (by omega), hp_un (by omega)]) e1 b1 (by rw [hp_us, hp_us])
        · rw [g6, g7, hp_bi2, hp_bi3, if_pos rfl, cc]
          exact Or.inr ⟨q, g5, hy_ef (by omega), ⟨_, _, _, _, _, _, rfl⟩⟩
      by_cases l : y = 108
      · rw [if_pos l, if_pos l]
        exact fin 0 _ (hy_v0 h (by omega) n8)
      · rw [if_neg l, if_neg l]
        exact fin 1 _ (hy_v1 h (by omega) n8)
    · unfold pf_X8_fails
      rw [if_neg c, if_neg c, hp_bv2, hp_jn, hp_bi1, hf_ckZ (Or.inl rfl)]
      obtain ⟨a0, p0, -, v0⟩ := hy_f0 h hP (show P ≤ 400 by omega)
      obtain ⟨a1, p1, -, v1⟩ := hy_f1 h hP (show P ≤ 400 by omega)
      rw [v0, v1, hp_bi2, hp_bi2]
      dsimp only
      rw [cc, cc]
      refine Or.inr ⟨P, hP, ?_, ⟨_, _, _, _, _, _, rfl⟩⟩
      by_cases l : y = 108
      · rw [if_pos l]; exact hy_ef (by omega)
      · rw [if_neg l]; exact hy_ef (by omega)
  by_cases c1 : y = 108
  · rw [if_pos c1, if_pos c1]; exact mid
  rw [if_neg c1, if_neg c1]
  by_cases c2 : y = 115
  · rw [if_pos c2, if_pos c2]; exact mid
  rw [if_neg c2, if_neg c2]
  by_cases c3 : y = 111
  · rw [if_pos c3, if_pos c3]; exact mid
  rw [if_neg c3, if_neg c3, ck]
  exact hy_e hL h hP pP hk R h5 h9 (fun i hi => by rw [hp_un (by omega)]) (fun i hi => by rw [hp_un (by omega)]) e1 b1 (by rw [hp_us, hp_us])
theorem hy_act {bytes tape : Nat → Int32} {m p k : Nat} {num : Int32} {kd on tw ac aA aB : Nat → Int32} (h : hx_B bytes tape m) (hp : p < m) (hk : k ≤ 40) (R : hy_R k kd on tw ac aA aB) :
    hy_K m p k (pf_X0_readAct (nI k) kd on tw bytes (nI m) (nI p) (-1)) (pf_X8_readAct tape (nI m) (nI p) (-1) num ac aA aB (nI k)) := by
  have hm := h.1
  obtain ⟨y7, y8⟩ := hx_pk (p := p) h (by omega)
  have ck := hp_cl (n := k) (by omega)
  unfold pf_X0_readAct pf_X8_readAct
  rw [y7, hp_bi0, y8, hp_bi0]
  have F7 : ∀ {β : Type} (J : Int32 → Option β), bv_1 (pf_X5_blame (nI p) (-1)) J = J (nI p) := fun J => by rw [hx_bl, hp_bv1]
  by_cases k4 : k = 40
  · subst k4
    rw [if_pos (by decide), F7]
    rcases hy_ia (hx_y bytes m p) with ⟨-, -, i8⟩ | ⟨-, i8⟩
    · rw [i8, hp_bi0, if_neg (by decide), if_pos (by decide)]
      unfold pf_X8_fails
      rw [hp_bi1, hf_ckZ (Or.inl rfl)]
      exact Or.inr ⟨p, by omega, ⟨_, _, _, _, _, rfl⟩, ⟨_, _, _, _, _, _, rfl⟩⟩
    · rw [i8, hp_bi0, if_pos rfl]
      unfold pf_X8_fails
      rw [hp_bi1, hf_ckZ (Or.inl rfl)]
      exact Or.inr ⟨p, by omega, ⟨_, _, _, _, _, rfl⟩, ⟨_, _, _, _, _, _, rfl⟩⟩
  have c40 : ¬ (40 : Int32) ≤ nI k := fun e => by
    have := (hp_eI (a := 40) (by omega) (by omega)).mp e
    omega
  have n40 : ¬ nI k = 40 := fun e => c40 (by rw [e]; decide)
  rw [if_neg c40]
  rcases hy_ia (hx_y bytes m p) with ⟨L, i7, i8⟩ | ⟨i7, i8⟩
  · rw [i7, hp_bi0, if_neg (by decide), i8, hp_bi0, if_neg (by decide), if_neg n40]
    have cc : ∀ {α : Type} (x : Option α), ckI (nI k) 40 x = x := fun x => hp_ck (by omega) (by decide)
    have M := fun (P : Nat) (n8 : Int32) (hP : P ≤ m) (pP : p < P) (f5 f9 : Nat → Int32) (h5 : ∀ i, i < k → f5 i = on i) (h9 : ∀ i, i < k → f9 i = aA i) e1 b1 => hy_m (p := p) (P := P) (y := hx_y bytes m p) (n8 := n8) L h hP pP (show k < 40 by omega) R h5 h9 e1 b1
    have MF := fun (P q : Nat) (f5 : Nat → Int32) (hP : P ≤ m) (hq : q ≤ 400) => hy_7f (y := hx_y bytes m p) (kd := kd) (tw := tw) (f5 := f5) h hP hq (show k < 40 by omega)
    generalize hx_y bytes m p = y at *
    have e7 : ∀ {β : Type} (K : _ → Option β), jn (fun (f5 : Nat → Int32) (x6 : Int32) (x7 : Int32) => jn (fun (f8 : Nat → Int32) (x9 : Int32) (x10 : Int32) => bv_2 (pf_X5_needs 59 bytes (nI m) x9 x10) fun x11 x12 => nm (nI k + 1) fun x13 => some (x13, (upd kd (nI k).toNatClampNeg y), f5, f8, x11, x12)) fun J173 => jn (bv_2 (pf_X5_needs 44 bytes (nI m) x6 x7) fun x14 x15 => jn (fun (x16 : Int32) (x17 : Int32) (x18 : Int32) => ckI (nI k) 40 <| J173 (upd (upd tw (nI k).toNatClampNeg 0) (nI k).toNatClampNeg x16) x17 x18) fun J172 => if y = 108 then bi_2 (pf_X5_number bytes (nI m) x14 x15) fun r22 x23 x24 => J172 r22 x23 x24 else bi_2 (pf_X5_signedNumber bytes (nI m) x14 x15) fun r19 x20 x21 => J172 r19 x20 x21) fun J141 => if y = 108 then J141 else if y = 115 then J141 else if y = 111 then J141 else J173 (upd tw (nI k).toNatClampNeg 0) x6 x7) K = K (hy_7 y k kd tw bytes (nI m)) := fun K => rfl
    rw [hp_nm, hp_nm, show nI p + 1 = nI (p + 1) from hp_i1 p, cc, cc, cc, cc, cc, cc, e7, hp_jn]
    have e8 : (fun (x6 : Int32) (x7 : Int32) (x8 : Int32) (f9 : Nat → Int32) => jn (fun (x10 : Int32) (x11 : Int32) (x12 : Int32) (f13 : Nat → Int32) => bi_0 (pf_X8_here tape (nI m) x10) fun r14 => if r14 = 59 then nm (x10 + 1) fun x15 => nm (nI k + 1) fun x16 => some (1, x15, x11, x12, (upd ac (nI k).toNatClampNeg y), f9, f13, x16) else bi_1 (pf_X8_fails x10) fun r17 x18 => ckZ r17 <| some (r17, x10, x18, x12, (upd ac (nI k).toNatClampNeg y), f9, f13, nI k)) fun J200 => jn (bi_0 (pf_X8_here tape (nI m) x6) fun r19 => if r19 = 44 then nm (x6 + 1) fun x20 => jn (fun (x21 : Int32) => bi_3 (pf_X8_readValue x21 tape (nI m) x20 x7 x8) fun r22 x23 x24 x25 => if r22 = 0 then some (0, x23, x24, x25, (upd ac (nI k).toNatClampNeg y), f9, (upd aB (nI k).toNatClampNeg 0), nI k) else ckI (nI k) 40 <| J200 x23 x24 x25 (upd (upd aB (nI k).toNatClampNeg 0) (nI k).toNatClampNeg x25)) fun J179 => if y = 108 then J179 0 else J179 1 else bi_1 (pf_X8_fails x6) fun r26 x27 => ckZ r26 <| some (r26, x6, x27, x8, (upd ac (nI k).toNatClampNeg y), f9, (upd aB (nI k).toNatClampNeg 0), nI k)) fun J139 => if y = 108 then J139 else if y = 115 then J139 else if y = 111 then J139 else J200 x6 x7 x8 (upd aB (nI k).toNatClampNeg 0)) = hy_8 y k ac aB tape (nI m) := rfl
    rw [e8, hp_jn]
    rw [hp_jn, hp_jn]
    have num1 : ∀ (f : Int32) (X : Option (Int32 × Int32 × Int32)), hy_V f num m tape (p + 1) X → hy_K m p k (bi_2 X fun r25 x26 x27 => ckI (nI k) 40 <| hy_7 y k kd tw bytes (nI m) (upd (upd on (nI k).toNatClampNeg 0) (nI k).toNatClampNeg r25) x26 x27)
        (bi_3 (pf_X8_readValue f tape (nI m) (nI (p + 1)) (-1) num) fun r29 x30 x31 x32 => if r29 = 0 then some (0, x30, x31, x32, (upd ac (nI k).toNatClampNeg y), (upd aA (nI k).toNatClampNeg 0), (upd aB (nI k).toNatClampNeg 0), nI k) else ckI (nI k) 40 <| hy_8 y k ac aB tape (nI m) x30 x31 x32 (upd (upd aA (nI k).toNatClampNeg 0) (nI k).toNatClampNeg x32)) := by
      rintro f X ⟨a, p', g1, g2, g3, g4, ⟨g5, g6, g7⟩ | ⟨q, at8, n9, g5, g6, g7⟩⟩
      · rw [g6, g7, hp_bi2, hp_bi3, if_neg (by decide), cc, cc, ck]
        exact M p' a g2 (by omega) _ _ (fun i hi => by rw [hp_un (by omega), hp_un (by omega)]) (fun i hi => by rw [hp_un (by omega), hp_un (by omega)]) (by rw [hp_us, hp_us]) (by rw [hp_us]; exact ⟨g3, g4⟩)
      · rw [g6, g7, hp_bi2, hp_bi3, if_pos rfl, cc]
        exact Or.inr ⟨q, g5, MF _ _ _ g2 (by omega), ⟨_, _, _, _, _, _, rfl⟩⟩
    by_cases c2 : y = 102
    · subst c2
      rw [if_neg (by decide), if_neg (by decide), if_neg (by decide), if_pos rfl, if_pos rfl, ck]
      exact M (p + 1) num (by omega) (by omega) _ _ (fun i hi => by rw [hp_un (by omega)]) (fun i hi => by rw [hp_un (by omega)]) (by rw [hp_us, hp_us]) (by rw [hp_us]; decide)
    rw [if_neg c2, if_neg c2]
    by_cases c3 : y = 99
    · rw [if_pos c3, if_pos c3]
      exact num1 1 _ (hy_v1 h (by omega) num)
    rw [if_neg c3, if_neg c3]
    by_cases c4 : y = 120
    · rw [if_pos c4, if_pos c4]
      exact num1 1 _ (hy_v1 h (by omega) num)
    rw [if_neg c4, if_neg c4]
    by_cases c5 : y = 61
    · rw [if_pos c5, if_pos c5]
      exact num1 1 _ (hy_v1 h (by omega) num)
    rw [if_neg c5, if_neg c5]
    exact num1 0 _ (hy_v0 h (by omega) num)
  · rw [i7, hp_bi0, if_pos rfl, F7, i8, hp_bi0, if_pos rfl]
    unfold pf_X8_fails
    rw [hp_bi1, hf_ckZ (Or.inl rfl)]
    exact Or.inr ⟨p, by omega, ⟨_, _, _, _, _, rfl⟩, ⟨_, _, _, _, _, _, rfl⟩⟩
