/-! faults. -/
theorem hf_pc8 {b : Nat} {c : Nat → Int32} {A : Nat → Nat → Int32} {all : Nat → Int32} {B : Nat} {x turned : Int32} (h : hp_RQ b c A all B) (hok : hp_ok (hp_w A) (A 4) b) (o1 : -99 ≤ (c 5).toInt) (o2 : (c 5).toInt ≤ 99) (s1 : 1 ≤ (c 9).toInt) (s2 : (c 9).toInt ≤ 64) (hB : B ≤ 640) (hx : -900000 ≤ x.toInt ∧ x.toInt ≤ 900000) (dec wl ao hb : Nat → Int32) :
    ∃ dec' wl' ao' hb' s' h', pf_X8_paperCode x all (nI B) dec wl ao hb turned = some (hp_PC b c A turned x, all, dec', wl', ao', hb', s', h', 0) := by
  obtain ⟨q1, q2, q3, q4, ⟨q5, -, q9, -⟩, q⟩ := id h
  have hok8 : hp_ok (hp_rw all B) (hp_rst all B) b := ⟨hok.1, fun i hi => by
    obtain ⟨e1, -, e3⟩ := hq_rw h i hi
    rw [e1, e3]; exact hok.2 i hi⟩
  unfold pf_X8_paperCode
  rw [hp_getl 0 (by omega), bi_0_s, hp_getl 1 (by omega), bi_0_s, Nat.add_zero, q2, q5]
  unfold pf_X8_goThrough
  have e10 : ((1 : Int32) = 0) = False := by simp
  simp only [e10, if_false, jn, nm]
  have ex : (x + c 5).toInt = x.toInt + (c 5).toInt := hp_add (by omega) (by omega)
  obtain ⟨dec', wl', ao', hb', held', hg⟩ := hp_go8 (turned := turned) (x := x) (offset := c 5) (all := all) (B := B) (b := b) (by omega) hok8 FU b dec wl ao hb 0 0 (Nat.le_refl b) (by unfold FU; omega) ⟨_, rfl, by rw [ex]; show _ ≤ x.toInt + (c 5).toInt - 0; omega, by rw [ex]; show x.toInt + (c 5).toInt - 0 ≤ _; omega⟩ (by decide) (by show (0 : Int) ≤ _; omega) (by omega) (by omega)
  rw [show nI b - 1 = hp_p b from rfl, hg]
  simp only [bv_7_s]
  rw [hp_code8 (by omega) q9 s1 s2, bi_0_s]
  have e : hp_code (c 9) (hp_ps (hp_rw all B) (hp_rwo all B) (hp_rst all B) turned b (x + c 5 - 0) 0) = hp_PC b c A turned x := by
    unfold hp_PC hp_pc
    rw [hp_ps_congr b (x + c 5 - 0) 0 (hq_rw h), Int32.sub_zero]
  rw [e]
  exact ⟨_, _, _, _, _, _, rfl⟩
def hp_SB (c : Nat → Int32) (A : Nat → Nat → Int32) : Prop := ∀ m : Nat, c 16 = nI m → m ≤ 8 → ∀ i, i < m → -100000 ≤ (A 14 i).toInt ∧ (A 14 i).toInt ≤ 100000
theorem hf_seen {b B : Nat} {c : Nat → Int32} {A : Nat → Nat → Int32} {all : Nat → Int32} (h : hp_RQ b c A all B) (hok : hp_ok (hp_w A) (A 4) b) (o1 : -99 ≤ (c 5).toInt) (o2 : (c 5).toInt ≤ 99) (s1 : 1 ≤ (c 9).toInt) (s2 : (c 9).toInt ≤ 64) (hB : B ≤ 640) (hs : hp_RS c A all B) (hsb : hp_SB c A) (dec wl ao hb : Nat → Int32) (s hd : Int32) :
    ∃ r dec' wl' ao' hb' s' hd', (r = 0 ∨ r = 1) ∧ pf_X2_agreesWithSeen (nI b) (A 1) (A 2) (A 3) (A 4) (c 5) (c 9) (A 14) (A 15) (c 16) = some (r, ()) ∧ pf_X8_isSeen all (nI B) dec wl ao hb s hd 0 (-1) = some (r, all, dec', wl', ao', hb', s', hd', 0) := by
  obtain ⟨m, m1, m2, m3, m4⟩ := hs
  have bd := hsb m m2 m1
  have hb12 := h.2.2.1
  have hF : m < FU := by unfold FU; omega
  unfold pf_X2_agreesWithSeen pf_X8_isSeen
  generalize FU = F at *
  rw [m2]
  have key : ∀ (n k j : Nat) (dec wl ao hb : Nat → Int32) (s hd : Int32), j + k = m → k < n → ∃ r dec' wl' ao' hb' s' hd', (r = 0 ∨ r = 1) ∧ lp_X2_agreesWithSeen_2 (nI b) (c 5) (c 9) (nI m) (A 2) (A 15) (A 14) (A 1) (A 4) (A 3) n (nI j) = some (r, ()) ∧ lp_X8_isSeen_2 (nI B) (-1) n (nI j) all dec wl ao hb s hd 0 = some (r, all, dec', wl', ao', hb', s', hd', 0) := by
    intro n
    induction n with
    | zero => intro k j dec wl ao hb s hd h1 h2; omega
    | succ n ih =>
      intro k j dec wl ao hb s hd h1 h2
      rw [lp_X2_agreesWithSeen_2, lp_X8_isSeen_2, hp_getl 57 (by omega), hp_bi0, m3]
      by_cases d : m ≤ j
      · have d' := (hp_eI (show m < 2147483648 by omega) (show j < 2147483648 by omega)).mpr d
        rw [if_pos d', if_pos d']
        exact ⟨1, dec, wl, ao, hb, s, hd, Or.inr rfl, rfl, rfl⟩
      · have d' : ¬ nI m ≤ nI j := fun d' => d ((hp_eI (by omega) (by omega)).mp d')
        obtain ⟨a1, a2⟩ := m4 j (by omega)
        obtain ⟨b1, b2⟩ := bd j (by omega)
        obtain ⟨d1, w1, ao1, hb1, s', h1', e1⟩ := hf_pc8 (turned := -1) (x := A 14 j) h hok o1 o2 s1 s2 hB (by omega) dec wl ao hb
        have e2 := hp_pc2 (x := A 14 j) (size := A 1) (off := A 2) (worth := A 3) (stuck := A 4) (offset := c 5) (step := c 9) hb12 s1 s2
        have e2 : pf_X2_paperCode (A 14 j) (nI b) (A 1) (A 2) (A 3) (A 4) (c 5) (c 9) = some (hp_PC b c A (-1) (A 14 j), ()) := e2
        rw [if_neg d', if_neg d', hp_ck (show j < 8 by omega) (by decide), hp_cl (show j < 2147483648 by omega), hp_a58, hp_a66, hp_get (by omega), hp_bi0, a1, e1, hp_bi8, hp_get (by omega), hp_bi0, a2, e2, hp_bi0, hp_ck (show j < 8 by omega) (by decide)]
        by_cases c1 : hp_PC b c A (-1) (A 14 j) = A 15 j
        · rw [if_pos c1, if_pos c1, hp_nm, hp_nm, hp_i1]
          exact ih (k - 1) (j + 1) _ _ _ _ _ _ (by omega) (by omega)
        · rw [if_neg c1, if_neg c1]
          exact ⟨0, d1, w1, ao1, hb1, s', h1', Or.inl rfl, rfl, rfl⟩
  exact key F m 0 dec wl ao hb s hd (by omega) hF
theorem hf_ckZ {α : Type} {r : Int32} {x : Option α} (h : r = 0 ∨ r = 1) : ckZ r x = x := by
  unfold ckZ
  rcases h with e | e
  · rw [e, if_pos (by decide)]
  · rw [e, if_pos (by decide)]
theorem hf_ex {b i : Nat} {c : Nat → Int32} {A Z : Nat → Nat → Int32} {all : Nat → Int32} {kind v : Int32} (h : hp_RC b c A all 0) (hc : hp_CI b c A) (hs : hp_RS c A all 0) (hsb : hp_SB c A) (hi : i < b) (fo fs : Nat → Int32) (hfo : ∀ j, j < b → fo j = A 2 j) (hfs : ∀ j, j < b → fs j = A 4 j) (hkv : (kind = 0 ∧ (v = 0 ∨ v = 1)) ∨ (kind = 1 ∧ -20 ≤ v.toInt ∧ v.toInt ≤ 20)) (dec wl ao hb : Nat → Int32) (s hd : Int32) :
    ∃ r fo' fs' dec' wl' ao' hb' s' hd', (r = 0 ∨ r = 1) ∧ pf_X7_explains kind (nI i) v (nI b) (hq_cp A Z 1) fo (hq_cp A Z 3) fs (c 5) (c 9) (hq_cp A Z 14) (hq_cp A Z 15) (c 16) (A 1) (A 2) (A 4) = some (r, fo', fs') ∧ (∀ j, j < b → fo' j = A 2 j) ∧ (∀ j, j < b → fs' j = A 4 j) ∧ ((kind = 1 ∧ v = 0) → r = 0) ∧
      (¬ (kind = 1 ∧ v = 0) → pf_X8_isFault kind (nI i) v all 0 dec wl ao hb s hd 0 (-1) = some (r, all, dec', wl', ao', hb', s', hd', 0)) := by
  obtain ⟨hq, -⟩ := hq_of h
  obtain ⟨q1, q2, q3, -, -, q⟩ := id h
  obtain ⟨⟨o1, o2⟩, -, -, -, ⟨s1, s2⟩, hcA⟩ := id hc
  obtain ⟨qi1, qi2, -, qi4⟩ := q i hi
  rw [Nat.zero_add] at qi1 qi2 qi4
  have rest : ∀ (fo1 fs1 : Nat → Int32) (all1 : Nat → Int32) (go gs : Int32), (∀ j, j < b → fo1 j = upd (A 2) i go j) → (∀ j, j < b → fs1 j = upd (A 4) i gs j) → hp_RQ b c (hp_ua (hp_ua A 2 (upd (A 2) i go)) 4 (upd (A 4) i gs)) all1 0 → (∀ k, 57 ≤ k → all1 k = all k) → (0 ≤ (A 1 i + go).toInt ∧ (A 1 i + go).toInt ≤ 20000) → (gs = -1 ∨ gs = 0 ∨ gs = 1) →
      ∃ r dec' wl' ao' hb' s' hd', (r = 0 ∨ r = 1) ∧ pf_X2_agreesWithSeen (nI b) (hq_cp A Z 1) fo1 (hq_cp A Z 3) fs1 (c 5) (c 9) (hq_cp A Z 14) (hq_cp A Z 15) (c 16) = some (r, ()) ∧ pf_X8_isSeen all1 0 dec wl ao hb s hd 0 (-1) = some (r, all1, dec', wl', ao', hb', s', hd', 0) := by
    intro fo1 fs1 all1 go gs e1 e2 R er w1 w2
    have R2 : hp_RQ b c (hq_u3 (hq_cp A Z) fo1 (hq_cp A Z 3) fs1) all1 0 := by
      refine hq_cong R (fun j hj => ⟨?_, ?_, ?_, ?_⟩) ⟨rfl, rfl, rfl, rfl, rfl, rfl, rfl⟩
      · show hq_cp A Z 1 j = A 1 j
        exact hq_cpi (by omega) (by omega)
      · exact e1 j hj
      · show hq_cp A Z 3 j = A 3 j
        exact hq_cpi (by omega) (by omega)
      · exact e2 j hj
    have ok2 : hp_ok (hp_w (hq_u3 (hq_cp A Z) fo1 (hq_cp A Z 3) fs1)) (hq_u3 (hq_cp A Z) fo1 (hq_cp A Z 3) fs1 4) b := by
      refine ⟨q3, fun j hj => ?_⟩
      have x1 : hp_w (hq_u3 (hq_cp A Z) fo1 (hq_cp A Z 3) fs1) j = A 1 j + fo1 j := by
        show hq_cp A Z 1 j + fo1 j = _
        rw [hq_cpi (by omega) (by omega)]
      have x2 : hq_u3 (hq_cp A Z) fo1 (hq_cp A Z 3) fs1 4 j = fs1 j := rfl
      rw [x1, x2, e1 j hj, e2 j hj]
      by_cases e : j = i
      · subst e
        rw [hp_us, hp_us]
        exact ⟨w1.1, w1.2, w2⟩
      · rw [hp_un e, hp_un e]
        obtain ⟨-, y1, y2⟩ := hp_wI hc hj
        have y3 := (hcA j hj).2.2.2.2
        have x3 : hp_w A j = A 1 j + A 2 j := rfl
        rw [x3] at y1 y2
        exact ⟨by omega, by omega, y3⟩
    have rs2 : hp_RS c (hq_u3 (hq_cp A Z) fo1 (hq_cp A Z 3) fs1) all1 0 := by
      obtain ⟨m, m1, m2, m3, m4⟩ := hp_RS_row (all' := all1) hs (fun k k1 k2 => by rw [Nat.zero_add]; exact er k k1)
      refine ⟨m, m1, m2, m3, fun j hj => ?_⟩
      obtain ⟨y1, y2⟩ := m4 j hj
      have z1 : hq_u3 (hq_cp A Z) fo1 (hq_cp A Z 3) fs1 14 j = A 14 j := hq_cpj (by omega) (Or.inl rfl)
      have z2 : hq_u3 (hq_cp A Z) fo1 (hq_cp A Z 3) fs1 15 j = A 15 j := hq_cpj (by omega) (Or.inr rfl)
      rw [z1, z2]; exact ⟨y1, y2⟩
    have sb2 : hp_SB c (hq_u3 (hq_cp A Z) fo1 (hq_cp A Z 3) fs1) := by
      intro m m1 m2 j hj
      have z1 : hq_u3 (hq_cp A Z) fo1 (hq_cp A Z 3) fs1 14 j = A 14 j := hq_cpj (by omega) (Or.inl rfl)
      rw [z1]; exact hsb m m1 m2 j hj
    exact hf_seen R2 ok2 o1 o2 s1 s2 (by omega) rs2 sb2 dec wl ao hb s hd
  obtain ⟨wt, wt1, wt2⟩ := hp_wI hc hi
  have ewt : hp_w A i = A 1 i + A 2 i := rfl
  rw [ewt] at wt wt1 wt2
  have cki : ∀ {α : Type} (z : Option α), ckI (nI i) 12 z = z := fun z => hp_ck (show i < 12 by omega) (by decide)
  have cl : (nI i).toNatClampNeg = i := hp_cl (by omega)
  rcases hkv with ⟨rfl, hv⟩ | ⟨rfl, hv1, hv2⟩
  · have R := hq_elem (r := 4) (p := 45) (k := i) hq (by omega) (by omega) v
    rw [Nat.zero_add] at R
    obtain ⟨r, dec', wl', ao', hb', s', hd', y0, y1, y2⟩ := rest fo (upd fs i v) (upd all (45 + i) v) (A 2 i) v (fun j hj => by rw [hp_ui]; exact hfo j hj) (fun j hj => by
      by_cases e : j = i
      · subst e; rw [hp_us, hp_us]
      · rw [hp_un e, hp_un e]; exact hfs j hj) (by rw [hp_ui, hp_uai]; exact R) (fun k hk => hp_un (by omega)) (by omega) (Or.inr hv)
    refine ⟨r, upd fo i (A 2 i), upd (upd fs i v) i (A 4 i), dec', wl', ao', hb', s', hd', y0, ?_, fun j hj => ?_, fun j hj => ?_, fun e => absurd e.1 (by decide), fun _ => ?_⟩
    · unfold pf_X7_explains
      rw [hp_jn, if_pos rfl, cki, cl]
      dsimp only
      rw [y1, hp_bi0, cki, hp_nm, cki, cki, hp_nm, cki, hf_ckZ y0]
    · by_cases e : j = i
      · subst e; rw [hp_us]
      · rw [hp_un e]; exact hfo j hj
    · by_cases e : j = i
      · subst e; rw [hp_us]
      · rw [hp_un e, hp_un e]; exact hfs j hj
    · unfold pf_X8_isFault
      rw [hp_jn, if_pos rfl, hp_a45]
      dsimp only
      rw [hp_get0 (by omega), hp_bi0, hp_jn, if_neg (show ¬ (0 : Int32) = 1 by decide), hp_jn, if_pos rfl]
      dsimp only
      rw [hp_put0 (by omega), hp_bv1, y2, hp_bi8, hp_put0 (by omega), hp_bv1, hf_ckZ y0, hp_uu, hp_ui]
  · have w7 : pf_X2_weight (nI i) (A 1) (A 2) = some (A 1 i + A 2 i, ()) := hp_wt (by omega)
    have w8 : pf_X8_weight (nI i) all 0 = some (A 1 i + A 2 i, ()) := by
      have := hp_wt8 (all := all) (B := 0) (i := i) (by omega) (by omega)
      rw [Nat.zero_add, Nat.zero_add, qi1, qi2] at this
      exact this
    by_cases hv0 : v = 0
    · refine ⟨0, fo, fs, dec, wl, ao, hb, s, hd, Or.inl rfl, ?_, hfo, hfs, fun _ => rfl, fun e => absurd ⟨rfl, hv0⟩ e⟩
      unfold pf_X7_explains
      rw [hp_jn, if_neg (show ¬ (1 : Int32) = 0 by decide), if_pos hv0]
    · by_cases hw : 1 ≤ A 1 i + A 2 i + v
      · obtain ⟨⟨e1, e2⟩, ⟨e3, e4⟩, -⟩ := hcA i hi
        have l1 : (1 : Int32).toInt = 1 := by decide
        have ev : (A 2 i + v).toInt = (A 2 i).toInt + v.toInt := hp_add (by omega) (by omega)
        have ew : (A 1 i + (A 2 i + v)).toInt = (A 1 i).toInt + ((A 2 i).toInt + v.toInt) := by rw [hp_add (by omega) (by omega), ev]
        have ew2 : (A 1 i + A 2 i + v).toInt = (A 1 i + A 2 i).toInt + v.toInt := hp_add (by omega) (by omega)
        have hw' := hw
        rw [hp_le, l1, ew2] at hw'
        have R := hq_elem (r := 2) (p := 21) (k := i) hq (by omega) (by omega) (A 2 i + v)
        rw [Nat.zero_add] at R
        obtain ⟨r, dec', wl', ao', hb', s', hd', y0, y1, y2⟩ := rest (upd fo i (A 2 i + v)) fs (upd all (21 + i) (A 2 i + v)) (A 2 i + v) (A 4 i) (fun j hj => by
          by_cases e : j = i
          · subst e; rw [hp_us, hp_us]
          · rw [hp_un e, hp_un e]; exact hfo j hj) (fun j hj => by rw [hp_ui]; exact hfs j hj) (by
            have e : hp_ua (hp_ua A 2 (upd (A 2) i (A 2 i + v))) 4 (upd (A 4) i (A 4 i)) = hp_ua A 2 (upd (A 2) i (A 2 i + v)) := by
              rw [hp_ui]
              have := hp_uai (hp_ua A 2 (upd (A 2) i (A 2 i + v))) 4
              rw [hp_uan (by decide)] at this
              exact this
            rw [e]; exact R) (fun k hk => hp_un (by omega)) (by omega) ((hcA i hi).2.2.2.2)
        refine ⟨r, upd (upd fo i (A 2 i + v)) i (A 2 i), upd fs i (A 4 i), dec', wl', ao', hb', s', hd', y0, ?_, fun j hj => ?_, fun j hj => ?_, fun e => absurd e.2 hv0, fun _ => ?_⟩
        · unfold pf_X7_explains
          rw [hp_jn, if_neg (show ¬ (1 : Int32) = 0 by decide), if_neg hv0, w7, hp_bi0, if_pos hw, cki, hp_nm, cki, cl]
          dsimp only
          rw [y1, hp_bi0, cki, hp_nm, cki, cki, hp_nm, cki, hf_ckZ y0]
        · by_cases e : j = i
          · subst e; rw [hp_us]
          · rw [hp_un e, hp_un e]; exact hfo j hj
        · by_cases e : j = i
          · subst e; rw [hp_us]
          · rw [hp_un e]; exact hfs j hj
        · unfold pf_X8_isFault
          rw [hp_jn, if_neg (show ¬ (1 : Int32) = 0 by decide), hp_a21]
          dsimp only
          rw [hp_get0 (by omega), hp_bi0, hp_jn, if_pos rfl, w8, hp_bi0, if_pos hw, hp_jn, if_neg (show ¬ (1 : Int32) = 0 by decide)]
          dsimp only
          rw [hp_put0 (by omega), hp_bv1, qi2, y2, hp_bi8, hp_put0 (by omega), hp_bv1, hf_ckZ y0, hp_uu, ← qi2, hp_ui]
      · refine ⟨0, fo, fs, dec, wl, ao, hb, s, hd, Or.inl rfl, ?_, hfo, hfs, fun _ => rfl, fun _ => ?_⟩
        · unfold pf_X7_explains
          rw [hp_jn, if_neg (show ¬ (1 : Int32) = 0 by decide), if_neg hv0, w7, hp_bi0, if_neg hw]
        · unfold pf_X8_isFault
          rw [hp_jn, if_neg (show ¬ (1 : Int32) = 0 by decide), hp_a21]
          dsimp only
          rw [hp_get0 (by omega), hp_bi0, hp_jn, if_pos rfl, w8, hp_bi0, if_neg hw]
def hf_kd (kind lo hi : Int32) : Prop := (kind = 0 ∧ lo = 0 ∧ hi = 1) ∨ (kind = 1 ∧ lo = -20 ∧ hi = 20)
theorem hf_in {b i : Nat} {c : Nat → Int32} {A Z : Nat → Nat → Int32} {all : Nat → Int32} {kind lo hi0 : Int32} (h : hp_RC b c A all 0) (hc : hp_CI b c A) (hs : hp_RS c A all 0) (hsb : hp_SB c A) (hi : i < b) (hk : hf_kd kind lo hi0) :
    ∀ (n m : Nat) (z fi fv : Int32) (fo fs dec wl ao hb : Nat → Int32) (s hd : Int32), lo.toInt ≤ z.toInt → z.toInt ≤ hi0.toInt + 1 → hi0.toInt - z.toInt + 1 < n → (m : Int) + (hi0.toInt - z.toInt + 1) ≤ 300000 → (∀ j, j < b → fo j = A 2 j) → (∀ j, j < b → fs j = A 4 j) →
    ∃ (m' : Nat) (fi' fv' : Int32) (fo' fs' dec' wl' ao' hb' : Nat → Int32) (s' hd' : Int32), (∀ J, lp_X7_faults_95 kind (A 2) (A 1) (A 4) (nI b) (hq_cp A Z 1) (hq_cp A Z 3) (c 5) (c 9) (hq_cp A Z 14) (hq_cp A Z 15) (c 16) hi0 (nI i) J n (nI m) fi fv z fo fs = J (nI m') fi' fv' (nI (i + 1)) fo' fs') ∧
      (∀ J, lp_X8_faults_63 kind 0 (-1) (nI i) J n (nI m) fi fv z all dec wl ao hb s hd 0 = J (nI m') fi' fv' (nI (i + 1)) all dec' wl' ao' hb' s' hd' 0) ∧ (∀ j, j < b → fo' j = A 2 j) ∧ (∀ j, j < b → fs' j = A 4 j) ∧ (m' : Int) ≤ m + (hi0.toInt - z.toInt + 1) := by
  have l1 : (1 : Int32).toInt = 1 := by decide
  have l20 : (20 : Int32).toInt = 20 := by decide
  have lm20 : (-20 : Int32).toInt = -20 := by decide
  have l0 : (0 : Int32).toInt = 0 := by decide
  have hhi : 1 ≤ hi0.toInt ∧ hi0.toInt ≤ 20 ∧ -20 ≤ lo.toInt := by
    rcases hk with ⟨-, e1, e2⟩ | ⟨-, e1, e2⟩ <;> rw [e1, e2] <;> decide
  intro n
  induction n with
  | zero => intro m z fi fv fo fs dec wl ao hb s hd h1 h2; omega
  | succ n ih =>
    intro m z fi fv fo fs dec wl ao hb s hd z1 z2 z3 z4 hfo hfs
    have e75 : ∀ {β : Type} (J : Int32 → β), jn J (fun J75 => if kind = 0 then J75 1 else J75 20) = J hi0 := by
      intro β J
      rw [hp_jn]
      rcases hk with ⟨e0, e1, e2⟩ | ⟨e0, e1, e2⟩
      · rw [if_pos e0, e2]
      · rw [if_neg (by rw [e0]; decide), e2]
    by_cases g : hi0 < z
    · refine ⟨m, fi, fv, fo, fs, dec, wl, ao, hb, s, hd, fun J => ?_, fun J => ?_, hfo, hfs, by rw [hp_lt] at g; omega⟩
      · rw [lp_X7_faults_95, if_pos g, hp_nm, hp_i1]
      · rw [lp_X8_faults_63, e75]
        rw [if_pos g, hp_nm, hp_i1]
    · have g' := g
      rw [hp_lt] at g'
      have ez : (z + 1).toInt = z.toInt + 1 := by rw [hp_add (by rw [l1]; omega) (by rw [l1]; omega), l1]
      have hkv : (kind = 0 ∧ (z = 0 ∨ z = 1)) ∨ (kind = 1 ∧ -20 ≤ z.toInt ∧ z.toInt ≤ 20) := by
        rcases hk with ⟨e0, e1, e2⟩ | ⟨e0, e1, e2⟩
        · left
          rw [e1, l0] at z1
          rw [e2, l1] at g'
          refine ⟨e0, ?_⟩
          have : z.toInt = 0 ∨ z.toInt = 1 := by omega
          rcases this with e | e
          · left; rw [hp_eq, e]; decide
          · right; rw [hp_eq, e]; decide
        · right
          rw [e1, lm20] at z1
          rw [e2, l20] at g'
          exact ⟨e0, by omega, by omega⟩
      obtain ⟨r, fo1, fs1, d1, w1, a1, b1, s1, h1, y0, y1, y2, y3, y4, y5⟩ := hf_ex (Z := Z) h hc hs hsb hi fo fs hfo hfs hkv dec wl ao hb s hd
      have em1 : (nI (m + 1) = 1) = (m = 0) := by
        apply propext
        have := hp_qI (a := m + 1) (b := 1) (by omega) (by omega)
        rw [show (1 : Int32) = nI 1 from rfl, this]; omega
      have em0 : (nI m = 0) = (m = 0) := by
        rw [show (0 : Int32) = nI 0 from rfl]; exact hp_qI (by omega) (by omega)
      by_cases c0 : kind = 1 ∧ z = 0
      · have r0 := y4 c0
        subst r0
        obtain ⟨m', fi', fv', fo', fs', d2, w2, a2, b2, s2, h2, t1, t2, t3, t4, t5⟩ := ih m (z + 1) fi fv fo1 fs1 dec wl ao hb s hd (by omega) (by omega) (by omega) (by omega) y2 y3
        refine ⟨m', fi', fv', fo', fs', d2, w2, a2, b2, s2, h2, fun J => ?_, fun J => ?_, t3, t4, by omega⟩
        · rw [lp_X7_faults_95, if_neg g, y1, hp_bi2, if_pos rfl, hp_nm]
          exact t1 J
        · rw [lp_X8_faults_63, e75]
          rw [if_neg g, hp_jn, if_pos c0.1, if_pos c0.2, hp_nm]
          exact t2 J
      · have y5 := y5 c0
        have sel : ∀ {β : Type} (P Q : β), (if kind = 1 then (if z = 0 then P else Q) else Q) = Q := by
          intro β P Q
          by_cases k1 : kind = 1
          · rw [if_pos k1, if_neg (fun e => c0 ⟨k1, e⟩)]
          · rw [if_neg k1]
        rcases y0 with r0 | r1
        · subst r0
          obtain ⟨m', fi', fv', fo', fs', d2, w2, a2, b2, s2, h2, t1, t2, t3, t4, t5⟩ := ih m (z + 1) fi fv fo1 fs1 d1 w1 a1 b1 s1 h1 (by omega) (by omega) (by omega) (by omega) y2 y3
          refine ⟨m', fi', fv', fo', fs', d2, w2, a2, b2, s2, h2, fun J => ?_, fun J => ?_, t3, t4, by omega⟩
          · rw [lp_X7_faults_95, if_neg g, y1, hp_bi2, if_pos rfl, hp_nm]
            exact t1 J
          · rw [lp_X8_faults_63, e75]
            rw [if_neg g, hp_jn, sel, y5, hp_bi8, if_pos rfl, hp_nm]
            exact t2 J
        · subst r1
          obtain ⟨m', fi', fv', fo', fs', d2, w2, a2, b2, s2, h2, t1, t2, t3, t4, t5⟩ := ih (m + 1) (z + 1) (if m = 0 then nI i else fi) (if m = 0 then z else fv) fo1 fs1 d1 w1 a1 b1 s1 h1 (by omega) (by omega) (by omega) (by omega) y2 y3
          refine ⟨m', fi', fv', fo', fs', d2, w2, a2, b2, s2, h2, fun J => ?_, fun J => ?_, t3, t4, by omega⟩
          · have t1 := t1 J
            rw [lp_X7_faults_95, if_neg g, y1, hp_bi2, if_neg (show ¬ (1 : Int32) = 0 by decide)]
            simp only [hp_jn, hp_nm, hp_i1, em0]
            by_cases c1 : m = 0
            · simp only [if_pos c1] at t1 ⊢; exact t1
            · simp only [if_neg c1] at t1 ⊢; exact t1
          · have t2 := t2 J
            rw [lp_X8_faults_63, e75]
            rw [if_neg g, hp_jn, sel, y5, hp_bi8, if_neg (show ¬ (1 : Int32) = 0 by decide)]
            simp only [hp_jn, hp_nm, hp_i1, em1]
            by_cases c1 : m = 0
            · simp only [if_pos c1] at t2 ⊢; exact t2
            · simp only [if_neg c1] at t2 ⊢; exact t2
theorem hf_out {b : Nat} {c : Nat → Int32} {A Z : Nat → Nat → Int32} {all : Nat → Int32} {kind lo hi0 : Int32} (h : hp_RC b c A all 0) (hc : hp_CI b c A) (hs : hp_RS c A all 0) (hsb : hp_SB c A) (hk : hf_kd kind lo hi0) (F : Nat) (hF : 50 < F) (hFU : FU = F) :
    ∀ (n k i m : Nat) (fi fv : Int32) (fo fs dec wl ao hb : Nat → Int32) (s hd : Int32), i + k = b → k < n → m ≤ 41 * i → (∀ j, j < b → fo j = A 2 j) → (∀ j, j < b → fs j = A 4 j) →
    ∃ (m' fi' fv' : Int32) (fo' fs' dec' wl' ao' hb' : Nat → Int32) (s' hd' : Int32), (∀ J, lp_X7_faults_79 kind (nI b) (A 2) (A 1) (A 4) (nI b) (hq_cp A Z 1) (hq_cp A Z 3) (c 5) (c 9) (hq_cp A Z 14) (hq_cp A Z 15) (c 16) lo hi0 J n (nI m) fi fv (nI i) fo fs = J m' fi' fv' fo' fs') ∧
      (∀ J, lp_X8_faults_45 kind 0 (-1) (nI b) J n (nI m) fi fv (nI i) all dec wl ao hb s hd 0 = J m' fi' fv' all dec' wl' ao' hb' s' hd' 0) := by
  have hhi : hi0.toInt - lo.toInt ≤ 40 ∧ lo.toInt ≤ hi0.toInt := by
    rcases hk with ⟨-, e1, e2⟩ | ⟨-, e1, e2⟩ <;> rw [e1, e2] <;> decide
  have hb12 := h.2.2.1
  intro n
  induction n with
  | zero => intro k i m fi fv fo fs dec wl ao hb s hd h1 h2; omega
  | succ n ih =>
    intro k i m fi fv fo fs dec wl ao hb s hd h1 h2 hm hfo hfs
    by_cases d : b ≤ i
    · have d' := (hp_eI (show b < 2147483648 by omega) (show i < 2147483648 by omega)).mpr d
      refine ⟨nI m, fi, fv, fo, fs, dec, wl, ao, hb, s, hd, fun J => ?_, fun J => ?_⟩
      · rw [lp_X7_faults_79, if_pos d']
      · rw [lp_X8_faults_45, if_pos d']
    · have d' : ¬ nI b ≤ nI i := fun d' => d ((hp_eI (by omega) (by omega)).mp d')
      have e61 : ∀ {β : Type} (J : Int32 → β), jn J (fun J61 => if kind = 0 then J61 0 else J61 (-20)) = J lo := by
        intro β J
        rw [hp_jn]
        rcases hk with ⟨e0, e1, e2⟩ | ⟨e0, e1, e2⟩
        · rw [if_pos e0, e1]
        · rw [if_neg (by rw [e0]; decide), e1]
      obtain ⟨m1, fi1, fv1, fo1, fs1, d1, w1, a1, b1, s1, hd1, t1, t2, t3, t4, t5⟩ := hf_in (Z := Z) h hc hs hsb (show i < b by omega) hk F m lo fi fv fo fs dec wl ao hb s hd (Int.le_refl _) (by omega) (by omega) (by omega) hfo hfs
      obtain ⟨m2, fi2, fv2, fo2, fs2, d2, w2, a2, b2, s2, hd2, u1, u2⟩ := ih (k - 1) (i + 1) m1 fi1 fv1 fo1 fs1 d1 w1 a1 b1 s1 hd1 (by omega) (by omega) (by omega) t3 t4
      refine ⟨m2, fi2, fv2, fo2, fs2, d2, w2, a2, b2, s2, hd2, fun J => ?_, fun J => ?_⟩
      · rw [lp_X7_faults_79, if_neg d', hp_jn, hFU]
        exact (t1 _).trans (u1 J)
      · rw [lp_X8_faults_45, if_neg d', e61]
        rw [hp_jn, hFU]
        exact (t2 _).trans (u2 J)
theorem op_faults {b : Nat} {c : Nat → Int32} {A : Nat → Nat → Int32} {all : Nat → Int32} (kind w : Int32) (h : hp_RC b c A all 0) (hc : hp_CI b c A) (hs : hp_RS c A all 0) (hsb : hp_SB c A) (ca : Nat → Int32) (Z : Nat → Nat → Int32) (dec wl ao hb : Nat → Int32) (s hd : Int32) :
    ∃ r R7 dec' wl' ao' hb' s' hd', pf_X7_faults kind w (ca 0) (Z 1) (Z 2) (Z 3) (Z 4) (ca 5) (ca 6) (ca 7) (ca 8) (ca 9) (ca 10) (ca 11) (ca 12) (Z 14) (Z 15) (ca 16) (c 0) (A 1) (A 2) (A 3) (A 4) (c 5) (c 6) (c 7) (c 8) (c 9) (c 10) (c 11) (c 12) (A 14) (A 15) (c 16) = some (r, R7) ∧
      pf_X8_faults kind w all 0 dec wl ao hb s hd 0 (-1) = some (r, all, dec', wl', ao', hb', s', hd', 0) := by
  obtain ⟨q1, q2, q3, q4, -⟩ := id h
  have hF : 50 < FU := by unfold FU; omega
  unfold pf_X7_faults pf_X8_faults
  rw [q1, hp_get0l 0 (by omega), q2, hp_bi0, hp_within, hp_isIn, hp_bi0, hp_bi0, hp_within, hp_isIn, hp_bi0, hp_bi0]
  simp only [hp_b0]
  by_cases c1 : nI b = 0
  · rw [if_pos c1, if_pos c1]; exact ⟨_, _, dec, wl, ao, hb, s, hd, rfl, rfl⟩
  · rw [if_neg c1, if_neg c1]
    by_cases c2 : (0 : Int32) ≤ kind ∧ kind ≤ 1
    · rw [if_neg (not_not_intro c2), if_neg (not_not_intro c2)]
      by_cases c3 : (0 : Int32) ≤ w ∧ w ≤ 2
      · rw [if_neg (not_not_intro c3), if_neg (not_not_intro c3)]
        unfold pf_X2_copyFrom pf_X2_takeForm
        rw [hp_bv10, hp_bv16]
        obtain ⟨k1, k2⟩ := c2
        rw [hp_le, show (0 : Int32).toInt = 0 from by decide] at k1
        rw [hp_le, show (1 : Int32).toInt = 1 from by decide] at k2
        have hk : ∃ lo hi0, hf_kd kind lo hi0 ∧ (∀ {β : Type} (J : Int32 → β), jn J (fun J61 => if kind = 0 then J61 0 else J61 (-20)) = J lo) ∧ (∀ {β : Type} (J : Int32 → β), jn J (fun J75 => if kind = 0 then J75 1 else J75 20) = J hi0) := by
          have : kind.toInt = 0 ∨ kind.toInt = 1 := by omega
          rcases this with e | e
          · have e : kind = 0 := by rw [hp_eq, e]; decide
            exact ⟨0, 1, Or.inl ⟨e, rfl, rfl⟩, fun J => by rw [hp_jn, if_pos e], fun J => by rw [hp_jn, if_pos e]⟩
          · have e : kind = 1 := by rw [hp_eq, e]; decide
            exact ⟨-20, 20, Or.inr ⟨e, rfl, rfl⟩, fun J => by rw [hp_jn, if_neg (by rw [e]; decide)], fun J => by rw [hp_jn, if_neg (by rw [e]; decide)]⟩
        obtain ⟨lo, hi0, hk, e61, e75⟩ := hk
        obtain ⟨m', fi', fv', fo', fs', d1, w1, a1, b1, s1, h1, t1, t2⟩ := hf_out (Z := Z) h hc hs hsb hk FU hF rfl FU b 0 0 (-100) (-100) (hq_cp A Z 2) (hq_cp A Z 4) dec wl ao hb s hd (by omega) (by omega) (by omega) (fun j hj => hq_cpi (by omega) (by omega)) (fun j hj => hq_cpi (by omega) (by omega))
        generalize FU = F at *
        rw [e61]
        rw [e75]
        rw [hp_jn, hp_jn]
        erw [t1, t2]
        by_cases k0 : w = 0
        · simp only [if_pos k0]; exact ⟨_, _, _, _, _, _, _, _, rfl, rfl⟩
        · simp only [if_neg k0]
          by_cases k1 : w = 1
          · simp only [if_pos k1]; exact ⟨_, _, _, _, _, _, _, _, rfl, rfl⟩
          · simp only [if_neg k1]; exact ⟨_, _, _, _, _, _, _, _, rfl, rfl⟩
      · rw [if_pos c3, if_pos c3]; exact ⟨_, _, dec, wl, ao, hb, s, hd, rfl, rfl⟩
    · rw [if_pos c2, if_pos c2]; exact ⟨_, _, dec, wl, ao, hb, s, hd, rfl, rfl⟩
