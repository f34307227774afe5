/-! HOURS; pass. -/
theorem hh_held {v lo hi : Int32} (hl : lo.toInt < hi.toInt) : pf_X8_held v lo hi = some ((if lo < (if v < hi then v else hi) then (if v < hi then v else hi) else lo), ()) := by
  unfold pf_X8_held
  by_cases c1 : lo ≤ v
  · rw [if_pos c1]
    by_cases c2 : v < hi
    · rw [if_pos c2, if_pos (show v ≤ hi by rw [hp_le]; rw [hp_lt] at c2; omega)]
      by_cases c3 : lo < v
      · rw [if_pos c3]
      · rw [if_neg c3]
        have : v = lo := by rw [hp_eq]; rw [hp_lt] at c3; rw [hp_le] at c1; omega
        rw [this]
    · rw [if_neg c2, if_pos (show lo < hi from by rw [hp_lt]; omega)]
      by_cases c4 : v ≤ hi
      · rw [if_pos c4]
        have : v = hi := by rw [hp_eq]; rw [hp_lt] at c2; rw [hp_le] at c4; omega
        rw [this]
      · rw [if_neg c4]
  · rw [if_neg c1]
    rw [hp_le] at c1
    have c2 : v < hi := by rw [hp_lt]; omega
    rw [if_pos c2, if_neg (show ¬ lo < v by rw [hp_lt]; omega)]
def hh_c (lo hi v : Int32) : Int32 := if lo < (if v < hi then v else hi) then (if v < hi then v else hi) else lo
theorem hh_cb {lo hi v : Int32} (hl : lo.toInt < hi.toInt) : lo.toInt ≤ (hh_c lo hi v).toInt ∧ (hh_c lo hi v).toInt ≤ hi.toInt := by
  unfold hh_c
  by_cases c2 : v < hi
  · rw [if_pos c2]
    rw [hp_lt] at c2
    by_cases c3 : lo < v
    · rw [if_pos c3]; rw [hp_lt] at c3; omega
    · rw [if_neg c3]; omega
  · rw [if_neg c2]
    by_cases c3 : lo < hi
    · rw [if_pos c3]; omega
    · rw [if_neg c3]; omega
def hh_n (s o r : Int32) : Int32 := if hh_c (-99) 99 (o + hh_c (-9) 9 r) < 1 - s then 1 - s else hh_c (-99) 99 (o + hh_c (-9) 9 r)
theorem hh_nb {s o r : Int32} (h1 : 1 ≤ s.toInt) (h2 : s.toInt ≤ 9999) : -99 ≤ (hh_n s o r).toInt ∧ (hh_n s o r).toInt ≤ 99 ∧ 1 ≤ s.toInt + (hh_n s o r).toInt := by
  have z1 : (1 : Int32).toInt = 1 := by decide
  have hs : (1 - s).toInt = 1 - s.toInt := by rw [hp_sub (by rw [z1]; omega) (by rw [z1]; omega), z1]
  obtain ⟨a, b⟩ := hh_cb (lo := -99) (hi := 99) (v := o + hh_c (-9) 9 r) (by decide)
  rw [show (-99 : Int32).toInt = -99 from by decide] at a
  rw [show (99 : Int32).toInt = 99 from by decide] at b
  unfold hh_n
  by_cases c : hh_c (-99) 99 (o + hh_c (-9) 9 r) < 1 - s
  · rw [if_pos c]
    rw [hp_lt, hs] at c
    omega
  · rw [if_neg c]
    rw [hp_lt, hs] at c
    omega
theorem hq_hr1 {b B : Nat} {c : Nat → Int32} {A : Nat → Nat → Int32} {all kd vl : Nat → Int32} {steps : Int32} (h : hp_RQ b c A all B) (hc : hp_CI b c A) (hd : hp_RD kd vl steps all B) (hB : B ≤ 640) :
    ∀ (n k j : Nat) (t x : Int32) (fo fs g no : Nat → Int32), j + k = b → k < n → (∀ i, i < j → no i = fo i) → (∀ i, j ≤ i → fo i = A 2 i) → (∀ i, i < j → -99 ≤ (fo i).toInt ∧ (fo i).toInt ≤ 99 ∧ 1 ≤ (A 1 i).toInt + (fo i).toInt) →
    ∃ t' x' fo' fs' g' no', (∀ J, lp_X2_passHour_4 (nI b) (c 11) (c 12) steps kd vl (A 1) J n t (nI j) fo fs x = J t' fo' fs' x') ∧ (∀ J, lp_X8_hour_4 (nI B) all J n t (nI j) g no = J t' g' no') ∧ (∀ i, i < b → no' i = fo' i) ∧ (∀ i, i < b → -99 ≤ (fo' i).toInt ∧ (fo' i).toInt ≤ 99 ∧ 1 ≤ (A 1 i).toInt + (fo' i).toInt) := by
  intro n
  induction n with
  | zero => intro k j t x fo fs g no h1 h2; omega
  | succ n ih =>
    intro k j t x fo fs g no h1 h2 hno hfo hcb
    obtain ⟨q1, q2, q3, q4, ⟨q5, q6, q9, q10, q11, q12⟩, q⟩ := id h
    by_cases d : b ≤ j
    · have d' := (hp_eI (show b < 2147483648 by omega) (show j < 2147483648 by omega)).mpr d
      refine ⟨t, x, fo, fs, g, no, fun J => ?_, fun J => ?_, fun i hi => hno i (by omega), fun i hi => hcb i (by omega)⟩
      · rw [lp_X2_passHour_4, if_pos d']
      · rw [lp_X8_hour_4, hp_getl 0 (by omega), hp_bi0, Nat.add_zero, q2, if_pos d']
    · have d' : ¬ nI b ≤ nI j := fun d' => d ((hp_eI (by omega) (by omega)).mp d')
      obtain ⟨a1, a2, -, -⟩ := q j (by omega)
      obtain ⟨r, f1, x1, g1, y1, y2⟩ := hd_ask (size := A 1) (off := fo) (heat := c 11) (hour := c 12) (i := j) hd hB (by omega) a1 (a2.trans (hfo j (Nat.le_refl j)).symm) q11 q12 fs g
      obtain ⟨s1, s2⟩ := (hc.2.2.2.2.2 j (by omega)).1
      have gA1 : pf_X8_get (9 + nI j) all (nI B) = some (A 1 j, ()) := by rw [hp_a9, hp_get (by omega), a1]
      have gA2 : pf_X8_get (21 + nI j) all (nI B) = some (fo j, ()) := by rw [hp_a21, hp_get (by omega), a2, hfo j (Nat.le_refl j)]
      have g0 : pf_X8_get 0 all (nI B) = some (nI b, ()) := by rw [hp_getl 0 (by omega), Nat.add_zero, q2]
      have hx := ih (k - 1) (j + 1) (if hh_n (A 1 j) (fo j) r = fo j then t else t + 1) x1 (upd fo j (hh_n (A 1 j) (fo j) r)) f1 g1 (upd no j (hh_n (A 1 j) (fo j) r)) (by omega) (by omega) (fun i hi => by
          by_cases e : i = j
          · subst e; rw [hp_us, hp_us]
          · rw [hp_un e, hp_un e]; exact hno i (by omega)) (fun i hi => by rw [hp_un (by omega)]; exact hfo i (by omega)) (fun i hi => by
          by_cases e : i = j
          · subst e; rw [hp_us]; exact hh_nb s1 s2
          · rw [hp_un e]; exact hcb i (by omega))
      obtain ⟨t', x', fo', fs', g', no', v1, v2, v3, v4⟩ := hx
      refine ⟨t', x', fo', fs', g', no', fun J => ?_, fun J => ?_, v3, v4⟩
      · rw [lp_X2_passHour_4, if_neg d', y1, hp_bi2, hp_nm, hp_nm, hp_ck (show j < 12 by omega) (by decide), hp_nm, hp_nm, hp_ck (show j < 12 by omega) (by decide), hp_nm, hp_ck (show j < 12 by omega) (by decide), hp_jn, hp_cl (show j < 2147483648 by omega)]
        have e9 : (if (-9 : Int32) < (if r < 9 then r else 9) then (if r < 9 then r else 9) else -9) = hh_c (-9) 9 r := rfl
        rw [e9]
        have e99 : (if (-99 : Int32) < (if fo j + hh_c (-9) 9 r < 99 then fo j + hh_c (-9) 9 r else 99) then (if fo j + hh_c (-9) 9 r < 99 then fo j + hh_c (-9) 9 r else 99) else -99) = hh_c (-99) 99 (fo j + hh_c (-9) 9 r) := rfl
        rw [e99]
        have en : (if hh_c (-99) 99 (fo j + hh_c (-9) 9 r) < 1 - A 1 j then 1 - A 1 j else hh_c (-99) 99 (fo j + hh_c (-9) 9 r)) = hh_n (A 1 j) (fo j) r := rfl
        rw [en]
        have v1 := v1 J
        by_cases e : hh_n (A 1 j) (fo j) r = fo j
        · rw [if_pos e] at v1
          rw [if_pos e]
          dsimp only
          rw [hp_ck (show j < 12 by omega) (by decide), hp_nm, hp_i1]
          exact v1
        · rw [if_neg e] at v1
          rw [if_neg e, hp_nm]
          dsimp only
          rw [hp_ck (show j < 12 by omega) (by decide), hp_nm, hp_i1]
          exact v1
      · rw [lp_X8_hour_4, g0, hp_bi0, if_neg d', gA2, hp_bi0, y2, hp_bi1, hh_held (by decide), hp_bi0, hh_held (by decide), hp_bi0, gA1, hp_bi0, hp_jn]
        have e9 : (if (-9 : Int32) < (if r < 9 then r else 9) then (if r < 9 then r else 9) else -9) = hh_c (-9) 9 r := rfl
        rw [e9]
        have e99 : (if (-99 : Int32) < (if fo j + hh_c (-9) 9 r < 99 then fo j + hh_c (-9) 9 r else 99) then (if fo j + hh_c (-9) 9 r < 99 then fo j + hh_c (-9) 9 r else 99) else -99) = hh_c (-99) 99 (fo j + hh_c (-9) 9 r) := rfl
        rw [e99]
        have v2 := v2 J
        have core : ∀ z, z = hh_n (A 1 j) (fo j) r → (ckI (nI j) 12 <| ckI (nI j) 12 <| bi_0 (some (fo j, ())) fun r24 => if (upd no (nI j).toNatClampNeg z) (nI j).toNatClampNeg = r24 then nm (t + 0) fun x25 => nm (nI j + 1) fun x26 => lp_X8_hour_4 (nI B) all J n x25 x26 g1 (upd no (nI j).toNatClampNeg z) else nm (t + 1) fun x27 => nm (nI j + 1) fun x28 => lp_X8_hour_4 (nI B) all J n x27 x28 g1 (upd no (nI j).toNatClampNeg z)) = J t' g' no' := by
          intro z hz
          rw [hz, hp_ck (show j < 12 by omega) (by decide), hp_ck (show j < 12 by omega) (by decide), hp_bi0, hp_cl (show j < 2147483648 by omega), hp_us]
          by_cases e : hh_n (A 1 j) (fo j) r = fo j
          · rw [if_pos e] at v2
            rw [if_pos e, hp_nm, hp_nm, hp_i1, Int32.add_zero]
            exact v2
          · rw [if_neg e] at v2
            rw [if_neg e, hp_nm, hp_nm, hp_i1]
            exact v2
        have c3 : ∀ z : Int32, (1 - A 1 j ≤ z) ↔ ¬ z < 1 - A 1 j := fun z => by rw [hp_le, hp_lt]; omega
        by_cases k3 : 1 - A 1 j ≤ hh_c (-99) 99 (fo j + hh_c (-9) 9 r)
        · rw [if_pos k3]
          refine core _ ?_
          unfold hh_n
          rw [if_neg ((c3 _).mp k3)]
        · rw [if_neg k3, hp_bi0]
          refine core _ ?_
          unfold hh_n
          rw [if_pos (Classical.not_not.mp (fun z => k3 ((c3 _).mpr z)))]
theorem hq_hr2 {b B : Nat} {no : Nat → Int32} (hb : b ≤ 12) (hB : B ≤ 640) :
    ∀ (n k j : Nat) (all : Nat → Int32), j + k = b → k < n → all B = nI b → ∃ all', (∀ J, lp_X8_hour_109 (nI B) no J n (nI j) all = J all') ∧ (∀ i, i < b → j ≤ i → all' (B + (21 + i)) = no i) ∧ (∀ q, q < B + (21 + j) ∨ B + (21 + b) ≤ q → all' q = all q) := by
  intro n
  induction n with
  | zero => intro k j all h1 h2; omega
  | succ n ih =>
    intro k j all h1 h2 h0
    have g0 : pf_X8_get 0 all (nI B) = some (nI b, ()) := by rw [hp_getl 0 (by omega), Nat.add_zero, h0]
    by_cases d : b ≤ j
    · have d' := (hp_eI (show b < 2147483648 by omega) (show j < 2147483648 by omega)).mpr d
      refine ⟨all, fun J => ?_, fun i h1 h2 => by omega, fun q hq => rfl⟩
      rw [lp_X8_hour_109, g0, hp_bi0, if_pos d']
    · have d' : ¬ nI b ≤ nI j := fun d' => d ((hp_eI (by omega) (by omega)).mp d')
      obtain ⟨all', v1, v2, v3⟩ := ih (k - 1) (j + 1) (upd all (B + (21 + j)) (no j)) (by omega) (by omega) (by rw [hp_un (by omega)]; exact h0)
      refine ⟨all', fun J => ?_, fun i h1 h2 => ?_, fun q hq => ?_⟩
      · rw [lp_X8_hour_109, g0, hp_bi0, if_neg d', hp_ck (show j < 12 by omega) (by decide), hp_a21, hp_put (by omega), hp_bv1, hp_nm, hp_i1, hp_cl (by omega)]
        exact v1 J
      · by_cases e : i = j
        · subst e
          rw [v3 _ (by omega), hp_us]
        · exact v2 i h1 (by omega)
      · rw [v3 q (by omega), hp_un (by omega)]
theorem hp_RD_row {kd vl all all' : Nat → Int32} {steps : Int32} {B : Nat} (hd : hp_RD kd vl steps all B) (e : ∀ i, 75 ≤ i → i < 156 → all' (B + i) = all (B + i)) : hp_RD kd vl steps all' B := by
  obtain ⟨N, h, hN, h1, h2, h3, h4⟩ := hd
  refine ⟨N, h, hN, h1, by rw [e 75 (by omega) (by omega)]; exact h2, ⟨h3.1, fun k hk => ?_⟩, h4⟩
  have := h3.2 k hk
  show hd_st (kd k) (vl k) (all' (B + (76 + k))) (h k) (h (k + 1))
  rw [e (76 + k) (by omega) (by omega)]
  exact this
theorem hq_hour {b B : Nat} {c : Nat → Int32} {A : Nat → Nat → Int32} {all kd vl : Nat → Int32} {steps : Int32} (h : hp_RQ b c A all B) (hc : hp_CI b c A) (hd : hp_RD kd vl steps all B) (hB : B ≤ 640) (fs g no : Nat → Int32) (x : Int32) :
    ∃ t fo' fs' x' all' g' no', pf_X2_passHour (nI b) (A 1) (A 2) (c 11) (c 12) kd vl fs steps x = some (t, fo', c 12 + 1, fs', x') ∧ pf_X8_hour all (nI B) g no = some (t, all', g', no') ∧
      hp_RQ b (upd c 12 (c 12 + 1)) (hp_ua A 2 fo') all' B ∧ hp_CI b (upd c 12 (c 12 + 1)) (hp_ua A 2 fo') ∧ hp_RD kd vl steps all' B ∧ (∀ i, i ≠ B + 8 → i < B + 21 ∨ B + 33 ≤ i → all' i = all i) := by
  obtain ⟨q1, q2, q3, q4, ⟨q5, q6, q9, q10, q11, q12⟩, q⟩ := id h
  have hF : b < FU := by unfold FU; omega
  obtain ⟨t', x', fo', fs', g', no', v1, v2, v3, v4⟩ := hq_hr1 h hc hd hB FU b 0 0 x (A 2) fs g no (by omega) hF (fun i hi => by omega) (fun i hi => rfl) (fun i hi => by omega)
  obtain ⟨all1, w1, w2, w3⟩ := hq_hr2 (no := no') q3 hB FU b 0 all (by omega) hF q2
  have e8 : all1 (B + 8) = c 12 := (w3 _ (by omega)).trans q12
  have hfr : ∀ i, i ≠ B + 8 → i < B + 21 ∨ B + 33 ≤ i → upd all1 (B + 8) (c 12 + 1) i = all i := fun i i1 i2 => by rw [hp_un i1, w3 i (by omega)]
  refine ⟨t', fo', fs', x', upd all1 (B + 8) (c 12 + 1), g', no', ?_, ?_, ?_, ?_, ?_, hfr⟩
  · unfold pf_X2_passHour
    generalize FU = F at *
    rw [hp_jn]
    refine Eq.trans (v1 _) ?_
    rw [hp_nm]
  · unfold pf_X8_hour
    generalize FU = F at *
    rw [hp_jn]
    refine Eq.trans (v2 _) ?_
    rw [hp_jn]
    refine Eq.trans (w1 _) ?_
    rw [hp_getl 8 (by omega), hp_bi0, hp_putl 8 (by omega), hp_bv1, e8]
  · have o : ∀ i : Nat, i ≤ 7 → upd all1 (B + 8) (c 12 + 1) (B + i) = all (B + i) := fun i hi => hfr _ (by omega) (by omega)
    have u : ∀ i : Nat, i < 12 → upd c 12 (c 12 + 1) i = c i := fun i hi => hp_un (by omega)
    refine ⟨(u 0 (by omega)).trans q1, (o 0 (by omega)).trans q2, q3, q4, ⟨?_, ?_, ?_, ?_, ?_, ?_⟩, fun i hi => ?_⟩
    · rw [u 5 (by omega), o _ (by omega)]; exact q5
    · rw [u 6 (by omega), o _ (by omega)]; exact q6
    · rw [u 9 (by omega), o _ (by omega)]; exact q9
    · rw [u 10 (by omega), o _ (by omega)]; exact q10
    · rw [u 11 (by omega), o _ (by omega)]; exact q11
    · rw [hp_us, hp_us]
    · obtain ⟨a1, a2, a3, a4⟩ := q i hi
      rw [hp_uan (j := 1) (by decide), hp_uan (j := 3) (by decide), hp_uan (j := 4) (by decide), hp_uas]
      refine ⟨(hfr _ (by omega) (by omega)).trans a1, ?_, (hfr _ (by omega) (by omega)).trans a3, (hfr _ (by omega) (by omega)).trans a4⟩
      rw [hp_un (by omega), w2 i hi (by omega), v3 i hi]
  · obtain ⟨h1, h2, h3, h4, h5, h6⟩ := hc
    have u : ∀ i : Nat, i < 12 → upd c 12 (c 12 + 1) i = c i := fun i hi => hp_un (by omega)
    refine ⟨by rw [u 5 (by omega)]; exact h1, by rw [u 6 (by omega)]; exact h2, by rw [u 7 (by omega)]; exact h3, by rw [u 8 (by omega)]; exact h4, by rw [u 9 (by omega)]; exact h5, fun j hj => ?_⟩
    obtain ⟨a1, a2, a3, a4, a5⟩ := h6 j hj
    obtain ⟨b1, b2, b3⟩ := v4 j hj
    rw [hp_uan (j := 1) (by decide), hp_uan (j := 3) (by decide), hp_uan (j := 4) (by decide), hp_uas]
    exact ⟨a1, ⟨b1, by omega⟩, b3, a4, a5⟩
  · exact hp_RD_row hd (fun i h1 h2 => hfr _ (by omega) (by omega))
theorem hq_pass {b m B : Nat} {c : Nat → Int32} {A : Nat → Nat → Int32} {kd vl : Nat → Int32} {steps : Int32} (hB : B ≤ 640) (hm : m ≤ 100) :
    ∀ (n k j : Nat) (t hr x : Int32) (fo fs all g no : Nat → Int32), j + k = m → k < n → hp_RQ b (upd c 12 hr) (hp_ua A 2 fo) all B → hp_CI b (upd c 12 hr) (hp_ua A 2 fo) → hp_RD kd vl steps all B →
    ∃ t' hr' x' fo' fs' all' g' no', lp_X7_pass_16 (nI m) (nI b) (c 11) steps kd vl (A 1) n t (nI j) fo hr fs x = some (t', fo', hr', fs', x') ∧ lp_X8_pass_16 (nI m) (nI B) n t (nI j) all g no = some (t', all', g', no') ∧
      hp_RQ b (upd c 12 hr') (hp_ua A 2 fo') all' B ∧ hp_CI b (upd c 12 hr') (hp_ua A 2 fo') ∧ hp_RD kd vl steps all' B ∧ (∀ i, i ≠ B + 8 → i < B + 21 ∨ B + 33 ≤ i → all' i = all i) := by
  intro n
  induction n with
  | zero => intro k j t hr x fo fs all g no h1 h2; omega
  | succ n ih =>
    intro k j t hr x fo fs all g no h1 h2 h hc hd
    rw [lp_X7_pass_16, lp_X8_pass_16]
    by_cases d : m ≤ j
    · have d' := (hp_eI (show m < 2147483648 by omega) (show j < 2147483648 by omega)).mpr d
      rw [if_pos d', if_pos d']
      exact ⟨t, hr, x, fo, fs, all, g, no, rfl, rfl, h, hc, hd, fun i _ _ => rfl⟩
    · have d' : ¬ nI m ≤ nI j := fun d' => d ((hp_eI (by omega) (by omega)).mp d')
      rw [if_neg d', if_neg d']
      obtain ⟨t1, fo1, fs1, x1, all1, g1, no1, y1, y2, y3, y4, y5, y6⟩ := hq_hour h hc hd hB fs g no x
      rw [hp_uan (by decide), hp_uas, hp_un (by decide), hp_us] at y1
      rw [hp_us, hp_uu, hp_uaa] at y3 y4
      rw [y1, hp_bi4, y2, hp_bi3, hp_nm, hp_nm, hp_nm, hp_nm, hp_i1]
      obtain ⟨t', hr', x', fo', fs', all', g', no', z1, z2, z3, z4, z5, z6⟩ := ih (k - 1) (j + 1) (t + t1) (hr + 1) x1 fo1 fs1 all1 g1 no1 (by omega) (by omega) y3 y4 y5
      exact ⟨t', hr', x', fo', fs', all', g', no', z1, z2, z3, z4, z5, fun i i1 i2 => (z6 i i1 i2).trans (y6 i i1 i2)⟩
theorem op_pass {b : Nat} {c : Nat → Int32} {A : Nat → Nat → Int32} {all kd vl : Nat → Int32} {steps : Int32} (a : Int32) (h : hp_RC b c A all 0) (hc : hp_CI b c A) (hd : hp_RD kd vl steps all 0) (fs g no : Nat → Int32) (x : Int32) :
    ∃ t hr' x' fo' fs' all' g' no', pf_X7_pass a (c 0) (A 1) (A 2) (c 11) (c 12) kd vl fs steps x = some (t, fo', hr', fs', x') ∧ pf_X8_pass a all 0 g no = some (t, all', g', no') ∧
      hp_RC b (upd c 12 hr') (hp_ua A 2 fo') all' 0 ∧ hp_CI b (upd c 12 hr') (hp_ua A 2 fo') ∧ hp_RD kd vl steps all' 0 ∧ (∀ i, 57 ≤ i → all' i = all i) := by
  obtain ⟨hq, hn⟩ := hq_of h
  have q1 := h.1
  have hF : 100 < FU := by unfold FU; omega
  unfold pf_X7_pass pf_X8_pass
  generalize FU = F at *
  rw [hp_within, hp_isIn, hp_bi0, hp_bi0, q1]
  simp only [hp_b0]
  by_cases k : (1 : Int32) ≤ a ∧ a ≤ 100
  · rw [if_neg (not_not_intro k), if_neg (not_not_intro k)]
    obtain ⟨l1, l2⟩ := k
    rw [hp_le, show (1 : Int32).toInt = 1 from by decide] at l1
    rw [hp_le, show (100 : Int32).toInt = 100 from by decide] at l2
    obtain ⟨m, m1, rfl, m2⟩ := hp_of (x := a) (by omega)
    have e1 : upd c 12 (c 12) = c := hp_ui
    have e2 : hp_ua A 2 (A 2) = A := hp_uai A 2
    obtain ⟨t', hr', x', fo', fs', all', g', no', z1, z2, z3, z4, z5, z6⟩ := hq_pass (m := m) (B := 0) (by omega) (by omega) F m 0 0 (c 12) x (A 2) fs all g no (by omega) (by omega) (by rw [e1, e2]; exact hq) (by rw [e1, e2]; exact hc) hd
    refine ⟨t', hr', x', fo', fs', all', g', no', z1, z2, hq_to z3 ?_, z4, z5, fun i hi => z6 i (by omega) (by omega)⟩
    unfold hp_RN
    rw [z6 (0 + 3) (by omega) (by omega), z6 (0 + 4) (by omega) (by omega), hp_un (by decide), hp_un (by decide)]
    exact hn
  · rw [if_pos k, if_pos k]
    refine ⟨-1, c 12, x, A 2, fs, all, g, no, rfl, rfl, ?_, ?_, hd, fun i _ => rfl⟩
    · rw [hp_ui, hp_uai]; exact h
    · rw [hp_ui, hp_uai]; exact hc
