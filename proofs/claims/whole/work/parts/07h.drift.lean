/-! DRIFT, asked; HOURS. -/
def hd_leaf (k v d : Int32) : Prop := (k = 48 ∧ 0 ≤ v.toInt ∧ v.toInt ≤ 9999 ∧ d = v) ∨ (k = 105 ∧ d = 10000) ∨ (k = 115 ∧ d = 10001) ∨ (k = 119 ∧ d = 10002) ∨ (k = 104 ∧ d = 10003) ∨ (k = 116 ∧ d = 10004)
def hd_bin (k d : Int32) : Prop := (k = 43 ∧ d = 10010) ∨ (k = 45 ∧ d = 10011) ∨ (k = 42 ∧ d = 10012) ∨ (k = 47 ∧ d = 10013) ∨ (k = 37 ∧ d = 10014)
def hd_cho (k d : Int32) : Prop := (k = 60 ∧ d = 10016) ∨ (k = 61 ∧ d = 10017)
def hd_st (k v d : Int32) (a b : Nat) : Prop := (hd_leaf k v d ∧ a < 40 ∧ b = a + 1) ∨ (k = 110 ∧ d = 10015 ∧ 1 ≤ a ∧ b = a) ∨ (hd_bin k d ∧ 2 ≤ a ∧ b + 1 = a) ∨ (hd_cho k d ∧ 4 ≤ a ∧ b + 3 = a)
def hd_ht (kd vl dg : Nat → Int32) (h : Nat → Nat) (N : Nat) : Prop := h 0 = 0 ∧ ∀ k, k < N → hd_st (kd k) (vl k) (dg k) (h k) (h (k + 1))
def hp_RD (kd vl : Nat → Int32) (steps : Int32) (all : Nat → Int32) (B : Nat) : Prop := ∃ (N : Nat) (h : Nat → Nat), N ≤ 80 ∧ steps = nI N ∧ all (B + 75) = nI N ∧ hd_ht kd vl (fun k => all (B + (76 + k))) h N ∧ (h N = 1 ∨ N = 0)
theorem hd_h40 {kd vl dg : Nat → Int32} {h : Nat → Nat} {N : Nat} (w : hd_ht kd vl dg h N) : ∀ j, j ≤ N → h j ≤ 40 := by
  intro j
  induction j with
  | zero => intro _; rw [w.1]; omega
  | succ j ih =>
    intro hj
    have := ih (by omega)
    rcases w.2 j (by omega) with ⟨-, a, b⟩ | ⟨-, -, a, b⟩ | ⟨-, a, b⟩ | ⟨-, a, b⟩ <;> omega
theorem hd_pop {f : Nat → Int32} {m : Nat} (h : m < 40) : pf_X3_pop f (nI (m + 1)) = some (f m, nI m) := by
  unfold pf_X3_pop
  have e : (1 : Int32) ≤ nI (m + 1) := (hp_eI (a := 1) (by omega) (by omega)).mpr (by omega)
  rw [if_pos e, hp_nm, show nI (m + 1) - 1 = nI m from hp_pS m, hp_ck h (by decide), hp_cl (by omega)]
theorem hd_push {f : Nat → Int32} {m : Nat} {v : Int32} (h : m < 40) : pf_X3_push v f (nI m) = some (upd f m v, nI (m + 1)) := by
  unfold pf_X3_push
  have e : ¬ (40 : Int32) ≤ nI m := fun e => by
    have := (hp_eI (a := 40) (by omega) (by omega)).mp e
    omega
  rw [if_neg e, hp_ck h (by decide), hp_nm, hp_i1, hp_cl (by omega)]
theorem hd_rn {f : Nat → Int32} {m : Nat} (h : m < 40) : pf_X3_reckon 110 f (nI (m + 1)) = some (upd f m (-f m), nI (m + 1)) := by
  unfold pf_X3_reckon
  rw [hd_pop h, hp_bi1, if_pos rfl, hd_push h, hp_bv2]
theorem hd_rb {f : Nat → Int32} {m : Nat} {k v : Int32} (h : m + 2 ≤ 40) (h1 : k ≠ 110) (h2 : k ≠ 60) (h3 : k ≠ 61) (e : pf_X3_joined k (f m) (f (m + 1)) = some (v, ())) : pf_X3_reckon k f (nI (m + 2)) = some (upd f m v, nI (m + 1)) := by
  unfold pf_X3_reckon
  rw [hd_pop (show m + 1 < 40 by omega), hp_bi1, if_neg h1, hd_pop (show m < 40 by omega), hp_bi1, hp_jn, if_neg h2, if_neg h3, e, hp_bi0, hd_push (by omega), hp_bv2]
theorem hd_rc {f : Nat → Int32} {m : Nat} {k : Int32} (h : m + 4 ≤ 40) (hk : k = 60 ∨ k = 61) : pf_X3_reckon k f (nI (m + 4)) = some (upd f m (if k = 60 then (if f (m + 1) ≤ f m then f (m + 3) else f (m + 2)) else (if f m = f (m + 1) then f (m + 2) else f (m + 3))), nI (m + 1)) := by
  unfold pf_X3_reckon
  have h1 : k ≠ 110 := by rcases hk with e | e <;> subst e <;> decide
  rw [hd_pop (show m + 3 < 40 by omega), hp_bi1, if_neg h1, hd_pop (show m + 2 < 40 by omega), hp_bi1, hp_jn, hd_pop (show m + 1 < 40 by omega), hp_bi1, hd_pop (show m < 40 by omega), hp_bi1]
  rw [hd_push (by omega), hp_bv2, hd_push (by omega), hp_bv2]
  rcases hk with e | e
  · subst e
    rw [if_pos rfl, if_pos rfl, if_pos rfl]
    split <;> rfl
  · subst e
    have e6 : ((61 : Int32) = 60) = False := eq_false (by decide)
    simp only [e6, if_false, if_true]
    split <;> rfl
theorem hd_lv {k v d heat hour : Int32} {size off all : Nat → Int32} {i B : Nat} (hi : i < 12) (hB : B ≤ 640) (e1 : all (B + (9 + i)) = size i) (e2 : all (B + (21 + i)) = off i) (e3 : all (B + 7) = heat) (e4 : all (B + 8) = hour) (h : hd_leaf k v d) :
    ∃ x, pf_X3_isLeaf k = some (1, ()) ∧ pf_X3_leaf k v (nI i) size off heat hour = some (x, ()) ∧ ¬ (10010 : Int32) ≤ d ∧ (((10000 : Int32) ≤ d ∧ pf_X8_asked (d - 10000) (nI i) all (nI B) = some (x, ())) ∨ (¬ (10000 : Int32) ≤ d ∧ d = x)) := by
  have z1 : (10000 : Int32).toInt = 10000 := by decide
  have z2 : (10010 : Int32).toInt = 10010 := by decide
  rcases h with ⟨rfl, v1, v2, rfl⟩ | ⟨rfl, rfl⟩ | ⟨rfl, rfl⟩ | ⟨rfl, rfl⟩ | ⟨rfl, rfl⟩ | ⟨rfl, rfl⟩
  · refine ⟨d, rfl, rfl, ?_, Or.inr ⟨?_, rfl⟩⟩
    · rw [hp_le, z2]; omega
    · rw [hp_le, z1]; omega
  · exact ⟨nI i, rfl, rfl, by decide, Or.inl ⟨by decide, rfl⟩⟩
  · refine ⟨size i, rfl, ?_, by decide, Or.inl ⟨by decide, ?_⟩⟩
    · unfold pf_X3_leaf
      rw [if_neg (show ¬ (115 : Int32) = 104 by decide), if_neg (show ¬ (115 : Int32) = 105 by decide), if_pos rfl, hp_ck hi (by decide), hp_cl (by omega)]
    · unfold pf_X8_asked
      rw [show ((10001 : Int32) - 10000) = 1 from by decide, if_neg (show ¬ (1 : Int32) = 0 by decide), if_pos rfl, hp_a9, hp_get (by omega), hp_bi0, e1]
  · refine ⟨size i + off i, rfl, ?_, by decide, Or.inl ⟨by decide, ?_⟩⟩
    · unfold pf_X3_leaf
      rw [if_neg (show ¬ (119 : Int32) = 104 by decide), if_neg (show ¬ (119 : Int32) = 105 by decide), if_neg (show ¬ (119 : Int32) = 115 by decide), if_neg (show ¬ (119 : Int32) = 116 by decide), if_pos rfl, hp_wt hi, hp_bi0]
    · unfold pf_X8_asked
      rw [show ((10002 : Int32) - 10000) = 2 from by decide, if_neg (show ¬ (2 : Int32) = 0 by decide), if_neg (show ¬ (2 : Int32) = 1 by decide), if_pos rfl, hp_wt8 hi (by omega), hp_bi0, e1, e2]
  · refine ⟨heat, rfl, rfl, by decide, Or.inl ⟨by decide, ?_⟩⟩
    unfold pf_X8_asked
    rw [show ((10003 : Int32) - 10000) = 3 from by decide, if_neg (show ¬ (3 : Int32) = 0 by decide), if_neg (show ¬ (3 : Int32) = 1 by decide), if_neg (show ¬ (3 : Int32) = 2 by decide), if_pos rfl, hp_getl 7 (by omega), hp_bi0, e3]
  · refine ⟨hour, rfl, rfl, by decide, Or.inl ⟨by decide, ?_⟩⟩
    unfold pf_X8_asked
    rw [show ((10004 : Int32) - 10000) = 4 from by decide, if_neg (show ¬ (4 : Int32) = 0 by decide), if_neg (show ¬ (4 : Int32) = 1 by decide), if_neg (show ¬ (4 : Int32) = 2 by decide), if_neg (show ¬ (4 : Int32) = 3 by decide), hp_getl 8 (by omega), hp_bi0, e4]
theorem hd_jv {k d x y : Int32} (h : hd_bin k d) : ∃ v, pf_X3_isLeaf k = some (0, ()) ∧ pf_X3_joined k x y = some (v, ()) ∧ pf_X8_joined d x y = some (v, ()) ∧ k ≠ 110 ∧ k ≠ 60 ∧ k ≠ 61 ∧ (10010 : Int32) ≤ d ∧ ¬ (10015 : Int32) ≤ d := by
  rcases h with ⟨rfl, rfl⟩ | ⟨rfl, rfl⟩ | ⟨rfl, rfl⟩ | ⟨rfl, rfl⟩ | ⟨rfl, rfl⟩
  · exact ⟨x + y, rfl, rfl, rfl, by decide, by decide, by decide, by decide, by decide⟩
  · exact ⟨x - y, rfl, rfl, rfl, by decide, by decide, by decide, by decide, by decide⟩
  · exact ⟨x * y, rfl, rfl, rfl, by decide, by decide, by decide, by decide, by decide⟩
  · have e7 : pf_X3_joined 47 x y = (if y = 0 then some (0, ()) else ckD y <| some (x / y, ())) := rfl
    have e8 : pf_X8_joined 10013 x y = (if y = 0 then some (0, ()) else ckD y <| some (x / y, ())) := rfl
    by_cases hy : y = 0
    · exact ⟨0, rfl, by rw [e7, if_pos hy], by rw [e8, if_pos hy], by decide, by decide, by decide, by decide, by decide⟩
    · exact ⟨x / y, rfl, by rw [e7, if_neg hy, hp_ckD hy], by rw [e8, if_neg hy, hp_ckD hy], by decide, by decide, by decide, by decide, by decide⟩
  · have e7 : pf_X3_joined 37 x y = (if y = 0 then some (0, ()) else ckD y <| some (x - x / y * y, ())) := rfl
    have e8 : pf_X8_joined 10014 x y = (if y = 0 then some (0, ()) else ckD y <| some (x - x / y * y, ())) := rfl
    by_cases hy : y = 0
    · exact ⟨0, rfl, by rw [e7, if_pos hy], by rw [e8, if_pos hy], by decide, by decide, by decide, by decide, by decide⟩
    · exact ⟨x - x / y * y, rfl, by rw [e7, if_neg hy, hp_ckD hy], by rw [e8, if_neg hy, hp_ckD hy], by decide, by decide, by decide, by decide, by decide⟩
theorem hd_sim {kd vl size off all : Nat → Int32} {heat hour : Int32} {h : Nat → Nat} {N i B : Nat} (hN : N ≤ 80) (hB : B ≤ 640) (hi : i < 12) (e75 : all (B + 75) = nI N) (w : hd_ht kd vl (fun k => all (B + (76 + k))) h N) (e1 : all (B + (9 + i)) = size i) (e2 : all (B + (21 + i)) = off i) (e3 : all (B + 7) = heat) (e4 : all (B + 8) = hour) (he : h N ≤ 1) :
    ∀ (n k j : Nat) (f g : Nat → Int32), j + k = N → k < n → (∀ i, i < h j → f i = g i) →
    ∃ r f' x' g', lp_X3_ask_7 (nI i) (nI N) heat hour kd vl off size n (nI j) f (nI (h j)) = some (r, f', x') ∧ (∀ J, lp_X8_driftOf_4 (nI i) (nI B) all J n (nI (h j)) (nI j) g = J (nI (h N)) g') ∧ (h N = 1 → r = g' 0) ∧ (h N = 0 → r = 0) := by
  intro n
  induction n with
  | zero => intro k j f g h1 h2; omega
  | succ n ih =>
    intro k j f g h1 h2 hfg
    have h40 := hd_h40 w j (by omega)
    by_cases d : N ≤ j
    · have d' := (hp_eI (show N < 2147483648 by omega) (show j < 2147483648 by omega)).mpr d
      have ej : j = N := by omega
      subst ej
      rw [lp_X3_ask_7, if_pos d']
      have e8 : ∀ J, lp_X8_driftOf_4 (nI i) (nI B) all J (n + 1) (nI (h j)) (nI j) g = J (nI (h j)) g := by
        intro J
        rw [lp_X8_driftOf_4, hp_getl 75 (by omega), hp_bi0, e75, if_pos d']
      by_cases e0 : h j = 0
      · refine ⟨0, f, nI 0, g, ?_, e8, fun c => by omega, fun _ => rfl⟩
        rw [e0]
        rfl
      · have e1 : h j = 0 + 1 := by omega
        refine ⟨f 0, f, nI 0, g, ?_, e8, fun c => hfg 0 (by omega), fun c => by omega⟩
        rw [e1, hd_pop (by omega), hp_bi1]
    · have d' : ¬ nI N ≤ nI j := fun d' => d ((hp_eI (by omega) (by omega)).mp d')
      have g75 := hp_getl (all := all) (B := B) 75 (by omega)
      have g76 : pf_X8_get (76 + nI j) all (nI B) = some (all (B + (76 + j)), ()) := by rw [hp_a76]; exact hp_get (by omega)
      rw [lp_X3_ask_7, if_neg d', hp_ck (show j < 80 by omega) (by decide), hp_cl (show j < 2147483648 by omega)]
      have E8 : ∀ J, lp_X8_driftOf_4 (nI i) (nI B) all J (n + 1) (nI (h j)) (nI j) g = _ := fun J => by rw [lp_X8_driftOf_4, g75, hp_bi0, e75, if_neg d', g76, hp_bi0]
      have w2 : hd_st (kd j) (vl j) (all (B + (76 + j))) (h j) (h (j + 1)) := w.2 j (by omega)
      rcases w2 with ⟨s, a, b⟩ | ⟨s1, s2, a, b⟩ | ⟨s, a, b⟩ | ⟨s, a, b⟩
      · obtain ⟨x, x1, x2, x3, x4⟩ := hd_lv (heat := heat) (hour := hour) (size := size) (off := off) hi hB e1 e2 e3 e4 s
        obtain ⟨r, f', x', g', y1, y2, y3, y4⟩ := ih (k - 1) (j + 1) (upd f (h j) x) (upd g (h j) x) (by omega) (by omega) (fun i hi => by
          by_cases e : i = h j
          · subst e; rw [hp_us, hp_us]
          · rw [hp_un e, hp_un e]; exact hfg i (by omega))
        refine ⟨r, f', x', g', ?_, fun J => ?_, y3, y4⟩
        · rw [x1, hp_bi0, if_neg (by decide), hp_ck (show j < 80 by omega) (by decide), hp_ck (show j < 80 by omega) (by decide), x2, hp_bi0, hd_push a, hp_bv2, hp_nm, hp_i1, ← b]
          exact y1
        · refine (E8 J).trans ?_
          rw [if_neg x3, hp_jn]
          rw [b] at y2
          rcases x4 with ⟨x4, x5⟩ | ⟨x4, x5⟩
          · rw [if_pos x4, x5, hp_bi0]
            dsimp only
            rw [hp_ck (show h j < 90 by omega) (by decide), hp_nm, hp_nm, hp_i1, hp_i1, hp_cl (show h j < 2147483648 by omega)]
            exact y2 J
          · rw [if_neg x4, x5]
            dsimp only
            rw [hp_ck (show h j < 90 by omega) (by decide), hp_nm, hp_nm, hp_i1, hp_i1, hp_cl (show h j < 2147483648 by omega)]
            exact y2 J
      · obtain ⟨m, hm⟩ : ∃ m, h j = m + 1 := ⟨h j - 1, by omega⟩
        obtain ⟨r, f', x', g', y1, y2, y3, y4⟩ := ih (k - 1) (j + 1) (upd f m (-f m)) (upd g m (-g m)) (by omega) (by omega) (fun i hi => by
          by_cases e : i = m
          · subst e; rw [hp_us, hp_us, hfg i (by omega)]
          · rw [hp_un e, hp_un e]; exact hfg i (by omega))
        rw [b, hm] at y1 y2
        refine ⟨r, f', x', g', ?_, fun J => ?_, y3, y4⟩
        · rw [s1, hm, show pf_X3_isLeaf 110 = some (0, ()) from rfl, hp_bi0, if_pos rfl, hp_ck (show j < 80 by omega) (by decide), hd_rn (show m < 40 by omega), hp_bv2, hp_nm, hp_i1]
          exact y1
        · refine (E8 J).trans ?_
          rw [s2, if_pos (by decide), if_pos (by decide), if_pos rfl, hm, show nI (m + 1) - 1 = nI m from hp_pS m, hp_ck (show m < 90 by omega) (by decide), hp_nm, hp_ck (show m < 90 by omega) (by decide), hp_nm, hp_i1, hp_cl (show m < 2147483648 by omega)]
          exact y2 J
      · obtain ⟨m, hm⟩ : ∃ m, h j = m + 2 := ⟨h j - 2, by omega⟩
        obtain ⟨v, x1, x2, x3, k1, k2, k3, k4, k5⟩ := hd_jv (x := f m) (y := f (m + 1)) s
        obtain ⟨r, f', x', g', y1, y2, y3, y4⟩ := ih (k - 1) (j + 1) (upd f m v) (upd g m v) (by omega) (by omega) (fun i hi => by
          by_cases e : i = m
          · subst e; rw [hp_us, hp_us]
          · rw [hp_un e, hp_un e]; exact hfg i (by omega))
        have b' : h (j + 1) = m + 1 := by omega
        rw [b'] at y1 y2
        refine ⟨r, f', x', g', ?_, fun J => ?_, y3, y4⟩
        · rw [x1, hm, hp_bi0, if_pos rfl, hp_ck (show j < 80 by omega) (by decide), hd_rb (by omega) k1 k2 k3 x2, hp_bv2, hp_nm, hp_i1]
          exact y1
        · refine (E8 J).trans ?_
          rw [if_pos k4, if_neg k5, hm, hp_nm, show nI (m + 2) + (-1) = nI (m + 1) from hp_m1 (a := m + 2) (by omega), show nI (m + 1) - 1 = nI m from hp_pS m, hp_ck (show m < 90 by omega) (by decide), hp_ck (show m + 1 < 90 by omega) (by decide), hp_cl (show m < 2147483648 by omega), hp_cl (show m + 1 < 2147483648 by omega), ← hfg m (by omega), ← hfg (m + 1) (by omega), x3, hp_bi0, hp_ck (show m < 90 by omega) (by decide), hp_nm, hp_i1]
          exact y2 J
      · obtain ⟨m, hm⟩ : ∃ m, h j = m + 4 := ⟨h j - 4, by omega⟩
        have hk : kd j = 60 ∨ kd j = 61 := by rcases s with ⟨s, -⟩ | ⟨s, -⟩ <;> simp [s]
        have il : pf_X3_isLeaf (kd j) = some (0, ()) := by rcases hk with e | e <;> rw [e] <;> rfl
        obtain ⟨r, f', x', g', y1, y2, y3, y4⟩ := ih (k - 1) (j + 1) (upd f m (if kd j = 60 then (if f (m + 1) ≤ f m then f (m + 3) else f (m + 2)) else (if f m = f (m + 1) then f (m + 2) else f (m + 3)))) (upd g m (if kd j = 60 then (if f (m + 1) ≤ f m then f (m + 3) else f (m + 2)) else (if f m = f (m + 1) then f (m + 2) else f (m + 3)))) (by omega) (by omega) (fun i hi => by
          by_cases e : i = m
          · subst e; rw [hp_us, hp_us]
          · rw [hp_un e, hp_un e]; exact hfg i (by omega))
        have b' : h (j + 1) = m + 1 := by omega
        rw [b'] at y1 y2
        refine ⟨r, f', x', g', ?_, fun J => ?_, y3, y4⟩
        · rw [il, hm, hp_bi0, if_pos rfl, hp_ck (show j < 80 by omega) (by decide), hd_rc (by omega) hk, hp_bv2, hp_nm, hp_i1]
          exact y1
        · refine (E8 J).trans ?_
          have c1 : (10010 : Int32) ≤ all (B + (76 + j)) := by rcases s with ⟨-, s⟩ | ⟨-, s⟩ <;> rw [s] <;> decide
          have c2 : (10015 : Int32) ≤ all (B + (76 + j)) := by rcases s with ⟨-, s⟩ | ⟨-, s⟩ <;> rw [s] <;> decide
          have c3 : ¬ all (B + (76 + j)) = 10015 := by rcases s with ⟨-, s⟩ | ⟨-, s⟩ <;> rw [s] <;> decide
          have n3 : nI (m + 4) + (-3) = nI (m + 1) := by
            rw [show (-3 : Int32) = -nI 3 from rfl, ← Int32.sub_eq_add_neg, hp_sI (by omega)]; rfl
          have n2 : nI (m + 1) + 2 = nI (m + 3) := nI_add (m + 1) 2
          have n1 : nI (m + 1) + 1 = nI (m + 2) := nI_add (m + 1) 1
          rw [if_pos c1, if_pos c2, if_neg c3, hm, hp_nm, n3, hp_jn]
          simp only [hp_jn, n2, n1, show nI (m + 1) - 1 = nI m from hp_pS m, hp_ck (show m < 90 by omega) (show 90 < 2147483648 by decide), hp_ck (show m + 1 < 90 by omega) (show 90 < 2147483648 by decide), hp_ck (show m + 2 < 90 by omega) (show 90 < 2147483648 by decide), hp_ck (show m + 3 < 90 by omega) (show 90 < 2147483648 by decide), hp_cl (show m < 2147483648 by omega), hp_cl (show m + 1 < 2147483648 by omega), hp_cl (show m + 2 < 2147483648 by omega), hp_cl (show m + 3 < 2147483648 by omega), hp_nm, hp_i1, hp_ne_1_0, if_true, if_false, ← hfg m (by omega), ← hfg (m + 1) (by omega), ← hfg (m + 2) (by omega), ← hfg (m + 3) (by omega)]
          have y2 := y2 J
          rcases s with ⟨s1, s2⟩ | ⟨s1, s2⟩
          · have s2 : all (B + (76 + j)) = 10016 := s2
            rw [s1, if_pos rfl] at y2
            rw [s2, if_pos rfl]
            by_cases c : f (m + 1) ≤ f m
            · rw [if_pos c] at y2 ⊢; exact y2
            · rw [if_neg c] at y2 ⊢; exact y2
          · have s2 : all (B + (76 + j)) = 10017 := s2
            rw [s1, if_neg (by decide)] at y2
            rw [s2, if_neg (by decide)]
            by_cases c : f m = f (m + 1)
            · rw [if_pos c] at y2 ⊢; exact y2
            · rw [if_neg c] at y2 ⊢; exact y2
/-- both ask alike -/
theorem hd_ask {kd vl size off all : Nat → Int32} {steps heat hour : Int32} {i B : Nat} (hd : hp_RD kd vl steps all B) (hB : B ≤ 640) (hi : i < 12) (e1 : all (B + (9 + i)) = size i) (e2 : all (B + (21 + i)) = off i) (e3 : all (B + 7) = heat) (e4 : all (B + 8) = hour) (f g : Nat → Int32) :
    ∃ r f' x' g', pf_X3_ask (nI i) kd vl f steps size off heat hour = some (r, f', x') ∧ pf_X8_driftOf (nI i) all (nI B) g = some (r, g') := by
  obtain ⟨N, h, hN, rfl, e75, w, he⟩ := hd
  have he1 : h N ≤ 1 := by
    rcases he with he | he
    · omega
    · subst he; rw [w.1]; omega
  have hF : N < FU := by unfold FU; omega
  unfold pf_X3_ask pf_X8_driftOf
  generalize FU = F at *
  obtain ⟨r, f', x', g', y1, y2, y3, y4⟩ := hd_sim hN hB hi e75 w e1 e2 e3 e4 he1 F N 0 f g (by omega) hF (fun i hi => by rw [w.1] at hi; omega)
  rw [w.1] at y1 y2
  refine ⟨r, f', x', g', y1, ?_⟩
  rw [hp_jn]
  refine Eq.trans (y2 _) ?_
  show (if nI (h N) = 0 then some ((0 : Int32), g') else ckI 0 90 (some (g' (0 : Int32).toNatClampNeg, g'))) = _
  by_cases c : h N = 0
  · rw [c, if_pos (show nI 0 = 0 from rfl), y4 c]
  · have c1 : h N = 1 := by omega
    rw [c1, if_neg (by decide), y3 c1]
    rfl
