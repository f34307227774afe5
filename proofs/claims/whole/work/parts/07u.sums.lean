/-! ways, sums: what is sorted out of all sums, value by value. -/
def hv_lt (s : Nat → Int32) (w : Int32) : Nat → Nat
  | 0 => 0
  | n + 1 => hv_lt s w n + (if s n < w then 1 else 0)
theorem hv_lt_le (s : Nat → Int32) (w : Int32) : ∀ n, hv_lt s w n ≤ n := by
  intro n
  induction n with
  | zero => exact Nat.le_refl 0
  | succ n ih => rw [hv_lt]; split <;> omega
theorem hv_pre {s : Nat → Int32} {w : Int32} : ∀ n, hs_so s n → ∀ i, i < n → (i < hv_lt s w n ↔ s i < w) := by
  intro n
  induction n with
  | zero => intro _ i hi; omega
  | succ n ih =>
    intro hs i hi
    have hs' : hs_so s n := fun j hj => hs j (by omega)
    rw [hv_lt]
    by_cases c : s n < w
    · rw [if_pos c]
      have all : ∀ j, j < n → s j < w := fun j hj => by
        have := hs_so_le' hs (show j ≤ n by omega) (by omega)
        rw [hp_lt] at c ⊢
        omega
      have e : hv_lt s w n = n := by
        by_cases h0 : n = 0
        · subst h0; rfl
        · have h1 := (ih hs' (n - 1) (by omega)).mpr (all (n - 1) (by omega))
          have h2 := hv_lt_le s w n
          omega
      rw [e]
      by_cases h : i = n
      · subst h; exact ⟨fun _ => c, fun _ => by omega⟩
      · exact ⟨fun _ => all i (by omega), fun _ => by omega⟩
    · rw [if_neg c, Nat.add_zero]
      by_cases h : i = n
      · subst h
        have := hv_lt_le s w i
        exact ⟨fun h => by omega, fun h => absurd h c⟩
      · exact ih hs' i (by omega)
theorem hv_ltS {s : Nat → Int32} {v : Nat} (hv : v + 1 < 2147483648) : ∀ n, hv_lt s (nI (v + 1)) n = hv_lt s (nI v) n + hs_cnt s (nI v) n := by
  intro n
  induction n with
  | zero => rfl
  | succ n ih =>
    rw [hv_lt, hv_lt, hs_cnt, ih]
    have e1 := hp_nT (n := v) (by omega)
    have e2 := hp_nT (n := v + 1) (by omega)
    by_cases c1 : s n < nI v
    · have c2 : s n < nI (v + 1) := by rw [hp_lt] at c1 ⊢; omega
      have c3 : ¬ s n = nI v := fun e => by rw [e, hp_lt] at c1; omega
      rw [if_pos c1, if_pos c2, if_neg c3]; omega
    · by_cases c3 : s n = nI v
      · have c2 : s n < nI (v + 1) := by rw [c3, hp_lt]; omega
        rw [if_neg c1, if_pos c2, if_pos c3]; omega
      · have c2 : ¬ s n < nI (v + 1) := fun e => c3 (by rw [hp_eq]; rw [hp_lt] at e c1; omega)
        rw [if_neg c1, if_neg c2, if_neg c3]; omega
/-- a block of like ones -/
theorem hv_blk {s : Nat → Int32} {N p c v : Nat} (hr : hg_rng s N) (hp : p + c ≤ N) (hv : v < 1000000) (hb : ∀ i, p ≤ i → i < p + c → s i = nI v) (hlt : ∀ i, i < p → s i < nI v) : ∀ d, 1 ≤ d → d ≤ c →
    hg_un s (p + d) = hg_un s p + 1 ∧ hg_al s (p + d) = d ∧ hg_mo s (p + d) = (if d ≤ (hg_mo s p).1 then hg_mo s p else (d, nI v)) ∧
    hg_fm s (p + d) = (if p = 0 then -1 else if hg_fm s p = -1 then (if nI v ≤ s (p - 1) + 1 then -1 else s (p - 1) + 1) else hg_fm s p) := by
  intro d
  induction d with
  | zero => intro h; omega
  | succ d ih =>
    intro h1 h2
    by_cases d0 : d = 0
    · subst d0
      have es := hb p (Nat.le_refl p) (by omega)
      have ea : hg_al s (p + 1) = 1 := by
        rw [hg_al]
        by_cases p0 : p = 0
        · rw [if_pos p0]
        · have hl := hlt (p - 1) (by omega)
          rw [if_neg p0, if_neg (fun e => by rw [← e, es, hp_lt] at hl; omega)]
      refine ⟨?_, ea, ?_, ?_⟩
      · rw [Nat.zero_add, hg_un]
        by_cases p0 : p = 0
        · rw [if_pos p0, p0]; rfl
        · have hl := hlt (p - 1) (by omega)
          rw [if_neg p0, if_neg (fun e => by rw [← e, es, hp_lt] at hl; omega)]
      · rw [Nat.zero_add, hg_mo, ea, es]
      · rw [Nat.zero_add, hg_fm, es]
    · obtain ⟨i1, i2, i3, i4⟩ := ih (by omega) (by omega)
      have e1 := hb (p + d) (by omega) (by omega)
      have e2 := hb (p + d - 1) (by omega) (by omega)
      have ea : hg_al s (p + d + 1) = d + 1 := by rw [hg_al, if_neg (by omega), if_pos (by rw [e1, e2]), i2]
      rw [show p + (d + 1) = p + d + 1 by omega]
      refine ⟨?_, ea, ?_, ?_⟩
      · rw [hg_un, if_neg (by omega), if_pos (by rw [e1, e2]), i1]
      · rw [hg_mo, ea, i3, e1]
        by_cases k1 : d ≤ (hg_mo s p).1
        · rw [if_pos k1]
        · rw [if_neg k1, if_neg (by show ¬ d + 1 ≤ d; omega), if_neg (by omega)]
      · rw [hg_fm, if_neg (by omega), i4]
        have r1 := hg_p1 hr (show p + d - 1 < N by omega)
        have le : s (p + d) ≤ s (p + d - 1) + 1 := by rw [hp_le, r1, e1, e2]; omega
        rw [if_pos le]
        by_cases k1 : (if p = 0 then (-1 : Int32) else if hg_fm s p = -1 then (if nI v ≤ s (p - 1) + 1 then -1 else s (p - 1) + 1) else hg_fm s p) = -1
        · rw [if_pos k1, k1]
        · rw [if_neg k1]
def hv_nu (W : Nat → Nat) : Nat → Nat
  | 0 => 0
  | v + 1 => hv_nu W v + (if W v = 0 then 0 else 1)
def hv_be (W : Nat → Nat) : Nat → Nat
  | 0 => 0
  | v + 1 => if W v ≤ W (hv_be W v) then hv_be W v else v
def hv_mi (W : Nat → Nat) : Nat → Int32
  | 0 => -1
  | v + 1 => if hv_mi W v = -1 then (if W v = 0 then nI v else -1) else hv_mi W v
/-- the last that is there, below v -/
theorem hv_all {s : Nat → Int32} {N M : Nat} {W : Nat → Nat} (hs : hs_so s N) (hr : hg_rng s N) (hM : M < 1000000) (hW : ∀ v, v ≤ M → hs_cnt s (nI v) N = W v) (h0 : 1 ≤ W 0) : ∀ v, v ≤ M + 1 →
    hg_un s (hv_lt s (nI v) N) = hv_nu W v ∧ (1 ≤ v → hg_mo s (hv_lt s (nI v) N) = (W (hv_be W v), nI (hv_be W v)) ∧ 1 ≤ hv_lt s (nI v) N ∧ hv_be W v < v) ∧ hv_be W v ≤ M ∧
    ((hv_mi W v = -1 ∧ hg_fm s (hv_lt s (nI v) N) = -1 ∧ (1 ≤ v → s (hv_lt s (nI v) N - 1) = nI (v - 1))) ∨
     (∃ x, 1 ≤ x ∧ x < v ∧ hv_mi W v = nI x ∧ ((hg_fm s (hv_lt s (nI v) N) = -1 ∧ 1 ≤ hv_lt s (nI v) N ∧ s (hv_lt s (nI v) N - 1) = nI (x - 1) ∧ ∀ y, x ≤ y → y < v → W y = 0) ∨ hg_fm s (hv_lt s (nI v) N) = nI x))) := by
  intro v
  induction v with
  | zero =>
    intro _
    have e0 : hv_lt s (nI 0) N = 0 := by
      by_cases h : 0 < N
      · by_cases c : hv_lt s (nI 0) N = 0
        · exact c
        · have := (hv_pre (w := nI 0) N hs 0 h).mp (by omega)
          rw [hp_lt, hp_nT (by omega)] at this
          have := (hr 0 h).1
          omega
      · have := hv_lt_le s (nI 0) N
        omega
    rw [e0]
    exact ⟨rfl, fun h => by omega, Nat.zero_le _, Or.inl ⟨rfl, rfl, fun h => by omega⟩⟩
  | succ v ih =>
    intro hv
    obtain ⟨i1, i2, i3, i4⟩ := ih (by omega)
    have eS := hv_ltS (s := s) (v := v) (by omega) N
    rw [hW v (by omega)] at eS
    have hle := hv_lt_le s (nI (v + 1)) N
    have pre := hv_pre (w := nI v) N hs
    have pre1 := hv_pre (w := nI (v + 1)) N hs
    generalize hp : hv_lt s (nI v) N = p at *
    rw [eS] at pre1 hle ⊢
    have ev := hp_nT (n := v) (by omega)
    have ev1 := hp_nT (n := v + 1) (by omega)
    have blk : ∀ i, p ≤ i → i < p + W v → s i = nI v := fun i h1 h2 => by
      have a := (pre1 i (by omega)).mp h2
      have b := fun e => (pre i (by omega)).mpr e
      rw [hp_eq]
      rw [hp_lt] at a
      have c : ¬ s i < nI v := fun e => by have := b e; omega
      rw [hp_lt] at c
      omega
    have low : ∀ i, i < p → s i < nI v := fun i hi => (pre i (by omega)).mp hi
    by_cases c : W v = 0
    · have v0 : 1 ≤ v := by
        by_cases e : v = 0
        · subst e; omega
        · omega
      obtain ⟨j1, j2, j3⟩ := i2 v0
      rw [c, Nat.add_zero]
      refine ⟨?_, fun _ => ⟨?_, j2, ?_⟩, ?_, ?_⟩
      · rw [i1, hv_nu, if_pos c, Nat.add_zero]
      · rw [j1, hv_be, if_pos (by rw [c]; omega)]
      · rw [hv_be, if_pos (by rw [c]; omega)]; omega
      · rw [hv_be, if_pos (by rw [c]; omega)]; exact i3
      · right
        rcases i4 with ⟨k1, k2, k3⟩ | ⟨x, x1, x2, x3, x4⟩
        · refine ⟨v, v0, by omega, ?_, Or.inl ⟨k2, j2, k3 v0, fun y h1 h2 => ?_⟩⟩
          · rw [hv_mi, if_pos k1, if_pos c]
          · have : y = v := by omega
            rw [this]; exact c
        · have xn : ¬ nI x = -1 := by rw [hp_eq, hp_nT (by omega), show (-1 : Int32).toInt = -1 from by decide]; omega
          refine ⟨x, x1, by omega, ?_, ?_⟩
          · rw [hv_mi, x3, if_neg xn]
          · rcases x4 with ⟨y1, y2, y3, y4⟩ | y1
            · refine Or.inl ⟨y1, y2, y3, fun y h1 h2 => ?_⟩
              by_cases e : y = v
              · rw [e]; exact c
              · exact y4 y h1 (by omega)
            · exact Or.inr y1
    · obtain ⟨b1, b2, b3, b4⟩ := hv_blk (s := s) (N := N) (p := p) (c := W v) (v := v) hr hle (by omega) blk low (W v) (by omega) (Nat.le_refl _)
      have last : s (p + W v - 1) = nI v := blk _ (by omega) (by omega)
      refine ⟨?_, fun _ => ⟨?_, by omega, ?_⟩, ?_, ?_⟩
      · rw [b1, i1, hv_nu, if_neg c]
      · rw [b3, hv_be]
        by_cases v0 : v = 0
        · subst v0
          have p0 : p = 0 := by
            by_cases e : p = 0
            · exact e
            · have := low 0 (Nat.pos_of_ne_zero e)
              rw [hp_lt, ev] at this
              have := (hr 0 (by omega)).1
              omega
          subst p0
          have : (hg_mo s 0).1 = 0 := rfl
          rw [if_neg (by omega), if_pos (by exact Nat.le_refl _)]
          rfl
        · obtain ⟨j1, j2, j3⟩ := i2 (by omega)
          rw [j1]
          by_cases k : W v ≤ W (hv_be W v)
          · rw [if_pos k, if_pos k]
          · rw [if_neg k, if_neg k]
      · rw [hv_be]
        split
        · by_cases v0 : v = 0
          · subst v0; show hv_be W 0 < 1; exact Nat.zero_lt_one
          · have := (i2 (by omega)).2.2; omega
        · omega
      · rw [hv_be]; split <;> omega
      · rcases i4 with ⟨k1, k2, k3⟩ | ⟨x, x1, x2, x3, x4⟩
        · left
          refine ⟨?_, ?_, fun _ => ?_⟩
          · rw [hv_mi, if_pos k1, if_neg c]
          · rw [b4]
            by_cases p0 : p = 0
            · rw [if_pos p0]
            · rw [if_neg p0, if_pos k2]
              have v0 : 1 ≤ v := by
                by_cases e : v = 0
                · subst e
                  have := low 0 (Nat.pos_of_ne_zero p0)
                  rw [hp_lt, ev] at this
                  have := (hr 0 (by omega)).1
                  omega
                · omega
              rw [k3 v0, hp_i1, show v - 1 + 1 = v by omega, if_pos (by rw [hp_le]; exact Int.le_refl _)]
          · rw [show v + 1 - 1 = v by omega]; exact last
        · right
          have xn : ¬ nI x = -1 := by rw [hp_eq, hp_nT (by omega), show (-1 : Int32).toInt = -1 from by decide]; omega
          refine ⟨x, x1, by omega, ?_, Or.inr ?_⟩
          · rw [hv_mi, x3, if_neg xn]
          · rw [b4]
            rcases x4 with ⟨y1, y2, y3, y4⟩ | y1
            · rw [if_neg (by omega), if_pos y1, y3, hp_i1, show x - 1 + 1 = x by omega, if_neg (by rw [hp_le, ev, hp_nT (by omega)]; omega)]
            · have p0 : ¬ p = 0 := fun e => by
                subst e
                rw [show hg_fm s 0 = -1 from rfl] at y1
                exact xn y1.symm
              rw [if_neg p0, if_neg (by rw [y1]; exact xn), y1]
/-- the reference scans -/
theorem hv_34 {W : Nat → Nat} {S : Nat} {f : Nat → Int32} (hS : S ≤ 20000) (hf : ∀ v, v ≤ S → f v = nI (W v)) (hW : ∀ v, W v ≤ 4096) : ∀ (n k v : Nat), v + k = S + 1 → k < n → hv_be W v ≤ S → ∀ J, lp_X8_sums_34 (nI S) f J n (nI (hv_nu W v)) (nI (hv_be W v)) (hv_mi W v) (nI v) = J (nI (hv_nu W (S + 1))) (nI (hv_be W (S + 1))) (hv_mi W (S + 1)) := by
  intro n
  induction n with
  | zero => intro k v h1 h2; omega
  | succ n ih =>
    intro k v h1 h2 h3 J
    rw [lp_X8_sums_34]
    by_cases d : S < v
    · have : v = S + 1 := by omega
      subst this
      rw [if_pos ((hp_lI (by omega) (by omega)).mpr d)]
    · have d' : ¬ nI S < nI v := fun e => d ((hp_lI (by omega) (by omega)).mp e)
      have hw := hW v
      have hw2 := hW (hv_be W v)
      have e0 : (nI (W v) ≤ 0) = (W v = 0) := by
        rw [show (0 : Int32) = nI 0 from rfl, hp_eI (by omega) (by omega)]; simp
      have e0' : (nI (W v) = 0) = (W v = 0) := by rw [show (0 : Int32) = nI 0 from rfl]; exact hp_qI (by omega) (by omega)
      have e1 : (nI (W v) ≤ nI (W (hv_be W v))) = (W v ≤ W (hv_be W v)) := hp_eI (by omega) (by omega)
      have t := ih (k - 1) (v + 1) (by omega) (by omega) (by rw [hv_be]; split <;> omega) J
      rw [if_neg d']
      simp only [hp_jn, hp_nm, hp_i1, hp_ck (show v < 20001 by omega) (show 20001 < 2147483648 by decide), hp_ck (show hv_be W v < 20001 by omega) (show 20001 < 2147483648 by decide), hp_cl (show v < 2147483648 by omega), hp_cl (show hv_be W v < 2147483648 by omega), hf v (by omega), hf (hv_be W v) h3, e0, e0', e1]
      rw [hv_nu, hv_be, hv_mi] at t
      by_cases c1 : W v = 0
      · simp only [if_pos c1, Int32.add_zero, Nat.add_zero] at t ⊢
        have c2 : W v ≤ W (hv_be W v) := by omega
        simp only [if_pos c2] at t ⊢
        by_cases c3 : hv_mi W v = -1
        · simp only [if_pos c3] at t ⊢
          exact t
        · simp only [if_neg c3] at t ⊢
          exact t
      · simp only [if_neg c1, hp_i1] at t ⊢
        have em : (if hv_mi W v = -1 then (-1 : Int32) else hv_mi W v) = hv_mi W v := by
          by_cases c3 : hv_mi W v = -1
          · rw [if_pos c3, c3]
          · rw [if_neg c3]
        rw [em] at t
        by_cases c2 : W v ≤ W (hv_be W v)
        · simp only [if_pos c2] at t ⊢; exact t
        · simp only [if_neg c2] at t ⊢; exact t
theorem hv_can {b : Nat} {c : Nat → Int32} {A : Nat → Nat → Int32} {all : Nat → Int32} (h : hp_RC b c A all 0) (hc : hp_CI b c A) : ∃ u : Nat → Nat, (∀ i, i < b → A 3 i = nI (u i)) ∧ (∀ i, i < b → all (33 + i) = nI (u i)) ∧ pf_X7_canSum (c 0) (A 3) = some (hp_b (1 ≤ b ∧ hv_S u b ≤ 20000), ()) ∧ pf_X8_canSum all 0 = some (hp_b (1 ≤ b ∧ hv_S u b ≤ 20000), ()) := by
  obtain ⟨q1, q2, q3, q4, -, q⟩ := id h
  have hcA := hc.2.2.2.2.2
  have hu : ∀ i, i < b → A 3 i = nI ((fun i => (A 3 i).toInt.toNat) i) ∧ (fun i => (A 3 i).toInt.toNat) i ≤ 9999 * 4096 := by
    intro i hi
    obtain ⟨h1, h2⟩ := (hcA i hi).2.2.2.1
    have p1 := hp_2k i (by omega)
    refine ⟨?_, by show (A 3 i).toInt.toNat ≤ _; omega⟩
    rw [hp_eq, hp_nT (by show (A 3 i).toInt.toNat < _; omega)]
    show _ = ((A 3 i).toInt.toNat : Int)
    omega
  refine ⟨fun i => (A 3 i).toInt.toNat, fun i hi => (hu i hi).1, fun i hi => ?_, ?_⟩
  · have := (q i hi).2.2.1
    rw [Nat.zero_add] at this
    rw [this]; exact (hu i hi).1
  · generalize hU : (fun i => (A 3 i).toInt.toNat) = u at *
    have hb : ∀ n, n ≤ b → hv_S u n ≤ n * (9999 * 4096) := by
      intro n
      induction n with
      | zero => intro _; exact Nat.le_refl _
      | succ n ih => intro hn; rw [hv_S]; have := ih (by omega); have := (hu n (by omega)).2; omega
    have hb := hb b (Nat.le_refl b)
    have s7 := hv_sum (u := u) (wo := A 3) b (fun i hi => (hu i hi).1)
    have so := hp_so (all := all) (B := 0) (a := 33) (k := b) (by omega)
    rw [hp_sum_congr (g := A 3) (fun i hi => (q i hi).2.2.1), s7] at so
    have so' : pf_X8_sumOf 33 (nI b) all 0 = some (nI (hv_S u b), ()) := so
    have e1 : (nI b ≤ 0) = (b = 0) := by
      rw [show (0 : Int32) = nI 0 from rfl, hp_eI (by omega) (by omega)]; simp
    have e2 : ((20000 : Int32) < nI (hv_S u b)) = (20000 < hv_S u b) := hp_lI (a := 20000) (by omega) (by omega)
    have g : (if b = 0 then some ((0 : Int32), ()) else if 20000 < hv_S u b then some (0, ()) else some (1, ())) = some (hp_b (1 ≤ b ∧ hv_S u b ≤ 20000), ()) := by
      by_cases c1 : b = 0
      · rw [if_pos c1, hp_bf (fun e => by omega)]
      · rw [if_neg c1]
        by_cases c2 : 20000 < hv_S u b
        · rw [if_pos c2, hp_bf (fun e => by omega)]
        · rw [if_neg c2, hp_bt ⟨by omega, by omega⟩]
    constructor
    · unfold pf_X7_canSum
      rw [q1, hp_aw q3, s7, hp_bi0]
      simp only [e1, e2]
      exact g
    · unfold pf_X8_canSum
      rw [hp_get0l 0 (by omega), hp_bi0, q2, hp_bi0, so', hp_bi0]
      simp only [e1, e2]
      exact g
theorem op_ways {b : Nat} {c : Nat → Int32} {A : Nat → Nat → Int32} {all : Nat → Int32} (v : Int32) (h : hp_RC b c A all 0) (hc : hp_CI b c A) (en wy : Nat → Int32) (cnt : Int32) :
    ∃ r en' cnt' wy', pf_X7_ways v (c 0) (A 3) en cnt = some (r, en', cnt') ∧ pf_X8_ways v all 0 wy = some (r, wy') := by
  obtain ⟨q1, q2, q3, q4, -, q⟩ := id h
  obtain ⟨u, u1, u2, e7, e8⟩ := hv_can h hc
  unfold pf_X7_ways pf_X8_ways
  rw [e7, e8, hp_bi0, hp_bi0]
  simp only [hp_b0]
  by_cases k : 1 ≤ b ∧ hv_S u b ≤ 20000
  · rw [if_neg (not_not_intro k), if_neg (not_not_intro k), q1]
    obtain ⟨f7, a1, e, a2, a3⟩ := hv_7 q3 u1 k.2 en
    obtain ⟨f8, b1, b2⟩ := hv_8 q3 q2 u2 rfl k.2 wy
    rw [a1, hp_bv2, hg_co7 (hv_p2 b (by omega)).2.1, hp_bi0, b1, hp_bi1, hp_isIn, hp_bi0]
    simp only [hp_b0]
    by_cases k2 : (0 : Int32) ≤ v ∧ v ≤ nI (hv_S u b)
    · rw [if_neg (not_not_intro k2)]
      obtain ⟨l1, l2⟩ := k2
      rw [hp_le, show (0 : Int32).toInt = 0 from by decide] at l1
      rw [hp_le, hp_nT (by omega)] at l2
      obtain ⟨m, m1, rfl, m3⟩ := hp_of (x := v) (by omega)
      rw [hp_ck (show m < 20001 by omega) (by decide), hp_cl (by omega), b2 m (by omega), a3 m (by omega)]
      exact ⟨_, _, _, _, rfl, rfl⟩
    · rw [if_pos k2]
      have z : hs_cnt f7 v (2 ^ b) = 0 := by
        by_cases z : hs_cnt f7 v (2 ^ b) = 0
        · exact z
        · exfalso
          obtain ⟨i, i1, i2⟩ := (hs_cnt_pos (f := f7) (w := v) (2 ^ b)).mp (by omega)
          obtain ⟨j1, j2⟩ := a2 i i1
          apply k2
          rw [← i2, j1]
          exact ⟨(hp_eI (a := 0) (by omega) (by omega)).mpr (by omega), (hp_eI (by omega) (by omega)).mpr j2⟩
      rw [z]
      exact ⟨_, _, _, _, rfl, rfl⟩
  · rw [if_pos k, if_pos k]
    exact ⟨_, _, _, _, rfl, rfl⟩
theorem op_sums {b : Nat} {c : Nat → Int32} {A : Nat → Nat → Int32} {all : Nat → Int32} (w : Int32) (h : hp_RC b c A all 0) (hc : hp_CI b c A) (en wy : Nat → Int32) (cnt t5 t6 t7 t8 t9 t10 t11 : Int32) :
    ∃ r R7 wy', pf_X7_sums w (c 0) (A 3) en cnt t5 t6 t7 t8 t9 t10 t11 = some (r, R7) ∧ pf_X8_sums w all 0 wy = some (r, wy') := by
  obtain ⟨q1, q2, q3, q4, -, q⟩ := id h
  obtain ⟨u, u1, u2, e7, e8⟩ := hv_can h hc
  have hF : 20002 < FU := by unfold FU; omega
  unfold pf_X7_sums pf_X8_sums
  rw [e7, e8, hp_bi0, hp_bi0]
  simp only [hp_b0]
  by_cases k : 1 ≤ b ∧ hv_S u b ≤ 20000
  · rw [if_neg (not_not_intro k), if_neg (not_not_intro k), q1, hp_isIn, hp_bi0]
    simp only [hp_b0]
    obtain ⟨f7, a1, e, a2, a3⟩ := hv_7 q3 u1 k.2 en
    obtain ⟨f8, b1, b2⟩ := hv_8 q3 q2 u2 rfl k.2 wy
    obtain ⟨p1, p2, -⟩ := hv_p2 b (by omega)
    obtain ⟨s, t1, t2, t3⟩ := hs_sort (N := 2 ^ b) p2 f7
    obtain ⟨w0, wS⟩ := hv_Wm u b
    have hr : hg_rng s (2 ^ b) := by
      intro i hi
      obtain ⟨j, j1, j2⟩ := (hs_cnt_pos (f := f7) (w := s i) (2 ^ b)).mp (by rw [← t2]; exact (hs_cnt_pos (f := s) (w := s i) (2 ^ b)).mpr ⟨i, hi, rfl⟩)
      obtain ⟨x1, x2⟩ := a2 j j1
      rw [← j2, x1, hp_nT (by omega)]
      omega
    have so := hg_so7 p1 p2 hr t1
    have al := hv_all (s := s) (N := 2 ^ b) (M := hv_S u b) (W := hv_W u b) t3 hr (by omega) (fun v hv => by rw [t2, a3 v (by omega)]) w0 (hv_S u b + 1) (Nat.le_refl _)
    have eN : hv_lt s (nI (hv_S u b + 1)) (2 ^ b) = 2 ^ b := by
      have hle := hv_lt_le s (nI (hv_S u b + 1)) (2 ^ b)
      have hlast := (hv_pre (w := nI (hv_S u b + 1)) (2 ^ b) t3 (2 ^ b - 1) (by omega)).mpr (by
        obtain ⟨j, j1, j2⟩ := (hs_cnt_pos (f := f7) (w := s (2 ^ b - 1)) (2 ^ b)).mp (by rw [← t2]; exact (hs_cnt_pos (f := s) (w := s (2 ^ b - 1)) (2 ^ b)).mpr ⟨2 ^ b - 1, by omega, rfl⟩)
        obtain ⟨x1, x2⟩ := a2 j j1
        rw [← j2, x1]
        exact (hp_lI (by omega) (by omega)).mpr (by omega))
      omega
    rw [eN] at al
    obtain ⟨l1, l2, l3, l4⟩ := al
    obtain ⟨l5, -, -⟩ := l2 (by omega)
    have lf : hg_fm s (2 ^ b) = hv_mi (hv_W u b) (hv_S u b + 1) := by
      rcases l4 with ⟨x1, x2, -⟩ | ⟨x, x1, x2, x3, x4⟩
      · rw [x1, x2]
      · rcases x4 with ⟨y1, y2, y3, y4⟩ | y1
        · have := y4 (hv_S u b) (by omega) (by omega)
          omega
        · rw [y1, x3]
    rw [l1, l5, lf] at so
    have e34 := hv_34 (W := hv_W u b) (S := hv_S u b) (f := f8) k.2 b2 (fun v => Nat.le_trans (hv_Wb u b v) p2) FU (hv_S u b + 1) 0 (by omega) (by omega) (Nat.zero_le _)
    have e34 : ∀ J, lp_X8_sums_34 (nI (hv_S u b)) f8 J FU 0 0 (-1) 0 = J (nI (hv_nu (hv_W u b) (hv_S u b + 1))) (nI (hv_be (hv_W u b) (hv_S u b + 1))) (hv_mi (hv_W u b) (hv_S u b + 1)) := e34
    generalize FU = F at *
    rw [a1, hp_bv2, so, hp_bv8]
    by_cases k0 : (0 : Int32) ≤ w ∧ w ≤ 3
    · rw [if_neg (not_not_intro k0), b1, hp_bi1, hp_jn, e34, hp_ck (show hv_be (hv_W u b) (hv_S u b + 1) < 20001 by omega) (by decide), hp_cl (show hv_be (hv_W u b) (hv_S u b + 1) < 2147483648 by omega), b2 _ l3]
      by_cases w0 : w = 0
      · rw [if_pos w0, if_pos w0]; exact ⟨_, _, _, rfl, rfl⟩
      · rw [if_neg w0, if_neg w0]
        by_cases w1 : w = 1
        · rw [if_pos w1, if_pos w1]; exact ⟨_, _, _, rfl, rfl⟩
        · rw [if_neg w1, if_neg w1]
          by_cases w2 : w = 2
          · rw [if_pos w2, if_pos w2]; exact ⟨_, _, _, rfl, rfl⟩
          · rw [if_neg w2, if_neg w2]
            have w3 : w = 3 := by
              obtain ⟨m1, m2⟩ := k0
              rw [hp_le, show (0 : Int32).toInt = 0 from by decide] at m1
              rw [hp_le, show (3 : Int32).toInt = 3 from by decide] at m2
              rw [hp_eq, show (0 : Int32).toInt = 0 from by decide] at w0
              rw [hp_eq, show (1 : Int32).toInt = 1 from by decide] at w1
              rw [hp_eq, show (2 : Int32).toInt = 2 from by decide] at w2
              rw [hp_eq, show (3 : Int32).toInt = 3 from by decide]
              omega
            rw [if_pos w3]; exact ⟨_, _, _, rfl, rfl⟩
    · rw [if_pos k0]
      have n : ∀ j : Nat, j ≤ 3 → ¬ w = nI j := by
        intro j hj e
        apply k0
        rw [e]
        exact ⟨(hp_eI (a := 0) (by omega) (by omega)).mpr (by omega), (hp_eI (b := 3) (by omega) (by omega)).mpr hj⟩
      rw [if_neg (show ¬ w = 0 from n 0 (by omega)), if_neg (show ¬ w = 1 from n 1 (by omega)), if_neg (show ¬ w = 2 from n 2 (by omega)), if_neg (show ¬ w = 3 from n 3 (by omega))]
      exact ⟨_, _, _, rfl, rfl⟩
  · rw [if_pos k, if_pos k]
    exact ⟨_, _, _, rfl, rfl⟩
