/-! WAYS: all sums laid and counted; by the reference a row of ways. -/
def hv_S (u : Nat → Nat) : Nat → Nat
  | 0 => 0
  | n + 1 => hv_S u n + u n
def hv_W (u : Nat → Nat) : Nat → Nat → Nat
  | 0, v => if v = 0 then 1 else 0
  | n + 1, v => hv_W u n v + (if u n ≤ v then hv_W u n (v - u n) else 0)
theorem hv_W0 (u : Nat → Nat) : ∀ n v, hv_S u n < v → hv_W u n v = 0 := by
  intro n
  induction n with
  | zero => intro v h; rw [hv_W, if_neg (by simp only [hv_S] at h; omega)]
  | succ n ih =>
    intro v h
    simp only [hv_S] at h
    rw [hv_W, ih v (by omega)]
    split
    · rw [ih _ (by omega)]
    · rfl
theorem hv_Wm (u : Nat → Nat) : ∀ n, 1 ≤ hv_W u n 0 ∧ 1 ≤ hv_W u n (hv_S u n) := by
  intro n
  induction n with
  | zero => simp [hv_W, hv_S]
  | succ n ih =>
    constructor
    · rw [hv_W]; omega
    · rw [hv_W, hv_S, if_pos (by omega), show hv_S u n + u n - u n = hv_S u n by omega]; omega
theorem hv_Wb (u : Nat → Nat) : ∀ n v, hv_W u n v ≤ 2 ^ n := by
  intro n
  induction n with
  | zero => intro v; rw [hv_W]; split <;> simp
  | succ n ih =>
    intro v
    rw [hv_W, Nat.pow_succ]
    have := ih v
    have := ih (v - u n)
    split <;> omega
theorem hv_add {f : Nat → Int32} {w : Int32} {n : Nat} : ∀ m, hs_cnt f w (n + m) = hs_cnt f w n + hs_cnt (fun j => f (n + j)) w m := by
  intro m
  induction m with
  | zero => rfl
  | succ m ih =>
    rw [show n + (m + 1) = (n + m) + 1 by omega, hs_cnt, ih, hs_cnt]
    omega
theorem hv_shift {e : Nat → Nat} {w v : Nat} : ∀ m, (∀ j, j < m → e j + w < 2147483648) → v < 2147483648 → hs_cnt (fun j => nI (e j + w)) (nI v) m = if w ≤ v then hs_cnt (fun j => nI (e j)) (nI (v - w)) m else 0 := by
  intro m
  induction m with
  | zero => intro _ _; simp [hs_cnt]
  | succ m ih =>
    intro h hv
    have hm := h m (by omega)
    have q1 : (nI (e m + w) = nI v) = (e m + w = v) := hp_qI (by omega) (by omega)
    have q2 : (nI (e m) = nI (v - w)) = (e m = v - w) := hp_qI (by omega) (by omega)
    rw [hs_cnt, ih (fun j hj => h j (by omega)) hv]
    by_cases c : w ≤ v
    · rw [if_pos c, if_pos c, hs_cnt]
      simp only [q1, q2]
      by_cases c2 : e m + w = v
      · rw [if_pos c2, if_pos (by omega)]
      · rw [if_neg c2, if_neg (by omega)]
    · rw [if_neg c, if_neg c]
      simp only [q1]
      rw [if_neg (by omega)]
/-- the class adds up -/
theorem hv_36 {wo f : Nat → Int32} {i N : Nat} (hi : i < 12) (hN : N ≤ 2048) : ∀ (n k j : Nat) (g : Nat → Int32), j + k = N → k < n → (∀ q, q < N → g q = f q) → (∀ q, q < j → g (N + q) = f q + wo i) → ∃ g', (∀ J, lp_X4_addUp_36 wo (nI i) (nI N) J n (nI j) g = J g') ∧ (∀ q, q < N → g' q = f q) ∧ (∀ q, q < N → g' (N + q) = f q + wo i) := by
  intro n
  induction n with
  | zero => intro k j g h1 h2; omega
  | succ n ih =>
    intro k j g h1 h2 h3 h4
    by_cases d : N ≤ j
    · have ej : j = N := by omega
      subst ej
      refine ⟨g, fun J => ?_, h3, h4⟩
      rw [lp_X4_addUp_36, if_pos ((hp_eI (by omega) (by omega)).mpr d)]
    · have d' : ¬ nI N ≤ nI j := fun e => d ((hp_eI (by omega) (by omega)).mp e)
      obtain ⟨g', a1, a2, a3⟩ := ih (k - 1) (j + 1) (upd g (N + j) (f j + wo i)) (by omega) (by omega) (fun q hq => by rw [hp_un (by omega)]; exact h3 q hq) (fun q hq => by
        by_cases e : q = j
        · subst e; rw [hp_us]
        · rw [hp_un (by omega)]; exact h4 q (by omega))
      refine ⟨g', fun J => ?_, a2, a3⟩
      rw [lp_X4_addUp_36, if_neg d', hp_ck (show j < 4096 by omega) (by decide), hp_ck (show i < 12 by omega) (by decide), hp_nm, hp_aI, hp_ck (show N + j < 4096 by omega) (by decide), hp_nm, hp_i1, hp_cl (show j < 2147483648 by omega), hp_cl (show i < 2147483648 by omega), hp_cl (show N + j < 2147483648 by omega), h3 j (by omega)]
      exact a1 J
def hv_E (u : Nat → Nat) (i : Nat) (f : Nat → Int32) : Prop := ∃ e : Nat → Nat, (∀ j, j < 2 ^ i → f j = nI (e j) ∧ e j ≤ hv_S u i) ∧ ∀ v, v < 2147483648 → hs_cnt f (nI v) (2 ^ i) = hv_W u i v
theorem hv_p2 : ∀ i, i < 13 → 1 ≤ 2 ^ i ∧ 2 ^ i ≤ 4096 ∧ (i < 12 → 2 ^ i ≤ 2048) := by decide
theorem hv_14 {u : Nat → Nat} {b : Nat} {wo : Nat → Int32} (hb : b ≤ 12) (hw : ∀ i, i < b → wo i = nI (u i)) (hS : ∀ i, i ≤ b → hv_S u i ≤ 1000000) : ∀ (n k i : Nat) (f : Nat → Int32), i + k = b → k < n → hv_E u i f → ∃ f', lp_X4_addUp_14 (nI b) wo n (nI i) f (nI (2 ^ i)) = some (f', nI (2 ^ b)) ∧ hv_E u b f' := by
  have hF : 4096 < FU := by unfold FU; omega
  intro n
  induction n with
  | zero => intro k i f h1 h2; omega
  | succ n ih =>
    intro k i f h1 h2 hE
    rw [lp_X4_addUp_14]
    by_cases d : b ≤ i
    · have ej : i = b := by omega
      subst ej
      rw [if_pos ((hp_eI (by omega) (by omega)).mpr d)]
      exact ⟨f, rfl, hE⟩
    · have d' : ¬ nI b ≤ nI i := fun e => d ((hp_eI (by omega) (by omega)).mp e)
      obtain ⟨p1, p2, p3⟩ := hv_p2 i (by omega)
      have p3 := p3 (by omega)
      have m2 : nI (2 ^ i) * 2 = nI (2 ^ (i + 1)) := by rw [show (2 : Int32) = nI 2 from rfl, hp_mI, Nat.pow_succ]
      have p4 := (hv_p2 (i + 1) (by omega)).2.1
      have d2 : ¬ (4096 : Int32) < nI (2 ^ (i + 1)) := fun e => by
        have := (hp_lI (a := 4096) (by omega) (by omega)).mp e
        omega
      rw [if_neg d', m2, if_neg d2, hp_jn]
      obtain ⟨g', a1, a2, a3⟩ := hv_36 (wo := wo) (f := f) (i := i) (N := 2 ^ i) (by omega) p3 FU (2 ^ i) 0 f (by omega) (by omega) (fun q _ => rfl) (fun q hq => by omega)
      have a1 : ∀ J, lp_X4_addUp_36 wo (nI i) (nI (2 ^ i)) J FU 0 f = J g' := a1
      rw [a1, hp_nm, hp_nm, hp_i1]
      obtain ⟨e, e1, e2⟩ := hE
      have hSi := hS i (by omega)
      have hSi1 := hS (i + 1) (by omega)
      rw [hv_S] at hSi1
      refine ih (k - 1) (i + 1) g' (by omega) (by omega) ⟨fun j => if j < 2 ^ i then e j else e (j - 2 ^ i) + u i, fun j hj => ?_, fun v hv => ?_⟩
      · rw [Nat.pow_succ] at hj
        show g' j = nI (if j < 2 ^ i then e j else e (j - 2 ^ i) + u i) ∧ (if j < 2 ^ i then e j else e (j - 2 ^ i) + u i) ≤ hv_S u (i + 1)
        by_cases c : j < 2 ^ i
        · rw [if_pos c, a2 j c, hv_S]
          exact ⟨(e1 j c).1, by have := (e1 j c).2; omega⟩
        · rw [if_neg c]
          obtain ⟨x1, x2⟩ := e1 (j - 2 ^ i) (by omega)
          have := a3 (j - 2 ^ i) (by omega)
          rw [show 2 ^ i + (j - 2 ^ i) = j by omega] at this
          rw [this, x1, hw i (by omega), hp_aI, hv_S]
          exact ⟨rfl, by omega⟩
      · rw [show 2 ^ (i + 1) = 2 ^ i + 2 ^ i by rw [Nat.pow_succ]; omega, hv_add, hs_cnt_congr (f := g') (g := f) (2 ^ i) a2, e2 v hv, hv_W]
        congr 1
        rw [hs_cnt_congr (f := fun j => g' (2 ^ i + j)) (g := fun j => nI (e j + u i)) (2 ^ i) (fun q hq => by
          show g' (2 ^ i + q) = _
          rw [a3 q hq, (e1 q hq).1, hw i (by omega), hp_aI])]
        rw [hv_shift (2 ^ i) (fun j hj => by have := (e1 j hj).2; omega) hv]
        by_cases c : u i ≤ v
        · rw [if_pos c, if_pos c, ← e2 (v - u i) (by omega)]
          exact hs_cnt_congr (2 ^ i) (fun q hq => ((e1 q hq).1).symm)
        · rw [if_neg c, if_neg c]
theorem hv_sum {u : Nat → Nat} {wo : Nat → Int32} : ∀ n, (∀ i, i < n → wo i = nI (u i)) → hp_sum wo n = nI (hv_S u n) := by
  intro n
  induction n with
  | zero => intro _; rfl
  | succ n ih => intro h; rw [hp_sum, ih (fun i hi => h i (by omega)), h n (by omega), hp_aI, hv_S]
theorem hv_mono (u : Nat → Nat) : ∀ d n, hv_S u n ≤ hv_S u (n + d) := by
  intro d
  induction d with
  | zero => intro n; exact Nat.le_refl _
  | succ d ih => intro n; have := ih n; rw [show n + (d + 1) = (n + d) + 1 by omega, hv_S]; omega
theorem hv_7 {u : Nat → Nat} {b : Nat} {wo : Nat → Int32} (hb : b ≤ 12) (hw : ∀ i, i < b → wo i = nI (u i)) (hS : hv_S u b ≤ 20000) (en : Nat → Int32) : ∃ f', pf_X4_addUp en (nI b) wo = some (f', nI (2 ^ b)) ∧ hv_E u b f' := by
  have hF : b < FU := by unfold FU; omega
  unfold pf_X4_addUp
  rw [show ∀ z : Option ((Nat → Int32) × Int32), ckI 0 4096 z = z from fun z => hp_ck (i := 0) (by decide) (by decide)]
  have t := hv_14 (u := u) hb hw (fun i hi => by
    have := hv_mono u (b - i) i
    rw [show i + (b - i) = b by omega] at this
    omega) FU b 0 (upd en 0 0) (by omega) hF ⟨fun _ => 0, fun j hj => by
      have : j = 0 := by simp at hj; exact hj
      subst this
      exact ⟨hp_us, Nat.zero_le _⟩, fun v hv => by
      show hs_cnt (upd en 0 0) (nI v) 1 = _
      simp only [hs_cnt, hp_us, hv_W]
      have q : ((0 : Int32) = nI v) = (0 = v) := hp_qI (a := 0) (by omega) (by omega)
      simp only [q]
      by_cases c : v = 0
      · rw [if_pos c.symm, if_pos c]
      · rw [if_neg (fun e => c e.symm), if_neg c]⟩
  generalize FU = F at *
  exact t
/-- the reference lays -/
theorem hv_71 {x5 x9 : Int32} {w : Nat} : ∀ (n d : Nat) (f : Nat → Int32), d < n → w + d ≤ 20001 → ∃ f', (∀ B, lp_X8_layWays_71 x5 (nI w) x9 B n (hp_p (w + d)) f = B x9 (x5 + 1) f') ∧ (∀ v, w ≤ v → v < w + d → f' v = f v + f (v - w)) ∧ (∀ v, v < w ∨ w + d ≤ v → f' v = f v) := by
  intro n
  induction n with
  | zero => intro d f h; omega
  | succ n ih =>
    intro d f h1 h2
    cases d with
    | zero =>
      refine ⟨f, fun B => ?_, fun v h1 h2 => by omega, fun v _ => rfl⟩
      have : hp_p (w + 0) < nI w := by
        unfold hp_p
        have := hp_nT (n := w) (by omega)
        rw [Nat.add_zero, hp_lt, hp_sub (by rw [this, show (1 : Int32).toInt = 1 from by decide]; omega) (by rw [this, show (1 : Int32).toInt = 1 from by decide]; omega), this, show (1 : Int32).toInt = 1 from by decide]
        omega
      rw [lp_X8_layWays_71, if_pos this, hp_nm]
    | succ d =>
      have ep : hp_p (w + (d + 1)) = nI (w + d) := hp_pS (w + d)
      have dn : ¬ nI (w + d) < nI w := fun e => by
        have := (hp_lI (by omega) (by omega)).mp e
        omega
      obtain ⟨f', a1, a2, a3⟩ := ih d (upd f (w + d) (f (w + d) + f (w + d - w))) (by omega) (by omega)
      refine ⟨f', fun B => ?_, fun v h1 h2 => ?_, fun v hv => ?_⟩
      · rw [lp_X8_layWays_71, ep, if_neg dn, hp_ck (show w + d < 20001 by omega) (by decide), hp_jn]
        have core : ∀ z, z = f (w + d - w) → (nm (f (nI (w + d)).toNatClampNeg + z) fun x14 => ckI (nI (w + d)) 20001 <| nm (nI (w + d) + (-1)) fun x15 => lp_X8_layWays_71 x5 (nI w) x9 B n x15 (upd f (nI (w + d)).toNatClampNeg x14)) = B x9 (x5 + 1) f' := by
          intro z hz
          rw [hp_nm, hp_ck (show w + d < 20001 by omega) (by decide), hp_nm, hp_pD, hp_cl (show w + d < 2147483648 by omega), hz]
          exact a1 B
        by_cases c0 : w = 0
        · rw [if_pos (show nI w = 0 by rw [c0]; rfl), hp_ck (show w + d < 20001 by omega) (by decide)]
          refine core _ ?_
          rw [hp_cl (show w + d < 2147483648 by omega), c0, Nat.sub_zero]
        · rw [if_neg (show ¬ nI w = 0 by rw [hp_nz (by omega)]; exact c0), hp_sI (by omega), hp_ck (show w + d - w < 20001 by omega) (by decide)]
          refine core _ ?_
          rw [hp_cl (show w + d - w < 2147483648 by omega)]
      · by_cases e : v = w + d
        · subst e
          rw [a3 _ (by omega), hp_us]
        · rw [a2 v h1 (by omega), hp_un e, hp_un (by omega)]
      · rw [a3 v (by omega), hp_un (by omega)]
theorem hv_init {S : Nat} (hS : S ≤ 20000) : ∀ (n k j : Nat) (f : Nat → Int32), j + k = S + 1 → k < n → (∀ v, v < j → f v = nI (if v = 0 then 1 else 0)) → ∃ f', (∀ J, lp_X8_layWays_14 (nI S) J n (nI j) f = J f') ∧ (∀ v, v ≤ S → f' v = nI (if v = 0 then 1 else 0)) := by
  intro n
  induction n with
  | zero => intro k j f h1 h2; omega
  | succ n ih =>
    intro k j f h1 h2 h3
    by_cases d : S < j
    · refine ⟨f, fun J => ?_, fun v hv => h3 v (by omega)⟩
      rw [lp_X8_layWays_14, if_pos ((hp_lI (by omega) (by omega)).mpr d)]
    · have d' : ¬ nI S < nI j := fun e => d ((hp_lI (by omega) (by omega)).mp e)
      obtain ⟨f', a1, a2⟩ := ih (k - 1) (j + 1) (upd f j (nI (if j = 0 then 1 else 0))) (by omega) (by omega) (fun v hv => by
        by_cases e : v = j
        · subst e; rw [hp_us]
        · rw [hp_un e]; exact h3 v (by omega))
      refine ⟨f', fun J => ?_, a2⟩
      rw [lp_X8_layWays_14, if_neg d', hp_jn]
      by_cases c0 : j = 0
      · rw [if_pos (show nI j = 0 by rw [c0]; rfl)]
        dsimp only
        rw [hp_ck (show j < 20001 by omega) (by decide), hp_nm, hp_i1, hp_cl (show j < 2147483648 by omega)]
        have := a1 J
        rw [if_pos c0] at this
        exact this
      · rw [if_neg (show ¬ nI j = 0 by rw [hp_nz (by omega)]; exact c0)]
        dsimp only
        rw [hp_ck (show j < 20001 by omega) (by decide), hp_nm, hp_i1, hp_cl (show j < 2147483648 by omega)]
        have := a1 J
        rw [if_neg c0] at this
        exact this
theorem hv_44 {u : Nat → Nat} {b S : Nat} {all : Nat → Int32} (hb : b ≤ 12) (h0 : all 0 = nI b) (hw : ∀ i, i < b → all (33 + i) = nI (u i)) (hS : hv_S u b = S) (hS2 : S ≤ 20000) : ∀ (n k i : Nat) (f : Nat → Int32), i + k = b → k < n → (∀ v, v ≤ S → f v = nI (hv_W u i v)) → ∃ f', lp_X8_layWays_44 0 all (nI S) n (nI (hv_S u i)) (nI i) f = some (nI S, f') ∧ (∀ v, v ≤ S → f' v = nI (hv_W u b v)) := by
  have hF : 20001 < FU := by unfold FU; omega
  intro n
  induction n with
  | zero => intro k i f h1 h2; omega
  | succ n ih =>
    intro k i f h1 h2 h3
    rw [lp_X8_layWays_44, hp_get0l 0 (by omega), hp_bi0, h0]
    by_cases d : b ≤ i
    · have ej : i = b := by omega
      subst ej
      rw [if_pos ((hp_eI (by omega) (by omega)).mpr d)]
      exact ⟨f, rfl, h3⟩
    · have d' : ¬ nI b ≤ nI i := fun e => d ((hp_eI (by omega) (by omega)).mp e)
      have hm := hv_mono u (b - (i + 1)) (i + 1)
      rw [show i + 1 + (b - (i + 1)) = b by omega, hS] at hm
      have es : hv_S u (i + 1) = hv_S u i + u i := rfl
      rw [if_neg d', hp_a33, hp_get0 (by omega), hp_bi0, hw i (by omega), hp_nm, hp_aI, hp_jn]
      obtain ⟨f', a1, a2, a3⟩ := hv_71 (x5 := nI i) (x9 := nI (hv_S u i + u i)) (w := u i) FU (hv_S u i + 1) f (by omega) (by omega)
      have ep : hp_p (u i + (hv_S u i + 1)) = nI (hv_S u i + u i) := by rw [show u i + (hv_S u i + 1) = (hv_S u i + u i) + 1 by omega]; exact hp_pS _
      rw [ep] at a1
      refine Exists.imp (fun z hz => ⟨?_, hz.2⟩) (ih (k - 1) (i + 1) f' (by omega) (by omega) (fun v hv => ?_))
      · refine (a1 _).trans ?_
        rw [hp_i1]
        exact hz.1
      · rw [hv_W]
        by_cases c1 : v < u i
        · rw [a3 v (by omega), h3 v hv, if_neg (by omega), Nat.add_zero]
        · rw [if_pos (by omega)]
          by_cases c2 : v < u i + (hv_S u i + 1)
          · rw [a2 v (by omega) c2, h3 v hv, h3 (v - u i) (by omega), hp_aI]
          · rw [a3 v (by omega), h3 v hv, hv_W0 u i (v - u i) (by omega), Nat.add_zero]
theorem hv_8 {u : Nat → Nat} {b S : Nat} {all : Nat → Int32} (hb : b ≤ 12) (h0 : all 0 = nI b) (hw : ∀ i, i < b → all (33 + i) = nI (u i)) (hS : hv_S u b = S) (hS2 : S ≤ 20000) (ways : Nat → Int32) : ∃ f', pf_X8_layWays all 0 ways = some (nI S, f') ∧ (∀ v, v ≤ S → f' v = nI (hv_W u b v)) := by
  have hF : 20001 < FU := by unfold FU; omega
  have so := hp_so (all := all) (B := 0) (a := 33) (k := b) (by omega)
  rw [hv_sum (u := u) b (fun i hi => by rw [Nat.zero_add]; exact hw i hi), hS] at so
  have so' : pf_X8_sumOf 33 (nI b) all 0 = some (nI S, ()) := so
  obtain ⟨f1, a1, a2⟩ := hv_init hS2 FU (S + 1) 0 ways (by omega) (by omega) (fun v hv => by omega)
  obtain ⟨f2, b1, b2⟩ := hv_44 (u := u) hb h0 hw hS hS2 FU b 0 f1 (by omega) (by omega) (fun v hv => by rw [a2 v hv, hv_W])
  refine ⟨f2, ?_, b2⟩
  unfold pf_X8_layWays
  generalize FU = F at *
  rw [hp_get0l 0 (by omega), hp_bi0, h0, so', hp_bi0, hp_jn]
  exact (a1 _).trans b1
