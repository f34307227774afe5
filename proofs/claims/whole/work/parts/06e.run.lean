/-! Conversions with NOISE and RULE: both sides are hp_gs. -/
def hp_dr (X : Int32) : Int32 := X * 1103515245 + 12345
def hp_rm (X m : Int32) : Int32 := ((X).toUInt32 >>> ((16 : Int32).toUInt32 &&& Int32.toUInt32 31)).toInt32 - ((X).toUInt32 >>> ((16 : Int32).toUInt32 &&& Int32.toUInt32 31)).toInt32 / m * m
def hp_nd (noise X : Int32) : Int32 × Int32 := if noise ≤ 0 then (0, X) else (hp_rm (hp_dr X) (noise * 2 + 1) - noise, hp_dr X)
def hp_lt' (st : Nat → Int32) (band : Int32) (k : Nat) (d : Int32) : Prop := st k = -1 ∧ ¬ d ≤ -band ∧ ¬ band ≤ d
def hp_la (st : Nat → Int32) (band : Int32) (k : Nat) (d : Int32) : Int32 := if st k = -1 then (if d ≤ -band then 0 else if band ≤ d then 0 else 1) else 0
def hp_dc (st : Nat → Int32) (band rule : Int32) (k : Nat) (d X : Int32) : Int32 × Int32 :=
  if st k = -1 then (if hp_la st band k d = 0 then (if d < 0 then 0 else 1, X) else if 3 ≤ rule then (if d < 0 then 0 else 1, X) else if rule = 2 then (hp_rm (hp_dr X) 2, hp_dr X) else (1 - rule, X)) else (st k, X)
abbrev hp_G : Type := Int32 × Int32 × Int32 × (Nat → Int32) × (Nat → Int32) × (Nat → Int32) × (Nat → Int32)
def hp_g1 (w wo st : Nat → Int32) (band rule noise x0 : Int32) (k : Nat) (g : hp_G) : hp_G :=
  let nd := hp_nd noise g.1
  let d := x0 + nd.1 - g.2.1 - w k
  let dv := hp_dc st band rule k d nd.2
  let h' := if dv.1 = 1 then g.2.1 + w k else g.2.1
  let s' := if dv.1 = 1 then g.2.2.1 + wo k else g.2.2.1
  (dv.2, h', s', upd g.2.2.2.1 k dv.1, upd g.2.2.2.2.1 k (hp_la st band k d), upd g.2.2.2.2.2.1 k d, upd g.2.2.2.2.2.2 k h')
def hp_gs (w wo st : Nat → Int32) (band rule noise x0 : Int32) : Nat → hp_G → hp_G
  | 0, g => g
  | k + 1, g => hp_gs w wo st band rule noise x0 k (hp_g1 w wo st band rule noise x0 k g)
theorem hp_us {f : Nat → Int32} {k : Nat} {x : Int32} : upd f k x k = x := pk_us
theorem hp_un {f : Nat → Int32} {k j : Nat} {x : Int32} (h : j ≠ k) : upd f k x j = f j := pk_un h
theorem hp_uu {f : Nat → Int32} {k : Nat} {x y : Int32} : upd (upd f k x) k y = upd f k y := by
  funext j
  by_cases h : j = k
  · subst h; rw [hp_us, hp_us]
  · rw [hp_un h, hp_un h, hp_un h]
theorem hp_ui {f : Nat → Int32} {k : Nat} : upd f k (f k) = f := by
  funext j
  by_cases h : j = k
  · subst h; rw [hp_us]
  · rw [hp_un h]
/-- behind: places above are not touched -/
theorem hp_gs_hi {w wo st : Nat → Int32} {band rule noise x0 : Int32} : ∀ (k : Nat) (g : hp_G) (j : Nat), k ≤ j → (hp_gs w wo st band rule noise x0 k g).2.2.2.1 j = g.2.2.2.1 j ∧ (hp_gs w wo st band rule noise x0 k g).2.2.2.2.1 j = g.2.2.2.2.1 j ∧ (hp_gs w wo st band rule noise x0 k g).2.2.2.2.2.1 j = g.2.2.2.2.2.1 j ∧ (hp_gs w wo st band rule noise x0 k g).2.2.2.2.2.2 j = g.2.2.2.2.2.2 j := by
  intro k
  induction k with
  | zero => intro g j h; exact ⟨rfl, rfl, rfl, rfl⟩
  | succ k ih =>
    intro g j h
    simp only [hp_gs]
    obtain ⟨a, b, c, d⟩ := ih (hp_g1 w wo st band rule noise x0 k g) j (by omega)
    rw [a, b, c, d]
    simp only [hp_g1]
    have hj : j ≠ k := by omega
    exact ⟨hp_un hj, hp_un hj, hp_un hj, hp_un hj⟩
/-- the rows that were there before don't matter -/
theorem hp_gs_ir {w wo st : Nat → Int32} {band rule noise x0 : Int32} : ∀ (k : Nat) (X h s : Int32) (o l d e o2 l2 d2 e2 : Nat → Int32), ∃ X' h' s' o' l' d' e' o2' l2' d2' e2', hp_gs w wo st band rule noise x0 k (X, h, s, o, l, d, e) = (X', h', s', o', l', d', e') ∧ hp_gs w wo st band rule noise x0 k (X, h, s, o2, l2, d2, e2) = (X', h', s', o2', l2', d2', e2') ∧ ∀ i, i < k → o' i = o2' i ∧ l' i = l2' i ∧ d' i = d2' i ∧ e' i = e2' i := by
  intro k
  induction k with
  | zero => intro X h s o l d e o2 l2 d2 e2; exact ⟨_, _, _, _, _, _, _, _, _, _, _, rfl, rfl, fun i hi => absurd hi (Nat.not_lt_zero i)⟩
  | succ k ih =>
    intro X h s o l d e o2 l2 d2 e2
    simp only [hp_gs, hp_g1]
    generalize hp_nd noise X = nd
    generalize hde : x0 + nd.1 - h - w k = dd
    generalize hp_dc st band rule k dd nd.2 = dv
    generalize (if dv.1 = 1 then h + w k else h) = h1
    generalize (if dv.1 = 1 then s + wo k else s) = s1
    obtain ⟨X', h', s', o', l', d', e', o2', l2', d2', e2', a, b, c⟩ := ih dv.2 h1 s1 (upd o k dv.1) (upd l k (hp_la st band k dd)) (upd d k dd) (upd e k h1) (upd o2 k dv.1) (upd l2 k (hp_la st band k dd)) (upd d2 k dd) (upd e2 k h1)
    refine ⟨X', h', s', o', l', d', e', o2', l2', d2', e2', a, b, fun i hi => ?_⟩
    by_cases hk : i < k
    · exact c i hk
    · have hik : i = k := by omega
      subst hik
      have u1 := hp_gs_hi (w := w) (wo := wo) (st := st) (band := band) (rule := rule) (noise := noise) (x0 := x0) i (dv.2, h1, s1, upd o i dv.1, upd l i (hp_la st band i dd), upd d i dd, upd e i h1) i (Nat.le_refl i)
      have u2 := hp_gs_hi (w := w) (wo := wo) (st := st) (band := band) (rule := rule) (noise := noise) (x0 := x0) i (dv.2, h1, s1, upd o2 i dv.1, upd l2 i (hp_la st band i dd), upd d2 i dd, upd e2 i h1) i (Nat.le_refl i)
      rw [a] at u1; rw [b] at u2
      simp only [hp_us] at u1 u2
      obtain ⟨p1, p2, p3, p4⟩ := u1
      obtain ⟨r1, r2, r3, r4⟩ := u2
      rw [p1, p2, p3, p4, r1, r2, r3, r4]
      exact ⟨rfl, rfl, rfl, rfl⟩
theorem hp_gs_congr {w wo st w' wo' st' : Nat → Int32} {band rule noise x0 : Int32} : ∀ (k : Nat) (g : hp_G), (∀ i, i < k → w i = w' i ∧ wo i = wo' i ∧ st i = st' i) → hp_gs w wo st band rule noise x0 k g = hp_gs w' wo' st' band rule noise x0 k g := by
  intro k
  induction k with
  | zero => intro g h; rfl
  | succ k ih =>
    intro g h
    obtain ⟨a, b, c⟩ := h k (by omega)
    have ela : ∀ d, hp_la st band k d = hp_la st' band k d := fun d => by simp only [hp_la, c]
    have edc : ∀ d X, hp_dc st band rule k d X = hp_dc st' band rule k d X := fun d X => by simp only [hp_dc, ela, c]
    have e : hp_g1 w wo st band rule noise x0 k g = hp_g1 w' wo' st' band rule noise x0 k g := by simp only [hp_g1, edc, ela, a, b]
    simp only [hp_gs]
    rw [e, ih _ (fun i hi => h i (by omega))]
theorem hp_drawOf {m X : Int32} (h : 1 ≤ m.toInt) : pf_X2_drawOf m X = some (hp_rm (hp_dr X) m, hp_dr X) := by
  unfold pf_X2_drawOf
  simp only [nm]
  rw [if_pos (by rw [hp_le, show (1 : Int32).toInt = 1 from by decide]; exact h), hp_ckD (by intro e; rw [e] at h; exact absurd h (by decide))]
  rfl
theorem hp_isLate {k : Nat} {d band : Int32} {st : Nat → Int32} (hk : k < 12) : pf_X2_isLate (nI k) d st band = some (hp_la st band k d, ()) := by
  unfold pf_X2_isLate hp_la
  rw [hp_ck hk (by decide), hp_cl (by omega)]
  by_cases c1 : st k = -1
  · simp only [if_pos c1]
    by_cases c2 : d ≤ -band
    · simp only [if_pos c2]
    · simp only [if_neg c2]
      by_cases c3 : band ≤ d
      · simp only [if_pos c3]
      · simp only [if_neg c3]
  · simp only [if_neg c1]
theorem hp_la01 (st : Nat → Int32) (band : Int32) (k : Nat) (d : Int32) : hp_la st band k d = 0 ∨ hp_la st band k d = 1 := by
  unfold hp_la
  repeat' split
  all_goals first | exact Or.inl rfl | exact Or.inr rfl
theorem hp_decide {k : Nat} {d band rule X : Int32} {st : Nat → Int32} (hk : k < 12) : pf_X2_decide (nI k) d (hp_la st band k d) st rule X = some (hp_dc st band rule k d X) := by
  unfold pf_X2_decide hp_dc
  rw [hp_ck hk (by decide), hp_cl (by omega)]
  by_cases c1 : st k = -1
  · simp only [if_pos c1, jn]
    by_cases c2 : hp_la st band k d = 0
    · simp only [if_pos c2]
      by_cases c3 : d < 0
      · simp only [if_pos c3]
      · simp only [if_neg c3]
    · simp only [if_neg c2]
      by_cases c4 : 3 ≤ rule
      · simp only [if_pos c4]
        by_cases c3 : d < 0
        · simp only [if_pos c3]
        · simp only [if_neg c3]
      · simp only [if_neg c4]
        by_cases c5 : rule = 2
        · simp only [if_pos c5]
          rw [hp_drawOf (by decide), bi_1_s]
        · simp only [if_neg c5]
  · simp only [if_neg c1]
    rw [hp_ck hk (by decide)]
theorem hp_run2 {x shift band rule noise : Int32} {off size stuck worth : Nat → Int32} {β : Type} (hn : 0 ≤ noise.toInt ∧ noise.toInt ≤ 20) (J : Int32 → (Nat → Int32) → (Nat → Int32) → (Nat → Int32) → (Nat → Int32) → Int32 → Int32 → Int32 → Int32 → Option (Int32 × Int32 × (Nat → Int32) × (Nat → Int32) × (Nat → Int32) × (Nat → Int32) × Int32 × Int32 × Int32 × Int32 × Int32 × Int32)) :
    ∀ (n k : Nat) (X : Int32) (o l d h : Nat → Int32) (s hd la on : Int32), k ≤ 12 → k < n → ∃ X' h' s' o' l' d' e' on', hp_gs (fun i => size i + off i) worth stuck band rule noise (x + shift) k (X, hd, s, o, l, d, h) = (X', h', s', o', l', d', e') ∧ (∀ j, k ≤ j → l' j = l j ∧ o' j = o j) ∧ on' = on + hp_sum (fun i => hp_b (o' i = 1)) k ∧
      lp_X2_run_11 x shift band rule noise off size stuck worth J n (hp_p k) X o l d h s hd la on = J X' o' l' d' e' s' h' (la + hp_sum l' k) on' := by
  intro n
  induction n with
  | zero => intro k X o l d h s hd la on h1 h2; omega
  | succ n ih =>
    intro k X o l d h s hd la on h1 h2
    rw [lp_X2_run_11]
    cases k with
    | zero =>
      rw [if_pos hp_p0]
      refine ⟨X, hd, s, o, l, d, h, on, rfl, fun j hj => ⟨rfl, rfl⟩, ?_, ?_⟩
      · simp only [hp_sum, Int32.add_zero]
      · simp only [hp_sum, Int32.add_zero]
    | succ k =>
      rw [if_neg (hp_pN (by omega)), hp_pS]
      have hk : k < 12 := by omega
      have l2 : (2 : Int32).toInt = 2 := by decide
      have l1 : (1 : Int32).toInt = 1 := by decide
      have em : (noise * 2 + 1).toInt = noise.toInt * 2 + 1 := by
        have := hp_mul (a := noise) (b := 2) (by rw [l2]; omega) (by rw [l2]; omega)
        rw [hp_add (by rw [this, l1, l2]; omega) (by rw [this, l1, l2]; omega), this, l1, l2]
      have ed := hp_drawOf (m := noise * 2 + 1) (X := X) (by omega)
      have ecl := hp_cl (n := k) (by omega)
      simp only [jn, nm, hp_wt hk, bi_0_s, ed, bi_1_s, ecl, hp_us, hp_isLate hk]
      have ck : ∀ (z : Option (Int32 × Int32 × (Nat → Int32) × (Nat → Int32) × (Nat → Int32) × (Nat → Int32) × Int32 × Int32 × Int32 × Int32 × Int32 × Int32)), ckI (nI k) 12 z = z := fun z => hp_ck hk (by decide)
      simp only [ck, bi_0_s, hp_pD]
      have core : ∀ (a b : Int32), ∃ X' h' s' o' l' d' e' on', hp_gs (fun i => size i + off i) worth stuck band rule noise (x + shift) k ((hp_dc stuck band rule k (x + shift + a - hd - (size k + off k)) b).2, (if (hp_dc stuck band rule k (x + shift + a - hd - (size k + off k)) b).1 = 1 then hd + (size k + off k) else hd), (if (hp_dc stuck band rule k (x + shift + a - hd - (size k + off k)) b).1 = 1 then s + worth k else s), upd o k (hp_dc stuck band rule k (x + shift + a - hd - (size k + off k)) b).1, upd l k (hp_la stuck band k (x + shift + a - hd - (size k + off k))), upd d k (x + shift + a - hd - (size k + off k)), upd h k (if (hp_dc stuck band rule k (x + shift + a - hd - (size k + off k)) b).1 = 1 then hd + (size k + off k) else hd)) = (X', h', s', o', l', d', e') ∧ (∀ j, k + 1 ≤ j → l' j = l j ∧ o' j = o j) ∧ on' = on + hp_sum (fun i => hp_b (o' i = 1)) (k + 1) ∧
          bi_1 (pf_X2_decide (nI k) (x + shift + a - hd - (size k + off k)) (hp_la stuck band k (x + shift + a - hd - (size k + off k))) stuck rule b) (fun r35 x36 => if r35 = 1 then lp_X2_run_11 x shift band rule noise off size stuck worth J n (hp_p k) x36 (upd o k r35) (upd l k (hp_la stuck band k (x + shift + a - hd - (size k + off k)))) (upd d k (x + shift + a - hd - (size k + off k))) (upd h k (hd + (size k + off k))) (s + worth k) (hd + (size k + off k)) (la + hp_la stuck band k (x + shift + a - hd - (size k + off k))) (on + 1) else lp_X2_run_11 x shift band rule noise off size stuck worth J n (hp_p k) x36 (upd o k r35) (upd l k (hp_la stuck band k (x + shift + a - hd - (size k + off k)))) (upd d k (x + shift + a - hd - (size k + off k))) (upd h k hd) s hd (la + hp_la stuck band k (x + shift + a - hd - (size k + off k))) on) = J X' o' l' d' e' s' h' (la + hp_sum l' (k + 1)) on' := by
        intro a b
        generalize hdd : x + shift + a - hd - (size k + off k) = dd
        rw [hp_decide hk]
        generalize hdv : hp_dc stuck band rule k dd b = dv
        obtain ⟨v, X2⟩ := dv
        simp only [bi_1_s]
        by_cases c : v = 1
        · simp only [if_pos c]
          obtain ⟨X', h', s', o', l', d', e', on', i1, i2, i3, i4⟩ := ih k X2 (upd o k v) (upd l k (hp_la stuck band k dd)) (upd d k dd) (upd h k (hd + (size k + off k))) (s + worth k) (hd + (size k + off k)) (la + hp_la stuck band k dd) (on + 1) (by omega) (by omega)
          refine ⟨X', h', s', o', l', d', e', on', i1, fun j hj => ?_, ?_, ?_⟩
          · obtain ⟨a1, a2⟩ := i2 j (by omega)
            rw [a1, a2, hp_un (by omega), hp_un (by omega)]; exact ⟨rfl, rfl⟩
          · rw [i3]; simp only [hp_sum]
            have := (i2 k (Nat.le_refl k)).2
            rw [this, hp_us, hp_bt c]; ac_rfl
          · rw [i4]; simp only [hp_sum]
            rw [(i2 k (Nat.le_refl k)).1, hp_us]
            congr 1; ac_rfl
        · simp only [if_neg c]
          obtain ⟨X', h', s', o', l', d', e', on', i1, i2, i3, i4⟩ := ih k X2 (upd o k v) (upd l k (hp_la stuck band k dd)) (upd d k dd) (upd h k hd) s hd (la + hp_la stuck band k dd) on (by omega) (by omega)
          refine ⟨X', h', s', o', l', d', e', on', i1, fun j hj => ?_, ?_, ?_⟩
          · obtain ⟨a1, a2⟩ := i2 j (by omega)
            rw [a1, a2, hp_un (by omega), hp_un (by omega)]; exact ⟨rfl, rfl⟩
          · rw [i3]; simp only [hp_sum]
            have := (i2 k (Nat.le_refl k)).2
            rw [this, hp_us, hp_bf c, Int32.add_zero]
          · rw [i4]; simp only [hp_sum]
            rw [(i2 k (Nat.le_refl k)).1, hp_us]
            congr 1; ac_rfl
      have e01 : ((0 : Int32) = 1) = False := by simp
      have e10 : ((1 : Int32) = 0) = False := by simp
      by_cases hno : noise ≤ 0
      · have hnd : hp_nd noise X = (0, X) := by unfold hp_nd; rw [if_pos hno]
        have t := core 0 X
        simp only [hp_gs, hp_g1, hnd, if_pos hno]
        rcases hp_la01 stuck band k (x + shift + 0 - hd - (size k + off k)) with c | c
        · simp only [c, e01, if_false, if_true] at t ⊢; exact t
        · simp only [c, e10, if_false, if_true] at t ⊢; exact t
      · have hnd : hp_nd noise X = (hp_rm (hp_dr X) (noise * 2 + 1) - noise, hp_dr X) := by unfold hp_nd; rw [if_neg hno]
        have t := core (hp_rm (hp_dr X) (noise * 2 + 1) - noise) (hp_dr X)
        simp only [hp_gs, hp_g1, hnd, if_neg hno]
        rcases hp_la01 stuck band k (x + shift + (hp_rm (hp_dr X) (noise * 2 + 1) - noise) - hd - (size k + off k)) with c | c
        · simp only [c, e01, if_false, if_true] at t ⊢; exact t
        · simp only [c, e10, if_false, if_true] at t ⊢; exact t
/-- the same for the reference: draws lie at place 6 of its row; p: on paper -/
theorem hp_dr8 {all : Nat → Int32} {B : Nat} {m X : Int32} (hB : B ≤ 640) (hm : 1 ≤ m.toInt) : pf_X8_draw m (upd all (B + 6) X) (nI B) = some (hp_rm (hp_dr X) m, upd all (B + 6) (hp_dr X)) := by
  unfold pf_X8_draw
  rw [hp_getl 6 (by omega), bi_0_s, hp_us, hp_putl 6 (by omega)]
  simp only [bv_1_s]
  rw [hp_getl 6 (by omega), bi_0_s, hp_us, hp_uu, hp_ckD (by intro e; rw [e] at hm; exact absurd hm (by decide))]
  rfl
theorem hp_gt8 {all : Nat → Int32} {B a : Nat} {X : Int32} (hB : B + a < 800) (ha : a ≠ 6) : pf_X8_get (nI a) (upd all (B + 6) X) (nI B) = some (all (B + a), ()) := by
  rw [hp_get hB, hp_un (by omega)]
theorem hp_gt8l {all : Nat → Int32} {B : Nat} {X : Int32} (a : Nat) (hB : B + a < 800) (ha : a ≠ 6) : pf_X8_get (OfNat.ofNat a) (upd all (B + 6) X) (nI B) = some (all (B + a), ()) := hp_gt8 hB ha
theorem hp_wt6 {all : Nat → Int32} {B i : Nat} {X : Int32} (h : i < 12) (hB : B ≤ 640) : pf_X8_weight (nI i) (upd all (B + 6) X) (nI B) = some (hp_rw all B i, ()) := by
  rw [hp_wt8 h (by omega), hp_un (by omega), hp_un (by omega)]; rfl
def hp_rl (p rule : Int32) : Int32 := if p = 0 then rule else 3
theorem hp_de6 {all wl : Nat → Int32} {B k : Nat} {d p X : Int32} (hk : k < 12) (hB : B ≤ 640) : pf_X8_decide (nI k) d (upd all (B + 6) X) (nI B) wl p (-1) = some ((hp_dc (hp_rst all B) (all (B + 2)) (hp_rl p (all (B + 3))) k d X).1, upd all (B + 6) (hp_dc (hp_rst all B) (all (B + 2)) (hp_rl p (all (B + 3))) k d X).2, upd wl k (hp_la (hp_rst all B) (all (B + 2)) k d)) := by
  unfold pf_X8_decide
  have g2 := hp_gt8l (all := all) (B := B) (X := X) 2 (by omega) (by omega)
  have g3 := hp_gt8l (all := all) (B := B) (X := X) 3 (by omega) (by omega)
  have g45 : pf_X8_get (45 + nI k) (upd all (B + 6) X) (nI B) = some (hp_rst all B k, ()) := by rw [hp_a45]; exact hp_gt8 (by omega) (by omega)
  have ck : ∀ (x : Option (Int32 × (Nat → Int32) × (Nat → Int32))), ckI (nI k) 12 x = x := fun x => hp_ck hk (by decide)
  have em : ¬ nI k = -1 := by rw [hp_eq, hp_nT (by omega), show (-1 : Int32).toInt = -1 from by decide]; omega
  have n0 : vp_nar .boolean 0 = 0 := rfl
  have n1 : vp_nar .boolean 1 = 1 := rfl
  have e10 : ((1 : Int32) = 0) = False := by simp
  have e33 : ((3 : Int32) ≤ 3) = True := by simp
  have hd := hp_dr8 (all := all) (B := B) (m := 2) (X := X) hB (by decide)
  simp only [g2, g3, g45, bi_0_s, jn, ck, if_neg em, n0, n1, hp_cl (show k < 2147483648 by omega), hp_us, hd, bi_1_s, e10, if_false, if_true]
  unfold hp_dc hp_rl hp_la
  generalize hp_rst all B k = st
  generalize all (B + 2) = band
  generalize all (B + 3) = rule
  by_cases c1 : st = -1
  · simp only [if_pos c1]
    by_cases c2 : d ≤ -band
    · simp only [if_pos c2, if_true]
      by_cases c3 : d < 0
      · simp only [if_pos c3]
      · simp only [if_neg c3]
    · simp only [if_neg c2]
      by_cases c4 : band ≤ d
      · simp only [if_pos c4, if_true]
        by_cases c3 : d < 0
        · simp only [if_pos c3]
        · simp only [if_neg c3]
      · simp only [if_neg c4, e10, if_false]
        by_cases c5 : p = 0
        · simp only [if_pos c5]
          by_cases c6 : 3 ≤ rule
          · simp only [if_pos c6]
            by_cases c3 : d < 0
            · simp only [if_pos c3]
            · simp only [if_neg c3]
          · simp only [if_neg c6]
            by_cases c7 : rule = 2
            · simp only [if_pos c7]
              split <;> rfl
            · simp only [if_neg c7]
              split <;> rfl
        · simp only [if_neg c5, e33, if_true]
          by_cases c3 : d < 0
          · simp only [if_pos c3]
          · simp only [if_neg c3]
  · simp only [if_neg c1]
    split <;> rfl
theorem hp_ro (x0 a hd w : Int32) : x0 - hd - w + a = x0 + a - hd - w := by
  simp only [Int32.sub_eq_add_neg]; ac_rfl
theorem hp_run8 {x offset p noise : Int32} {all : Nat → Int32} {B b : Nat} (hB : B ≤ 640) (hb : b ≤ 12) (hn : 0 ≤ noise.toInt ∧ noise.toInt ≤ 20) :
    ∀ (n k : Nat) (X : Int32) (o l d h : Nat → Int32) (s hd : Int32), k ≤ b → k < n → lp_X8_goThrough_33 x offset (nI B) p (-1) noise n (hp_p k) (upd all (B + 6) X) o l d h s hd = (fun g : hp_G => some (upd all (B + 6) g.1, g.2.2.2.1, g.2.2.2.2.1, g.2.2.2.2.2.1, g.2.2.2.2.2.2, g.2.2.1, g.2.1)) (hp_gs (hp_rw all B) (hp_rwo all B) (hp_rst all B) (all (B + 2)) (hp_rl p (all (B + 3))) noise (x + offset) k (X, hd, s, o, l, d, h)) := by
  intro n
  induction n with
  | zero => intro k X o l d h s hd h1 h2; omega
  | succ n ih =>
    intro k X o l d h s hd h1 h2
    rw [lp_X8_goThrough_33]
    cases k with
    | zero => rw [if_pos hp_p0]; rfl
    | succ k =>
      rw [if_neg (hp_pN (by omega)), hp_pS]
      have hk : k < 12 := by omega
      have l2 : (2 : Int32).toInt = 2 := by decide
      have l1 : (1 : Int32).toInt = 1 := by decide
      have em : (noise * 2 + 1).toInt = noise.toInt * 2 + 1 := by
        have := hp_mul (a := noise) (b := 2) (by rw [l2]; omega) (by rw [l2]; omega)
        rw [hp_add (by rw [this, l1, l2]; omega) (by rw [this, l1, l2]; omega), this, l1, l2]
      have ed := hp_dr8 (all := all) (B := B) (m := noise * 2 + 1) (X := X) hB (by omega)
      have ck : ∀ (z : Option ((Nat → Int32) × (Nat → Int32) × (Nat → Int32) × (Nat → Int32) × (Nat → Int32) × Int32 × Int32)), ckI (nI k) 12 z = z := fun z => hp_ck hk (by decide)
      simp only [jn, nm, hp_wt6 hk hB, bi_0_s, ed, bi_1_s, ck, hp_pD, hp_cl (show k < 2147483648 by omega)]
      have core : ∀ (a b : Int32), bi_2 (pf_X8_decide (nI k) (x + offset + a - hd - hp_rw all B k) (upd all (B + 6) b) (nI B) l p (-1)) (fun r15 f16 f17 => if r15 = 1 then bi_0 (pf_X8_weight (nI k) f16 (nI B)) (fun r21 => bi_0 (pf_X8_get (33 + nI k) f16 (nI B)) (fun r23 => lp_X8_goThrough_33 x offset (nI B) p (-1) noise n (hp_p k) f16 (upd o k r15) f17 (upd d k (x + offset + a - hd - hp_rw all B k)) (upd h k (hd + r21)) (s + r23) (hd + r21))) else lp_X8_goThrough_33 x offset (nI B) p (-1) noise n (hp_p k) f16 (upd o k r15) f17 (upd d k (x + offset + a - hd - hp_rw all B k)) (upd h k hd) s hd) =
          (fun g : hp_G => some (upd all (B + 6) g.1, g.2.2.2.1, g.2.2.2.2.1, g.2.2.2.2.2.1, g.2.2.2.2.2.2, g.2.2.1, g.2.1)) (hp_gs (hp_rw all B) (hp_rwo all B) (hp_rst all B) (all (B + 2)) (hp_rl p (all (B + 3))) noise (x + offset) k ((hp_dc (hp_rst all B) (all (B + 2)) (hp_rl p (all (B + 3))) k (x + offset + a - hd - hp_rw all B k) b).2, (if (hp_dc (hp_rst all B) (all (B + 2)) (hp_rl p (all (B + 3))) k (x + offset + a - hd - hp_rw all B k) b).1 = 1 then hd + hp_rw all B k else hd), (if (hp_dc (hp_rst all B) (all (B + 2)) (hp_rl p (all (B + 3))) k (x + offset + a - hd - hp_rw all B k) b).1 = 1 then s + hp_rwo all B k else s), upd o k (hp_dc (hp_rst all B) (all (B + 2)) (hp_rl p (all (B + 3))) k (x + offset + a - hd - hp_rw all B k) b).1, upd l k (hp_la (hp_rst all B) (all (B + 2)) k (x + offset + a - hd - hp_rw all B k)), upd d k (x + offset + a - hd - hp_rw all B k), upd h k (if (hp_dc (hp_rst all B) (all (B + 2)) (hp_rl p (all (B + 3))) k (x + offset + a - hd - hp_rw all B k) b).1 = 1 then hd + hp_rw all B k else hd))) := by
        intro a b
        rw [hp_de6 hk hB]
        generalize hdv : hp_dc (hp_rst all B) (all (B + 2)) (hp_rl p (all (B + 3))) k (x + offset + a - hd - hp_rw all B k) b = dv
        obtain ⟨v, X2⟩ := dv
        simp only [bi_2_s]
        have g33 : pf_X8_get (33 + nI k) (upd all (B + 6) X2) (nI B) = some (hp_rwo all B k, ()) := by rw [hp_a33]; exact hp_gt8 (by omega) (by omega)
        simp only [hp_wt6 hk hB, g33, bi_0_s]
        by_cases c : v = 1
        · simp only [if_pos c]
          rw [ih k _ _ _ _ _ _ _ (by omega) (by omega)]
        · simp only [if_neg c]
          rw [ih k _ _ _ _ _ _ _ (by omega) (by omega)]
      by_cases hno : noise ≤ 0
      · have hnd : hp_nd noise X = (0, X) := by unfold hp_nd; rw [if_pos hno]
        have t := core 0 X
        have e0 : x + offset + 0 = x + offset := Int32.add_zero _
        simp only [hp_gs, hp_g1, hnd, if_pos hno]
        simp only [e0] at t ⊢
        exact t
      · have hnd : hp_nd noise X = (hp_rm (hp_dr X) (noise * 2 + 1) - noise, hp_dr X) := by unfold hp_nd; rw [if_neg hno]
        have t := core (hp_rm (hp_dr X) (noise * 2 + 1) - noise) (hp_dr X)
        simp only [hp_gs, hp_g1, hnd, if_neg hno, hp_ro]
        exact t
