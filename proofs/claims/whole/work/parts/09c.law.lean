/-! THE LAW: the world. -/
abbrev lw_XK (E : hm_E) (a : Nat) (r : Nat → Nat) (d : Nat) (c : Nat → Int32) (A : Nat → Nat → Int32) : va_W := [oc2 a r d (c 0) (c 5) (c 6) (c 7) (c 8) (c 9) (c 10) (c 11) (c 12) (c 16), ic E (r 1) 12 (A 1), ic E (r 2) 12 (A 2), ic E (r 3) 12 (A 3), ic E (r 4) 12 (A 4), ic E (r 14) 8 (A 14), ic E (r 15) 8 (A 15)]
abbrev lw_XD (E : hm_E) (a : Nat) (r : Nat → Nat) (v : Nat → Int32) (D : Nat → Nat → Int32) : va_W := [oc3 a r (v 0) (v 1) (v 2), ic E (r 0) 80 (D 0), ic E (r 1) 80 (D 1), ic E (r 2) 40 (D 2)]
/-- class, now, aside -/
abbrev lw_X (E : hm_E) (h7 : Nat) (R : Nat → Nat → Nat) (k : Nat → Int32) (f : Nat → Nat → Int32) (kp : Nat → Option Nat) (dn : Nat) (c : Nat → Int32) (A : Nat → Nat → Int32) (da : Nat) (ac : Nat → Int32) (aA : Nat → Nat → Int32) : va_W :=
  oc7 h7 (R 0) (k 0) (k 1) ::
   oc5 (R 0 0) (R 1) (k 2) (k 3) (k 4) ::
   ic E (R 1 0) 400 (f 0) ::
   qc E (R 0 3) 3 kp ::
   oc1 (R 0 4) (R 4) (k 5) (k 6) (k 7) (k 8) (k 9) (k 10) (k 11) ::
   ic E (R 4 1) 12 (f 1) ::
   ic E (R 4 2) 12 (f 2) ::
   ic E (R 4 3) 12 (f 3) ::
   ic E (R 4 4) 12 (f 4) ::
   oc1 (R 0 5) (R 5) (k 12) (k 13) (k 14) (k 15) (k 16) (k 17) (k 18) ::
   ic E (R 5 1) 12 (f 5) ::
   ic E (R 5 2) 12 (f 6) ::
   ic E (R 5 3) 12 (f 7) ::
   ic E (R 5 4) 12 (f 8) ::
   oc4 (R 0 6) (R 6) (k 19) (k 20) (k 21) (k 22) (k 23) (k 24) (k 25) (k 26) (k 27) (k 28) (k 29) ::
   ic E (R 6 0) 4096 (f 9) ::
   oc0 (R 0 7) (R 7) (k 30) (k 31) (k 32) ::
   ic E (R 7 1) 40 (f 10) ::
   ic E (R 7 2) 40 (f 11) ::
   ic E (R 7 3) 40 (f 12) ::
   ic E (R 7 5) 40 (f 13) ::
   ic E (R 0 8) 12 (f 14) ::
   oc2 (R 0 1) (R 2) dn (c 0) (c 5) (c 6) (c 7) (c 8) (c 9) (c 10) (c 11) (c 12) (c 16) ::
   ic E (R 2 1) 12 (A 1) ::
   ic E (R 2 2) 12 (A 2) ::
   ic E (R 2 3) 12 (A 3) ::
   ic E (R 2 4) 12 (A 4) ::
   ic E (R 2 14) 8 (A 14) ::
   ic E (R 2 15) 8 (A 15) ::
   oc2 (R 0 2) (R 3) da (ac 0) (ac 5) (ac 6) (ac 7) (ac 8) (ac 9) (ac 10) (ac 11) (ac 12) (ac 16) ::
   ic E (R 3 1) 12 (aA 1) ::
   ic E (R 3 2) 12 (aA 2) ::
   ic E (R 3 3) 12 (aA 3) ::
   ic E (R 3 4) 12 (aA 4) ::
   ic E (R 3 14) 8 (aA 14) ::
   ic E (R 3 15) 8 (aA 15) ::
   []
/-- reference -/
abbrev lw_Y (E : hm_E) (h8 : Nat) (R : Nat → Nat → Nat) (t : Nat → Int32) (g : Nat → Nat → Int32) : va_W :=
  oc8 h8 (R 8) (t 1) (t 3) (t 4) (t 5) (t 6) (t 12) (t 13) (t 15) (t 16) (t 22) (t 29) (t 30) (t 31) (t 32) (t 33) (t 34) (t 35) (t 36) (t 37) (t 38) (t 41) (t 44) (t 52) (t 53) (t 54) ::
   ic E (R 8 0) 800 (g 0) ::
   bc E (R 8 2) 400 (g 2) ::
   ic E (R 8 7) 5 (g 7) ::
   ic E (R 8 8) 5 (g 8) ::
   ic E (R 8 9) 12 (g 9) ::
   ic E (R 8 10) 12 (g 10) ::
   ic E (R 8 11) 5 (g 11) ::
   ic E (R 8 14) 84 (g 14) ::
   ic E (R 8 17) 10 (g 17) ::
   ic E (R 8 18) 10 (g 18) ::
   ic E (R 8 19) 10 (g 19) ::
   ic E (R 8 20) 10 (g 20) ::
   ic E (R 8 21) 10 (g 21) ::
   ic E (R 8 23) 90 (g 23) ::
   ic E (R 8 24) 12 (g 24) ::
   ic E (R 8 25) 12 (g 25) ::
   zc E (R 8 26) 12 (g 26) ::
   ic E (R 8 27) 12 (g 27) ::
   ic E (R 8 28) 12 (g 28) ::
   ic E (R 8 39) 48 (g 39) ::
   bc E (R 8 40) 12 (g 40) ::
   ic E (R 8 42) 2000 (g 42) ::
   ic E (R 8 43) 2000 (g 43) ::
   ic E (R 8 45) 12 (g 45) ::
   ic E (R 8 46) 20001 (g 46) ::
   zc E (R 8 47) 3 (g 47) ::
   ic E (R 8 48) 40 (g 48) ::
   ic E (R 8 49) 40 (g 49) ::
   ic E (R 8 50) 40 (g 50) ::
   ic E (R 8 51) 40 (g 51) ::
   []
/-- a kept converter, where there is one -/
def lw_K (E : hm_E) (o : Option Nat) (r : Nat → Nat) (d : Nat) (c : Nat → Int32) (A : Nat → Nat → Int32) : va_W := match o with
  | none => []
  | some a => lw_XK E a r d c A
/-- all kept ones, all drifts -/
def lw_pl (E : hm_E) (kp : Nat → Option Nat) (RK : Nat → Nat → Nat) (dK : Nat → Nat) (kc : Nat → Nat → Int32) (kA : Nat → Nat → Nat → Int32) (LD : List Nat) (rD : Nat → Nat → Nat) (vD : Nat → Nat → Int32) (DD : Nat → Nat → Nat → Int32) : va_W :=
  (lw_K E (kp 0) (RK 0) (dK 0) (kc 0) (kA 0) ++ (lw_K E (kp 1) (RK 1) (dK 1) (kc 1) (kA 1) ++ lw_K E (kp 2) (RK 2) (dK 2) (kc 2) (kA 2))) ++ LD.flatMap (fun a => lw_XD E a (rD a) (vD a) (DD a))
/-- one converter with its drift agrees with a row of the reference -/
def lw_RK (b : Nat) (c : Nat → Int32) (A : Nat → Nat → Int32) (v : Nat → Int32) (D : Nat → Nat → Int32) (all : Nat → Int32) (B : Nat) : Prop :=
  hp_RC b c A all B ∧ hp_CI b c A ∧ hp_RS c A all B ∧ hp_SB c A ∧ hp_RD (D 0) (D 1) (v 0) all B
/-- class and reference agree -/
def lw_Rel (b lb : Nat) (k : Nat → Int32) (f : Nat → Nat → Int32) (c : Nat → Int32) (A : Nat → Nat → Int32) (vn : Nat → Int32) (Dn : Nat → Nat → Int32) (t : Nat → Int32) (g : Nat → Nat → Int32) : Prop :=
  lw_RK b c A vn Dn (g 0) 0 ∧ hp_RL lb (k 5) (f 1) (f 2) (f 3) (f 4) (k 6) (k 7) (k 8) (k 9) (k 10) (k 11) (t 33) (t 34) (t 35) (t 36) (t 37) (t 38) (g 39) ∧
  hp_TP (f 0) (g 2) (k 2) (t 3) ∧ hp_RW (f 14) (k 0) (g 40) (t 41) ∧ hp_RB (k 31) (f 13) (t 53) (g 51) ∧ k 32 = t 54 ∧ k 1 = t 5 ∧ t 1 = 0 ∧ t 31 = 0 ∧ t 32 = -1 ∧ hp_lims (g 7) (g 8)
/-- a kept one agrees -/
def lw_Kr (o : Option Nat) (kk : Int32) (d : Nat) (c : Nat → Int32) (A : Nat → Nat → Int32) (LD : List Nat) (vD : Nat → Nat → Int32) (DD : Nat → Nat → Nat → Int32) (all : Nat → Int32) (B : Nat) : Prop :=
  (o = none ∧ kk = 0) ∨ (¬ o = none ∧ ¬ kk = 0 ∧ d ∈ LD ∧ ∃ b, lw_RK b c A (vD d) (DD d) all B)
/-- THE LAW'S WORLD at its loop's head -/
def lw_I (E : hm_E) (h7 h8 : Nat) (ws : va_W) : Prop :=
  ∃ (R : Nat → Nat → Nat) (k : Nat → Int32) (f : Nat → Nat → Int32) (kp : Nat → Option Nat) (dn : Nat) (c : Nat → Int32) (A : Nat → Nat → Int32) (da : Nat) (ac : Nat → Int32) (aA : Nat → Nat → Int32) (t : Nat → Int32) (g : Nat → Nat → Int32) (RK : Nat → Nat → Nat) (dK : Nat → Nat) (kc : Nat → Nat → Int32) (kA : Nat → Nat → Nat → Int32) (LD : List Nat) (rD : Nat → Nat → Nat) (vD : Nat → Nat → Int32) (DD : Nat → Nat → Nat → Int32) (b lb : Nat),
    ws.Perm (lw_X E h7 R k f kp dn c A da ac aA ++ (lw_Y E h8 R t g ++ lw_pl E kp RK dK kc kA LD rD vD DD)) ∧ dn ∈ LD ∧ lw_Rel b lb k f c A (vD dn) (DD dn) t g ∧ (∀ i, i < 3 → lw_Kr (kp i) (g 47 i) (dK i) (kc i) (kA i) LD vD DD (g 0) (160 * (1 + i)))
theorem lw_RCf {b B B' : Nat} {c : Nat → Int32} {A : Nat → Nat → Int32} {all all' : Nat → Int32} (e : ∀ j, j < 57 → all' (B' + j) = all (B + j)) (h : hp_RC b c A all B) : hp_RC b c A all' B' := by
  obtain ⟨q1, q2, q3, q4, ⟨q5, q6, q7, q8, q9, q10, q11, q12⟩, q⟩ := h
  refine ⟨q1, (e 0 (by omega)).trans q2, q3, q4, ⟨(e 1 (by omega)).trans q5, (e 2 (by omega)).trans q6, (e 3 (by omega)).trans q7, (e 4 (by omega)).trans q8, (e 5 (by omega)).trans q9, (e 6 (by omega)).trans q10, (e 7 (by omega)).trans q11, (e 8 (by omega)).trans q12⟩, fun i hi => ?_⟩
  obtain ⟨a1, a2, a3, a4⟩ := q i hi
  exact ⟨(e (9 + i) (by omega)).trans a1, (e (21 + i) (by omega)).trans a2, (e (33 + i) (by omega)).trans a3, (e (45 + i) (by omega)).trans a4⟩
theorem lw_RSf {B B' : Nat} {c : Nat → Int32} {A : Nat → Nat → Int32} {all all' : Nat → Int32} (e : ∀ j, 57 ≤ j → j < 74 → all' (B' + j) = all (B + j)) (h : hp_RS c A all B) : hp_RS c A all' B' := by
  obtain ⟨m, h1, h2, h3, h4⟩ := h
  refine ⟨m, h1, h2, (e 57 (by omega) (by omega)).trans h3, fun i hi => ?_⟩
  obtain ⟨a1, a2⟩ := h4 i hi
  exact ⟨(e (58 + i) (by omega) (by omega)).trans a1, (e (66 + i) (by omega) (by omega)).trans a2⟩
theorem lw_RKf {b B B' : Nat} {c : Nat → Int32} {A : Nat → Nat → Int32} {v : Nat → Int32} {D : Nat → Nat → Int32} {all all' : Nat → Int32} (e : ∀ j, j < 160 → all' (B' + j) = all (B + j)) (h : lw_RK b c A v D all B) : lw_RK b c A v D all' B' := by
  obtain ⟨h1, h2, h3, h4, h5⟩ := h
  exact ⟨lw_RCf (fun j _ => e j (by omega)) h1, h2, lw_RSf (fun j _ j2 => e j (by omega)) h3, h4, hp_RD_to h5 (fun j _ j2 => e j (by omega))⟩
theorem lw_Krf {o : Option Nat} {kk : Int32} {d : Nat} {c : Nat → Int32} {A : Nat → Nat → Int32} {LD : List Nat} {vD : Nat → Nat → Int32} {DD : Nat → Nat → Nat → Int32} {all all' : Nat → Int32} {B B' : Nat} (e : ∀ j, j < 160 → all' (B' + j) = all (B + j)) (h : lw_Kr o kk d c A LD vD DD all B) : lw_Kr o kk d c A LD vD DD all' B' := by
  rcases h with h | ⟨h1, h2, h3, b, h4⟩
  · exact Or.inl h
  · exact Or.inr ⟨h1, h2, h3, b, lw_RKf e h4⟩
theorem lw_pickN {X : va_W} {n : Nat} (hn : X.length = n) (isC isR : List Nat) (h : (List.range n).isPerm (isC ++ isR) = true) (rest : va_W) : (X ++ rest).Perm (hm_pk X isC ++ (hm_pk X isR ++ rest)) := by
  rw [← List.append_assoc]
  exact (lw_pick isC isR (by rw [hn]; exact h)).append_right rest
theorem lw_stepC {l : Launch} {E : hm_E} {h ci maxL n : Nat} {y : MethodName} {bytes : ByteArray} {fty : FieldType} {rm' : Room} {As : List Value} {o : Int32} {ws X rest wc : va_W} {Wn : va_W → Prop} {w' : (Nat → Nat) → va_W} {fs : List Value} (hp : ws.Perm (X ++ rest)) (hn : X.length = n) (isC isR : List Nat) (wr : va_W) (hk : (List.range n).isPerm (isC ++ isR) = true) (hC : hm_pk X isC = wc) (hR : hm_pk X isR = wr) (h0 : wc[0]? = some (h, .inr (ci, fs)))
    (M : ∀ sz, hm_Mi l E y bytes maxL fty [] rm' (.ref h :: As) sz wc o w') (K : ∀ qs, ((w' qs ++ (wr ++ rest)).map (fun q => q.1)).Nodup → Wn (w' qs ++ (wr ++ rest))) : lw_C l E h ci y bytes maxL fty rm' As o ws Wn := by
  subst hC
  subst hR
  exact ⟨_, _, w', fs, hp.trans (lw_pickN hn isC isR hk rest), h0, M, K⟩
theorem lw_backP {X Z rest w1 w2 : va_W} {n : Nat} (hn : X.length = n) (isC isR : List Nat) (hk : (List.range n).isPerm (isC ++ isR) = true) (e1 : hm_pk X isC = w1) (e2 : hm_pk X isR = w2) : (w1 ++ (w2 ++ (Z ++ rest))).Perm (Z ++ (X ++ rest)) := by
  subst e1
  subst e2
  exact (lw_pickN hn isC isR hk (Z ++ rest)).symm.trans (List.perm_append_comm_assoc _ _ _)
theorem lw_57 {c : Nat → Int32} {A : Nat → Nat → Int32} {all : Nat → Int32} (h : hp_RS c A all 0) : all 57 = c 16 := by
  obtain ⟨m, -, h2, h3, -⟩ := h
  rw [Nat.zero_add] at h3
  rw [h2, h3]
theorem lw_tp {bytes tape : Nat → Int32} {cnt taped : Int32} (h : hp_TP bytes tape cnt taped) : cnt = taped := by
  obtain ⟨m, -, h1, h2, -⟩ := h
  rw [h1, h2]
theorem lw_SB0 {c : Nat → Int32} {A : Nat → Nat → Int32} (h : c 16 = 0) : hp_SB c A := by
  intro m e1 e2 i hi
  rw [h] at e1
  have := congrArg Int32.toInt e1
  rw [hp_nT (by omega), show (0 : Int32).toInt = 0 from by decide] at this
  omega
theorem lw_RL0 {one late ap held last : Nat → Int32} {sum hd left lates ones code lB lsum lhd lleft lcode : Int32} : hp_RL 0 0 one late ap held sum hd left lates ones code 0 lB lsum lhd lleft lcode last := ⟨rfl, by omega, rfl, fun h => absurd rfl h⟩
theorem lw_drawsc {a1 a2 lb n sc r lb' n' sc' : Int32} {f1 f2 f3 f4 g1 g2 g3 g4 : Nat → Int32} (e : pf_X7_draw a1 a2 lb n f1 f2 f3 f4 sc = some (r, lb', n', g1, g2, g3, g4, sc')) : sc' = sc ∨ sc' = 0 := by
  unfold pf_X7_draw at e
  obtain ⟨r1, -, e⟩ := pf_bi_0 e
  split at e
  · cases e; exact Or.inl rfl
  · unfold bv_5 at e
    obtain ⟨u, -, e⟩ := Option.bind_eq_some_iff.mp e
    cases e; exact Or.inr rfl
theorem lw_drawSB {c : Nat → Int32} {A : Nat → Nat → Int32} {n sc : Int32} {f1 f2 f3 f4 : Nat → Int32} (hs : hp_SB c A) (h : sc = c 16 ∨ sc = 0) : hp_SB (upd (upd c 0 n) 16 sc) (hp_u4 A f1 f2 f3 f4) := by
  rcases h with h | h
  · intro m e1 e2 i hi
    rw [hp_us, h] at e1
    exact hs m e1 e2 i hi
  · exact lw_SB0 (by rw [hp_us]; exact h)
theorem lw_wipe {c : Nat → Int32} {r n : Int32} (e : pf_X7_wipe (c 16) = some (r, n)) : upd c 16 n 16 = 0 := by
  unfold pf_X7_wipe at e
  cases e
  rw [hp_us]
theorem lw_drawL {lb : Nat} {bits was lb' was' : Int32} {one late ap held last : Nat → Int32} {sum hd left lates ones code lB lsum lhd lleft lcode : Int32} (hL : hp_RL lb bits one late ap held sum hd left lates ones code was lB lsum lhd lleft lcode last) (h : (lb' = bits ∧ was' = was) ∨ (lb' = 0 ∧ was' = 0)) : ∃ lb2, hp_RL lb2 lb' one late ap held sum hd left lates ones code was' lB lsum lhd lleft lcode last := by
  rcases h with ⟨rfl, rfl⟩ | ⟨rfl, rfl⟩
  · exact ⟨lb, hL⟩
  · exact ⟨0, lw_RL0⟩
