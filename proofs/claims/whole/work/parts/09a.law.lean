/-! THE LAW: worlds in any order; a call as a step from a world to a world. -/
theorem lw_D {A : Nat → Prop} {ws : va_W} : va_D A ws ↔ (ws.map (fun q => q.1)).Nodup ∧ ∀ q ∈ ws, A q.1 := by
  constructor
  · rintro ⟨h1, h2⟩
    refine ⟨?_, fun q hq => ?_⟩
    · rw [List.Nodup, List.pairwise_map, List.pairwise_iff_getElem]
      intro i j hi hj hij e
      have := h1 i j _ _ (List.getElem?_eq_getElem hi) (List.getElem?_eq_getElem hj) e
      omega
    · obtain ⟨k, hk⟩ := List.mem_iff_getElem?.mp hq
      exact h2 k q hk
  · rintro ⟨h1, h2⟩
    rw [List.Nodup, List.pairwise_map, List.pairwise_iff_getElem] at h1
    refine ⟨fun i j x y hx hy e => ?_, fun k q hk => h2 q (List.mem_of_getElem? hk)⟩
    obtain ⟨hi, ei⟩ := List.getElem?_eq_some_iff.mp hx
    obtain ⟨hj, ej⟩ := List.getElem?_eq_some_iff.mp hy
    rcases Nat.lt_trichotomy i j with q | q | q
    · exact absurd (by rw [ei, ej]; exact e) (h1 i j hi hj q)
    · exact q
    · exact absurd (by rw [ei, ej]; exact e.symm) (h1 j i hj hi q)
theorem lw_Pm {D : va_G} {cl : List vw_C} {ws : va_W} {H : Heap} : va_P D cl ws H ↔ ∀ q ∈ ws, va_at D cl q H := by
  constructor
  · intro h q hq
    obtain ⟨k, hk⟩ := List.mem_iff_getElem?.mp hq
    exact h k q hk
  · intro h k q hk
    exact h q (List.mem_of_getElem? hk)
theorem hm_W.perm {E : hm_E} {A : Nat → Prop} {H0 : Heap} {ws ws' : va_W} {H : Heap} {locs : List Loc} (h : hm_W E A H0 ws H locs) (hp : ws.Perm ws') : hm_W E A H0 ws' H locs := by
  obtain ⟨h1, h2, h3⟩ := h
  refine ⟨lw_Pm.mpr (fun q hq => lw_Pm.mp h1 q (hp.mem_iff.mpr hq)), lw_D.mpr ⟨?_, fun q hq => (lw_D.mp h2).2 q (hp.mem_iff.mpr hq)⟩, h3⟩
  exact (hp.map (fun q => q.1)).nodup_iff.mp (lw_D.mp h2).1
theorem hm_W.nd {E : hm_E} {A : Nat → Prop} {H0 : Heap} {ws : va_W} {H : Heap} {locs : List Loc} (h : hm_W E A H0 ws H locs) : (ws.map (fun q => q.1)).Nodup := (lw_D.mp h.2.1).1
/-- picked cells first, the rest behind -/
theorem lw_pick {X : va_W} (isC isR : List Nat) (h : (List.range X.length).isPerm (isC ++ isR) = true) : X.Perm (hm_pk X isC ++ hm_pk X isR) := by
  have hp : (List.range X.length).Perm (isC ++ isR) := List.isPerm_iff.mp h
  have h2 := hp.filterMap (fun i => X[i]?)
  rw [List.filterMap_append] at h2
  have e : (List.range X.length).filterMap (fun i => X[i]?) = X := by
    clear h hp h2
    induction X with
    | nil => rfl
    | cons x X ih =>
      rw [List.length_cons, List.range_succ_eq_map, List.filterMap_cons]
      simp only [List.getElem?_cons_zero, List.filterMap_map]
      congr 1
  rw [e] at h2
  exact h2
/-- what a method does: it gives o, and the world that it leaves is one of those that Wn knows -/
def lw_C (l : Launch) (E : hm_E) (h ci : Nat) (y : MethodName) (bytes : ByteArray) (maxL : Nat) (fty : FieldType) (rm' : Room) (As : List Value) (o : Int32) (ws : va_W) (Wn : va_W → Prop) : Prop :=
  ∃ (wc wr : va_W) (w' : (Nat → Nat) → va_W) (fs : List Value), ws.Perm (wc ++ wr) ∧ wc[0]? = some (h, .inr (ci, fs)) ∧ (∀ sz, hm_Mi l E y bytes maxL fty [] rm' (.ref h :: As) sz wc o w') ∧ ∀ qs, ((w' qs ++ wr).map (fun q => q.1)).Nodup → Wn (w' qs ++ wr)
theorem lw_rng (ws : va_W) (wr : va_W) : (List.range ws.length).map (fun i => (ws ++ wr)[i]?) = ws.map some := by
  refine List.ext_getElem? (fun i => ?_)
  rw [List.getElem?_map, List.getElem?_map]
  by_cases h : i < ws.length
  · rw [List.getElem?_range h, List.getElem?_eq_getElem h]
    show some ((ws ++ wr)[i]?) = some (some ws[i])
    rw [List.getElem?_append_left h, List.getElem?_eq_getElem h]
  · rw [List.getElem?_eq_none (by rw [List.length_range]; omega), List.getElem?_eq_none (by omega)]
    rfl
theorem lw_ndN : ∀ l : List Nat, l.Nodup → va_nd l = true
  | [], _ => rfl
  | a :: l, h => by
    rw [List.nodup_cons] at h
    simp only [va_nd, Bool.and_eq_true, decide_eq_true_eq]
    exact ⟨h.1, lw_ndN l h.2⟩
theorem lw_rngN (n : Nat) : va_nd (List.range n) = true := lw_ndN _ List.nodup_range
section LWC
variable {p : Program} {l : Launch} {e : Env} {rm : Room} {s : State} {m : MethodId} {args : Array Value} {below : List Frame} {meth : Method} {c : Code} {H : Heap} {locs : List Loc} {cells slots : Nat} {Q : State → Prop}
variable {cc : ByteArray} {pc : Nat} {ls : Array Slot} {rest st0 : List Value} {E : hm_E} {A : Nat → Prop} {ws wc wr : va_W} {w' : (Nat → Nat) → va_W} {Wn : va_W → Prop}
variable {own : String} {T : u_T} {N ci index n mc ms maxL nL h : Nat} {y : MethodName} {bytes : ByteArray} {fty : FieldType} {rm' : Room} {As : List Value} {o : Int32}
theorem lw_go {a : Array Value} (hr : va_Run p l e rm s m args below meth c H locs cells slots mc ms (F0 m pc ls st0) rest (hm_Qi E wc H.size o w' a) (va_A wc H.size)) (hA : ∀ q, s.heap.size ≤ q → A q) (w : hm_W E A s.heap (wc ++ wr) H locs)
    (kk : ∀ (qs : Nat → Nat) (H : Heap) (locs : List Loc), hm_W E A s.heap (w' qs ++ wr) H locs → W p l e rm s m args below meth c H locs (cells + mc) (slots + ms) Q (F0 m (pc + 3) ls (.int o :: rest))) : W p l e rm s m args below meth c H locs cells slots Q (F0 m pc ls st0) := by
  have hC0 : (List.range wc.length).map (fun i => wc[i]?) = wc.map some := by
    have := lw_rng wc []
    rw [List.append_nil] at this
    exact this
  have hF := va_free (wc := wc) w.2.1 w.2.2 hA (List.range wc.length) (lw_rng wc wr)
  refine va_calli hr w.2.2 (fun q _ h => hF q h) hF (fun r qs t H1 locs1 ht hvm hpost hB hz hk hS => ?_)
  obtain ⟨hP1, hD1⟩ := hB
  rw [ht] at hP1
  obtain ⟨hP, hD⟩ := va_joinQ (X := wc) (wr := []) (pl := wr) w.1 w.2.1 (List.range wc.length) [] hC0 rfl rfl (fun i h => by cases h) hk hF hP1 hD1
  rw [hpost]
  exact kk qs H1 locs1 ⟨hP, hD, hS⟩
theorem lw_run (hx : p.tables.exec = Jvm.exec) (hb : c.code = cc) (hml : c.maxLocals = nL) (hown : s.vm.findClass own = some m.cls) (X : hm_X E s) (hA : ∀ q, s.heap.size ≤ q → A q) (Y : hm_Y E A s s.heap) (w : hm_W E A s.heap ws H locs) (C : lw_C l E h ci y bytes maxL fty rm' As o ws Wn) (hc : vwCl[ci]? = some (y.cls, T, N)) (mv : hm_mv y bytes maxL (some fty) n) (hl : Cond.methodLink own index y ∈ lw_tbl) (hdg : decode cc pc = .ok (.invokevirtual index, 3)) (hn : As.length = n) (hst : st0 = As.reverse ++ .ref h :: rest) (hsize : ls.size = nL) (hr : hm_rm rm rm' maxL cells slots rm'.cells rm'.slots rest)
    (kk : ∀ (ws' : va_W) (H : Heap) (locs : List Loc), Wn ws' → hm_W E A s.heap ws' H locs → W p l e rm s m args below meth c H locs (cells + rm'.cells) (slots + rm'.slots) Q (F0 m (pc + 3) ls (.int o :: rest))) : W p l e rm s m args below meth c H locs cells slots Q (F0 m pc ls st0) := by
  obtain ⟨wc, wr, w', fs, c1, c2, c3, c4⟩ := C
  have w2 := w.perm c1
  have he : (wc ++ wr)[0]? = some (h, .inr (ci, fs)) := by
    have hl0 : 0 < wc.length := (List.getElem?_eq_some_iff.mp c2).1
    rw [List.getElem?_append_left hl0]; exact c2
  exact lw_go (hm_runV hx hb hml hown X hA Y w2 0 hc he mv hl hdg hm_ac0 As hn (List.range wc.length) (lw_rng wc wr) (lw_rngN _) (c3 H.size) hst hsize hr) hA w2 (fun qs H locs w3 => kk _ H locs (c4 qs w3.nd) w3)
end LWC
