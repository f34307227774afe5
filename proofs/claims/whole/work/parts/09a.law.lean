/-! THE LAW: worlds in any order; a call as a step from a world to a world. -/
theorem lw_D {A : Nat → Prop} {ws : va_W} : va_D A ws ↔ (ws.map (fun q => q.1)).Nodup ∧ ∀ q ∈ ws, A q.1 := by
  constructor
  · rintro ⟨h1, h2⟩
    refine ⟨?_, fun q hq => ?_⟩
    · rw [List.Nodup, List.pairwise_map, List.pairwise_iff_getElem]
      intro i j hi hj hij e
      have := h1 i j _ _ (List.getElem?_eq_getElem hi) (List.getElem?_eq_getElem hj) e
      omega
    · obtain ⟨k, hk⟩ := List.mem_iff_getElem?.mp hq
      exact h2 k q hk
  · rintro ⟨h1, h2⟩
    rw [List.Nodup, List.pairwise_map, List.pairwise_iff_getElem] at h1
    refine ⟨fun i j x y hx hy e => ?_, fun k q hk => h2 q (List.mem_of_getElem? hk)⟩
    obtain ⟨hi, ei⟩ := List.getElem?_eq_some_iff.mp hx
    obtain ⟨hj, ej⟩ := List.getElem?_eq_some_iff.mp hy
    rcases Nat.lt_trichotomy i j with q | q | q
    · exact absurd (by rw [ei, ej]; exact e) (h1 i j hi hj q)
    · exact q
    · exact absurd (by rw [ei, ej]; exact e.symm) (h1 j i hj hi q)
theorem lw_Pm {D : va_G} {cl : List vw_C} {ws : va_W} {H : Heap} : va_P D cl ws H ↔ ∀ q ∈ ws, va_at D cl q H := by
  constructor
  · intro h q hq
    obtain ⟨k, hk⟩ := List.mem_iff_getElem?.mp hq
    exact h k q hk
  · intro h k q hk
    exact h q (List.mem_of_getElem? hk)
theorem hm_W.perm {E : hm_E} {A : Nat → Prop} {H0 : Heap} {ws ws' : va_W} {H : Heap} {locs : List Loc} (h : hm_W E A H0 ws H locs) (hp : ws.Perm ws') : hm_W E A H0 ws' H locs := by
  obtain ⟨h1, h2, h3⟩ := h
  refine ⟨lw_Pm.mpr (fun q hq => lw_Pm.mp h1 q (hp.mem_iff.mpr hq)), lw_D.mpr ⟨?_, fun q hq => (lw_D.mp h2).2 q (hp.mem_iff.mpr hq)⟩, h3⟩
  exact (hp.map (fun q => q.1)).nodup_iff.mp (lw_D.mp h2).1
theorem hm_W.nd {E : hm_E} {A : Nat → Prop} {H0 : Heap} {ws : va_W} {H : Heap} {locs : List Loc} (h : hm_W E A H0 ws H locs) : (ws.map (fun q => q.1)).Nodup := (lw_D.mp h.2.1).1
/-- picked cells first, the rest behind -/
theorem lw_pick {X : va_W} (isC isR : List Nat) (h : (List.range X.length).isPerm (isC ++ isR) = true) : X.Perm (hm_pk X isC ++ hm_pk X isR) := by
  have hp : (List.range X.length).Perm (isC ++ isR) := List.isPerm_iff.mp h
  have h2 := hp.filterMap (fun i => X[i]?)
  rw [List.filterMap_append] at h2
  have e : (List.range X.length).filterMap (fun i => X[i]?) = X := by
    clear h hp h2
    induction X with
    | nil => rfl
    | cons x X ih =>
      rw [List.length_cons, List.range_succ_eq_map, List.filterMap_cons]
      simp only [List.getElem?_cons_zero, List.filterMap_map]
      congr 1
  rw [e] at h2
  exact h2
section LWC
variable {p : Program} {l : Launch} {e : Env} {rm : Room} {s : State} {m : MethodId} {args : Array Value} {below : List Frame} {meth : Method} {c : Code} {H : Heap} {locs : List Loc} {cells slots : Nat} {Q : State → Prop}
variable {cc : ByteArray} {pc : Nat} {ls : Array Slot} {rest st0 : List Value} {E : hm_E} {A : Nat → Prop} {ws : va_W}
variable {own : String} {T : u_T} {N ci index n mc ms maxL nL h : Nat} {y : MethodName} {bytes : ByteArray} {fty : FieldType} {rm' : Room} {As : List Value} {o : Int32}
/-- what a method does: it gives o, and the world that it leaves is one of those that Wn knows -/
def lw_C (l : Launch) (E : hm_E) (h ci : Nat) (y : MethodName) (bytes : ByteArray) (maxL : Nat) (fty : FieldType) (rm' : Room) (As : List Value) (o : Int32) (ws : va_W) (Wn : va_W → Prop) : Prop :=
  ∃ (wc wr : va_W) (w' : (Nat → Nat) → va_W) (fs : List Value), ws.Perm (wc ++ wr) ∧ wc[0]? = some (h, .inr (ci, fs)) ∧ (∀ sz, hm_Mi l E y bytes maxL fty [] rm' (.ref h :: As) sz wc o w') ∧ ∀ qs, Wn (w' qs ++ wr)
end LWC
