/-! THE LAW: from its entry. -/
theorem lw_pa {s : State} {args : Array Value} {ty : FieldType} (hp : ty = .int ∨ ty = .byte ∨ ty = .boolean) (h : (Cond.arrayClass ty).before args s = true) : ∃ cA : ClassId, ArrOfT s cA ty ∧ va_RA s cA ty := by
  obtain ⟨cA, kA, comp, h1, h2, h3⟩ := Cond.arrayClass_spec h
  refine ⟨cA, fun n z => ⟨(fun k h => by cases h), kA, h2, comp, h3⟩, ?_⟩
  rcases hp with rfl | rfl | rfl <;> exact h1
theorem lw_pr {s : State} {C : String} (h : va_AO C s) : ∃ cA : ClassId, ArrOfT s cA (.object C) ∧ va_RA s cA (.object C) := by
  obtain ⟨comp, c, k, h1, h2, h3, h4, h5⟩ := Cond.arrayOver_spec (va_AO.use (A := #[]) h)
  exact ⟨c, fun n z => ⟨(fun k h => by cases h), k, h3, comp, h4⟩, k, comp, h3, h4, h1, h5⟩
theorem lw_X0 {s : State} {b : Nat} (hts : ∀ w ∈ lw_tbl, w.before #[Value.ref b] s = true) (t1 t2 : Nat) : ∃ E : hm_E, hm_s1 E = t1 ∧ hm_s2 E = t2 ∧ hm_X E s := by
  obtain ⟨c0, i0, k0⟩ := u_known (C := RX0) (T := TX0) (N := 7) (n := 7) hts ul_X0 (hts _ is_X0)
  obtain ⟨c1, i1, k1⟩ := u_known (C := RX1) (T := TX1) (N := 11) (n := 11) hts ul_X1 (hts _ is_X1)
  obtain ⟨c2, i2, k2⟩ := u_known (C := RX2) (T := TX2) (N := 17) (n := 17) hts ul_X2 (hts _ is_X2)
  obtain ⟨c3, i3, k3⟩ := u_known (C := RX3) (T := TX3) (N := 6) (n := 6) hts ul_X3 (hts _ is_X3)
  obtain ⟨c4, i4, k4⟩ := u_known (C := RX4) (T := TX4) (N := 12) (n := 12) hts ul_X4 (hts _ is_X4)
  obtain ⟨c5, i5, k5⟩ := u_known (C := RX5) (T := TX5) (N := 4) (n := 4) hts ul_X5 (hts _ is_X5)
  obtain ⟨c7, i7, k7⟩ := u_known (C := RX7) (T := TX7) (N := 11) (n := 11) hts ul_X7 (hts _ is_X7)
  obtain ⟨c8, i8, k8⟩ := u_known (C := RX8) (T := TX8) (N := 55) (n := 55) hts ul_X8 (hts _ is_X8)
  obtain ⟨cI, aI⟩ := lw_pa (ty := .int) (Or.inl rfl) (hts _ ar_int)
  obtain ⟨cB, aB⟩ := lw_pa (ty := .byte) (Or.inr (Or.inl rfl)) (hts _ ar_byte)
  obtain ⟨cZ, aZ⟩ := lw_pa (ty := .boolean) (Or.inr (Or.inr rfl)) (hts _ ar_boolean)
  have ao : va_AO "HalvingMender$Converter" s := va_AO.of (hts _ (hm_t1 155 rfl))
  obtain ⟨cR, aR⟩ := lw_pr ao
  refine ⟨((fun k => ([c0, c1, c2, c3, c4, c5, c7, c8] : List ClassId).getD k c0, fun k => ([i0, i1, i2, i3, i4, i5, i7, i8] : List (Nat → Nat)).getD k i0), cI, cB, cZ, cR, t1, t2), rfl, rfl, ⟨fun k q hq => ?_, fun k q hq => ?_⟩, fun w hm hg => va_Nw.of (hm_gw_tab hg) (hts w hm), fun own idx y host hm => va_Nw.of rfl (hts _ hm), fun ty hm => word_at (State.WarmedH.refl s) (Or.inr ⟨ty, rfl⟩) (hts _ hm), ao⟩
  · match k, hq with
    | 0, hq =>
      obtain rfl := Option.some.inj (show some (RX0, TX0, 7) = some q from hq)
      exact k0
    | 1, hq =>
      obtain rfl := Option.some.inj (show some (RX1, TX1, 11) = some q from hq)
      exact k1
    | 2, hq =>
      obtain rfl := Option.some.inj (show some (RX2, TX2, 17) = some q from hq)
      exact k2
    | 3, hq =>
      obtain rfl := Option.some.inj (show some (RX3, TX3, 6) = some q from hq)
      exact k3
    | 4, hq =>
      obtain rfl := Option.some.inj (show some (RX4, TX4, 12) = some q from hq)
      exact k4
    | 5, hq =>
      obtain rfl := Option.some.inj (show some (RX5, TX5, 4) = some q from hq)
      exact k5
    | 6, hq =>
      obtain rfl := Option.some.inj (show some (RX7, TX7, 11) = some q from hq)
      exact k7
    | 7, hq =>
      obtain rfl := Option.some.inj (show some (RX8, TX8, 55) = some q from hq)
      exact k8
    | k + 8, hq => exact absurd hq (by simp [vwCl])
  · match k, hq with
    | 0, hq =>
      obtain rfl := Option.some.inj (show some (cI, FieldType.int) = some q from hq)
      exact aI
    | 1, hq =>
      obtain rfl := Option.some.inj (show some (cB, FieldType.byte) = some q from hq)
      exact aB
    | 2, hq =>
      obtain rfl := Option.some.inj (show some (cZ, FieldType.boolean) = some q from hq)
      exact aZ
    | 3, hq =>
      obtain rfl := Option.some.inj (show some (cR, FieldType.object "HalvingMender$Converter") = some q from hq)
      exact aR
    | k + 4, hq => exact absurd hq (by simp [hm_T])
theorem lw_Y1 {s : State} {b : Nat} (hs : ∀ c ∈ flatC (Jvm.Cond.and given_1 narrow_1), c.before #[Value.ref b] s = true) (hts : ∀ w ∈ lw_tbl, w.before #[Value.ref b] s = true) : ∃ t : Nat, va_Z "HalvingMender$Tally" "STRIDES" "[I" (.ref t) (fun q : Nat => s.heap.size ≤ q) s s.heap ∧ va_T .int t 9 (fun j => .int (hm_strides j)) (fun q : Nat => s.heap.size ≤ q) s s.heap := by
  have hA : ∀ a : Nat, a < s.heap.size → ¬ (fun q : Nat => s.heap.size ≤ q) a := fun a h => Nat.not_le.mpr h
  have e0 : (Term.elem (Term.static "HalvingMender$Tally" "STRIDES" "[I") (.int 0)).eval #[Value.ref b] s none [] s = some (.int 1750) := va_eqt (hs (Cond.eq (Term.elem (Term.static "HalvingMender$Tally" "STRIDES" "[I") (.int 0)) (.int 1750)) (by decide +kernel))
  have e1 : (Term.elem (Term.static "HalvingMender$Tally" "STRIDES" "[I") (.int 1)).eval #[Value.ref b] s none [] s = some (.int 701) := va_eqt (hs (Cond.eq (Term.elem (Term.static "HalvingMender$Tally" "STRIDES" "[I") (.int 1)) (.int 701)) (by decide +kernel))
  have e2 : (Term.elem (Term.static "HalvingMender$Tally" "STRIDES" "[I") (.int 2)).eval #[Value.ref b] s none [] s = some (.int 301) := va_eqt (hs (Cond.eq (Term.elem (Term.static "HalvingMender$Tally" "STRIDES" "[I") (.int 2)) (.int 301)) (by decide +kernel))
  have e3 : (Term.elem (Term.static "HalvingMender$Tally" "STRIDES" "[I") (.int 3)).eval #[Value.ref b] s none [] s = some (.int 132) := va_eqt (hs (Cond.eq (Term.elem (Term.static "HalvingMender$Tally" "STRIDES" "[I") (.int 3)) (.int 132)) (by decide +kernel))
  have e4 : (Term.elem (Term.static "HalvingMender$Tally" "STRIDES" "[I") (.int 4)).eval #[Value.ref b] s none [] s = some (.int 57) := va_eqt (hs (Cond.eq (Term.elem (Term.static "HalvingMender$Tally" "STRIDES" "[I") (.int 4)) (.int 57)) (by decide +kernel))
  have e5 : (Term.elem (Term.static "HalvingMender$Tally" "STRIDES" "[I") (.int 5)).eval #[Value.ref b] s none [] s = some (.int 23) := va_eqt (hs (Cond.eq (Term.elem (Term.static "HalvingMender$Tally" "STRIDES" "[I") (.int 5)) (.int 23)) (by decide +kernel))
  have e6 : (Term.elem (Term.static "HalvingMender$Tally" "STRIDES" "[I") (.int 6)).eval #[Value.ref b] s none [] s = some (.int 10) := va_eqt (hs (Cond.eq (Term.elem (Term.static "HalvingMender$Tally" "STRIDES" "[I") (.int 6)) (.int 10)) (by decide +kernel))
  have e7 : (Term.elem (Term.static "HalvingMender$Tally" "STRIDES" "[I") (.int 7)).eval #[Value.ref b] s none [] s = some (.int 4) := va_eqt (hs (Cond.eq (Term.elem (Term.static "HalvingMender$Tally" "STRIDES" "[I") (.int 7)) (.int 4)) (by decide +kernel))
  have e8 : (Term.elem (Term.static "HalvingMender$Tally" "STRIDES" "[I") (.int 8)).eval #[Value.ref b] s none [] s = some (.int 1) := va_eqt (hs (Cond.eq (Term.elem (Term.static "HalvingMender$Tally" "STRIDES" "[I") (.int 8)) (.int 1)) (by decide +kernel))
  have el : (Term.length (Term.static "HalvingMender$Tally" "STRIDES" "[I")).eval #[Value.ref b] s none [] s = some (.int 9) := va_eqt (hs (Cond.eq (Term.length (Term.static "HalvingMender$Tally" "STRIDES" "[I")) (.int 9)) (by decide +kernel))
  obtain ⟨t, h1, h2⟩ := va_Tof (tm := Term.static "HalvingMender$Tally" "STRIDES" "[I") (ty := .int) (N := 9) (f := fun j => .int (hm_strides j)) (by decide) (hs (Cond.arrayOf (Term.static "HalvingMender$Tally" "STRIDES" "[I") .int) (by decide +kernel)) el (fun j hj => by
    rcases (show j = 0 ∨ j = 1 ∨ j = 2 ∨ j = 3 ∨ j = 4 ∨ j = 5 ∨ j = 6 ∨ j = 7 ∨ j = 8 by omega) with rfl | rfl | rfl | rfl | rfl | rfl | rfl | rfl | rfl
    · exact e0
    · exact e1
    · exact e2
    · exact e3
    · exact e4
    · exact e5
    · exact e6
    · exact e7
    · exact e8) hA
  exact ⟨t, va_Zof (hts _ (hm_t4 44 rfl)) (hts _ in_X4) h1 hA, h2⟩
theorem lw_Y2 {s : State} {b : Nat} (hs : ∀ c ∈ flatC (Jvm.Cond.and given_1 narrow_1), c.before #[Value.ref b] s = true) (hts : ∀ w ∈ lw_tbl, w.before #[Value.ref b] s = true) : ∃ t : Nat, va_Z "HalvingMender$TextForm" "LETTERS" "[C" (.ref t) (fun q : Nat => s.heap.size ≤ q) s s.heap ∧ va_T .char t 5 (fun j => .int (hm_letters j)) (fun q : Nat => s.heap.size ≤ q) s s.heap := by
  have hA : ∀ a : Nat, a < s.heap.size → ¬ (fun q : Nat => s.heap.size ≤ q) a := fun a h => Nat.not_le.mpr h
  have e0 : (Term.elem (Term.static "HalvingMender$TextForm" "LETTERS" "[C") (.int 0)).eval #[Value.ref b] s none [] s = some (.int 111) := va_eqt (hs (Cond.eq (Term.elem (Term.static "HalvingMender$TextForm" "LETTERS" "[C") (.int 0)) (.int 111)) (by decide +kernel))
  have e1 : (Term.elem (Term.static "HalvingMender$TextForm" "LETTERS" "[C") (.int 1)).eval #[Value.ref b] s none [] s = some (.int 100) := va_eqt (hs (Cond.eq (Term.elem (Term.static "HalvingMender$TextForm" "LETTERS" "[C") (.int 1)) (.int 100)) (by decide +kernel))
  have e2 : (Term.elem (Term.static "HalvingMender$TextForm" "LETTERS" "[C") (.int 2)).eval #[Value.ref b] s none [] s = some (.int 114) := va_eqt (hs (Cond.eq (Term.elem (Term.static "HalvingMender$TextForm" "LETTERS" "[C") (.int 2)) (.int 114)) (by decide +kernel))
  have e3 : (Term.elem (Term.static "HalvingMender$TextForm" "LETTERS" "[C") (.int 3)).eval #[Value.ref b] s none [] s = some (.int 110) := va_eqt (hs (Cond.eq (Term.elem (Term.static "HalvingMender$TextForm" "LETTERS" "[C") (.int 3)) (.int 110)) (by decide +kernel))
  have e4 : (Term.elem (Term.static "HalvingMender$TextForm" "LETTERS" "[C") (.int 4)).eval #[Value.ref b] s none [] s = some (.int 103) := va_eqt (hs (Cond.eq (Term.elem (Term.static "HalvingMender$TextForm" "LETTERS" "[C") (.int 4)) (.int 103)) (by decide +kernel))
  have el : (Term.length (Term.static "HalvingMender$TextForm" "LETTERS" "[C")).eval #[Value.ref b] s none [] s = some (.int 5) := va_eqt (hs (Cond.eq (Term.length (Term.static "HalvingMender$TextForm" "LETTERS" "[C")) (.int 5)) (by decide +kernel))
  obtain ⟨t, h1, h2⟩ := va_Tof (tm := Term.static "HalvingMender$TextForm" "LETTERS" "[C") (ty := .char) (N := 5) (f := fun j => .int (hm_letters j)) (by decide) (hs (Cond.arrayOf (Term.static "HalvingMender$TextForm" "LETTERS" "[C") .char) (by decide +kernel)) el (fun j hj => by
    rcases (show j = 0 ∨ j = 1 ∨ j = 2 ∨ j = 3 ∨ j = 4 by omega) with rfl | rfl | rfl | rfl | rfl
    · exact e0
    · exact e1
    · exact e2
    · exact e3
    · exact e4) hA
  exact ⟨t, va_Zof (hts _ (hm_t2 178 rfl)) (hts _ in_X6) h1 hA, h2⟩
theorem lw_XY {s : State} {b : Nat} (hts : ∀ w ∈ lw_tbl, w.before #[Value.ref b] s = true) (hgv : (Jvm.Cond.and given_1 narrow_1).before #[Value.ref b] s = true) : ∃ E : hm_E, hm_X E s ∧ hm_Y E (fun q : Nat => s.heap.size ≤ q) s s.heap := by
  have hs := flat_of_before _ hgv
  obtain ⟨t1, z1, y1⟩ := lw_Y1 hs hts
  obtain ⟨t2, z2, y2⟩ := lw_Y2 hs hts
  obtain ⟨E, r1, r2, X⟩ := lw_X0 hts t1 t2
  refine ⟨E, X, ?_⟩
  unfold hm_Y
  rw [r1, r2]
  exact ⟨z1, y1, z2, y2⟩
theorem hm_W.take {E : hm_E} {A : Nat → Prop} {H0 : Heap} {ws D : va_W} {H : Heap} {locs : List Loc} (h : hm_W E A H0 (ws ++ D) H locs) : hm_W E A H0 ws H locs := by
  obtain ⟨h1, h2, h3⟩ := h
  refine ⟨lw_Pm.mpr (fun q hq => lw_Pm.mp h1 q (List.mem_append_left _ hq)), lw_D.mpr ⟨?_, fun q hq => (lw_D.mp h2).2 q (List.mem_append_left _ hq)⟩, h3⟩
  have h4 := (lw_D.mp h2).1
  rw [List.map_append] at h4
  exact (List.nodup_append.mp h4).1
section LWV
variable {p : Program} {l : Launch} {e : Env} {rm : Room} {s : State} {m : MethodId} {args : Array Value} {below : List Frame} {meth : Method} {c : Code} {H : Heap} {locs : List Loc} {cells slots : Nat} {Q : State → Prop}
variable {cc : ByteArray} {pc : Nat} {ls : Array Slot} {rest st0 : List Value} {E : hm_E} {A : Nat → Prop} {wc wr : va_W} {w' : (Nat → Nat) → va_W} {mc ms : Nat}
theorem lw_goV {a : Array Value} (hr : va_Run p l e rm s m args below meth c H locs cells slots mc ms (F0 m pc ls st0) rest (hm_Qv E wc H.size w' a) (va_A wc H.size)) (hA : ∀ q, s.heap.size ≤ q → A q) (w : hm_W E A s.heap (wc ++ wr) H locs)
    (kk : ∀ (qs : Nat → Nat) (H : Heap) (locs : List Loc), hm_W E A s.heap (w' qs ++ wr) H locs → W p l e rm s m args below meth c H locs (cells + mc) (slots + ms) Q (F0 m (pc + 3) ls rest)) : W p l e rm s m args below meth c H locs cells slots Q (F0 m pc ls st0) := by
  have hC0 : (List.range wc.length).map (fun i => wc[i]?) = wc.map some := by
    have := lw_rng wc []
    rw [List.append_nil] at this
    exact this
  have hF := va_free (wc := wc) w.2.1 w.2.2 hA (List.range wc.length) (lw_rng wc wr)
  refine va_callv hr w.2.2 (fun q _ h => hF q h) hF (fun qs t H1 locs1 ht hvm hpost hB hz hk hS => ?_)
  obtain ⟨hP1, hD1⟩ := hB
  rw [ht] at hP1
  obtain ⟨hP, hD⟩ := va_joinQ (X := wc) (wr := []) (pl := wr) w.1 w.2.1 (List.range wc.length) [] hC0 rfl rfl (fun i h => by cases h) hk hF hP1 hD1
  exact kk qs H1 locs1 ⟨hP, hD, hS⟩
end LWV
set_option maxHeartbeats 4000000 in
/-- THE LAW, from its entry -/
theorem whole_start {p : Program} {e : Env} {s : State} {m : MethodId} {below : List Frame} {meth : Method} {c : Code} (l : Launch) (hflags : l.flags = flags0) {b L : Nat} {xs : Nat → Int32} (hL : L ≤ 3072) (C0 : lw_At p s m meth c b L xs) : W p l e room_1 s m #[Value.ref b] below meth c s.heap [] 0 0 (lw_Z below #[Value.ref b] s) (entryFrame m ([Value.ref b] : List Value).toArray 4) := by
  obtain ⟨hx, hb, hr, hml, hown, hts, hX, hbl, hlocks, hgv⟩ := id C0
  have hown : s.vm.findClass RL = some m.cls := hown
  have hA : ∀ q : Nat, s.heap.size ≤ q → (fun q : Nat => s.heap.size ≤ q) q := fun _ h => h
  obtain ⟨E, X, Y⟩ := lw_XY hts hgv
  have hl := lv_entry ([.ref b]) (n := 4) (Nat.le_of_ble_eq_true rfl)
  rw [lg_entry_eq]
  generalize (lg_sl ([.ref b]) ++ List.replicate (4 - (lg_sl ([.ref b])).length) Slot.unset).toArray = ls at hl ⊢
  have hl : lv_has ls 4 [(0, .ref b)] := hl
  have w : hm_W E (fun q : Nat => s.heap.size ≤ q) s.heap [] s.heap [] := ⟨fun k q h => by simp at h, ⟨fun i j p q h => by simp at h, fun k q h => by simp at h⟩, va_S.rf⟩
  refine hm_new (fs := [.null, .null, .null, .null, .null, .null, .null, .null, .null, .int 0, .int 0]) cb_X7 hx hb hown X hA w cl_L_7 is_X7 in_X7 dL_law_0 df_X7 (Nat.le_of_ble_eq_true rfl) (Nat.le_of_ble_eq_true rfl) (fun h7 H w => ?_)
  have w : hm_W E (fun q : Nat => s.heap.size ≤ q) s.heap ([(h7, .inr (6, [.null, .null, .null, .null, .null, .null, .null, .null, .null, .int 0, .int 0]))] ++ []) H [] := w
  refine lv_dup hx hb dL_law_3 rfl ?_
  refine lw_goV (wr := []) (hm_runI (rest := [.ref h7]) (wc := [(h7, .inr (6, [.null, .null, .null, .null, .null, .null, .null, .null, .null, .int 0, .int 0]))]) hx hb hml hown X hA Y w mw_X7_init ml_L_9 dL_law_4 hm_ac0 [] rfl [0] rfl rfl (ct_X7_init l E H.size h7 () rfl) rfl hl.1 ⟨⟨rfl, rfl⟩, ⟨Nat.le_of_ble_eq_true rfl, Nat.le_of_ble_eq_true rfl⟩, ⟨Nat.le_of_ble_eq_true rfl, Nat.le_of_ble_eq_true rfl⟩, Nat.le_of_ble_eq_true rfl⟩) hA w (fun qs H locs w => ?_)
  have w := w.cells (List.append_nil _)
  refine lv_astore_n (lv' := [(1, .ref h7), (0, .ref b)]) hx hb dL_law_7 rfl hl (by decide) rfl (fun ls hl => ?_)
  refine hm_new (fs := [.null, .int 0, .null, .int 0, .int 0, .int 0, .int 0, .null, .null, .null, .null, .null, .int 0, .int 0, .null, .int 0, .int 0, .null, .null, .null, .null, .null, .int 0, .null, .null, .null, .null, .null, .null, .int 0, .int 0, .int 0, .int 0, .int 0, .int 0, .int 0, .int 0, .int 0, .int 0, .null, .null, .int 0, .null, .null, .int 0, .null, .null, .null, .null, .null, .null, .null, .int 0, .int 0, .int 0]) cb_X8 hx hb hown X hA w cl_L_10 is_X8 in_X8 dL_law_8 df_X8 (Nat.le_of_ble_eq_true rfl) (Nat.le_of_ble_eq_true rfl) (fun h8 H w => ?_)
  have w := w.perm List.perm_append_comm
  refine lv_dup hx hb dL_law_11 rfl ?_
  refine lw_goV (hm_runI (rest := [.ref h8]) (wc := [(h8, .inr (7, [.null, .int 0, .null, .int 0, .int 0, .int 0, .int 0, .null, .null, .null, .null, .null, .int 0, .int 0, .null, .int 0, .int 0, .null, .null, .null, .null, .null, .int 0, .null, .null, .null, .null, .null, .null, .int 0, .int 0, .int 0, .int 0, .int 0, .int 0, .int 0, .int 0, .int 0, .int 0, .null, .null, .int 0, .null, .null, .int 0, .null, .null, .null, .null, .null, .null, .null, .int 0, .int 0, .int 0]))]) hx hb hml hown X hA Y w mw_X8_init ml_L_12 dL_law_12 hm_ac0 [] rfl [0] rfl rfl (ct_X8_init l E H.size h8 lw_a0 lw_i8) rfl hl.1 ⟨⟨rfl, rfl⟩, ⟨Nat.le_of_ble_eq_true rfl, Nat.le_of_ble_eq_true rfl⟩, ⟨Nat.le_of_ble_eq_true rfl, Nat.le_of_ble_eq_true rfl⟩, Nat.le_of_ble_eq_true rfl⟩) hA w (fun ps H locs w => ?_)
  refine lv_astore_n (lv' := [(2, .ref h8), (1, .ref h7), (0, .ref b)]) hx hb dL_law_15 rfl hl (by decide) rfl (fun ls hl => ?_)
  refine lv_iconst (v := 0) hx hb dL_law_16 (by decide) ?_
  refine lv_istore_n (lv' := [(3, .int 0), (2, .ref h8), (1, .ref h7), (0, .ref b)]) hx hb dL_law_17 rfl hl (by decide) rfl (fun ls hl => ?_)
  obtain ⟨ws2, D, hp, I⟩ := lw_start (E := E) (h7 := h7) (h8 := h8) qs ps
  have w := w.perm (List.perm_append_comm.trans hp)
  have w := w.take
  have g3 : 0 + 1 + 43 + 1 + 30 + 11 * 600 ≤ 600000 := by omega
  have g4 : 0 + 11 + 5386 + 55 + 25759 + 287 * 600 ≤ 7302250 := by omega
  refine lw_loop hL C0 X Y 600 0 (0 + 1 + 43 + 1 + 30) (0 + 11 + 5386 + 55 + 25759) (by omega) (by omega) g3 g4 ws2 H locs ls I w ?_
  rw [nI_0]
  exact lv_sub hl [3, 2, 1, 0] rfl
