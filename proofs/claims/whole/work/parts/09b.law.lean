/-! THE CLAIM OUT OF ONE WALK OF THE LAW'S BODY. Your part is whole_start (and what it stands on); all else here is the same for every law, but numbers. -/
def R_law : String := "HalvingMenderLaw"
def lw_P (b : Addr) (xs : List Int32) (args : Array Value) (s : State) : Prop := args = #[.ref b] ∧ s.IntsAt b xs ∧ xs.length ≤ 3072 ∧ (Jvm.Cond.and given_1 narrow_1).before args s = true
def lw_Q (_ : Array Value) (s : State) (o : Outcome) (t : State) : Prop := o = .returned (some (.int 1)) ∧ Framed s o t [] 600000 7302250
def lw_Z (below : List Frame) (a : Array Value) (s : State) : State → Prop := fun t => ∃ o, t.status = .running ∧ Ended t below o ∧ lw_Q a s o t
/-- the law's own end, with 1 on the stack, nothing written that was there before, its room as the claim has it -/
theorem lw_ret {p : Program} {l : Launch} {e : Env} {s : State} {m : MethodId} {below : List Frame} {meth : Method} {c : Code} {b : Nat} (hx : p.tables.exec = Jvm.exec) (hb : c.code = code) (hr : meth.sig.returnType = ret) (hlocks : meth.locks = false) {pc : Nat} {H : Heap} {ls : Array Slot} (hdg : decode code pc = .ok (.ireturn, 1)) : W p l e room_1 s m #[Value.ref b] below meth c H [] 600000 7302250 (lw_Z below #[Value.ref b] s) (F0 m pc ls [.int 1]) := by
  intro T hT X
  obtain ⟨fs, hret, hrun, hended, hW, hframe⟩ := X.leave (v := some (.int 1)) (hlocks := hlocks) (fun h => by rw [hr] at h; cases h)
  have hmeth' : T.vm.method? m = some meth := X.method'
  refine ⟨T.setFrames fs, ?_, .returned (some (.int 1)), hrun, hended, rfl, ⟨_, rfl⟩, hW, hframe⟩
  jvm_step X.here [X.here.top, hx, hb, hdg, hmeth', hr, ret, narrow_b1]
  (try refine ⟨rfl, ?_⟩); (try refine ⟨rfl, ?_⟩)
  first | (intro acts; rw [hret _ acts rfl rfl rfl]) | rw [hret _ _ rfl rfl rfl]
  exact Steps.refl _
/-- what holds at the law's entry: the machine, the code, the tables' words (any of lw_tbl by 'hts w (by decide +kernel)'), the script of L ints xs at the cell b, what the Statement gives of the start (any of its parts by flat_of_before) -/
def lw_At (p : Program) (s : State) (m : MethodId) (meth : Method) (c : Code) (b L : Nat) (xs : Nat → Int32) : Prop :=
  p.tables.exec = Jvm.exec ∧ c.code = code ∧ meth.sig.returnType = ret ∧ c.maxLocals = 4 ∧ s.vm.findClass R_law = some m.cls ∧ (∀ w ∈ lw_tbl, w.before #[Value.ref b] s = true) ∧ va_X b L xs s s.heap ∧ b < s.heap.size ∧ meth.locks = false ∧ (Jvm.Cond.and given_1 narrow_1).before #[Value.ref b] s = true
/-! THE LAW: the script's ints are loaded; a case is run. -/
def lw_ld (pc j : Nat) : Prop := decode code pc = .ok (.aload_n 0, 1) ∧ decode code (pc + 1) = .ok (.iload_n 3, 1) ∧ decode code (pc + 2) = .ok (.iconst (j : Int), 1) ∧ decode code (pc + 3) = .ok (.iadd, 1) ∧ decode code (pc + 4) = .ok (.iaload, 1)
def lw_lds : Nat → List Nat → Prop
  | _, [] => True
  | pc, j :: js => lw_ld pc j ∧ lw_lds (pc + 5) js
def lw_as (xs : Nat → Int32) (i : Nat) (js : List Nat) : List Value := js.map (fun j => .int (xs (i + j)))
section LWL
variable {p : Program} {l : Launch} {e : Env} {s : State} {m : MethodId} {below : List Frame} {meth : Method} {c : Code} {H : Heap} {locs : List Loc} {cells slots : Nat} {Q : State → Prop} {E : hm_E}
variable {b L i h7 h8 : Nat} {xs : Nat → Int32} {ls : Array Slot}
theorem lw_load (hL : L ≤ 3072) (C0 : lw_At p s m meth c b L xs) (hS : va_S (fun q : Nat => s.heap.size ≤ q) s.heap H locs) (hl : lv_has ls 4 [(0, .ref b), (1, .ref h7), (2, .ref h8), (3, .int (nI i))]) : ∀ (js : List Nat) (pc : Nat) (st : List Value), lw_lds pc js → (∀ j ∈ js, i + j < L ∧ j ≤ 5) →
    W p l e room_1 s m #[Value.ref b] below meth c H locs cells slots Q (F0 m (pc + 5 * js.length) ls ((lw_as xs i js).reverse ++ st)) → W p l e room_1 s m #[Value.ref b] below meth c H locs cells slots Q (F0 m pc ls st) := by
  obtain ⟨hx, hb, hr, hml, hown, hts, hX, hbl, hlocks, hgv⟩ := C0
  have hbA : ¬ (fun q : Nat => s.heap.size ≤ q) b := Nat.not_le.mpr hbl
  intro js
  induction js with
  | nil => intro pc st _ _ k; exact k
  | cons j js ih =>
    intro pc st ⟨⟨d1, d2, d3, d4, d5⟩, dr⟩ hj k
    obtain ⟨j1, j2⟩ := hj j List.mem_cons_self
    refine lv_aload_n hx hb d1 rfl (lv_at hl 0 rfl) ?_
    refine lv_iload_n hx hb d2 rfl (lv_at hl 3 rfl) ?_
    refine lv_iconst (v := nI j) hx hb d3 (by
      rcases (show j = 0 ∨ j = 1 ∨ j = 2 ∨ j = 3 ∨ j = 4 ∨ j = 5 by omega) with rfl | rfl | rfl | rfl | rfl | rfl <;> rfl) ?_
    refine lv_iadd hx hb d4 ?_
    rw [nI_add]
    refine va_sld hx hb hX hbl hbA hS (vp_in_nI (n := i + j) j1 (by omega)) d5 ?_
    rw [hp_cl (show i + j < 2147483648 by omega)]
    refine ih (pc + 5) (.int (xs (i + j)) :: st) dr (fun j hj' => hj j (List.mem_cons_of_mem _ hj')) ?_
    have e1 : pc + 5 + 5 * js.length = pc + 5 * (j :: js).length := by rw [List.length_cons]; omega
    have e2 : (lw_as xs i js).reverse ++ .int (xs (i + j)) :: st = (lw_as xs i (j :: js)).reverse ++ st := by
      show _ = ((Value.int (xs (i + j))) :: lw_as xs i js).reverse ++ st
      rw [List.reverse_cons, List.append_assoc]
      rfl
    rw [e1, e2]
    exact k
theorem lw_case {y7 y8 : MethodName} {b7 b8 : ByteArray} {m7 m8 k P i7 i8 : Nat} {f7 f8 : FieldType} {rm7 rm8 : Room} {ws : va_W} {o : Int32} {Inv : va_W → Prop} {off : Int} {T7 T8 : u_T} {N7 N8 : Nat} {js : List Nat}
    (hL : L ≤ 3072) (C0 : lw_At p s m meth c b L xs) (X : hm_X E s) (Y : hm_Y E (fun q : Nat => s.heap.size ≤ q) s s.heap)
    (dA : decode code P = .ok (.aload_n 1, 1)) (l7 : lw_lds (P + 1) js) (dv7 : decode code (P + 1 + 5 * js.length) = .ok (.invokevirtual i7, 3)) (dB : decode code (P + 1 + 5 * js.length + 3) = .ok (.aload_n 2, 1)) (l8 : lw_lds (P + 1 + 5 * js.length + 3 + 1) js) (dv8 : decode code (P + 1 + 5 * js.length + 3 + 1 + 5 * js.length) = .ok (.invokevirtual i8, 3)) (dc : decode code (P + 1 + 5 * js.length + 3 + 1 + 5 * js.length + 3) = .ok (.if_icmp .eq off, 3)) (ht : ((P + 1 + 5 * js.length + 3 + 1 + 5 * js.length + 3 : Nat) : Int) + off = ((1617 : Nat) : Int))
    (hj : ∀ j ∈ js, i + j < L ∧ j ≤ 5) (hk : js.length = k)
    (c7 : vwCl[6]? = some (y7.cls, T7, N7)) (mv7 : hm_mv y7 b7 m7 (some f7) k) (ml7 : Cond.methodLink R_law i7 y7 ∈ lw_tbl) (hr7 : hm_rm room_1 rm7 m7 cells slots rm7.cells rm7.slots [])
    (c8 : vwCl[7]? = some (y8.cls, T8, N8)) (mv8 : hm_mv y8 b8 m8 (some f8) k) (ml8 : Cond.methodLink R_law i8 y8 ∈ lw_tbl) (hr8 : hm_rm room_1 rm8 m8 (cells + rm7.cells) (slots + rm7.slots) rm8.cells rm8.slots [.int o])
    (w : hm_W E (fun q : Nat => s.heap.size ≤ q) s.heap ws H locs) (hl : lv_has ls 4 [(0, .ref b), (1, .ref h7), (2, .ref h8), (3, .int (nI i))])
    (CC : lw_C l E h7 6 y7 b7 m7 f7 rm7 (lw_as xs i js) o ws (fun ws' => lw_C l E h8 7 y8 b8 m8 f8 rm8 (lw_as xs i js) o ws' Inv))
    (kk : ∀ (ws' : va_W) (H : Heap) (locs : List Loc), Inv ws' → hm_W E (fun q : Nat => s.heap.size ≤ q) s.heap ws' H locs → W p l e room_1 s m #[Value.ref b] below meth c H locs (cells + rm7.cells + rm8.cells) (slots + rm7.slots + rm8.slots) Q (F0 m 1617 ls [])) :
    W p l e room_1 s m #[Value.ref b] below meth c H locs cells slots Q (F0 m P ls []) := by
  obtain ⟨hx, hb, hr, hml, hown, hts, hX, hbl, hlocks, hgv⟩ := id C0
  have hA : ∀ q : Nat, s.heap.size ≤ q → (fun q : Nat => s.heap.size ≤ q) q := fun _ h => h
  have hn : (lw_as xs i js).length = k := by unfold lw_as; rw [List.length_map]; exact hk
  refine lv_aload_n hx hb dA rfl (lv_at hl 1 rfl) ?_
  refine lw_load hL C0 w.2.2 hl js (P + 1) _ l7 hj ?_
  refine lw_run hx hb hml hown X hA Y w CC c7 mv7 ml7 dv7 hn rfl hl.1 hr7 (fun ws1 H locs C8 w => ?_)
  refine lv_aload_n hx hb dB rfl (lv_at hl 2 rfl) ?_
  refine lw_load hL C0 w.2.2 hl js _ _ l8 hj ?_
  refine lw_run hx hb hml hown X hA Y w C8 c8 mv8 ml8 dv8 hn rfl hl.1 hr8 (fun ws2 H locs I w => ?_)
  refine lv_icmp_eq (tgt := 1617) hx hb dc ht (fun _ => ?_) (fun k => absurd rfl k)
  exact kk ws2 H locs I w
end LWL
