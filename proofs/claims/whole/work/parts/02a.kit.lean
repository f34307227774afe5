/-! The layer between the kit's rows and the printed walks: one bundle for what the tables say (hm_X), one for the static rows (hm_Y), one for the world (hm_W), contracts (hm_Pc, hm_Qi, hm_Qv), calls. -/
abbrev hm_E : Type := va_G × ClassId × ClassId × ClassId × ClassId × Nat × Nat
abbrev hm_I (E : hm_E) : ClassId := E.2.1
abbrev hm_B (E : hm_E) : ClassId := E.2.2.1
abbrev hm_Z (E : hm_E) : ClassId := E.2.2.2.1
abbrev hm_R (E : hm_E) : ClassId := E.2.2.2.2.1
abbrev hm_s1 (E : hm_E) : Nat := E.2.2.2.2.2.1
abbrev hm_s2 (E : hm_E) : Nat := E.2.2.2.2.2.2
abbrev hm_T (E : hm_E) : List (ClassId × FieldType) := [(hm_I E, .int), (hm_B E, .byte), (hm_Z E, .boolean), (hm_R E, .object "HalvingMender$Converter")]
/-- words that stay under calls -/
def hm_gw (w : Cond) : Bool := w.onTables && w.keeps
def hm_LK (U : State) : Prop := ∀ w ∈ lw_tbl, hm_gw w = true → va_Nw w U
def hm_NK (U : State) : Prop := ∀ (own : String) (idx : Nat) (y : MethodName) (host : String), Cond.methodLinkNest own idx y host ∈ lw_tbl → va_Nw (.methodLinkNest own idx y host) U
def hm_AK (U : State) : Prop := ∀ ty, Cond.arrayClass ty ∈ lw_tbl → (Cond.arrayClass ty).before #[] U = true
def hm_X (E : hm_E) (U : State) : Prop := va_K E.1 vwCl (hm_T E) U ∧ hm_LK U ∧ hm_NK U ∧ hm_AK U ∧ va_AO "HalvingMender$Converter" U
theorem hm_X.warm {E : hm_E} {s U : State} (h : hm_X E s) (hW : s.WarmedH U.vm) : hm_X E U :=
  ⟨va_K.moved hW.alike h.1, fun w hm hg => word_at hW (Or.inl hg) (h.2.1 w hm hg), fun own idx y host hm => va_Nw.warmM hW (h.2.2.1 own idx y host hm), fun ty hm => word_at hW (Or.inr ⟨ty, rfl⟩) (h.2.2.2.1 ty hm), va_AO.moved hW.alike h.2.2.2.2⟩
theorem hm_gw_tab {w : Cond} (h : hm_gw w = true) : w.onTables = true := by
  unfold hm_gw at h
  exact (Bool.and_eq_true _ _ ▸ h).1
theorem hm_X.vm {E : hm_E} {u U : State} (h : hm_X E u) (e : u.vm = U.vm) : hm_X E U :=
  ⟨va_K.moved (by rw [e]; exact Vm.Alike.refl _) h.1, fun w hm hg => va_Nw.same (hm_gw_tab hg) e (h.2.1 w hm hg), fun own idx y host hm => va_Nw.same rfl e (h.2.2.1 own idx y host hm), fun ty hm => word_at (by rw [← e]; exact State.WarmedH.refl u) (Or.inr ⟨ty, rfl⟩) (h.2.2.2.1 ty hm), va_AO.moved (by rw [e]; exact Vm.Alike.refl _) h.2.2.2.2⟩
theorem hm_X.use {E : hm_E} {s : State} (h : hm_X E s) {w : Cond} (hm : w ∈ lw_tbl) (hg : hm_gw w = true) {args : Array Value} : w.before args s = true := va_Nw.use (hm_gw_tab hg) (h.2.1 w hm hg)
theorem hm_X.arr {E : hm_E} {s : State} (h : hm_X E s) {ty : FieldType} (hm : Cond.arrayClass ty ∈ lw_tbl) {args : Array Value} : (Cond.arrayClass ty).before args s = true := word_at (State.WarmedH.refl s) (Or.inr ⟨ty, rfl⟩) (h.2.2.2.1 ty hm)
theorem hm_tb {w : Cond} (i : Nat) (h : tables_1[i]? = some w) : w ∈ lw_tbl := List.mem_append_right _ (List.mem_of_getElem? h)
theorem hm_tp {w : Cond} (i : Nat) (h : (k2_sels lw_privs)[i]? = some w) : w ∈ lw_tbl := List.mem_append_left _ (List.mem_of_getElem? h)
/-- the two static rows of the class -/
def hm_strides : Nat → Int32 := fun j => ([1750, 701, 301, 132, 57, 23, 10, 4, 1] : List Int32).getD j 0
def hm_letters : Nat → Int32 := fun j => ([111, 100, 114, 110, 103] : List Int32).getD j 0
def hm_Y (E : hm_E) (A : Nat → Prop) (U : State) (H : Heap) : Prop :=
  va_Z "HalvingMender$Tally" "STRIDES" "[I" (.ref (hm_s1 E)) A U H ∧ va_T .int (hm_s1 E) 9 (fun j => .int (hm_strides j)) A U H ∧
  va_Z "HalvingMender$TextForm" "LETTERS" "[C" (.ref (hm_s2 E)) A U H ∧ va_T .char (hm_s2 E) 5 (fun j => .int (hm_letters j)) A U H
theorem hm_Y.moved {E : hm_E} {A : Nat → Prop} {u U : State} {H : Heap} (hvm : u.vm.Alike U.vm) (h : hm_Y E A u H) : hm_Y E A U H :=
  ⟨h.1.moved hvm, h.2.1.moved hvm, h.2.2.1.moved hvm, h.2.2.2.moved hvm⟩
theorem hm_Y.kept {E : hm_E} {A : Nat → Prop} {U : State} {H H1 : Heap} (h : hm_Y E A U H) (hq : ∀ a : Nat, a < H.size → ¬ A a → H1[a]? = H[a]?) : hm_Y E A U H1 :=
  ⟨h.1.kept hq, h.2.1.kept hq, h.2.2.1.kept hq, h.2.2.2.kept hq⟩
theorem hm_Y.narrow {E : hm_E} {A B : Nat → Prop} {U : State} {H : Heap} (h : hm_Y E A U H) (hAB : ∀ q, B q → A q) : hm_Y E B U H :=
  ⟨h.1.narrow hAB, h.2.1.narrow hAB, h.2.2.1.narrow hAB, h.2.2.2.narrow hAB⟩
/-- the world at a point of a method's walk -/
def hm_W (E : hm_E) (A : Nat → Prop) (H0 : Heap) (ws : va_W) (H : Heap) (locs : List Loc) : Prop := va_P E.1 vwCl ws H ∧ va_D A ws ∧ va_S A H0 H locs
theorem hm_W.cells {E : hm_E} {A : Nat → Prop} {H0 : Heap} {ws : va_W} {H : Heap} {locs : List Loc} (h : hm_W E A H0 ws H locs) {ws' : va_W} (e : ws = ws') : hm_W E A H0 ws' H locs := e ▸ h
theorem hm_W.sub {E : hm_E} {A : Nat → Prop} {H0 : Heap} {ws ws' : va_W} {H : Heap} {locs : List Loc} (h : hm_W E A H0 ws H locs) (is : List Nat) (hn : va_nd is = true) (hs : is.map (fun i => ws[i]?) = ws'.map some) : hm_W E A H0 ws' H locs :=
  ⟨h.1.sub is (by
    have e : is.filterMap (fun i => ws[i]?) = (is.map (fun i => ws[i]?)).filterMap id := by simp [List.filterMap_map]
    rw [e, hs]; simp [List.filterMap_map]), h.2.1.sub is hn hs, h.2.2⟩
/-- contracts -/
def hm_Pc (E : hm_E) (av : List Value) (wc : va_W) (sz : Nat) : Array Value → State → Prop := va_Pc av (fun U => U.heap.size = sz ∧ va_P E.1 vwCl wc U.heap ∧ hm_X E U ∧ va_D (fun _ => True) wc ∧ hm_Y E (va_A wc sz) U U.heap)
theorem hm_Pc.blind {E : hm_E} {av : List Value} {wc : va_W} {sz : Nat} : FrameBlind (hm_Pc E av wc sz) := by
  intro a U g mk h
  obtain ⟨h0, h1, h2, h3, h4, h5⟩ := h
  exact ⟨h0, h1, h2, h3.vm rfl, h4, hm_Y.moved (u := U) (U := U.calling g mk a) (Vm.Alike.refl U.vm) h5⟩
def hm_Qi (E : hm_E) (wc : va_W) (sz : Nat) (o : Int32) (w' : (Nat → Nat) → va_W) : Array Value → State → Outcome → State → Prop :=
  va_Qi (S := Nat → Nat) (fun r _ => r = o) (fun qs t => va_P E.1 vwCl (w' qs) t.heap ∧ va_D (va_A wc sz) (w' qs)) (va_A wc sz)
def hm_Qv (E : hm_E) (wc : va_W) (sz : Nat) (w' : (Nat → Nat) → va_W) : Array Value → State → Outcome → State → Prop :=
  va_Qv (S := Nat → Nat) (fun _ => True) (fun qs t => va_P E.1 vwCl (w' qs) t.heap ∧ va_D (va_A wc sz) (w' qs)) (va_A wc sz)
/-- a contract's walk: what holds at the entry; Q is what the end must come to -/
theorem hm_ct_i {ρ : Type} {l : Launch} {E : hm_E} {y : MethodName} {bytes : ByteArray} {maxL mc ms : Nat} {fty : FieldType} {ex : List Cond} {rm : Room} {av : List Value} {wc : va_W} {sz : Nat} (R : Int32 × ρ) (w' : ρ → (Nat → Nat) → va_W)
    (hy : plainName y.cls = true) (hlen : (lg_sl av).length ≤ maxL) (hft : fty = .int ∨ fty = .boolean)
    (body : ∀ (p : Program) (e : Env) (s : State) (m : MethodId) (args : Array Value) (below : List Frame) (meth : Method) (c : Code) (A : Nat → Prop) (Q : State → Prop) (ls : Array Slot) (H : Heap) (locs : List Loc),
      p.tables.exec = Jvm.exec → c.code = bytes → c.maxLocals = maxL → s.vm.findClass y.cls = some m.cls → hm_X E s → (∀ q, s.heap.size ≤ q → A q) → hm_Y E A s s.heap → (∀ w ∈ ex, w.before args s = true) → hm_W E A s.heap wc H locs → lv_has ls maxL (lv_args 0 av) →
      (∀ (H : Heap) (locs : List Loc) (pc : Nat) (ls : Array Slot) (v : Int32) (u : ρ) (qs : Nat → Nat), some (v, u) = some R → narrow fty (.int v) = .int v → hm_W E A s.heap (w' u qs) H locs → decode bytes pc = .ok (.ireturn, 1) → W p l e rm s m args below meth c H locs mc ms Q (F0 m pc ls [.int v])) →
      W p l e rm s m args below meth c H locs 0 0 Q (F0 m 0 ls [])) :
    Met l y (Cond.code y bytes maxL (some fty) :: ex) rm (hm_Pc E av wc sz) (hm_Qi E wc sz R.1 (w' R.2)) mc ms (va_A wc sz) := by
  refine Met.ofW (cc := bytes) (maxL := maxL) (ret := some fty) hy rfl ?_
  intro p e s m args below meth c s₁ B hml hv
  obtain ⟨rfl, hsz, hP, hX, hD0, hY⟩ := hv
  have hts := atoms_spec (ws := Cond.code y bytes maxL (some fty) :: ex) B.pre
  have hlocks := B.notSynchronized
  have hr := B.returns
  subst hsz
  have hD := hD0.self (sz := s.heap.size)
  have hl := lv_entry av (n := maxL) hlen
  rw [lg_entry_eq]
  refine body p e s m _ below meth c (va_A wc s.heap.size) _ _ _ _ B.exec B.bytes hml (findClass_of_methodNamed B.named) hX (fun q h => Or.inr h) hY (fun w hw => hts w (List.mem_cons_of_mem _ hw)) ⟨hP, hD, va_S.rf⟩ hl ?_
  intro H locs pc ls v u qs hvu hnar hw hdg
  have hR : (v, u) = R := Option.some.inj hvu
  subst hR
  refine W.zret (v := v) (ty := fty) B.exec B.bytes hr hnar (fun t ht hW => ⟨⟨v, qs, rfl, rfl, by rw [ht]; exact hw.1, hw.2.1⟩, hw.2.2.F ht⟩) hw.2.2.2.2 hdg
theorem hm_ct_v {ρ : Type} {l : Launch} {E : hm_E} {y : MethodName} {bytes : ByteArray} {maxL mc ms : Nat} {ex : List Cond} {rm : Room} {av : List Value} {wc : va_W} {sz : Nat} (R : ρ) (w' : ρ → (Nat → Nat) → va_W)
    (hy : plainName y.cls = true) (hlen : (lg_sl av).length ≤ maxL)
    (body : ∀ (p : Program) (e : Env) (s : State) (m : MethodId) (args : Array Value) (below : List Frame) (meth : Method) (c : Code) (A : Nat → Prop) (Q : State → Prop) (ls : Array Slot) (H : Heap) (locs : List Loc),
      p.tables.exec = Jvm.exec → c.code = bytes → c.maxLocals = maxL → s.vm.findClass y.cls = some m.cls → hm_X E s → (∀ q, s.heap.size ≤ q → A q) → hm_Y E A s s.heap → (∀ w ∈ ex, w.before args s = true) → meth.name = y.name → hm_W E A s.heap wc H locs → lv_has ls maxL (lv_args 0 av) →
      (∀ (H : Heap) (locs : List Loc) (pc : Nat) (ls : Array Slot) (u : ρ) (qs : Nat → Nat), some u = some R → hm_W E A s.heap (w' u qs) H locs → decode bytes pc = .ok (.return_, 1) → W p l e rm s m args below meth c H locs mc ms Q (F0 m pc ls [])) →
      W p l e rm s m args below meth c H locs 0 0 Q (F0 m 0 ls [])) :
    Met l y (Cond.code y bytes maxL none :: ex) rm (hm_Pc E av wc sz) (hm_Qv E wc sz (w' R)) mc ms (va_A wc sz) := by
  refine Met.ofW (cc := bytes) (maxL := maxL) (ret := none) hy rfl ?_
  intro p e s m args below meth c s₁ B hml hv
  obtain ⟨rfl, hsz, hP, hX, hD0, hY⟩ := hv
  have hts := atoms_spec (ws := Cond.code y bytes maxL none :: ex) B.pre
  have hlocks := B.notSynchronized
  have hr := B.returns
  subst hsz
  have hD := hD0.self (sz := s.heap.size)
  have hl := lv_entry av (n := maxL) hlen
  rw [lg_entry_eq]
  refine body p e s m _ below meth c (va_A wc s.heap.size) _ _ _ _ B.exec B.bytes hml (findClass_of_methodNamed B.named) hX (fun q h => Or.inr h) hY (fun w hw => hts w (List.mem_cons_of_mem _ hw)) (name_of_methodNamed B.named B.method).1 ⟨hP, hD, va_S.rf⟩ hl ?_
  intro H locs pc ls u qs hvu hw hdg
  have hR : u = R := Option.some.inj hvu
  subst hR
  exact W.vret B.exec B.bytes hr (fun t ht hW => ⟨⟨qs, rfl, trivial, by rw [ht]; exact hw.1, hw.2.1⟩, hw.2.2.F ht⟩) hw.2.2.2.2 hdg
section HMR
variable {p : Program} {l : Launch} {e : Env} {rm : Room} {s : State} {m : MethodId} {args : Array Value} {below : List Frame} {meth : Method} {c : Code} {H : Heap} {locs : List Loc} {cells slots : Nat} {Q : State → Prop}
variable {cc : ByteArray} {pc : Nat} {ls : Array Slot} {rest : List Value} {E : hm_E} {A : Nat → Prop} {a : Nat} {ws : va_W}
/-- a class of the system, as the tables have it -/
def hm_C (ci : Nat) (C : String) (T : u_T) (N : Nat) (ty : Nat → FieldType) : Prop := vwCl[ci]? = some (C, T, N) ∧ (∀ w ∈ u_ws C T N, w ∈ lw_tbl ∧ hm_gw w = true) ∧ (∀ k, k < N → parseFieldDescriptor (T k).2.2.1 = some (ty k)) ∧ (∀ a, a < N → ∀ b, b < N → a ≠ b → (T a).2.1 ≠ (T b).2.1)
theorem hm_get {own C : String} {T : u_T} {N ci index : Nat} {ty : Nat → FieldType} (hC : hm_C ci C T N ty) (hx : p.tables.exec = Jvm.exec) (hb : c.code = cc) (hown : s.vm.findClass own = some m.cls) (X : hm_X E s) (w : hm_W E A s.heap ws H locs) (q0 k : Nat) {fs : List Value} {v : Value} (hl : Cond.fieldLink own index (T k).1 (T k).2.1 (T k).2.2.1 ∈ lw_tbl) (hdg : decode cc pc = .ok (.getfield index, 3)) (he : ws[q0]? = some (a, .inr (ci, fs))) (hk : k < N) (hv : fs[k]? = some v)
    (kk : W p l e rm s m args below meth c H locs cells slots Q (F0 m (pc + 3) ls (v :: rest))) : W p l e rm s m args below meth c H locs cells slots Q (F0 m pc ls (.ref a :: rest)) :=
  va_get (Ts := u_ws C T N) hx hb (fun w hw => X.use (hC.2.1 w hw).1 (hC.2.1 w hw).2) (fun _ h => h) hown X.1 w.1 q0 he hC.1 k hk (X.use hl rfl) (fun _ h => h) hv hdg kk
theorem hm_put {own C : String} {T : u_T} {N ci index : Nat} {ty : Nat → FieldType} (hC : hm_C ci C T N ty) (hx : p.tables.exec = Jvm.exec) (hb : c.code = cc) (hown : s.vm.findClass own = some m.cls) (X : hm_X E s) (w : hm_W E A s.heap ws H locs) (q0 k : Nat) {fs : List Value} {v : Value} {ws' : va_W} (hl : Cond.fieldLink own index (T k).1 (T k).2.1 (T k).2.2.1 ∈ lw_tbl) (hdg : decode cc pc = .ok (.putfield index, 3)) (he : ws[q0]? = some (a, .inr (ci, fs))) (hk : k < N) (hlt : k < fs.length) (hfin : (T k).2.2.2 = false) (hn : narrow (ty k) v = v) (hfit : fits (ty k) v = true) (hw : ws.set q0 (a, .inr (ci, fs.set k v)) = ws')
    (kk : ∀ (H : Heap) (locs : List Loc), hm_W E A s.heap ws' H locs → W p l e rm s m args below meth c H locs cells slots Q (F0 m (pc + 3) ls rest)) : W p l e rm s m args below meth c H locs cells slots Q (F0 m pc ls (v :: .ref a :: rest)) := by
  subst hw
  exact va_put (Ts := u_ws C T N) hx hb (fun w hw => X.use (hC.2.1 w hw).1 (hC.2.1 w hw).2) (fun _ h => h) ty hC.2.2.1 hC.2.2.2 hown X.1 w.1 w.2.1 w.2.2 q0 he hC.1 k hk (X.use hl rfl) (fun _ h => h) hfin (hC.2.2.1 k hk) hn hfit hlt hdg (fun H1 locs1 a b c => kk H1 locs1 ⟨a, b, c⟩)
theorem hm_putF {own C : String} {T : u_T} {N ci index : Nat} {ty : Nat → FieldType} (hC : hm_C ci C T N ty) (hx : p.tables.exec = Jvm.exec) (hb : c.code = cc) (hown : s.vm.findClass own = some m.cls) (hin : meth.name = "<init>") (X : hm_X E s) (w : hm_W E A s.heap ws H locs) (q0 k : Nat) {fs : List Value} {v : Value} {ws' : va_W} (hl : Cond.fieldLink own index (T k).1 (T k).2.1 (T k).2.2.1 ∈ lw_tbl) (hdg : decode cc pc = .ok (.putfield index, 3)) (he : ws[q0]? = some (a, .inr (ci, fs))) (hk : k < N) (hlt : k < fs.length) (hfin : (T k).2.2.2 = true) (hdecl : (T k).1 = own) (hn : narrow (ty k) v = v) (hfit : fits (ty k) v = true) (hw : ws.set q0 (a, .inr (ci, fs.set k v)) = ws')
    (kk : ∀ (H : Heap) (locs : List Loc), hm_W E A s.heap ws' H locs → W p l e rm s m args below meth c H locs cells slots Q (F0 m (pc + 3) ls rest)) : W p l e rm s m args below meth c H locs cells slots Q (F0 m pc ls (v :: .ref a :: rest)) := by
  subst hw
  exact va_putF (Ts := u_ws C T N) hx hb (fun w hw => X.use (hC.2.1 w hw).1 (hC.2.1 w hw).2) (fun _ h => h) ty hC.2.2.1 hC.2.2.2 hown X.1 w.1 w.2.1 w.2.2 q0 he hC.1 k hk (X.use hl rfl) (fun _ h => h) hfin hin hdecl (hC.2.2.1 k hk) hn hfit hlt hdg (fun H1 locs1 a b c => kk H1 locs1 ⟨a, b, c⟩)
theorem hm_iald (hx : p.tables.exec = Jvm.exec) (hb : c.code = cc) (X : hm_X E s) (w : hm_W E A s.heap ws H locs) (q0 : Nat) {n : Nat} {f : Nat → Int32} {i : Int32} (hdg : decode cc pc = .ok (.iaload, 1)) (ha : ws[q0]? = some (a, .inl (hm_I E, n, .inl f))) (hin : vp_in i n)
    (kk : W p l e rm s m args below meth c H locs cells slots Q (F0 m (pc + 1) ls (.int (f i.toNatClampNeg) :: rest))) : W p l e rm s m args below meth c H locs cells slots Q (F0 m pc ls (.int i :: .ref a :: rest)) :=
  va_iald hx hb X.1 w.1 q0 0 ha rfl hin hdg kk
theorem hm_bald (hx : p.tables.exec = Jvm.exec) (hb : c.code = cc) (X : hm_X E s) (w : hm_W E A s.heap ws H locs) (q0 : Nat) {n : Nat} {f : Nat → Int32} {i : Int32} (hdg : decode cc pc = .ok (.baload, 1)) (ha : ws[q0]? = some (a, .inl (hm_B E, n, .inl f))) (hin : vp_in i n)
    (kk : W p l e rm s m args below meth c H locs cells slots Q (F0 m (pc + 1) ls (.int (f i.toNatClampNeg) :: rest))) : W p l e rm s m args below meth c H locs cells slots Q (F0 m pc ls (.int i :: .ref a :: rest)) :=
  va_bald hx hb X.1 w.1 q0 1 ha rfl hin hdg kk
theorem hm_zald (hx : p.tables.exec = Jvm.exec) (hb : c.code = cc) (X : hm_X E s) (w : hm_W E A s.heap ws H locs) (q0 : Nat) {n : Nat} {f : Nat → Int32} {i : Int32} (hdg : decode cc pc = .ok (.baload, 1)) (ha : ws[q0]? = some (a, .inl (hm_Z E, n, .inl f))) (hin : vp_in i n)
    (kk : W p l e rm s m args below meth c H locs cells slots Q (F0 m (pc + 1) ls (.int (f i.toNatClampNeg) :: rest))) : W p l e rm s m args below meth c H locs cells slots Q (F0 m pc ls (.int i :: .ref a :: rest)) :=
  va_zald hx hb X.1 w.1 q0 2 ha rfl hin hdg kk
theorem hm_iast (hx : p.tables.exec = Jvm.exec) (hb : c.code = cc) (X : hm_X E s) (w : hm_W E A s.heap ws H locs) (q0 : Nat) {n : Nat} {f : Nat → Int32} {i x : Int32} {ws' : va_W} (hdg : decode cc pc = .ok (.iastore, 1)) (ha : ws[q0]? = some (a, .inl (hm_I E, n, .inl f))) (hin : vp_in i n) (hw : ws.set q0 (a, .inl (hm_I E, n, .inl (upd f i.toNatClampNeg x))) = ws')
    (kk : ∀ (H : Heap) (locs : List Loc), hm_W E A s.heap ws' H locs → W p l e rm s m args below meth c H locs cells slots Q (F0 m (pc + 1) ls rest)) : W p l e rm s m args below meth c H locs cells slots Q (F0 m pc ls (.int x :: .int i :: .ref a :: rest)) := by
  subst hw
  exact va_iast hx hb X.1 w.1 w.2.1 w.2.2 q0 0 ha rfl hin hdg (fun H1 locs1 a b c => kk H1 locs1 ⟨a, b, c⟩)
theorem hm_bast (hx : p.tables.exec = Jvm.exec) (hb : c.code = cc) (X : hm_X E s) (w : hm_W E A s.heap ws H locs) (q0 : Nat) {n : Nat} {f : Nat → Int32} {i x : Int32} {ws' : va_W} (hdg : decode cc pc = .ok (.bastore, 1)) (ha : ws[q0]? = some (a, .inl (hm_B E, n, .inl f))) (hin : vp_in i n) (hw : ws.set q0 (a, .inl (hm_B E, n, .inl (upd f i.toNatClampNeg (vp_nar .byte x)))) = ws')
    (kk : ∀ (H : Heap) (locs : List Loc), hm_W E A s.heap ws' H locs → W p l e rm s m args below meth c H locs cells slots Q (F0 m (pc + 1) ls rest)) : W p l e rm s m args below meth c H locs cells slots Q (F0 m pc ls (.int x :: .int i :: .ref a :: rest)) := by
  subst hw
  exact va_bast hx hb X.1 w.1 w.2.1 w.2.2 q0 1 ha rfl hin hdg (fun H1 locs1 a b c => kk H1 locs1 ⟨a, b, c⟩)
theorem hm_zast (hx : p.tables.exec = Jvm.exec) (hb : c.code = cc) (X : hm_X E s) (w : hm_W E A s.heap ws H locs) (q0 : Nat) {n : Nat} {f : Nat → Int32} {i x : Int32} {ws' : va_W} (hdg : decode cc pc = .ok (.bastore, 1)) (ha : ws[q0]? = some (a, .inl (hm_Z E, n, .inl f))) (hin : vp_in i n) (hw : ws.set q0 (a, .inl (hm_Z E, n, .inl (upd f i.toNatClampNeg (vp_nar .boolean x)))) = ws')
    (kk : ∀ (H : Heap) (locs : List Loc), hm_W E A s.heap ws' H locs → W p l e rm s m args below meth c H locs cells slots Q (F0 m (pc + 1) ls rest)) : W p l e rm s m args below meth c H locs cells slots Q (F0 m pc ls (.int x :: .int i :: .ref a :: rest)) := by
  subst hw
  exact va_zast hx hb X.1 w.1 w.2.1 w.2.2 q0 2 ha rfl hin hdg (fun H1 locs1 a b c => kk H1 locs1 ⟨a, b, c⟩)
theorem hm_qald (hx : p.tables.exec = Jvm.exec) (hb : c.code = cc) (X : hm_X E s) (w : hm_W E A s.heap ws H locs) (q0 : Nat) {n : Nat} {f : Nat → Option Nat} {i : Int32} (hdg : decode cc pc = .ok (.aaload, 1)) (ha : ws[q0]? = some (a, .inl (hm_R E, n, .inr (.inr (.inr (.inr f)))))) (hin : vp_in i n)
    (kk : W p l e rm s m args below meth c H locs cells slots Q (F0 m (pc + 1) ls (va_rf (f i.toNatClampNeg) :: rest))) : W p l e rm s m args below meth c H locs cells slots Q (F0 m pc ls (.int i :: .ref a :: rest)) :=
  va_aldq hx hb X.1 w.1 q0 3 ha rfl hin hdg kk
theorem hm_qast (hx : p.tables.exec = Jvm.exec) (hb : c.code = cc) (X : hm_X E s) (w : hm_W E A s.heap ws H locs) (q0 qk : Nat) {n v : Nat} {vs : List Value} {f : Nat → Option Nat} {i : Int32} {ws' : va_W} (hdg : decode cc pc = .ok (.aastore, 1)) (ha : ws[q0]? = some (a, .inl (hm_R E, n, .inr (.inr (.inr (.inr f)))))) (hv : ws[qk]? = some (v, .inr (2, vs))) (hin : vp_in i n) (hw : ws.set q0 (a, .inl (hm_R E, n, .inr (.inr (.inr (.inr (va_up f i.toNatClampNeg (some v))))))) = ws')
    (kk : ∀ (H : Heap) (locs : List Loc), hm_W E A s.heap ws' H locs → W p l e rm s m args below meth c H locs cells slots Q (F0 m (pc + 1) ls rest)) : W p l e rm s m args below meth c H locs cells slots Q (F0 m pc ls (.ref v :: .int i :: .ref a :: rest)) := by
  subst hw
  exact va_astq (r := (RX2, TX2, 17)) hx hb X.1 w.1 w.2.1 w.2.2 q0 3 qk 2 ha rfl hv rfl hin hdg (fun H1 locs1 a b c => kk H1 locs1 ⟨a, b, c⟩)
theorem hm_copy {own : String} {index : Nat} (hx : p.tables.exec = Jvm.exec) (hb : c.code = cc) (hml : c.maxLocals = ls.size) (hown : s.vm.findClass own = some m.cls) (X : hm_X E s) (w : hm_W E A s.heap ws H locs) (q0 q1 : Nat) {a0 n0 n1 : Nat} {f g : Nat → Int32} {sp dp n : Int32} {ws' : va_W}
    (hl : Cond.methodLink own index arraycopyName ∈ lw_tbl) (h1 : Cond.native arraycopyName ∈ lw_tbl) (h2 : Cond.static arraycopyName ∈ lw_tbl) (h3 : Cond.initialized "java/lang/System" ∈ lw_tbl) (hdg : decode cc pc = .ok (.invokestatic index, 3))
    (ha0 : ws[q0]? = some (a0, .inl (hm_I E, n0, .inl f))) (ha1 : ws[q1]? = some (a, .inl (hm_I E, n1, .inl g))) (c1 : ¬ sp < 0) (c2 : ¬ dp < 0) (c3 : ¬ n < 0) (c4 : sp.toNatClampNeg + n.toNatClampNeg ≤ n0) (c5 : dp.toNatClampNeg + n.toNatClampNeg ≤ n1)
    (hframes : 1 ≤ rm.frames) (hlocals : (rest.map fun v => v.category).sum + (nativeFrameWords "java/lang/System" "arraycopy" 5 + 11) ≤ rm.locals) (hw : ws.set q1 (a, .inl (hm_I E, n1, .inl (va_cpy f g sp.toNatClampNeg dp.toNatClampNeg n.toNatClampNeg))) = ws')
    (kk : ∀ (H : Heap) (locs : List Loc), hm_W E A s.heap ws' H locs → W p l e rm s m args below meth c H locs cells slots Q (F0 m (pc + 3) ls rest)) : W p l e rm s m args below meth c H locs cells slots Q (F0 m pc ls (.int n :: .int dp :: .ref a :: .int sp :: .ref a0 :: rest)) := by
  subst hw
  exact va_copyi (ty := .int) hx hb hml hown (X.use hl rfl) (X.use h1 rfl) (X.use h2 rfl) (X.use h3 rfl) X.1 w.1 w.2.1 w.2.2 q0 q1 0 0 ha0 ha1 rfl rfl rfl c1 c2 c3 c4 c5 (fun _ _ => rfl) hframes hlocals hdg (fun H1 locs1 a b c => kk H1 locs1 ⟨a, b, c⟩)
theorem hm_same {E : hm_E} {cA cB : ClassId} {ty : FieldType} (hp : ty = .int ∨ ty = .byte ∨ ty = .boolean) (h1 : va_RA s cA ty) (h2 : va_RA s cB ty) : cA = cB := by
  rcases hp with rfl | rfl | rfl <;> exact Option.some.inj (h1.symm.trans h2)
theorem hm_newa {atype : ArrayType} {ty : FieldType} {cA0 : ClassId} {N : Nat} {n : Int32} (hx : p.tables.exec = Jvm.exec) (hb : c.code = cc) (X : hm_X E s) (hA : ∀ q, s.heap.size ≤ q → A q) (w : hm_W E A s.heap ws H locs) (hm : Cond.arrayClass (newarray.typeOf atype) ∈ lw_tbl) (hty : newarray.typeOf atype = ty) (hp : ty = .int ∨ ty = .byte ∨ ty = .boolean) (t0 : Nat) (ht : (hm_T E)[t0]? = some (cA0, ty)) (hdg : decode cc pc = .ok (.newarray atype, 2)) (hv : ∀ cA : ClassId, vp_cell cA (N, .inl (fun _ => (0 : Int32))) = arrV cA N (fun _ => defaultValue ty)) (hn : ¬ n < 0) (hN : n.toNatClampNeg = N) (hby : N * componentBytes ty ≤ 536870912) (hcells : cells + 1 ≤ rm.cells) (hslots : slots + N ≤ rm.slots)
    (kk : ∀ (q : Nat) (H : Heap), hm_W E A s.heap (ws ++ [(q, .inl (cA0, N, .inl (fun _ => (0 : Int32))))]) H locs → W p l e rm s m args below meth c H locs (cells + 1) (slots + N) Q (F0 m (pc + 2) ls (.ref q :: rest))) : W p l e rm s m args below meth c H locs cells slots Q (F0 m pc ls (.int n :: rest)) := by
  refine va_newa (a0 := (N, .inl (fun _ => (0 : Int32)))) hx hb (X.arr hm) hty X.1 w.1 w.2.1 w.2.2 hA hv hn hN hby hcells hslots hdg (fun q cA H1 hK hP hD hS => ?_)
  have e : cA = cA0 := hm_same (E := E) hp (hK.2 4 (cA, ty) rfl).2 (X.1.2 t0 _ ht).2
  subst e
  exact kk q H1 ⟨hP, hD, hS⟩
theorem hm_newq {own : String} {index N : Nat} {n : Int32} (hx : p.tables.exec = Jvm.exec) (hb : c.code = cc) (hown : s.vm.findClass own = some m.cls) (X : hm_X E s) (hA : ∀ q, s.heap.size ≤ q → A q) (w : hm_W E A s.heap ws H locs) (hl : Cond.classLink own index "HalvingMender$Converter" ∈ lw_tbl) (hdg : decode cc pc = .ok (.anewarray index, 3)) (hn : ¬ n < 0) (hN : n.toNatClampNeg = N) (hby : N * 4 ≤ 536870912) (hcells : cells + 1 ≤ rm.cells) (hslots : slots + N ≤ rm.slots)
    (kk : ∀ (q : Nat) (H : Heap), hm_W E A s.heap (ws ++ [(q, .inl (hm_R E, N, .inr (.inr (.inr (.inr (fun _ => none))))))]) H locs → W p l e rm s m args below meth c H locs (cells + 1) (slots + N) Q (F0 m (pc + 3) ls (.ref q :: rest))) : W p l e rm s m args below meth c H locs cells slots Q (F0 m pc ls (.int n :: rest)) := by
  refine va_newq hx hb hown (X.use hl rfl) X.2.2.2.2 X.1 w.1 w.2.1 w.2.2 hA hn hN hby hcells hslots hdg (fun q cA H1 hK hP hD hS => ?_)
  have e : cA = hm_R E := by
    obtain ⟨_, _, _, _, _, h1⟩ := (hK.2 4 (cA, .object "HalvingMender$Converter") rfl).2
    obtain ⟨_, _, _, _, _, h2⟩ := (X.1.2 3 _ rfl).2
    exact Option.some.inj (h1.symm.trans h2)
  subst e
  exact kk q H1 ⟨hP, hD, hS⟩
theorem hm_new {own C : String} {T : u_T} {N ci index : Nat} {ty : Nat → FieldType} (hC : hm_C ci C T N ty) (hx : p.tables.exec = Jvm.exec) (hb : c.code = cc) (hown : s.vm.findClass own = some m.cls) (X : hm_X E s) (hA : ∀ q, s.heap.size ≤ q → A q) (w : hm_W E A s.heap ws H locs) (hl : Cond.classLink own index C ∈ lw_tbl) (hi : Cond.instantiable C N ∈ lw_tbl) (hini : Cond.initialized C ∈ lw_tbl) (hdg : decode cc pc = .ok (.new index, 3)) {fs : List Value} (hfs : ∀ j, j < N → defaultValue (ty j) = vp_V fs j) (hcells : cells + 1 ≤ rm.cells) (hslots : slots + N ≤ rm.slots)
    (kk : ∀ (q : Nat) (H : Heap), hm_W E A s.heap (ws ++ [(q, .inr (ci, fs))]) H locs → W p l e rm s m args below meth c H locs (cells + 1) (slots + N) Q (F0 m (pc + 3) ls (.ref q :: rest))) : W p l e rm s m args below meth c H locs cells slots Q (F0 m pc ls rest) :=
  va_new (Ts := u_ws C T N) hx hb (fun w hw => X.use (hC.2.1 w hw).1 (hC.2.1 w hw).2) (fun _ h => h) ty hC.2.2.1 hown (X.use hl rfl) (X.use hi rfl) (X.use hini rfl) X.1 w.1 w.2.1 w.2.2 hA hC.1 hfs hcells hslots hdg (fun q H1 a b c => kk q H1 ⟨a, b, c⟩)
end HMR
