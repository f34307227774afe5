/-! Calls: the callee's cells are cut out, its contract runs, what comes back is laid beside the rest, in the order that the caller wants. -/
theorem hm_fm {ws wc : va_W} {is : List Nat} (h : is.map (fun i => ws[i]?) = wc.map some) : is.filterMap (fun i => ws[i]?) = wc := by
  have e : is.filterMap (fun i => ws[i]?) = (is.map (fun i => ws[i]?)).filterMap id := by simp [List.filterMap_map]
  rw [e, h]; simp [List.filterMap_map]
theorem hm_pre {E : hm_E} {A : Nat → Prop} {s : State} {ws wc : va_W} {H : Heap} {locs : List Loc} (X : hm_X E s) (hA : ∀ q, s.heap.size ≤ q → A q) (Y : hm_Y E A s s.heap) (w : hm_W E A s.heap ws H locs) (isC : List Nat) (hC : isC.map (fun i => ws[i]?) = wc.map some) (hnC : va_nd isC = true) (av : List Value) :
    ∀ U : State, U.heap = H → s.WarmedH U.vm → hm_Pc E av wc H.size av.toArray U := by
  intro U hU hW
  have hF := va_free (wc := wc) w.2.1 w.2.2 hA isC hC
  have hD := w.2.1.sub isC hnC hC
  refine ⟨rfl, by rw [hU], by rw [hU]; exact w.1.sub isC (hm_fm hC), X.warm hW, hD.weaken (fun _ _ _ _ => trivial), ?_⟩
  rw [hU]
  exact ((Y.kept w.2.2.2.1).narrow hF).moved hW.alike
/-- a method's own words: its code, how it is chosen, its class -/
def hm_mv (y : MethodName) (bytes : ByteArray) (maxL : Nat) (ret : Option FieldType) (n : Nat) : Prop := Cond.code y bytes maxL ret ∈ lw_tbl ∧ Cond.instanceMethod y ∈ lw_tbl ∧ Cond.selects y.cls y y ∈ lw_tbl ∧ Cond.initialized y.cls ∈ lw_tbl ∧ (y.cls ≠ "java/lang/invoke/MethodHandle" ∧ y.cls ≠ "java/lang/invoke/VarHandle") ∧ (parseMethodDescriptor y.desc).map (fun d => d.parameters.length) = some n
def hm_ms (y : MethodName) (bytes : ByteArray) (maxL : Nat) (ret : Option FieldType) (n : Nat) : Prop := Cond.code y bytes maxL ret ∈ lw_tbl ∧ Cond.static y ∈ lw_tbl ∧ Cond.initialized y.cls ∈ lw_tbl ∧ (y.cls ≠ "java/lang/invoke/MethodHandle" ∧ y.cls ≠ "java/lang/invoke/VarHandle") ∧ (parseMethodDescriptor y.desc).map (fun d => d.parameters.length) = some n
def hm_mi (y : MethodName) (bytes : ByteArray) (maxL : Nat) (n : Nat) : Prop := Cond.code y bytes maxL none ∈ lw_tbl ∧ Cond.instanceMethod y ∈ lw_tbl ∧ Cond.initialized y.cls ∈ lw_tbl ∧ (y.cls ≠ "java/lang/invoke/MethodHandle" ∧ y.cls ≠ "java/lang/invoke/VarHandle") ∧ (parseMethodDescriptor y.desc).map (fun d => d.parameters.length) = some n ∧ y.name = "<init>"
def hm_ac (args : Array Value) (s : State) (ex : List Cond) : Prop := ∀ w ∈ ex, w.before args s = true ∧ ∃ ty, w = .arrayClass ty
theorem hm_ac0 {args : Array Value} {s : State} : hm_ac args s [] := fun w h => by cases h
theorem hm_cb {E : hm_E} {args : Array Value} {s : State} {ex : List Cond} {y : MethodName} {bytes : ByteArray} {maxL : Nat} {ret : Option FieldType} (X : hm_X E s) (hcode : Cond.code y bytes maxL ret ∈ lw_tbl) (hex : hm_ac args s ex) :
    ∀ w ∈ (Cond.code y bytes maxL ret :: ex), ∀ (a' : Array Value) (U : State), s.WarmedH U.vm → w.before a' U = true := by
  intro w hw a' U hW
  rcases List.mem_cons.mp hw with rfl | h
  · exact word_at hW (Or.inl rfl) (X.use hcode rfl (args := args))
  · exact word_at hW (Or.inr (hex w h).2) (hex w h).1
theorem hm_np {y : MethodName} {n : Nat} (h : (parseMethodDescriptor y.desc).map (fun d => d.parameters.length) = some n) : ∀ sig, parseMethodDescriptor y.desc = some sig → n = sig.parameters.length := by
  intro sig e
  rw [e] at h
  exact (Option.some.inj h).symm
def hm_pk (ws : va_W) (is : List Nat) : va_W := is.filterMap (fun i => ws[i]?)
def hm_ok (isC isR is : List Nat) : Bool := va_nd isR && va_nd is && isR.all (fun i => !(isC.any (fun j => i == j)))
theorem hm_ok_s {isC isR is : List Nat} (h : hm_ok isC isR is = true) : va_nd isR = true ∧ (∀ i ∈ isR, i ∉ isC) ∧ va_nd is = true := by
  unfold hm_ok at h
  simp only [Bool.and_eq_true] at h
  refine ⟨h.1.1, fun i hi hc => ?_, h.1.2⟩
  have h2 := List.all_eq_true.mp h.2 i hi
  simp at h2
  exact h2 i hc rfl
section HMC
variable {p : Program} {l : Launch} {e : Env} {rm : Room} {s : State} {m : MethodId} {args : Array Value} {below : List Frame} {meth : Method} {c : Code} {H : Heap} {locs : List Loc} {cells slots : Nat} {Q : State → Prop}
variable {cc : ByteArray} {pc : Nat} {ls : Array Slot} {rest st0 : List Value} {E : hm_E} {A : Nat → Prop} {ws : va_W}
variable {own C host : String} {T : u_T} {N ci index n mc ms maxL nL : Nat} {fs : List Value} {b : Nat} {y : MethodName} {bytes : ByteArray} {ret : Option FieldType} {ex : List Cond} {rm' : Room} {wc : va_W} {w' ws' : (Nat → Nat) → va_W} {o : Int32}
theorem hm_aft_i {a : Array Value} (hr : va_Run p l e rm s m args below meth c H locs cells slots mc ms (F0 m pc ls st0) rest (hm_Qi E wc H.size o w' a) (va_A wc H.size)) (hA : ∀ q, s.heap.size ≤ q → A q) (w : hm_W E A s.heap ws H locs) (isC isR is : List Nat) (hC : isC.map (fun i => ws[i]?) = wc.map some) (hR : isR.map (fun i => ws[i]?) = (hm_pk ws isR).map some) (hok : hm_ok isC isR is = true) (h4 : ∀ qs, is.map (fun i => (hm_pk ws isR ++ w' qs)[i]?) = (ws' qs).map some)
    (kk : ∀ (qs : Nat → Nat) (H : Heap) (locs : List Loc), hm_W E A s.heap (ws' qs) H locs → W p l e rm s m args below meth c H locs (cells + mc) (slots + ms) Q (F0 m (pc + 3) ls (.int o :: rest))) : W p l e rm s m args below meth c H locs cells slots Q (F0 m pc ls st0) := by
  obtain ⟨h1, h2, h3⟩ := hm_ok_s hok
  have hF := va_free (wc := wc) w.2.1 w.2.2 hA isC hC
  refine va_calli hr w.2.2 (fun q _ h => hF q h) hF (fun r qs t H1 locs1 ht hvm hpost hB hz hk hS => ?_)
  obtain ⟨hP1, hD1⟩ := hB
  rw [ht] at hP1
  obtain ⟨hP, hD⟩ := va_join w.1 w.2.1 isC isR hC hR h1 h2 hk hF hP1 hD1
  rw [hpost]
  exact kk qs H1 locs1 ⟨hP.sub is (hm_fm (h4 qs)), hD.sub is h3 (h4 qs), hS⟩
theorem hm_aft_v {a : Array Value} (hr : va_Run p l e rm s m args below meth c H locs cells slots mc ms (F0 m pc ls st0) rest (hm_Qv E wc H.size w' a) (va_A wc H.size)) (hA : ∀ q, s.heap.size ≤ q → A q) (w : hm_W E A s.heap ws H locs) (isC isR is : List Nat) (hC : isC.map (fun i => ws[i]?) = wc.map some) (hR : isR.map (fun i => ws[i]?) = (hm_pk ws isR).map some) (hok : hm_ok isC isR is = true) (h4 : ∀ qs, is.map (fun i => (hm_pk ws isR ++ w' qs)[i]?) = (ws' qs).map some)
    (kk : ∀ (qs : Nat → Nat) (H : Heap) (locs : List Loc), hm_W E A s.heap (ws' qs) H locs → W p l e rm s m args below meth c H locs (cells + mc) (slots + ms) Q (F0 m (pc + 3) ls rest)) : W p l e rm s m args below meth c H locs cells slots Q (F0 m pc ls st0) := by
  obtain ⟨h1, h2, h3⟩ := hm_ok_s hok
  have hF := va_free (wc := wc) w.2.1 w.2.2 hA isC hC
  refine va_callv hr w.2.2 (fun q _ h => hF q h) hF (fun qs t H1 locs1 ht hvm hpost hB hz hk hS => ?_)
  obtain ⟨hP1, hD1⟩ := hB
  rw [ht] at hP1
  obtain ⟨hP, hD⟩ := va_join w.1 w.2.1 isC isR hC hR h1 h2 hk hF hP1 hD1
  exact kk qs H1 locs1 ⟨hP.sub is (hm_fm (h4 qs)), hD.sub is h3 (h4 qs), hS⟩
/-- what a caller's frame must leave: frames, words, cells -/
def hm_rm (rm rm' : Room) (maxL cells slots mc ms : Nat) (rest : List Value) : Prop := (rm'.cells = mc ∧ rm'.slots = ms) ∧ (rm'.frames + 1 ≤ rm.frames ∧ 8 + (maxL + 11) + rm'.locals ≤ rm.locals) ∧ (cells + mc ≤ rm.cells ∧ slots + ms ≤ rm.slots) ∧ (rest.map fun v => v.category).sum ≤ 8
theorem hm_runV {Qc : Array Value → State → Outcome → State → Prop} (hx : p.tables.exec = Jvm.exec) (hb : c.code = cc) (hml : c.maxLocals = nL) (hown : s.vm.findClass own = some m.cls) (X : hm_X E s) (hA : ∀ q, s.heap.size ≤ q → A q) (Y : hm_Y E A s s.heap) (w : hm_W E A s.heap ws H locs) (qb : Nat) (hc : vwCl[ci]? = some (y.cls, T, N)) (he : ws[qb]? = some (b, .inr (ci, fs))) (mv : hm_mv y bytes maxL ret n) (hl : Cond.methodLink own index y ∈ lw_tbl) (hdg : decode cc pc = .ok (.invokevirtual index, 3)) (hex : hm_ac args s ex) (As : List Value) (hn : As.length = n) (isC : List Nat) (hC : isC.map (fun i => ws[i]?) = wc.map some) (hnC : va_nd isC = true)
    (hM : Met l y (Cond.code y bytes maxL ret :: ex) rm' (hm_Pc E (.ref b :: As) wc H.size) Qc mc ms (va_A wc H.size)) (hst : st0 = As.reverse ++ .ref b :: rest) (hsize : ls.size = nL) (hr : hm_rm rm rm' maxL cells slots mc ms rest) :
    va_Run p l e rm s m args below meth c H locs cells slots mc ms (F0 m pc ls st0) rest (Qc (Value.ref b :: As).toArray) (va_A wc H.size) := by
  obtain ⟨⟨r1, r2⟩, ⟨r3, r4⟩, r5, r6⟩ := hr
  obtain ⟨m1, m2, m3, m4, m5, m6⟩ := mv
  refine va_runV (C := y.cls) (Ts := []) (own := own) (nL := nL) (cc := cc) (n := n) (index := index) (As := As) ⟨hx, hb, hml, hown, fun w h => by cases h⟩ hM ⟨⟨r1, r2, r3, r4, hm_cb X m1 hex, List.mem_cons_self, X.use m1 rfl, X.use m4 rfl, m5, hm_np m6, X.use hl rfl⟩, X.use m2 rfl, X.use m3 rfl⟩ ⟨hm_Pc.blind, va_recv X.1 w.1 hc he, hm_pre X hA Y w isC hC hnC _⟩ rfl hn hsize hst (lv_room r6) hdg r5
theorem hm_runS {Qc : Array Value → State → Outcome → State → Prop} (hx : p.tables.exec = Jvm.exec) (hb : c.code = cc) (hml : c.maxLocals = nL) (hown : s.vm.findClass own = some m.cls) (X : hm_X E s) (hA : ∀ q, s.heap.size ≤ q → A q) (Y : hm_Y E A s s.heap) (w : hm_W E A s.heap ws H locs) (mv : hm_ms y bytes maxL ret n) (hl : Cond.methodLink own index y ∈ lw_tbl) (hdg : decode cc pc = .ok (.invokestatic index, 3)) (hex : hm_ac args s ex) (As : List Value) (hn : As.length = n) (isC : List Nat) (hC : isC.map (fun i => ws[i]?) = wc.map some) (hnC : va_nd isC = true)
    (hM : Met l y (Cond.code y bytes maxL ret :: ex) rm' (hm_Pc E As wc H.size) Qc mc ms (va_A wc H.size)) (hst : st0 = As.reverse ++ rest) (hsize : ls.size = nL) (hr : hm_rm rm rm' maxL cells slots mc ms rest) :
    va_Run p l e rm s m args below meth c H locs cells slots mc ms (F0 m pc ls st0) rest (Qc As.toArray) (va_A wc H.size) := by
  obtain ⟨⟨r1, r2⟩, ⟨r3, r4⟩, r5, r6⟩ := hr
  obtain ⟨m1, m2, m4, m5, m6⟩ := mv
  refine va_runS (Ts := []) (own := own) (nL := nL) (cc := cc) (n := n) (index := index) (As := As) ⟨hx, hb, hml, hown, fun w h => by cases h⟩ hM ⟨⟨r1, r2, r3, r4, hm_cb X m1 hex, List.mem_cons_self, X.use m1 rfl, X.use m4 rfl, m5, hm_np m6, X.use hl rfl⟩, X.use m2 rfl⟩ ⟨hm_Pc.blind, hm_pre X hA Y w isC hC hnC _⟩ rfl hn hsize hst (lv_room r6) hdg r5
theorem hm_runSN {Qc : Array Value → State → Outcome → State → Prop} (hx : p.tables.exec = Jvm.exec) (hb : c.code = cc) (hml : c.maxLocals = nL) (hown : s.vm.findClass own = some m.cls) (X : hm_X E s) (hA : ∀ q, s.heap.size ≤ q → A q) (Y : hm_Y E A s s.heap) (w : hm_W E A s.heap ws H locs) (mv : hm_ms y bytes maxL ret n) (hl : Cond.methodLinkNest own index y host ∈ lw_tbl) (hdg : decode cc pc = .ok (.invokestatic index, 3)) (hex : hm_ac args s ex) (As : List Value) (hn : As.length = n) (isC : List Nat) (hC : isC.map (fun i => ws[i]?) = wc.map some) (hnC : va_nd isC = true)
    (hM : Met l y (Cond.code y bytes maxL ret :: ex) rm' (hm_Pc E As wc H.size) Qc mc ms (va_A wc H.size)) (hst : st0 = As.reverse ++ rest) (hsize : ls.size = nL) (hr : hm_rm rm rm' maxL cells slots mc ms rest) :
    va_Run p l e rm s m args below meth c H locs cells slots mc ms (F0 m pc ls st0) rest (Qc As.toArray) (va_A wc H.size) := by
  obtain ⟨⟨r1, r2⟩, ⟨r3, r4⟩, r5, r6⟩ := hr
  obtain ⟨m1, m2, m4, m5, m6⟩ := mv
  refine va_runSN (host := host) (Ts := []) (own := own) (nL := nL) (cc := cc) (n := n) (index := index) (As := As) ⟨hx, hb, hml, hown, fun w h => by cases h⟩ hM ⟨⟨⟨r1, r2, r3, r4, hm_cb X m1 hex, List.mem_cons_self⟩, X.use m1 rfl, X.use m4 rfl, m5, hm_np m6, va_Nw.use rfl (X.2.2.1 own index y host hl)⟩, X.use m2 rfl, trivial⟩ ⟨hm_Pc.blind, hm_pre X hA Y w isC hC hnC _⟩ rfl hn hsize hst (lv_room r6) hdg r5
theorem hm_runIN {Qc : Array Value → State → Outcome → State → Prop} (hx : p.tables.exec = Jvm.exec) (hb : c.code = cc) (hml : c.maxLocals = nL) (hown : s.vm.findClass own = some m.cls) (X : hm_X E s) (hA : ∀ q, s.heap.size ≤ q → A q) (Y : hm_Y E A s s.heap) (w : hm_W E A s.heap ws H locs) (mv : hm_mi y bytes maxL n) (hl : Cond.methodLinkNest own index y host ∈ lw_tbl) (hdg : decode cc pc = .ok (.invokespecial index, 3)) (hex : hm_ac args s ex) (As : List Value) (hn : As.length = n) (isC : List Nat) (hC : isC.map (fun i => ws[i]?) = wc.map some) (hnC : va_nd isC = true)
    (hM : Met l y (Cond.code y bytes maxL none :: ex) rm' (hm_Pc E (.ref b :: As) wc H.size) Qc mc ms (va_A wc H.size)) (hst : st0 = As.reverse ++ .ref b :: rest) (hsize : ls.size = nL) (hr : hm_rm rm rm' maxL cells slots mc ms rest) :
    va_Run p l e rm s m args below meth c H locs cells slots mc ms (F0 m pc ls st0) rest (Qc (Value.ref b :: As).toArray) (va_A wc H.size) := by
  obtain ⟨⟨r1, r2⟩, ⟨r3, r4⟩, r5, r6⟩ := hr
  obtain ⟨m1, m2, m4, m5, m6, m7⟩ := mv
  refine va_runIN (host := host) (Ts := []) (own := own) (nL := nL) (cc := cc) (n := n) (index := index) (As := As) ⟨hx, hb, hml, hown, fun w h => by cases h⟩ hM ⟨⟨⟨r1, r2, r3, r4, hm_cb X m1 hex, List.mem_cons_self⟩, X.use m1 rfl, X.use m4 rfl, m5, hm_np m6, va_Nw.use rfl (X.2.2.1 own index y host hl)⟩, m7, X.use m2 rfl⟩ ⟨hm_Pc.blind, hm_pre X hA Y w isC hC hnC _⟩ rfl hn hsize hst (lv_room r6) hdg r5
theorem hm_runI {Qc : Array Value → State → Outcome → State → Prop} (hx : p.tables.exec = Jvm.exec) (hb : c.code = cc) (hml : c.maxLocals = nL) (hown : s.vm.findClass own = some m.cls) (X : hm_X E s) (hA : ∀ q, s.heap.size ≤ q → A q) (Y : hm_Y E A s s.heap) (w : hm_W E A s.heap ws H locs) (mv : hm_mi y bytes maxL n) (hl : Cond.methodLink own index y ∈ lw_tbl) (hdg : decode cc pc = .ok (.invokespecial index, 3)) (hex : hm_ac args s ex) (As : List Value) (hn : As.length = n) (isC : List Nat) (hC : isC.map (fun i => ws[i]?) = wc.map some) (hnC : va_nd isC = true)
    (hM : Met l y (Cond.code y bytes maxL none :: ex) rm' (hm_Pc E (.ref b :: As) wc H.size) Qc mc ms (va_A wc H.size)) (hst : st0 = As.reverse ++ .ref b :: rest) (hsize : ls.size = nL) (hr : hm_rm rm rm' maxL cells slots mc ms rest) :
    va_Run p l e rm s m args below meth c H locs cells slots mc ms (F0 m pc ls st0) rest (Qc (Value.ref b :: As).toArray) (va_A wc H.size) := by
  obtain ⟨⟨r1, r2⟩, ⟨r3, r4⟩, r5, r6⟩ := hr
  obtain ⟨m1, m2, m4, m5, m6, m7⟩ := mv
  refine va_runI (Ts := []) (own := own) (nL := nL) (cc := cc) (n := n) (index := index) (As := As) ⟨hx, hb, hml, hown, fun w h => by cases h⟩ hM ⟨⟨r1, r2, r3, r4, hm_cb X m1 hex, List.mem_cons_self, X.use m1 rfl, X.use m4 rfl, m5, hm_np m6, X.use hl rfl⟩, m7, X.use m2 rfl⟩ ⟨hm_Pc.blind, hm_pre X hA Y w isC hC hnC _⟩ rfl hn hsize hst (lv_room r6) hdg r5
end HMC
abbrev hm_rr (f l c s : Nat) : Room := { frames := f, cells := c, slots := s, locals := l }
abbrev hm_Mi (l : Launch) (E : hm_E) (y : MethodName) (bytes : ByteArray) (maxL : Nat) (fty : FieldType) (ex : List Cond) (rm : Room) (av : List Value) (sz : Nat) (wc : va_W) (o : Int32) (w' : (Nat → Nat) → va_W) : Prop := Met l y (Cond.code y bytes maxL (some fty) :: ex) rm (hm_Pc E av wc sz) (hm_Qi E wc sz o w') rm.cells rm.slots (va_A wc sz)
abbrev hm_Mv (l : Launch) (E : hm_E) (y : MethodName) (bytes : ByteArray) (maxL : Nat) (ex : List Cond) (rm : Room) (av : List Value) (sz : Nat) (wc : va_W) (w' : (Nat → Nat) → va_W) : Prop := Met l y (Cond.code y bytes maxL none :: ex) rm (hm_Pc E av wc sz) (hm_Qv E wc sz w') rm.cells rm.slots (va_A wc sz)
abbrev ic (E : hm_E) (a n : Nat) (f : Nat → Int32) : Nat × va_E := (a, .inl (hm_I E, n, .inl f))
abbrev bc (E : hm_E) (a n : Nat) (f : Nat → Int32) : Nat × va_E := (a, .inl (hm_B E, n, .inl f))
abbrev zc (E : hm_E) (a n : Nat) (f : Nat → Int32) : Nat × va_E := (a, .inl (hm_Z E, n, .inl f))
abbrev qc (E : hm_E) (a n : Nat) (f : Nat → Option Nat) : Nat × va_E := (a, .inl (hm_R E, n, .inr (.inr (.inr (.inr f)))))
