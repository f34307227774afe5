/-! THE LAW: now's drift is taken out of the pool, and laid back. -/
theorem lw_take {E : hm_E} {X Y : va_W} {kp : Nat → Option Nat} {RK : Nat → Nat → Nat} {dK : Nat → Nat} {kc : Nat → Nat → Int32} {kA : Nat → Nat → Nat → Int32} {LD : List Nat} {rD : Nat → Nat → Nat} {vD : Nat → Nat → Int32} {DD : Nat → Nat → Nat → Int32} {dn : Nat} (h : dn ∈ LD) :
    (X ++ (Y ++ lw_pl E kp RK dK kc kA LD rD vD DD)).Perm ((X ++ lw_XD E dn (rD dn) (vD dn) (DD dn)) ++ (Y ++ lw_pl E kp RK dK kc kA (LD.erase dn) rD vD DD)) := by
  have h1 : (LD.flatMap (fun a => lw_XD E a (rD a) (vD a) (DD a))).Perm (lw_XD E dn (rD dn) (vD dn) (DD dn) ++ (LD.erase dn).flatMap (fun a => lw_XD E a (rD a) (vD a) (DD a))) := (List.perm_cons_erase h).flatMap_right _
  unfold lw_pl
  generalize (lw_K E (kp 0) (RK 0) (dK 0) (kc 0) (kA 0) ++ (lw_K E (kp 1) (RK 1) (dK 1) (kc 1) (kA 1) ++ lw_K E (kp 2) (RK 2) (dK 2) (kc 2) (kA 2))) = K
  rw [List.append_assoc X]
  refine List.Perm.append_left X ?_
  refine List.Perm.trans (List.Perm.append_left Y ((List.Perm.append_left _ h1).trans (List.perm_append_comm_assoc _ _ _))) ?_
  exact List.perm_append_comm_assoc _ _ _
theorem lw_LDn {E : hm_E} {rD : Nat → Nat → Nat} {vD : Nat → Nat → Int32} {DD : Nat → Nat → Nat → Int32} : ∀ LD : List Nat, ((LD.flatMap (fun a => lw_XD E a (rD a) (vD a) (DD a))).map (fun q => q.1)).Nodup → LD.Nodup := by
  intro LD
  induction LD with
  | nil => intro _; exact List.nodup_nil
  | cons a L ih =>
    intro h
    rw [List.flatMap_cons, List.map_append, List.nodup_append] at h
    obtain ⟨-, h2, h3⟩ := h
    rw [List.nodup_cons]
    refine ⟨fun hm => ?_, ih h2⟩
    refine h3 a (List.mem_cons_self) a ?_ rfl
    rw [List.mem_map]
    exact ⟨oc3 a (rD a) (vD a 0) (vD a 1) (vD a 2), List.mem_flatMap.mpr ⟨a, hm, List.mem_cons_self⟩, rfl⟩
theorem lw_LDnd {E : hm_E} {ws X Y : va_W} {kp : Nat → Option Nat} {RK : Nat → Nat → Nat} {dK : Nat → Nat} {kc : Nat → Nat → Int32} {kA : Nat → Nat → Nat → Int32} {LD : List Nat} {rD : Nat → Nat → Nat} {vD : Nat → Nat → Int32} {DD : Nat → Nat → Nat → Int32} (hp : ws.Perm (X ++ (Y ++ lw_pl E kp RK dK kc kA LD rD vD DD))) (hnd : (ws.map (fun q => q.1)).Nodup) : LD.Nodup := by
  have h1 := (hp.map (fun q => q.1)).nodup_iff.mp hnd
  unfold lw_pl at h1
  rw [List.map_append, List.nodup_append] at h1
  have h2 := h1.2.1
  rw [List.map_append, List.nodup_append] at h2
  have h3 := h2.2.1
  rw [List.map_append, List.nodup_append] at h3
  exact lw_LDn LD h3.2.1
/-- a drift given anew -/
def lw_ud {α : Type} (g : Nat → α) (dn : Nat) (v : α) : Nat → α := fun a => if a = dn then v else g a
theorem lw_lay {E : hm_E} {X Y : va_W} {kp : Nat → Option Nat} {RK : Nat → Nat → Nat} {dK : Nat → Nat} {kc : Nat → Nat → Int32} {kA : Nat → Nat → Nat → Int32} {LD : List Nat} {rD : Nat → Nat → Nat} {vD : Nat → Nat → Int32} {DD : Nat → Nat → Nat → Int32} {dn : Nat} (h : dn ∈ LD) (hn : LD.Nodup) (v : Nat → Int32) (D : Nat → Nat → Int32) :
    ((X ++ lw_XD E dn (rD dn) v D) ++ (Y ++ lw_pl E kp RK dK kc kA (LD.erase dn) rD vD DD)).Perm (X ++ (Y ++ lw_pl E kp RK dK kc kA LD rD (lw_ud vD dn v) (lw_ud DD dn D))) := by
  have e1 : lw_ud vD dn v dn = v := if_pos rfl
  have e2 : lw_ud DD dn D dn = D := if_pos rfl
  have e3 : lw_pl E kp RK dK kc kA (LD.erase dn) rD vD DD = lw_pl E kp RK dK kc kA (LD.erase dn) rD (lw_ud vD dn v) (lw_ud DD dn D) := by
    unfold lw_pl
    congr 1
    rw [List.flatMap, List.flatMap]
    congr 1
    refine List.map_congr_left (fun a ha => ?_)
    have hne : ¬ a = dn := fun e => by
      subst e
      exact (List.Nodup.not_mem_erase hn) ha
    show _ = lw_XD E a (rD a) (lw_ud vD dn v a) (lw_ud DD dn D a)
    rw [show lw_ud vD dn v a = vD a from if_neg hne, show lw_ud DD dn D a = DD a from if_neg hne]
  have := (lw_take (E := E) (X := X) (Y := Y) (kp := kp) (RK := RK) (dK := dK) (kc := kc) (kA := kA) (rD := rD) (vD := lw_ud vD dn v) (DD := lw_ud DD dn D) h).symm
  rw [e1, e2] at this
  rw [e3]
  exact this
theorem lw_Krd {o : Option Nat} {kk : Int32} {d dn : Nat} {c : Nat → Int32} {A : Nat → Nat → Int32} {LD : List Nat} {vD : Nat → Nat → Int32} {DD : Nat → Nat → Nat → Int32} {all : Nat → Int32} {B : Nat} {v : Nat → Int32} {D : Nat → Nat → Int32} (e0 : v 0 = vD dn 0) (e1 : D 0 = DD dn 0) (e2 : D 1 = DD dn 1) (h : lw_Kr o kk d c A LD vD DD all B) : lw_Kr o kk d c A LD (lw_ud vD dn v) (lw_ud DD dn D) all B := by
  rcases h with h | ⟨h1, h2, h3, b, h4⟩
  · exact Or.inl h
  · refine Or.inr ⟨h1, h2, h3, b, ?_⟩
    by_cases e : d = dn
    · subst e
      rw [show lw_ud vD d v d = v from if_pos rfl, show lw_ud DD d D d = D from if_pos rfl]
      obtain ⟨g1, g2, g3, g4, g5⟩ := h4
      refine ⟨g1, g2, g3, g4, ?_⟩
      rw [e0, e1, e2]
      exact g5
    · rw [show lw_ud vD dn v d = vD d from if_neg e, show lw_ud DD dn D d = DD d from if_neg e]
      exact h4
theorem lw_uds {α : Type} {g : Nat → α} {dn : Nat} {v : α} : lw_ud g dn v dn = v := if_pos rfl
theorem lw_TP0 {bytes tape : Nat → Int32} : hp_TP bytes tape 0 0 := ⟨0, by omega, rfl, rfl, fun i hi => by omega⟩
theorem lw_newq {E : hm_E} {w Y wr : va_W} {kp : Nat → Option Nat} {RK : Nat → Nat → Nat} {dK : Nat → Nat} {kc : Nat → Nat → Int32} {kA : Nat → Nat → Nat → Int32} {LD : List Nat} {rD : Nat → Nat → Nat} {vD : Nat → Nat → Int32} {DD : Nat → Nat → Nat → Int32} (hnd : ((w ++ (wr ++ (Y ++ lw_pl E kp RK dK kc kA LD rD vD DD))).map (fun q => q.1)).Nodup) {q : Nat} (hq : q ∈ w.map (fun q => q.1)) : q ∉ LD := by
  intro hm
  rw [List.map_append, List.nodup_append] at hnd
  refine hnd.2.2 q hq q ?_ rfl
  rw [List.mem_map]
  refine ⟨oc3 q (rD q) (vD q 0) (vD q 1) (vD q 2), ?_, rfl⟩
  refine List.mem_append_right _ (List.mem_append_right _ ?_)
  unfold lw_pl
  exact List.mem_append_right _ (List.mem_flatMap.mpr ⟨q, hm, List.mem_cons_self⟩)
theorem lw_new {E : hm_E} {X Y w1 w2 w8 : va_W} {n : Nat} {kp : Nat → Option Nat} {RK : Nat → Nat → Nat} {dK : Nat → Nat} {kc : Nat → Nat → Int32} {kA : Nat → Nat → Nat → Int32} {LD : List Nat} {rD : Nat → Nat → Nat} {vD : Nat → Nat → Int32} {DD : Nat → Nat → Nat → Int32} (q : Nat) (r : Nat → Nat) (v : Nat → Int32) (D : Nat → Nat → Int32) (hq : q ∉ LD) (hn : X.length = n) (isC isR : List Nat) (hk : (List.range n).isPerm (isC ++ isR) = true) (e1 : hm_pk X isC = w1) (e2 : hm_pk X isR = w2) (e8 : w8 = w1 ++ lw_XD E q r v D) :
    (w8 ++ (w2 ++ (Y ++ lw_pl E kp RK dK kc kA LD rD vD DD))).Perm (Y ++ (X ++ lw_pl E kp RK dK kc kA (q :: LD) (lw_ud rD q r) (lw_ud vD q v) (lw_ud DD q D))) := by
  subst e8
  have e3 : LD.flatMap (fun a => lw_XD E a (lw_ud rD q r a) (lw_ud vD q v a) (lw_ud DD q D a)) = LD.flatMap (fun a => lw_XD E a (rD a) (vD a) (DD a)) := by
    rw [List.flatMap, List.flatMap]
    congr 1
    refine List.map_congr_left (fun a ha => ?_)
    have hne : ¬ a = q := fun e => hq (e ▸ ha)
    rw [show lw_ud rD q r a = rD a from if_neg hne, show lw_ud vD q v a = vD a from if_neg hne, show lw_ud DD q D a = DD a from if_neg hne]
  unfold lw_pl
  generalize (lw_K E (kp 0) (RK 0) (dK 0) (kc 0) (kA 0) ++ (lw_K E (kp 1) (RK 1) (dK 1) (kc 1) (kA 1) ++ lw_K E (kp 2) (RK 2) (dK 2) (kc 2) (kA 2))) = K
  rw [List.flatMap_cons, e3, lw_uds, lw_uds, lw_uds]
  generalize LD.flatMap (fun a => lw_XD E a (rD a) (vD a) (DD a)) = M
  generalize lw_XD E q r v D = N
  rw [List.append_assoc w1]
  refine List.Perm.trans (List.Perm.append_left w1 ?_) (lw_backP (Z := Y) (rest := K ++ (N ++ M)) hn isC isR hk e1 e2)
  refine (List.perm_append_comm_assoc _ _ _).trans (List.Perm.append_left w2 ?_)
  refine (List.perm_append_comm_assoc _ _ _).trans (List.Perm.append_left Y ?_)
  exact List.perm_append_comm_assoc _ _ _
theorem lw_Krn {o : Option Nat} {kk : Int32} {d q : Nat} {c : Nat → Int32} {A : Nat → Nat → Int32} {LD : List Nat} {vD : Nat → Nat → Int32} {DD : Nat → Nat → Nat → Int32} {all : Nat → Int32} {B : Nat} {v : Nat → Int32} {D : Nat → Nat → Int32} (hq : q ∉ LD) (h : lw_Kr o kk d c A LD vD DD all B) : lw_Kr o kk d c A (q :: LD) (lw_ud vD q v) (lw_ud DD q D) all B := by
  rcases h with h | ⟨h1, h2, h3, b, h4⟩
  · exact Or.inl h
  · have e : ¬ d = q := fun e => hq (e ▸ h3)
    refine Or.inr ⟨h1, h2, List.mem_cons_of_mem _ h3, b, ?_⟩
    rw [show lw_ud vD q v d = vD d from if_neg e, show lw_ud DD q D d = DD d from if_neg e]
    exact h4
def lw_v3 (a b c : Int32) : Nat → Int32 := fun i => if i = 0 then a else if i = 1 then b else c
def lw_D3 (a b c : Nat → Int32) : Nat → Nat → Int32 := fun i => if i = 0 then a else if i = 1 then b else c
