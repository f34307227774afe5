/-! THE LAW: its start. -/
def lw_a0 : Nat → Int32 := upd (upd (upd (fun _ => 0) 3 3) 5 1) 6 1
def lw_c0 : Nat → Int32 := fun i => if i = 7 then 3 else if i = 9 then 1 else if i = 10 then 1 else 0
theorem lw_i8 : pf_X8_init = some lw_a0 := by
  unfold pf_X8_init
  rw [show pf_X8_put 3 3 (fun _ => (0 : Int32)) 0 = some (upd (fun _ => (0 : Int32)) 3 3) from hp_put0 (a := 3) (by omega), hp_bv1, show pf_X8_put 5 1 (upd (fun _ => (0 : Int32)) 3 3) 0 = some (upd (upd (fun _ => (0 : Int32)) 3 3) 5 1) from hp_put0 (a := 5) (by omega), hp_bv1, show pf_X8_put 6 1 (upd (upd (fun _ => (0 : Int32)) 3 3) 5 1) 0 = some (upd (upd (upd (fun _ => (0 : Int32)) 3 3) 5 1) 6 1) from hp_put0 (a := 6) (by omega), hp_bv1]
  rfl
theorem lw_RK0 : lw_RK 0 lw_c0 (fun _ _ => 0) (fun _ => 0) (fun _ _ => 0) lw_a0 0 := by
  refine ⟨⟨rfl, rfl, by omega, Or.inl rfl, ⟨rfl, rfl, rfl, rfl, rfl, rfl, rfl, rfl⟩, fun i hi => by omega⟩, ⟨by decide, by decide, by decide, by decide, by decide, fun i hi => by omega⟩, ⟨0, by omega, rfl, rfl, fun i hi => by omega⟩, lw_SB0 rfl, ?_⟩
  exact ⟨0, fun _ => 0, by omega, rfl, rfl, ⟨rfl, fun k hk => by omega⟩, Or.inr rfl⟩
