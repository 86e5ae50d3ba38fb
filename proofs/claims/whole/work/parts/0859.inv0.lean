/-! ===== the start ===== -/
def S0 : SP := fun k _ => if k = 8 then 7 else 0
theorem S0_vs (p : Nat) : s_vs S0 p = [] := rfl
theorem S0_heir : ∀ p, p < 6 → s_heir S0 p = p := fun p _ => s_walk_fix (S := S0) rfl 6
theorem setB_f (n : Nat) {f : Nat → Bool} (h : ∀ i, i < n → f i = false) : setB n f = 0 := by
  apply Nat.eq_of_testBit_eq
  intro i
  rw [setB_bit, Nat.zero_testBit]
  by_cases hi : i < n
  · rw [h i hi, Bool.and_false]
  · rw [decide_eq_false hi, Bool.false_and]
theorem S0_WF : WF S0 := by
  refine ⟨⟨by decide, fun v hv => ?_, fun v hv => ⟨Nat.zero_le 1, Nat.le_refl 7, Nat.zero_le 5⟩, fun v _ _ => ⟨rfl, rfl, rfl⟩, fun i _ => Nat.zero_le 7, fun i _ _ => rfl, fun p _ => Nat.zero_le 4, fun v w hv => ?_⟩, ⟨by decide, fun r hr => ?_, fun r v hr => ?_⟩, fun v k hv => ?_, ⟨by decide, fun d hd => ?_⟩, by decide, fun i hi => ?_, fun p hp => ⟨Nat.zero_le 6, rfl⟩, fun p hp => ⟨Nat.zero_le _, fun h => absurd rfl h⟩, by decide, by decide, by decide, fun p hp => Nat.zero_le _⟩
  · exact absurd hv (Nat.not_lt_zero v)
  · exact absurd hv (Nat.not_lt_zero v)
  · exact absurd hr (Nat.not_lt_zero r)
  · exact absurd hr (Nat.not_lt_zero r)
  · exact absurd hv (Nat.not_lt_zero v)
  · exact absurd hd (Nat.not_lt_zero d)
  · exact absurd hi (Nat.not_lt_zero i)
theorem ff {f : Nat → Int32} {v : Int32} {N j : Nat} (h : j < N) : fillF f v N j = v := by
  unfold fillF
  rw [if_pos h]
theorem up6 {f : Nat → Int32} {x0 x1 x2 x3 x4 x5 : Int32} : ∀ j, j < 6 → upd (upd (upd (upd (upd (upd f 0 x0) 1 x1) 2 x2) 3 x3) 4 x4) 5 x5 j = if j = 0 then x0 else if j = 1 then x1 else if j = 2 then x2 else if j = 3 then x3 else if j = 4 then x4 else x5 := fun j hj => by
  rcases (show j = 0 ∨ j = 1 ∨ j = 2 ∨ j = 3 ∨ j = 4 ∨ j = 5 by omega) with rfl | rfl | rfl | rfl | rfl | rfl <;> rfl
theorem z_10 (j : Nat) (h : j < 24) : σ0 10 j = 7 := by
  show fillF (fun _ => 0) 7 24 j = 7
  exact ff h
theorem z_12 (j : Nat) (h : j < 72) : σ0 12 j = 0 := by
  show fillF (fun _ => 0) 0 72 j = 0
  exact ff h
theorem z_14 (j : Nat) (h : j < 24) : σ0 14 j = -1 := by
  show fillF (fun _ => 0) (-1) 24 j = -1
  exact ff h
theorem z_16 (j : Nat) (h : j < 6) : σ0 16 j = 0 := by
  show fillF (fun _ => 0) 0 6 j = 0
  exact ff h
theorem z_19 (j : Nat) (h : j < 30) : σ0 19 j = 3 := by
  show fillF (fun _ => 0) 3 30 j = 3
  exact ff h
theorem z_27 (j : Nat) (h : j < 30) : σ0 27 j = -1 := by
  show fillF (fun _ => 0) (-1) 30 j = -1
  exact ff h
theorem z_29 (j : Nat) (h : j < 30) : σ0 29 j = -1 := by
  show fillF (fun _ => 0) (-1) 30 j = -1
  exact ff h
theorem z_31 (j : Nat) (h : j < 30) : σ0 31 j = 0 := by
  show fillF (fun _ => 0) 0 30 j = 0
  exact ff h
theorem z_46 (j : Nat) (h : j < 24) : σ0 46 j = 0 := by
  show fillF (fun _ => 0) 0 24 j = 0
  exact ff h
theorem z_57 (j : Nat) (h : j < 6) : σ0 57 j = -1 := by
  show fillF (fun _ => 0) (-1) 6 j = -1
  exact ff h
theorem z_63 (j : Nat) (h : j < 6) : σ0 63 j = -1 := by
  show fillF (fun _ => 0) (-1) 6 j = -1
  exact ff h
theorem z_65 (j : Nat) (h : j < 6) : σ0 65 j = nI j := by
  show upd (upd (upd (upd (upd (upd (fillF (fun _ => 0) (-1) 6) 0 0) 1 1) 2 2) 3 3) 4 4) 5 5 j = nI j
  rcases (show j = 0 ∨ j = 1 ∨ j = 2 ∨ j = 3 ∨ j = 4 ∨ j = 5 by omega) with rfl | rfl | rfl | rfl | rfl | rfl <;> rfl
theorem z_91 (j : Nat) (h : j < 6) : σ0 91 j = -1 := by
  show fillF (fun _ => 0) (-1) 6 j = -1
  exact ff h
theorem z_102 (j : Nat) (h : j < 6) : σ0 102 j = -1 := by
  show upd (upd (upd (upd (upd (upd (fun _ => 0) 0 (-1)) 1 (-1)) 2 (-1)) 3 (-1)) 4 (-1)) 5 (-1) j = -1
  rcases (show j = 0 ∨ j = 1 ∨ j = 2 ∨ j = 3 ∨ j = 4 ∨ j = 5 by omega) with rfl | rfl | rfl | rfl | rfl | rfl <;> rfl
theorem z_103 (j : Nat) (h : j < 6) : σ0 103 j = -1 := z_102 j h
theorem z_104 (j : Nat) (h : j < 6) : σ0 104 j = -1 := z_102 j h
theorem S0_RC : RC S0 σ0 := by
  refine ⟨⟨rfl, fun v hv => ?_, fun v hv => ?_, fun v hv => ?_, fun v hv => z_10 v hv, fun i hi => z_12 i hi, fun p hp => z_16 p hp, fun p i hp hi => ?_, ?_, ?_, ?_⟩, ⟨rfl, fun r hr => ?_, fun r _ h3 => ⟨z_31 r h3, z_19 r h3, z_27 r h3, z_29 r h3⟩, fun r hr => ?_, fun r hr => ?_⟩, ⟨fun v hv => z_46 v hv, fun v k hv => ?_⟩, ⟨rfl, fun d hd => ?_⟩, rfl, fun i hi => ?_, fun p hp => ⟨z_63 p hp, ?_, z_57 p hp⟩, rfl, rfl, rfl, fun p hp => z_91 p hp⟩
  · exact absurd hv (Nat.not_lt_zero v)
  · exact absurd hv (Nat.not_lt_zero v)
  · exact absurd hv (Nat.not_lt_zero v)
  · exact z_14 _ (by omega)
  · have h := setB_f 24 (f := fun v => s_ynk S0 v == 1) (fun i _ => rfl)
    rw [h]
    rfl
  · rfl
  · have h := setB_f 6 (f := s_first S0) (fun i _ => rfl)
    rw [h]
    rfl
  · exact absurd hr (Nat.not_lt_zero r)
  · exact absurd hr (Nat.not_lt_zero r)
  · exact absurd hr (Nat.not_lt_zero r)
  · exact absurd hv (Nat.not_lt_zero v)
  · exact absurd hd (Nat.not_lt_zero d)
  · exact absurd hi (Nat.not_lt_zero i)
  · rw [S0_heir p hp]
    exact z_65 p hp
theorem S0_RM : RM S0 σ0 := by
  refine ⟨⟨rfl, fun v hv => ?_, fun v hv => ⟨rfl, rfl⟩, fun i hi => rfl⟩, ⟨rfl, fun r hr => ?_, fun r v hr => ?_⟩, fun v k hv => ?_, ⟨rfl, fun d hd => ?_⟩, rfl, fun i hi => ?_, fun p hp => ⟨z_102 p hp, z_103 p hp, z_104 p hp⟩, rfl, rfl, rfl⟩
  · exact absurd hv (Nat.not_lt_zero v)
  · exact absurd hr (Nat.not_lt_zero r)
  · exact absurd hr (Nat.not_lt_zero r)
  · exact absurd hv (Nat.not_lt_zero v)
  · exact absurd hd (Nat.not_lt_zero d)
  · exact absurd hi (Nat.not_lt_zero i)
theorem inv0 : Inv σ0 := ⟨S0, S0_WF, S0_RC, S0_RM, ⟨fun p _ h => absurd rfl h, fun p _ => ⟨1, by decide, rfl⟩⟩, Or.inl rfl⟩
theorem all_ops : OPS Inv := ⟨op_publish, op_compare, op_yank, op_setPlatforms, op_bring, op_range, op_join, op_has, op_need, op_demand, op_advise, op_mending, op_replace, op_setPlatform, op_solve, op_chosen, op_chosenAnew, op_features, op_solutions, op_why, op_against, op_lock, op_unlock, op_install, op_spoil, op_onDisk, op_pending⟩
