/-! ===== the start: the tables' facts, the objects, the loop, the end ===== -/
theorem u_all : ∀ q ∈ vwCl, (∀ w ∈ u_ws q.1 q.2.1 q.2.2, w ∈ BIG) ∧ Cond.instantiable q.1 q.2.2 ∈ BIG := fun q hq => by
  simp only [vwCl, List.mem_cons, List.not_mem_nil, or_false] at hq
  rcases hq with rfl | rfl | rfl | rfl | rfl | rfl | rfl | rfl | rfl | rfl | rfl | rfl
  · exact ⟨bgc_0, bg 356 (by decide +kernel) rfl⟩
  · exact ⟨bgc_1, bg 303 (by decide +kernel) rfl⟩
  · exact ⟨bgc_2, bg 192 (by decide +kernel) rfl⟩
  · exact ⟨bgc_3, bg 380 (by decide +kernel) rfl⟩
  · exact ⟨bgc_4, bg 155 (by decide +kernel) rfl⟩
  · exact ⟨bgc_5, bg 277 (by decide +kernel) rfl⟩
  · exact ⟨bgc_6, bg 120 (by decide +kernel) rfl⟩
  · exact ⟨bgc_7, bg 57 (by decide +kernel) rfl⟩
  · exact ⟨bgc_8, bg 295 (by decide +kernel) rfl⟩
  · exact ⟨bgc_9, bg 51 (by decide +kernel) rfl⟩
  · exact ⟨bgc_10, bg 45 (by decide +kernel) rfl⟩
  · exact ⟨bgc_11, bg 37 (by decide +kernel) rfl⟩
theorem st_arr {args : Array Value} {s : State} {ty : FieldType} (hty : ∀ C, ty ≠ .object C) (h : (Cond.arrayClass ty).before args s = true) : ∃ cA : ClassId, ArrOfT s cA ty ∧ va_RA s cA ty := by
  obtain ⟨cA, kA, comp, h1, h2, h3⟩ := Cond.arrayClass_spec h
  refine ⟨cA, fun n z => ⟨fun k h => (by cases h), kA, h2, comp, h3⟩, ?_⟩
  cases ty <;> first | exact h1 | exact absurd rfl (hty _)
theorem st_known {args : Array Value} {s : State} (hts : ∀ w ∈ BIG, w.before args s = true) : ∃ D : va_G, ∀ (c : Nat) (q : vw_C), vwCl[c]? = some q → u_Kn s q.1 q.2.1 q.2.2 (D.1 c) (D.2 c) := by
  have h : ∀ c : Nat, ∃ z : ClassId × (Nat → Nat), ∀ q : vw_C, vwCl[c]? = some q → u_Kn s q.1 q.2.1 q.2.2 z.1 z.2 := by
    intro c
    cases hc : vwCl[c]? with
    | none => exact ⟨(0, fun _ => 0), fun q hq => by cases hq⟩
    | some q =>
      obtain ⟨h1, h2⟩ := u_all q (List.mem_of_getElem? hc)
      obtain ⟨cC, iS, hk⟩ := u_known hts h1 (hts _ h2)
      exact ⟨(cC, iS), fun q' hq' => by cases hq'; exact hk⟩
  exact ⟨(fun c => (Classical.choose (h c)).1, fun c => (Classical.choose (h c)).2), fun c q hq => Classical.choose_spec (h c) q hq⟩

def W1L : List GE := [.inl (11, [.ref 1, .ref 66, .ref 67, .ref 81, .ref 89]), .inl (10, [.ref 2, .ref 17, .ref 32, .ref 47, .ref 56, .ref 58, .ref 60, .ref 62, .ref 64, .int 0, .int 0]), .inl (9, [.ref 3, .ref 5, .ref 7, .ref 9, .ref 11, .ref 13, .ref 15, .int 0, .int 0, .int 0, .int 0]), .inl (7, [.ref 4]), .inr (0, 24, fillF (fun _ => 0) (-1) 24), .inl (7, [.ref 6]), .inr (0, 24, fillF (fun _ => 0) (-1) 24), .inl (7, [.ref 8]), .inr (0, 24, fillF (fun _ => 0) (-1) 24), .inl (7, [.ref 10]), .inr (0, 24, fillF (fun _ => 0) 7 24), .inl (7, [.ref 12]), .inr (0, 72, fillF (fun _ => 0) 0 72), .inl (7, [.ref 14]), .inr (0, 24, fillF (fun _ => 0) (-1) 24), .inl (7, [.ref 16]), .inr (0, 6, fillF (fun _ => 0) 0 6), .inl (6, [.ref 18, .ref 20, .ref 22, .ref 24, .ref 26, .ref 28, .ref 30, .int 0]), .inl (7, [.ref 19]), .inr (0, 30, fillF (fun _ => 0) 3 30), .inl (7, [.ref 21]), .inr (0, 30, fillF (fun _ => 0) 0 30), .inl (7, [.ref 23]), .inr (0, 30, fillF (fun _ => 0) 0 30), .inl (7, [.ref 25]), .inr (0, 30, fillF (fun _ => 0) (-1) 30), .inl (7, [.ref 27]), .inr (0, 30, fillF (fun _ => 0) (-1) 30), .inl (7, [.ref 29]), .inr (0, 30, fillF (fun _ => 0) (-1) 30), .inl (7, [.ref 31]), .inr (0, 30, fillF (fun _ => 0) 0 30), .inl (4, [.ref 33, .ref 35, .ref 37, .ref 39, .ref 41, .ref 43, .ref 45]), .inl (7, [.ref 34]), .inr (0, 120, fillF (fun _ => 0) (-1) 120), .inl (7, [.ref 36]), .inr (0, 120, fillF (fun _ => 0) (-1) 120), .inl (7, [.ref 38]), .inr (0, 120, fillF (fun _ => 0) 0 120), .inl (7, [.ref 40]), .inr (0, 120, fillF (fun _ => 0) (-1) 120), .inl (7, [.ref 42]), .inr (0, 120, fillF (fun _ => 0) 0 120), .inl (7, [.ref 44]), .inr (0, 120, fillF (fun _ => 0) 0 120), .inl (7, [.ref 46]), .inr (0, 24, fillF (fun _ => 0) 0 24), .inl (2, [.ref 48, .ref 50, .ref 52, .ref 54, .int 0]), .inl (7, [.ref 49]), .inr (0, 6, fillF (fun _ => 0) (-1) 6), .inl (7, [.ref 51]), .inr (0, 6, fillF (fun _ => 0) (-1) 6), .inl (7, [.ref 53]), .inr (0, 6, fillF (fun _ => 0) (-1) 6), .inl (7, [.ref 55]), .inr (0, 6, fillF (fun _ => 0) 0 6), .inl (7, [.ref 57]), .inr (0, 6, fillF (fun _ => 0) (-1) 6), .inl (7, [.ref 59]), .inr (0, 8, fillF (fun _ => 0) (-1) 8), .inl (7, [.ref 61]), .inr (0, 8, fillF (fun _ => 0) (-1) 8), .inl (7, [.ref 63]), .inr (0, 6, fillF (fun _ => 0) (-1) 6), .inl (7, [.ref 65]), .inr (0, 6, upd (upd (upd (upd (upd (upd (fillF (fun _ => 0) (-1) 6) 0 0) 1 1) 2 2) 3 3) 4 4) 5 5), .inl (5, [.ref 1, .int 0, .int 0]), .inl (8, [.ref 1, .ref 66, .ref 76, .ref 68, .ref 70, .ref 72, .ref 74, .int 0, .int 0, .int 0]), .inl (7, [.ref 69]), .inr (0, 6, fillF (fun _ => 0) (-1) 6), .inl (7, [.ref 71]), .inr (0, 30, fillF (fun _ => 0) (-1) 30), .inl (7, [.ref 73]), .inr (0, 6, fillF (fun _ => 0) 0 6), .inl (7, [.ref 75]), .inr (0, 6, fillF (fun _ => 0) 0 6), .inl (1, [.ref 1, .ref 77, .ref 79]), .inl (7, [.ref 78]), .inr (0, 6, fillF (fun _ => 0) (-1) 6), .inl (7, [.ref 80]), .inr (0, 6, fillF (fun _ => 0) 0 6), .inl (0, [.ref 1, .ref 66, .ref 84, .ref 82]), .inl (7, [.ref 83]), .inr (0, 6, fillF (fun _ => 0) (-1) 6), .inl (1, [.ref 1, .ref 85, .ref 87]), .inl (7, [.ref 86]), .inr (0, 6, fillF (fun _ => 0) (-1) 6), .inl (7, [.ref 88]), .inr (0, 6, fillF (fun _ => 0) 0 6), .inl (3, [.ref 90, .ref 92]), .inl (7, [.ref 91]), .inr (0, 6, fillF (fun _ => 0) (-1) 6), .inl (7, [.ref 93]), .inr (0, 6, fillF (fun _ => 0) (-1) 6)]
theorem nest_in : ∀ q ∈ nestL, Cond.methodLinkNest q.1 q.2.1 q.2.2 RX11 ∈ lw_tbl := by decide +kernel
theorem nestG_in : ∀ q ∈ nestG, Cond.methodLinkNest q.1 q.2.1 q.2.2 RX11 ∈ lw_tbl := by decide +kernel
