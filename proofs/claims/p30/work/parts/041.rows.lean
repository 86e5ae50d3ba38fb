
section ROWS2
variable {α : Type} {X : AX} {r0 : α} {cc : ByteArray} {mL : Nat} {own : String} {pc pc1 pc2 : Nat} {ls : List (Option Value)} {st : List Value} {σ : Mem} {oo oa ob : Option α}

theorem a_if_eq {x : Int32} {off : Int} (hX : CX X cc mL own) (d : decode cc pc = .ok (.ifCond .eq off, 3)) (ht : (pc : Int) + off = (pc1 : Int)) (hp : pc + 3 = pc2) (k1 : AWo X r0 pc1 ls st σ oa) (k2 : AWo X r0 pc2 ls st σ ob) : AWo X r0 pc ls (.int x :: st) σ (if x = 0 then oa else ob) := fun ho H locs lsA h1 h2 h3 h4 => by
  subst hp
  exact lv_if_eq hX.1 hX.2.1 d ht (fun c => k1 (by rw [if_pos c] at ho; exact ho) H locs lsA h1 h2 h3 h4) (fun c => k2 (by rw [if_neg c] at ho; exact ho) H locs lsA h1 h2 h3 h4)
theorem a_if_ne {x : Int32} {off : Int} (hX : CX X cc mL own) (d : decode cc pc = .ok (.ifCond .ne off, 3)) (ht : (pc : Int) + off = (pc1 : Int)) (hp : pc + 3 = pc2) (k1 : AWo X r0 pc1 ls st σ oa) (k2 : AWo X r0 pc2 ls st σ ob) : AWo X r0 pc ls (.int x :: st) σ (if x = 0 then ob else oa) := fun ho H locs lsA h1 h2 h3 h4 => by
  subst hp
  exact lv_if_ne hX.1 hX.2.1 d ht (fun c => k1 (by rw [if_neg c] at ho; exact ho) H locs lsA h1 h2 h3 h4) (fun c => k2 (by rw [if_pos c] at ho; exact ho) H locs lsA h1 h2 h3 h4)
theorem a_if_lt {x : Int32} {off : Int} (hX : CX X cc mL own) (d : decode cc pc = .ok (.ifCond .lt off, 3)) (ht : (pc : Int) + off = (pc1 : Int)) (hp : pc + 3 = pc2) (k1 : AWo X r0 pc1 ls st σ oa) (k2 : AWo X r0 pc2 ls st σ ob) : AWo X r0 pc ls (.int x :: st) σ (if x < 0 then oa else ob) := fun ho H locs lsA h1 h2 h3 h4 => by
  subst hp
  exact lv_if_lt hX.1 hX.2.1 d ht (fun c => k1 (by rw [if_pos c] at ho; exact ho) H locs lsA h1 h2 h3 h4) (fun c => k2 (by rw [if_neg c] at ho; exact ho) H locs lsA h1 h2 h3 h4)
theorem a_if_ge {x : Int32} {off : Int} (hX : CX X cc mL own) (d : decode cc pc = .ok (.ifCond .ge off, 3)) (ht : (pc : Int) + off = (pc1 : Int)) (hp : pc + 3 = pc2) (k1 : AWo X r0 pc1 ls st σ oa) (k2 : AWo X r0 pc2 ls st σ ob) : AWo X r0 pc ls (.int x :: st) σ (if 0 ≤ x then oa else ob) := fun ho H locs lsA h1 h2 h3 h4 => by
  subst hp
  exact lv_if_ge hX.1 hX.2.1 d ht (fun c => k1 (by rw [if_pos c] at ho; exact ho) H locs lsA h1 h2 h3 h4) (fun c => k2 (by rw [if_neg c] at ho; exact ho) H locs lsA h1 h2 h3 h4)
theorem a_if_gt {x : Int32} {off : Int} (hX : CX X cc mL own) (d : decode cc pc = .ok (.ifCond .gt off, 3)) (ht : (pc : Int) + off = (pc1 : Int)) (hp : pc + 3 = pc2) (k1 : AWo X r0 pc1 ls st σ oa) (k2 : AWo X r0 pc2 ls st σ ob) : AWo X r0 pc ls (.int x :: st) σ (if 0 < x then oa else ob) := fun ho H locs lsA h1 h2 h3 h4 => by
  subst hp
  exact lv_if_gt hX.1 hX.2.1 d ht (fun c => k1 (by rw [if_pos c] at ho; exact ho) H locs lsA h1 h2 h3 h4) (fun c => k2 (by rw [if_neg c] at ho; exact ho) H locs lsA h1 h2 h3 h4)
theorem a_if_le {x : Int32} {off : Int} (hX : CX X cc mL own) (d : decode cc pc = .ok (.ifCond .le off, 3)) (ht : (pc : Int) + off = (pc1 : Int)) (hp : pc + 3 = pc2) (k1 : AWo X r0 pc1 ls st σ oa) (k2 : AWo X r0 pc2 ls st σ ob) : AWo X r0 pc ls (.int x :: st) σ (if x ≤ 0 then oa else ob) := fun ho H locs lsA h1 h2 h3 h4 => by
  subst hp
  exact lv_if_le hX.1 hX.2.1 d ht (fun c => k1 (by rw [if_pos c] at ho; exact ho) H locs lsA h1 h2 h3 h4) (fun c => k2 (by rw [if_neg c] at ho; exact ho) H locs lsA h1 h2 h3 h4)
theorem a_icmp_eq {x y : Int32} {off : Int} (hX : CX X cc mL own) (d : decode cc pc = .ok (.if_icmp .eq off, 3)) (ht : (pc : Int) + off = (pc1 : Int)) (hp : pc + 3 = pc2) (k1 : AWo X r0 pc1 ls st σ oa) (k2 : AWo X r0 pc2 ls st σ ob) : AWo X r0 pc ls (.int y :: .int x :: st) σ (if x = y then oa else ob) := fun ho H locs lsA h1 h2 h3 h4 => by
  subst hp
  exact lv_icmp_eq hX.1 hX.2.1 d ht (fun c => k1 (by rw [if_pos c] at ho; exact ho) H locs lsA h1 h2 h3 h4) (fun c => k2 (by rw [if_neg c] at ho; exact ho) H locs lsA h1 h2 h3 h4)
theorem a_icmp_ne {x y : Int32} {off : Int} (hX : CX X cc mL own) (d : decode cc pc = .ok (.if_icmp .ne off, 3)) (ht : (pc : Int) + off = (pc1 : Int)) (hp : pc + 3 = pc2) (k1 : AWo X r0 pc1 ls st σ oa) (k2 : AWo X r0 pc2 ls st σ ob) : AWo X r0 pc ls (.int y :: .int x :: st) σ (if x = y then ob else oa) := fun ho H locs lsA h1 h2 h3 h4 => by
  subst hp
  exact lv_icmp_ne hX.1 hX.2.1 d ht (fun c => k1 (by rw [if_neg c] at ho; exact ho) H locs lsA h1 h2 h3 h4) (fun c => k2 (by rw [if_pos c] at ho; exact ho) H locs lsA h1 h2 h3 h4)
theorem a_icmp_lt {x y : Int32} {off : Int} (hX : CX X cc mL own) (d : decode cc pc = .ok (.if_icmp .lt off, 3)) (ht : (pc : Int) + off = (pc1 : Int)) (hp : pc + 3 = pc2) (k1 : AWo X r0 pc1 ls st σ oa) (k2 : AWo X r0 pc2 ls st σ ob) : AWo X r0 pc ls (.int y :: .int x :: st) σ (if x < y then oa else ob) := fun ho H locs lsA h1 h2 h3 h4 => by
  subst hp
  exact lv_icmp_lt hX.1 hX.2.1 d ht (fun c => k1 (by rw [if_pos c] at ho; exact ho) H locs lsA h1 h2 h3 h4) (fun c => k2 (by rw [if_neg c] at ho; exact ho) H locs lsA h1 h2 h3 h4)
theorem a_icmp_ge {x y : Int32} {off : Int} (hX : CX X cc mL own) (d : decode cc pc = .ok (.if_icmp .ge off, 3)) (ht : (pc : Int) + off = (pc1 : Int)) (hp : pc + 3 = pc2) (k1 : AWo X r0 pc1 ls st σ oa) (k2 : AWo X r0 pc2 ls st σ ob) : AWo X r0 pc ls (.int y :: .int x :: st) σ (if y ≤ x then oa else ob) := fun ho H locs lsA h1 h2 h3 h4 => by
  subst hp
  exact lv_icmp_ge hX.1 hX.2.1 d ht (fun c => k1 (by rw [if_pos c] at ho; exact ho) H locs lsA h1 h2 h3 h4) (fun c => k2 (by rw [if_neg c] at ho; exact ho) H locs lsA h1 h2 h3 h4)
theorem a_icmp_gt {x y : Int32} {off : Int} (hX : CX X cc mL own) (d : decode cc pc = .ok (.if_icmp .gt off, 3)) (ht : (pc : Int) + off = (pc1 : Int)) (hp : pc + 3 = pc2) (k1 : AWo X r0 pc1 ls st σ oa) (k2 : AWo X r0 pc2 ls st σ ob) : AWo X r0 pc ls (.int y :: .int x :: st) σ (if y < x then oa else ob) := fun ho H locs lsA h1 h2 h3 h4 => by
  subst hp
  exact lv_icmp_gt hX.1 hX.2.1 d ht (fun c => k1 (by rw [if_pos c] at ho; exact ho) H locs lsA h1 h2 h3 h4) (fun c => k2 (by rw [if_neg c] at ho; exact ho) H locs lsA h1 h2 h3 h4)
theorem a_icmp_le {x y : Int32} {off : Int} (hX : CX X cc mL own) (d : decode cc pc = .ok (.if_icmp .le off, 3)) (ht : (pc : Int) + off = (pc1 : Int)) (hp : pc + 3 = pc2) (k1 : AWo X r0 pc1 ls st σ oa) (k2 : AWo X r0 pc2 ls st σ ob) : AWo X r0 pc ls (.int y :: .int x :: st) σ (if x ≤ y then oa else ob) := fun ho H locs lsA h1 h2 h3 h4 => by
  subst hp
  exact lv_icmp_le hX.1 hX.2.1 d ht (fun c => k1 (by rw [if_pos c] at ho; exact ho) H locs lsA h1 h2 h3 h4) (fun c => k2 (by rw [if_neg c] at ho; exact ho) H locs lsA h1 h2 h3 h4)
theorem a_tsw8 {x : Int32} {dflt f0 f1 f2 f3 f4 f5 f6 f7 : Int} {p0 p1 p2 p3 p4 p5 p6 p7 pd len : Nat} {o0 o1 o2 o3 o4 o5 o6 o7 od : Option α} (hX : CX X cc mL own) (d : decode cc pc = .ok (.tableswitch dflt 0 7 #[f0, f1, f2, f3, f4, f5, f6, f7], len)) (h0 : (pc : Int) + f0 = (p0 : Int)) (k0 : AWo X r0 p0 ls st σ o0) (h1 : (pc : Int) + f1 = (p1 : Int)) (k1 : AWo X r0 p1 ls st σ o1) (h2 : (pc : Int) + f2 = (p2 : Int)) (k2 : AWo X r0 p2 ls st σ o2) (h3 : (pc : Int) + f3 = (p3 : Int)) (k3 : AWo X r0 p3 ls st σ o3) (h4 : (pc : Int) + f4 = (p4 : Int)) (k4 : AWo X r0 p4 ls st σ o4) (h5 : (pc : Int) + f5 = (p5 : Int)) (k5 : AWo X r0 p5 ls st σ o5) (h6 : (pc : Int) + f6 = (p6 : Int)) (k6 : AWo X r0 p6 ls st σ o6) (h7 : (pc : Int) + f7 = (p7 : Int)) (k7 : AWo X r0 p7 ls st σ o7) (hd : (pc : Int) + dflt = (pd : Int)) (kd : AWo X r0 pd ls st σ od) : AWo X r0 pc ls (.int x :: st) σ (if x = 0 then o0 else if x = 1 then o1 else if x = 2 then o2 else if x = 3 then o3 else if x = 4 then o4 else if x = 5 then o5 else if x = 6 then o6 else if x = 7 then o7 else od) := fun ho H locs lsA q1 q2 q3 q4 => by
  by_cases e0 : x = 0
  · rw [if_pos e0] at ho
    subst e0
    exact lv_tableIn hX.1 hX.2.1 d (by decide) (by decide) (off := f0) rfl h0 (k0 ho H locs lsA q1 q2 q3 q4)
  rw [if_neg e0] at ho
  by_cases e1 : x = 1
  · rw [if_pos e1] at ho
    subst e1
    exact lv_tableIn hX.1 hX.2.1 d (by decide) (by decide) (off := f1) rfl h1 (k1 ho H locs lsA q1 q2 q3 q4)
  rw [if_neg e1] at ho
  by_cases e2 : x = 2
  · rw [if_pos e2] at ho
    subst e2
    exact lv_tableIn hX.1 hX.2.1 d (by decide) (by decide) (off := f2) rfl h2 (k2 ho H locs lsA q1 q2 q3 q4)
  rw [if_neg e2] at ho
  by_cases e3 : x = 3
  · rw [if_pos e3] at ho
    subst e3
    exact lv_tableIn hX.1 hX.2.1 d (by decide) (by decide) (off := f3) rfl h3 (k3 ho H locs lsA q1 q2 q3 q4)
  rw [if_neg e3] at ho
  by_cases e4 : x = 4
  · rw [if_pos e4] at ho
    subst e4
    exact lv_tableIn hX.1 hX.2.1 d (by decide) (by decide) (off := f4) rfl h4 (k4 ho H locs lsA q1 q2 q3 q4)
  rw [if_neg e4] at ho
  by_cases e5 : x = 5
  · rw [if_pos e5] at ho
    subst e5
    exact lv_tableIn hX.1 hX.2.1 d (by decide) (by decide) (off := f5) rfl h5 (k5 ho H locs lsA q1 q2 q3 q4)
  rw [if_neg e5] at ho
  by_cases e6 : x = 6
  · rw [if_pos e6] at ho
    subst e6
    exact lv_tableIn hX.1 hX.2.1 d (by decide) (by decide) (off := f6) rfl h6 (k6 ho H locs lsA q1 q2 q3 q4)
  rw [if_neg e6] at ho
  by_cases e7 : x = 7
  · rw [if_pos e7] at ho
    subst e7
    exact lv_tableIn hX.1 hX.2.1 d (by decide) (by decide) (off := f7) rfl h7 (k7 ho H locs lsA q1 q2 q3 q4)
  rw [if_neg e7] at ho
  refine lv_tableOut hX.1 hX.2.1 d ?_ hd (kd ho H locs lsA q1 q2 q3 q4)
  have tt : ∀ k : Int32, x ≠ k → x.toInt ≠ k.toInt := fun k h e => h (Int32.toInt_inj.mp e)
  have t0 : x.toInt ≠ 0 := tt 0 e0
  have t1 : x.toInt ≠ 1 := tt 1 e1
  have t2 : x.toInt ≠ 2 := tt 2 e2
  have t3 : x.toInt ≠ 3 := tt 3 e3
  have t4 : x.toInt ≠ 4 := tt 4 e4
  have t5 : x.toInt ≠ 5 := tt 5 e5
  have t6 : x.toInt ≠ 6 := tt 6 e6
  have t7 : x.toInt ≠ 7 := tt 7 e7
  omega
theorem a_getI {idx ci k p : Nat} {fs : List (Option Nat)} (hX : CX X cc mL own) (f : FLD own idx ci k) (hs : shp[p]? = some (.inl (ci, fs))) (hf : fs[k]? = some none) (d : decode cc pc = .ok (.getfield idx, 3)) (hp : pc + 3 = pc1) (kk : AWo X r0 pc1 ls (.int (σ p k) :: st) σ oo) : AWo X r0 pc ls (.ref p :: st) σ oo := fun ho H locs lsA h1 h2 h3 h4 => by
  subst hp
  obtain ⟨C, T, N, f1, f2, f3, f4⟩ := f
  exact va_get (v := .int (σ p k)) hX.1 hX.2.1 (hX.2.2.2.2.1) f3 hX.2.2.2.1 hX.2.2.2.2.2.1 h2 p (wd_get hs) f1 k f2 (hX.2.2.2.2.1 _ f4) (fun _ h => h) (by rw [sF_get, hf]; simp) d (kk ho H locs lsA h1 h2 h3 h4)
theorem a_getR {idx ci k p q : Nat} {fs : List (Option Nat)} (hX : CX X cc mL own) (f : FLD own idx ci k) (hs : shp[p]? = some (.inl (ci, fs))) (hf : fs[k]? = some (some q)) (d : decode cc pc = .ok (.getfield idx, 3)) (hp : pc + 3 = pc1) (kk : AWo X r0 pc1 ls (.ref q :: st) σ oo) : AWo X r0 pc ls (.ref p :: st) σ oo := fun ho H locs lsA h1 h2 h3 h4 => by
  subst hp
  obtain ⟨C, T, N, f1, f2, f3, f4⟩ := f
  exact va_get (v := .ref (gr (aG X) q)) hX.1 hX.2.1 (hX.2.2.2.2.1) f3 hX.2.2.2.1 hX.2.2.2.2.2.1 h2 p (wd_get hs) f1 k f2 (hX.2.2.2.2.1 _ f4) (fun _ h => h) (by rw [sF_get, hf]; rfl) d (kk ho H locs lsA h1 h2 h3 h4)
theorem a_getA {idx p : Nat} {K : Nat → Option α} (hX : CX X cc mL own) (f : FLD own idx 7 0) (d : decode cc pc = .ok (.getfield idx, 3)) (hp : pc + 3 = pc1) (kk : ∀ q, AWo X r0 pc1 ls (.ref q :: st) σ (K q)) : AWo X r0 pc ls (.ref p :: st) σ (obind (rowA p) K) := fun ho => by
  obtain ⟨q, hq, ho'⟩ := obind_inv ho
  exact a_getR (k := 0) hX f (rowA_some hq) rfl d hp (kk q) ho'
theorem a_putI {idx ci k p : Nat} {fs : List (Option Nat)} {v : Int32} (hX : CX X cc mL own) (f : FLP own idx ci k .int) (hs : shp[p]? = some (.inl (ci, fs))) (hf : fs[k]? = some none) (d : decode cc pc = .ok (.putfield idx, 3)) (hp : pc + 3 = pc1) (kk : AWo X r0 pc1 ls st (up σ p k v) oo) : AWo X r0 pc ls (.int v :: .ref p :: st) σ oo := fun ho H locs lsA h1 h2 h3 h4 => by
  subst hp
  obtain ⟨C, T, N, ty0, f1, f2, f3, f4, f5, f6, f7, f8⟩ := f
  refine va_put (v := .int v) (ty := .int) hX.1 hX.2.1 (hX.2.2.2.2.1) f3 ty0 f5 f6 hX.2.2.2.1 hX.2.2.2.2.2.1 h2 h3 h4 p (wd_get hs) f1 k f2 (hX.2.2.2.2.1 _ f4) (fun _ h => h) f7 f8 rfl rfl (by rw [sF_len]; exact (List.getElem?_eq_some_iff.mp hf).1) d (fun H1 locs1 g2 g3 g4 => ?_)
  have e : (wd (aG X) σ).set p (gr (aG X) p, .inr (ci, (sF (gr (aG X)) (σ p) 0 fs).set k (.int v))) = wd (aG X) (up σ p k v) := by
    rw [sF_set v hf]
    have := wd_set (g := aG X) (σ := σ) (upd (σ p) k v) hs
    rw [show sE (aG X) (setA σ p (upd (σ p) k v)) p (.inl (ci, fs)) = .inr (ci, sF (gr (aG X)) (upd (σ p) k v) 0 fs) from by simp [sE, setA]] at this
    exact this
  exact kk ho H1 locs1 lsA h1 (e ▸ g2) (e ▸ g3) g4
theorem a_putZ {idx ci k p : Nat} {fs : List (Option Nat)} {v : Int32} (hX : CX X cc mL own) (f : FLP own idx ci k .boolean) (hz : v = 0 ∨ v = 1) (hs : shp[p]? = some (.inl (ci, fs))) (hf : fs[k]? = some none) (d : decode cc pc = .ok (.putfield idx, 3)) (hp : pc + 3 = pc1) (kk : AWo X r0 pc1 ls st (up σ p k v) oo) : AWo X r0 pc ls (.int v :: .ref p :: st) σ oo := fun ho H locs lsA h1 h2 h3 h4 => by
  subst hp
  obtain ⟨C, T, N, ty0, f1, f2, f3, f4, f5, f6, f7, f8⟩ := f
  refine va_put (v := .int v) (ty := .boolean) hX.1 hX.2.1 (hX.2.2.2.2.1) f3 ty0 f5 f6 hX.2.2.2.1 hX.2.2.2.2.2.1 h2 h3 h4 p (wd_get hs) f1 k f2 (hX.2.2.2.2.1 _ f4) (fun _ h => h) f7 f8 (by rcases hz with rfl | rfl <;> rfl) (by rcases hz with rfl | rfl <;> rfl) (by rw [sF_len]; exact (List.getElem?_eq_some_iff.mp hf).1) d (fun H1 locs1 g2 g3 g4 => ?_)
  have e : (wd (aG X) σ).set p (gr (aG X) p, .inr (ci, (sF (gr (aG X)) (σ p) 0 fs).set k (.int v))) = wd (aG X) (up σ p k v) := by
    rw [sF_set v hf]
    have := wd_set (g := aG X) (σ := σ) (upd (σ p) k v) hs
    rw [show sE (aG X) (setA σ p (upd (σ p) k v)) p (.inl (ci, fs)) = .inr (ci, sF (gr (aG X)) (upd (σ p) k v) 0 fs) from by simp [sE, setA]] at this
    exact this
  exact kk ho H1 locs1 lsA h1 (e ▸ g2) (e ▸ g3) g4
theorem a_ald {p n : Nat} {i : Int32} {K : Int32 → Option α} (hX : CX X cc mL own) (hs : shp[p]? = some (.inr (0, n))) (d : decode cc pc = .ok (.iaload, 1)) (hp : pc + 1 = pc1) (kk : ∀ x, AWo X r0 pc1 ls (.int x :: st) σ (K x)) : AWo X r0 pc ls (.int i :: .ref p :: st) σ (obind (ald σ p n i) K) := fun ho H locs lsA h1 h2 h3 h4 => by
  subst hp
  obtain ⟨x, hx, ho'⟩ := obind_inv ho
  obtain ⟨hi, rfl⟩ := ald_some hx
  exact va_iald hX.1 hX.2.1 hX.2.2.2.2.2.1 h2 p 0 (wd_get hs) rfl hi d (kk _ ho' H locs lsA h1 h2 h3 h4)
theorem a_aldS {p : Nat} {i : Int32} {K : Int32 → Option α} (hX : CX X cc mL own) (d : decode cc pc = .ok (.iaload, 1)) (hp : pc + 1 = pc1) (kk : ∀ x, AWo X r0 pc1 ls (.int x :: st) σ (K x)) : AWo X r0 pc ls (.int i :: .ref p :: st) σ (obind (arl p) fun n => obind (ald σ p n i) K) := fun ho => by
  obtain ⟨n, hn, ho'⟩ := obind_inv ho
  exact a_ald hX (arl_some hn) d hp kk ho'
theorem wd_setA {g : GX} {p n : Nat} {f : Nat → Int32} (hs : shp[p]? = some (.inr (0, n))) : (wd g σ).set p (gr g p, .inl (g.2.1, n, .inl f)) = wd g (setA σ p f) := by
  have := wd_set (g := g) (σ := σ) f hs
  rw [show sE g (setA σ p f) p (.inr (0, n)) = .inl (g.2.1, n, .inl f) from by simp [sE, setA]] at this
  exact this
theorem a_ast {p n : Nat} {i x : Int32} {K : Mem → Option α} (hX : CX X cc mL own) (hs : shp[p]? = some (.inr (0, n))) (d : decode cc pc = .ok (.iastore, 1)) (hp : pc + 1 = pc1) (kk : ∀ σ', AWo X r0 pc1 ls st σ' (K σ')) : AWo X r0 pc ls (.int x :: .int i :: .ref p :: st) σ (obind (ast σ p n i x) K) := fun ho H locs lsA h1 h2 h3 h4 => by
  subst hp
  obtain ⟨σ', hx, ho'⟩ := obind_inv ho
  obtain ⟨hi, rfl⟩ := ast_some hx
  refine va_iast hX.1 hX.2.1 hX.2.2.2.2.2.1 h2 h3 h4 p 0 (wd_get hs) rfl hi d (fun H1 locs1 g2 g3 g4 => ?_)
  have e := wd_setA (g := aG X) (σ := σ) (f := upd (σ p) i.toNatClampNeg x) hs
  exact kk _ ho' H1 locs1 lsA h1 (e ▸ g2) (e ▸ g3) g4
theorem a_astS {p : Nat} {i x : Int32} {K : Mem → Option α} (hX : CX X cc mL own) (d : decode cc pc = .ok (.iastore, 1)) (hp : pc + 1 = pc1) (kk : ∀ σ', AWo X r0 pc1 ls st σ' (K σ')) : AWo X r0 pc ls (.int x :: .int i :: .ref p :: st) σ (obind (arl p) fun n => obind (ast σ p n i x) K) := fun ho => by
  obtain ⟨n, hn, ho'⟩ := obind_inv ho
  exact a_ast hX (arl_some hn) d hp kk ho'
theorem recv_at {g : GX} {H : Heap} {s : State} {q ci : Nat} {fs : List (Option Nat)} {C : String} {T : u_T} {N : Nat} (hP : va_P (gD g) vwCl (wd g σ) H) (hK : va_K (gD g) vwCl (gT g) s) (hs : shp[q]? = some (.inl (ci, fs))) (hc : vwCl[ci]? = some (C, T, N)) : ∃ cellB : Cell, H[gr g q]? = some cellB ∧ cellB.vm.isStatics = false ∧ s.vm.findClass C = some cellB.cls := by
  obtain ⟨r, h1, cell, q1, q2, q3, q4⟩ := hP q _ (wd_get hs)
  have hr : r = (C, T, N) := Option.some.inj (h1.symm.trans hc)
  subst hr
  obtain ⟨hS, hfc, kC, hkC, hkind⟩ := hK.1 ci _ hc
  exact ⟨cell, q1, by rw [q3]; rfl, by rw [q2]; exact hfc⟩
theorem map_rev (f : Value → Value) (As : List Value) (q : Nat) (rest : List Value) : (As.reverse ++ .ref q :: rest).map f = (As.map f).reverse ++ f (.ref q) :: rest.map f := by simp
theorem cat_map {ρ : Nat → Nat} (l : List Value) : ((l.map (cv ρ)).map fun v => v.category) = l.map fun v => v.category := by
  rw [List.map_map]
  apply List.map_congr_left
  intro v _
  exact cv_cat v
theorem call_fin {g : GX} {σ' : Mem} {t : State} {s : State} {H1 : Heap} (e : t.heap = H1) (hb : HO g σ' t) : va_P (gD g) vwCl (wd g σ') H1 ∧ va_D (gA g) (wd g σ') := ⟨e ▸ hb.1, hb.2.2.1⟩
theorem a_callI {idx fr lo mLc n ci q frC loC : Nat} {y : MethodName} {b : ByteArray} {ret : Option FieldType} {As rest stk : List Value} {fs : List (Option Nat)} {T : u_T} {N : Nat} {ov : Option (Int32 × Mem)} {K : Int32 × Mem → Option α} (hX : CX X cc mL own) (hR : (aR X).frames = fr ∧ (aR X).locals = lo ∧ aCe X ≤ (aR X).cells ∧ aSl X ≤ (aR X).slots) (ml : MLV own idx y b mLc ret n) (hc : CI (aL X) y b mLc ret frC loC (.ref q :: As) σ ov) (hs : shp[q]? = some (.inl (ci, fs))) (hci : vwCl[ci]? = some (y.cls, T, N)) (hn : As.length = n) (hst : stk = As.reverse ++ .ref q :: rest) (hroom : frC + 1 ≤ fr ∧ 8 + (mLc + 11) + loC ≤ lo) (hw : (rest.map fun v => v.category).sum ≤ 8) (hl : ls.length = mL) (d : decode cc pc = .ok (.invokevirtual idx, 3)) (hp : pc + 3 = pc1) (kk : ∀ r : Int32 × Mem, AWo X r0 pc1 ls (.int r.1 :: rest) r.2 (K r)) : AWo X r0 pc ls stk σ (obind ov K) := fun ho H locs lsA h1 h2 h3 h4 => by
  subst hp; subst hst
  obtain ⟨r, hr, ho'⟩ := obind_inv ho
  have hts := hX.2.2.2.2.1
  have hM := hc (aG X) r hr
  rw [map_rev]
  have hcell := recv_at h2 hX.2.2.2.2.2.1 hs hci
  refine va_calli (va_runV (Ts := BIG) (As := As.map (cv (gr (aG X)))) (rest := rest.map (cv (gr (aG X)))) ⟨hX.1, hX.2.1, hX.2.2.1, hX.2.2.2.1, hts⟩ hM ⟨callB_of n hts (big_code ml.2.2.2.2.1) rfl rfl rfl (hts _ ml.2.2.2.1) (hts _ ml.1) ml.2.2.2.2.2 (by rw [hR.1, hR.2.1]; exact hroom), hts _ ml.2.1, hts _ ml.2.2.1⟩ ⟨HO.blind, hcell, fun U hU hW => ⟨rfl, HO.warm hW (by rw [hU]; exact h2) hX.2.2.2.2.2.1 h3 hX.2.2.2.2.2.2.1⟩⟩ rfl (by rw [List.length_map]; exact hn) (by rw [h1.1]; exact hl) rfl (lv_room (by rw [cat_map]; exact hw)) d ⟨hR.2.2.1, hR.2.2.2⟩) h4 (fun q _ h => h) (fun q h => h) (fun v u t H1 locs1 e1 e2 hv hb hz hk hS => ?_)
  subst hv
  obtain ⟨p1, p2⟩ := call_fin (s := aS X) e1 hb
  exact kk r ho' H1 locs1 lsA h1 p1 p2 hS
theorem a_callV {idx fr lo mLc n ci q frC loC : Nat} {y : MethodName} {b : ByteArray} {As rest stk : List Value} {fs : List (Option Nat)} {T : u_T} {N : Nat} {ov : Option (Int32 × Mem)} {K : Int32 × Mem → Option α} (hX : CX X cc mL own) (hR : (aR X).frames = fr ∧ (aR X).locals = lo ∧ aCe X ≤ (aR X).cells ∧ aSl X ≤ (aR X).slots) (ml : MLV own idx y b mLc none n) (hc : CV (aL X) y b mLc frC loC (.ref q :: As) σ ov) (hs : shp[q]? = some (.inl (ci, fs))) (hci : vwCl[ci]? = some (y.cls, T, N)) (hn : As.length = n) (hst : stk = As.reverse ++ .ref q :: rest) (hroom : frC + 1 ≤ fr ∧ 8 + (mLc + 11) + loC ≤ lo) (hw : (rest.map fun v => v.category).sum ≤ 8) (hl : ls.length = mL) (d : decode cc pc = .ok (.invokevirtual idx, 3)) (hp : pc + 3 = pc1) (kk : ∀ r : Int32 × Mem, AWo X r0 pc1 ls rest r.2 (K r)) : AWo X r0 pc ls stk σ (obind ov K) := fun ho H locs lsA h1 h2 h3 h4 => by
  subst hp; subst hst
  obtain ⟨r, hr, ho'⟩ := obind_inv ho
  have hts := hX.2.2.2.2.1
  have hM := hc (aG X) r hr
  rw [map_rev]
  have hcell := recv_at h2 hX.2.2.2.2.2.1 hs hci
  refine va_callv (va_runV (Ts := BIG) (As := As.map (cv (gr (aG X)))) (rest := rest.map (cv (gr (aG X)))) ⟨hX.1, hX.2.1, hX.2.2.1, hX.2.2.2.1, hts⟩ hM ⟨callB_of n hts (big_code ml.2.2.2.2.1) rfl rfl rfl (hts _ ml.2.2.2.1) (hts _ ml.1) ml.2.2.2.2.2 (by rw [hR.1, hR.2.1]; exact hroom), hts _ ml.2.1, hts _ ml.2.2.1⟩ ⟨HO.blind, hcell, fun U hU hW => ⟨rfl, HO.warm hW (by rw [hU]; exact h2) hX.2.2.2.2.2.1 h3 hX.2.2.2.2.2.2.1⟩⟩ rfl (by rw [List.length_map]; exact hn) (by rw [h1.1]; exact hl) rfl (lv_room (by rw [cat_map]; exact hw)) d ⟨hR.2.2.1, hR.2.2.2⟩) h4 (fun q _ h => h) (fun q h => h) (fun u t H1 locs1 e1 e2 hv hb hz hk hS => ?_)
  obtain ⟨p1, p2⟩ := call_fin (s := aS X) e1 hb
  exact kk r ho' H1 locs1 lsA h1 p1 p2 hS
theorem map_rev2 (f : Value → Value) (As : List Value) (rest : List Value) : (As.reverse ++ rest).map f = (As.map f).reverse ++ rest.map f := by simp
theorem a_callSI {idx fr lo mLc n frC loC : Nat} {y : MethodName} {b : ByteArray} {ret : Option FieldType} {As rest stk : List Value} {ov : Option (Int32 × Mem)} {K : Int32 × Mem → Option α} (hX : CX X cc mL own) (hR : (aR X).frames = fr ∧ (aR X).locals = lo ∧ aCe X ≤ (aR X).cells ∧ aSl X ≤ (aR X).slots) (ml : MLS own idx y b mLc ret n) (hc : CI (aL X) y b mLc ret frC loC As σ ov) (hn : As.length = n) (hst : stk = As.reverse ++ rest) (hroom : frC + 1 ≤ fr ∧ 8 + (mLc + 11) + loC ≤ lo) (hw : (rest.map fun v => v.category).sum ≤ 8) (hl : ls.length = mL) (d : decode cc pc = .ok (.invokestatic idx, 3)) (hp : pc + 3 = pc1) (kk : ∀ r : Int32 × Mem, AWo X r0 pc1 ls (.int r.1 :: rest) r.2 (K r)) : AWo X r0 pc ls stk σ (obind ov K) := fun ho H locs lsA h1 h2 h3 h4 => by
  subst hp; subst hst
  obtain ⟨r, hr, ho'⟩ := obind_inv ho
  have hts := hX.2.2.2.2.1
  have hM := hc (aG X) r hr
  rw [map_rev2]
  refine va_calli (va_runS (Ts := BIG) (As := As.map (cv (gr (aG X)))) (rest := rest.map (cv (gr (aG X)))) ⟨hX.1, hX.2.1, hX.2.2.1, hX.2.2.2.1, hts⟩ hM ⟨callB_of n hts (big_code ml.2.2.2.1) rfl rfl rfl (hts _ ml.2.2.1) (hts _ ml.1) ml.2.2.2.2 (by rw [hR.1, hR.2.1]; exact hroom), hts _ ml.2.1⟩ ⟨HO.blind, fun U hU hW => ⟨rfl, HO.warm hW (by rw [hU]; exact h2) hX.2.2.2.2.2.1 h3 hX.2.2.2.2.2.2.1⟩⟩ rfl (by rw [List.length_map]; exact hn) (by rw [h1.1]; exact hl) rfl (lv_room (by rw [cat_map]; exact hw)) d ⟨hR.2.2.1, hR.2.2.2⟩) h4 (fun q _ h => h) (fun q h => h) (fun v u t H1 locs1 e1 e2 hv hb hz hk hS => ?_)
  subst hv
  obtain ⟨p1, p2⟩ := call_fin (s := aS X) e1 hb
  exact kk r ho' H1 locs1 lsA h1 p1 p2 hS
theorem a_callSV {idx fr lo mLc n frC loC : Nat} {y : MethodName} {b : ByteArray} {As rest stk : List Value} {ov : Option (Int32 × Mem)} {K : Int32 × Mem → Option α} (hX : CX X cc mL own) (hR : (aR X).frames = fr ∧ (aR X).locals = lo ∧ aCe X ≤ (aR X).cells ∧ aSl X ≤ (aR X).slots) (ml : MLS own idx y b mLc none n) (hc : CV (aL X) y b mLc frC loC As σ ov) (hn : As.length = n) (hst : stk = As.reverse ++ rest) (hroom : frC + 1 ≤ fr ∧ 8 + (mLc + 11) + loC ≤ lo) (hw : (rest.map fun v => v.category).sum ≤ 8) (hl : ls.length = mL) (d : decode cc pc = .ok (.invokestatic idx, 3)) (hp : pc + 3 = pc1) (kk : ∀ r : Int32 × Mem, AWo X r0 pc1 ls rest r.2 (K r)) : AWo X r0 pc ls stk σ (obind ov K) := fun ho H locs lsA h1 h2 h3 h4 => by
  subst hp; subst hst
  obtain ⟨r, hr, ho'⟩ := obind_inv ho
  have hts := hX.2.2.2.2.1
  have hM := hc (aG X) r hr
  rw [map_rev2]
  refine va_callv (va_runS (Ts := BIG) (As := As.map (cv (gr (aG X)))) (rest := rest.map (cv (gr (aG X)))) ⟨hX.1, hX.2.1, hX.2.2.1, hX.2.2.2.1, hts⟩ hM ⟨callB_of n hts (big_code ml.2.2.2.1) rfl rfl rfl (hts _ ml.2.2.1) (hts _ ml.1) ml.2.2.2.2 (by rw [hR.1, hR.2.1]; exact hroom), hts _ ml.2.1⟩ ⟨HO.blind, fun U hU hW => ⟨rfl, HO.warm hW (by rw [hU]; exact h2) hX.2.2.2.2.2.1 h3 hX.2.2.2.2.2.2.1⟩⟩ rfl (by rw [List.length_map]; exact hn) (by rw [h1.1]; exact hl) rfl (lv_room (by rw [cat_map]; exact hw)) d ⟨hR.2.2.1, hR.2.2.2⟩) h4 (fun q _ h => h) (fun q h => h) (fun u t H1 locs1 e1 e2 hv hb hz hk hS => ?_)
  obtain ⟨p1, p2⟩ := call_fin (s := aS X) e1 hb
  exact kk r ho' H1 locs1 lsA h1 p1 p2 hS
theorem a_callNI {idx fr lo mLc n frC loC : Nat} {y : MethodName} {b : ByteArray} {ret : Option FieldType} {As rest stk : List Value} {ov : Option (Int32 × Mem)} {K : Int32 × Mem → Option α} (hX : CX X cc mL own) (hR : (aR X).frames = fr ∧ (aR X).locals = lo ∧ aCe X ≤ (aR X).cells ∧ aSl X ≤ (aR X).slots) (ml : MLN own idx y b mLc ret n) (hc : CI (aL X) y b mLc ret frC loC As σ ov) (hn : As.length = n) (hst : stk = As.reverse ++ rest) (hroom : frC + 1 ≤ fr ∧ 8 + (mLc + 11) + loC ≤ lo) (hw : (rest.map fun v => v.category).sum ≤ 8) (hl : ls.length = mL) (d : decode cc pc = .ok (.invokestatic idx, 3)) (hp : pc + 3 = pc1) (kk : ∀ r : Int32 × Mem, AWo X r0 pc1 ls (.int r.1 :: rest) r.2 (K r)) : AWo X r0 pc ls stk σ (obind ov K) := fun ho H locs lsA h1 h2 h3 h4 => by
  subst hp; subst hst
  obtain ⟨r, hr, ho'⟩ := obind_inv ho
  have hts := hX.2.2.2.2.1
  have hM := hc (aG X) r hr
  rw [map_rev2]
  refine va_calli (va_runSN (host := RX11) (Ts := BIG) (As := As.map (cv (gr (aG X)))) (rest := rest.map (cv (gr (aG X)))) ⟨hX.1, hX.2.1, hX.2.2.1, hX.2.2.2.1, hts⟩ hM ⟨va_cnB n hts (big_code ml.2.2.2.1) rfl rfl rfl (hX.2.2.2.2.2.2.1 _ ml.1) (hts _ ml.2.2.1) ml.2.2.2.2 (by rw [hR.1, hR.2.1]; exact hroom), hts _ ml.2.1, trivial⟩ ⟨HO.blind, fun U hU hW => ⟨rfl, HO.warm hW (by rw [hU]; exact h2) hX.2.2.2.2.2.1 h3 hX.2.2.2.2.2.2.1⟩⟩ rfl (by rw [List.length_map]; exact hn) (by rw [h1.1]; exact hl) rfl (lv_room (by rw [cat_map]; exact hw)) d ⟨hR.2.2.1, hR.2.2.2⟩) h4 (fun q _ h => h) (fun q h => h) (fun v u t H1 locs1 e1 e2 hv hb hz hk hS => ?_)
  subst hv
  obtain ⟨p1, p2⟩ := call_fin (s := aS X) e1 hb
  exact kk r ho' H1 locs1 lsA h1 p1 p2 hS
end ROWS2
theorem a_name {α : Type} {X : AX} {r0 : α} {pc : Nat} {ls : List (Option Value)} {st : List Value} {σ : Mem} {x : Int32} {K : Int32 → Option α} (kk : ∀ y, AWo X r0 pc ls (.int y :: st) σ (K y)) : AWo X r0 pc ls (.int x :: st) σ (obind (some x) K) := kk x
theorem a_nameM {α : Type} {X : AX} {r0 : α} {pc : Nat} {ls : List (Option Value)} {st : List Value} {σ : Mem} {K : Mem → Option α} (kk : ∀ m, AWo X r0 pc ls st m (K m)) : AWo X r0 pc ls st σ (obind (some σ) K) := kk σ
theorem ls_0 : lsub [] [] := trivial
theorem ls_n {o : Option Value} {t t' : List (Option Value)} (h : lsub t t') : lsub (none :: t) (o :: t') := h
theorem ls_s {v : Value} {t t' : List (Option Value)} (h : lsub t t') : lsub (some v :: t) (some v :: t') := ⟨rfl, h⟩
def FU : Nat := 4000000
/-! ===== a method's end and start ===== -/
section ENDS
variable {X : AX} {r0 : Int32 × Mem} {cc : ByteArray} {mL : Nat} {own : String} {pc : Nat} {ls : List (Option Value)} {σ : Mem}
def QI (X : AX) (r0 : Int32 × Mem) : Prop := aQ X = MQ (aBelow X) (va_Qi (fun v (_ : Unit) => v = r0.1) (fun _ t => HO (aG X) r0.2 t) (gA (aG X))) (aArgs X) (aS X) (aCe X) (aSl X) (gA (aG X))
def QV (X : AX) (r0 : Int32 × Mem) : Prop := aQ X = MQ (aBelow X) (va_Qv (fun (_ : Unit) => True) (fun _ t => HO (aG X) r0.2 t) (gA (aG X))) (aArgs X) (aS X) (aCe X) (aSl X) (gA (aG X))
theorem a_iret {v : Int32} (hX : CX X cc mL own) (hQ : QI X r0) (hr : (aMeth X).sig.returnType = some .int) (d : decode cc pc = .ok (.ireturn, 1)) : AWo X r0 pc ls [.int v] σ (some (v, σ)) := fun ho H locs lsA h1 h2 h3 h4 => by
  cases ho
  rw [hQ]
  exact W.iret (v := v) hX.1 hX.2.1 hr (fun t ht hW => ⟨⟨v, (), rfl, rfl, HO.warm hW (by rw [ht]; exact h2) hX.2.2.2.2.2.1 h3 hX.2.2.2.2.2.2.1⟩, h4.F ht⟩) h4.2.2 d hX.2.2.2.2.2.2.2.1
theorem a_zret0 {v : Int32} (hz : v = 0 ∨ v = 1) (hX : CX X cc mL own) (hQ : QI X r0) (hr : (aMeth X).sig.returnType = some .boolean) (d : decode cc pc = .ok (.ireturn, 1)) : AWo X r0 pc ls [.int v] σ (some (v, σ)) := fun ho H locs lsA h1 h2 h3 h4 => by
  cases ho
  rw [hQ]
  exact W.zret (v := v) hX.1 hX.2.1 hr (by rcases hz with rfl | rfl <;> rfl) (fun t ht hW => ⟨⟨v, (), rfl, rfl, HO.warm hW (by rw [ht]; exact h2) hX.2.2.2.2.2.1 h3 hX.2.2.2.2.2.2.1⟩, h4.F ht⟩) h4.2.2 d hX.2.2.2.2.2.2.2.1
theorem a_zret {v : Int32} (hX : CX X cc mL own) (hQ : QI X r0) (hr : (aMeth X).sig.returnType = some .boolean) (d : decode cc pc = .ok (.ireturn, 1)) : AWo X r0 pc ls [.int v] σ (obind (zchk v) fun z => some (z, σ)) := fun ho => by
  obtain ⟨z, hz, ho1⟩ := obind_inv ho
  obtain ⟨rfl, hz01⟩ := zchk_some hz
  exact a_zret0 hz01 hX hQ hr d ho1
theorem a_vret (hX : CX X cc mL own) (hQ : QV X r0) (hr : (aMeth X).sig.returnType = none) (d : decode cc pc = .ok (.return_, 1)) : AWo X r0 pc ls [] σ (some (0, σ)) := fun ho H locs lsA h1 h2 h3 h4 => by
  cases ho
  rw [hQ]
  exact W.vret hX.1 hX.2.1 hr (fun t ht hW => ⟨⟨(), rfl, trivial, HO.warm hW (by rw [ht]; exact h2) hX.2.2.2.2.2.1 h3 hX.2.2.2.2.2.2.1⟩, h4.F ht⟩) h4.2.2 d hX.2.2.2.2.2.2.2.1
end ENDS
theorem lv_args_get {ρ : Nat → Nat} : ∀ (as : List Value) (b i : Nat) (v : Value), (∀ u ∈ as, u.category = 1) → as[i]? = some v → (b + i, cv ρ v) ∈ lv_args b (as.map (cv ρ))
  | [], b, i, v, _, h => by simp at h
  | a :: t, b, 0, v, hc, h => by
    have e : a = v := by simpa using h
    subst e
    simp [lv_args]
  | a :: t, b, i + 1, v, hc, h => by
    have h1 := lv_args_get (ρ := ρ) t (b + 1) i v (fun u hu => hc u (List.mem_cons_of_mem _ hu)) (by simpa using h)
    have h2 : (cv ρ a).category = 1 := by rw [cv_cat]; exact hc a List.mem_cons_self
    simp only [List.map_cons, lv_args, h2]
    rw [show b + (i + 1) = b + 1 + i by omega]
    exact List.mem_cons_of_mem _ h1
theorem lg_sl_len {ρ : Nat → Nat} : ∀ (as : List Value), (∀ u ∈ as, u.category = 1) → (lg_sl (as.map (cv ρ))).length = as.length
  | [], _ => rfl
  | a :: t, hc => by
    have h1 := lg_sl_len (ρ := ρ) t (fun u hu => hc u (List.mem_cons_of_mem _ hu))
    have h2 : (cv ρ a).category = 1 := by rw [cv_cat]; exact hc a List.mem_cons_self
    unfold lg_sl at h1 ⊢
    simp only [List.map_cons, List.flatMap_cons, List.length_append, h1]
    simp [h2]
    omega
theorem lvO_entry {ρ : Nat → Nat} (as : List Value) (mL : Nat) (hc : ∀ u ∈ as, u.category = 1) (hn : as.length ≤ mL) : lvO ρ ((lg_sl (as.map (cv ρ)) ++ List.replicate (mL - (lg_sl (as.map (cv ρ))).length) Slot.unset).toArray) (as.map some ++ List.replicate (mL - as.length) none) := by
  have hl := lv_entry (as.map (cv ρ)) (n := mL) (by rw [lg_sl_len as hc]; exact hn)
  refine ⟨by rw [hl.1]; simp; omega, hl.2.1, fun i v hv => ?_⟩
  have hi : i < as.length := by
    apply Nat.lt_of_not_le
    intro h
    rw [List.getElem?_append_right (by simpa using h)] at hv
    have := List.mem_of_getElem? hv
    simp at this
  rw [List.getElem?_append_left (by simpa using hi)] at hv
  have hv2 : as[i]? = some v := by simpa using hv
  have hm := lv_args_get (ρ := ρ) as 0 i v hc hv2
  rw [Nat.zero_add] at hm
  exact ⟨hl.2.2 _ hm, hc v (List.mem_of_getElem? hv2)⟩
theorem ci_of {l : Launch} {y : MethodName} {b : ByteArray} {mL fr lo : Nat} {ret : Option FieldType} {as : List Value} {σ : Mem} {oo : Option (Int32 × Mem)} (hy : plainName y.cls = true) (hc : ∀ u ∈ as, u.category = 1) (hn : as.length ≤ mL)
    (body : ∀ (X : AX) (r : Int32 × Mem), aL X = l → CX X b mL y.cls → (aR X).frames = fr ∧ (aR X).locals = lo ∧ aCe X ≤ (aR X).cells ∧ aSl X ≤ (aR X).slots → QI X r → (aMeth X).sig.returnType = ret → AWo X r 0 (as.map some ++ List.replicate (mL - as.length) none) [] σ oo) : CI l y b mL ret fr lo as σ oo := by
  intro g r hoo
  refine Met.ofW (cc := b) (maxL := mL) (ret := ret) hy rfl ?_
  intro p e s m args below meth c s₁ B hml hv
  obtain ⟨rfl, hP, hK, hD, hN⟩ := hv
  have hts := atoms_spec (ws := .code y b mL ret :: BIG) B.pre
  rw [lg_entry_eq]
  by_cases hb : ∀ q, s.heap.size ≤ q → gb g ≤ q
  · exact body (p, l, e, rmOf fr lo, s, m, (as.map (cv (gr g))).toArray, below, meth, c, g, MQ below (va_Qi (fun v (_ : Unit) => v = r.1) (fun _ t => HO g r.2 t) (gA g)) (as.map (cv (gr g))).toArray s 0 0 (gA g), 0, 0) r rfl
      ⟨B.exec, B.bytes, hml, findClass_of_methodNamed B.named, fun w hw => hts w (List.mem_cons_of_mem _ hw), hK, hN, B.notSynchronized, hb⟩ ⟨rfl, rfl, Nat.le_refl _, Nat.le_refl _⟩ rfl B.returns hoo s.heap [] _ (lvO_entry as mL hc hn) hP hD va_S.rf
  · exfalso
    apply hb
    intro q hq
    have h0 := hP 0 _ (wd_get s_0)
    have h1 := hD.2 0 _ (wd_get (g := g) (σ := σ) s_0)
    have h2 := h0.lt
    exact Nat.le_trans h1 (Nat.le_trans (Nat.le_of_lt h2) hq)
theorem cv_of {l : Launch} {y : MethodName} {b : ByteArray} {mL fr lo : Nat} {as : List Value} {σ : Mem} {oo : Option (Int32 × Mem)} (hy : plainName y.cls = true) (hc : ∀ u ∈ as, u.category = 1) (hn : as.length ≤ mL)
    (body : ∀ (X : AX) (r : Int32 × Mem), aL X = l → CX X b mL y.cls → (aR X).frames = fr ∧ (aR X).locals = lo ∧ aCe X ≤ (aR X).cells ∧ aSl X ≤ (aR X).slots → QV X r → (aMeth X).sig.returnType = none → AWo X r 0 (as.map some ++ List.replicate (mL - as.length) none) [] σ oo) : CV l y b mL fr lo as σ oo := by
  intro g r hoo
  refine Met.ofW (cc := b) (maxL := mL) (ret := none) hy rfl ?_
  intro p e s m args below meth c s₁ B hml hv
  obtain ⟨rfl, hP, hK, hD, hN⟩ := hv
  have hts := atoms_spec (ws := .code y b mL none :: BIG) B.pre
  rw [lg_entry_eq]
  by_cases hb : ∀ q, s.heap.size ≤ q → gb g ≤ q
  · exact body (p, l, e, rmOf fr lo, s, m, (as.map (cv (gr g))).toArray, below, meth, c, g, MQ below (va_Qv (fun (_ : Unit) => True) (fun _ t => HO g r.2 t) (gA g)) (as.map (cv (gr g))).toArray s 0 0 (gA g), 0, 0) r rfl
      ⟨B.exec, B.bytes, hml, findClass_of_methodNamed B.named, fun w hw => hts w (List.mem_cons_of_mem _ hw), hK, hN, B.notSynchronized, hb⟩ ⟨rfl, rfl, Nat.le_refl _, Nat.le_refl _⟩ rfl B.returns hoo s.heap [] _ (lvO_entry as mL hc hn) hP hD va_S.rf
  · exfalso
    apply hb
    intro q hq
    have h0 := hP 0 _ (wd_get s_0)
    have h1 := hD.2 0 _ (wd_get (g := g) (σ := σ) s_0)
    have h2 := h0.lt
    exact Nat.le_trans h1 (Nat.le_trans (Nat.le_of_lt h2) hq)

