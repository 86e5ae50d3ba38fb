/-! ===== methods that throw ===== -/
abbrev rmX (fr lo : Nat) : Room := { frames := fr, cells := 1, slots := 6, locals := lo }
def xName : Nat → String
  | 1 => "java/lang/IndexOutOfBoundsException"
  | 2 => "java/lang/IllegalArgumentException"
  | _ => "java/lang/IllegalStateException"
def xNames : List String := ["java/lang/RuntimeException", "java/lang/Exception"]
def strL : List (Nat × String) := [(58, "no such package or place"), (68, "first, second, third or pre is out of range"), (89, "the package has 4 versions, or one like this"), (108, "no such version"), (120, "the versions are of unlike packages"), (134, "platforms is out of range"), (142, "no such version or feature"), (150, "no such kind"), (155, "a, b, c or pre is out of range"), (160, "there are 30 ranges"), (175, "no such kind or range"), (181, "no such range or version"), (186, "no such version, package, range, kind or feature"), (188, "platforms or features is out of range"), (197, "the version has 5 needs"), (202, "no such workspace, package or range"), (204, "features is out of range"), (213, "there are 6 demands"), (216, "no such package or range"), (222, "there are 8 advisories"), (230, "no such package"), (235, "the package would replace itself"), (240, "no such platform"), (245, "workspaces or updated is out of range"), (288, "there is no solution"), (293, "steps is out of range"), (308, "the package is not on the disk")]
def xwL : List Cond := [.castable (xName 1) (xName 1), .castable (xName 2) (xName 2), .castable (xName 3) (xName 3), .declares (Bundle.initS "java/lang/RuntimeException"), .declares (Bundle.initS "java/lang/Exception"), .declares (Bundle.initS Bundle.tN)]
def HP (g : GX) (σ : Mem) (U : State) : Prop := va_P (gD g) vwCl (wd g σ) U.heap ∧ va_D (fun q => gb g ≤ q) (wd g σ)
def EX (g : GX) (U : State) : Prop := (∀ q ∈ strL, ∃ a, vk_R RX11 q.1 q.2 a U) ∧ vx_Zq Bundle.tN "UNASSIGNED_STACK" Bundle.steD (gA g) U U.heap ∧ vx_Zq Bundle.tN "SUPPRESSED_SENTINEL" Bundle.listD (gA g) U U.heap ∧ (∀ w ∈ xwL, w.before #[] U = true)
theorem EX.blind {g : GX} {a : Array Value} {U : State} {gg : JFrame} {mk : MethodId} (h : EX g U) : EX g (U.calling gg mk a) :=
  ⟨fun q hq => (h.1 q hq).imp fun _ z => vk_R.same rfl z, vx_Zq.moved (u := U) (U := U.calling gg mk a) (Vm.Alike.refl U.vm) h.2.1, vx_Zq.moved (u := U) (U := U.calling gg mk a) (Vm.Alike.refl U.vm) h.2.2.1, fun w hw => by
    have h1 := h.2.2.2 w hw
    simp only [xwL, List.mem_cons, List.not_mem_nil, or_false] at hw
    rcases hw with rfl | rfl | rfl | rfl | rfl | rfl <;> exact va_Nw.same rfl (u := U) (U := U.calling gg mk a) rfl h1⟩
theorem EX.warm {g : GX} {s U : State} {H : Heap} (hW : s.WarmedH U.vm) (hH : U.heap = H) (hk : ∀ q : Nat, q < s.heap.size → ¬ gA g q → H[q]? = s.heap[q]?) (h : EX g s) : EX g U :=
  ⟨fun q hq => (h.1 q hq).imp fun _ z => vk_R.warm hW z, by rw [hH]; exact vx_Zq.moved hW.alike (h.2.1.kept hk), by rw [hH]; exact vx_Zq.moved hW.alike (h.2.2.1.kept hk), fun w hw => by
    have h1 := h.2.2.2 w hw
    simp only [xwL, List.mem_cons, List.not_mem_nil, or_false] at hw
    rcases hw with rfl | rfl | rfl | rfl | rfl | rfl <;> first | exact va_Nw.warmC hW h1 | exact va_Nw.warmD hW h1⟩
/-- the contract of a method that throws: if its mirror is ((0, v), m) it returns v; if it is ((k, _), m) it throws the k-th exception; the memory is m -/
def CT (l : Launch) (y : MethodName) (b : ByteArray) (mL : Nat) (ret : Option FieldType) (fr lo : Nat) (as : List Value) (σ : Mem) (oo : Option ((Nat × Int32) × Mem)) : Prop :=
  ∀ (g : GX) (r : (Nat × Int32) × Mem), oo = some r → vx_Met l y (.code y b mL ret :: BIG) (rmX fr lo) (va_Pc (as.map (cv (gr g))) (fun U => HO g σ U ∧ EX g U)) (va_Qi (fun v (_ : Unit) => r.1.1 = 0 ∧ v = r.1.2) (fun _ t => HO g r.2 t) (gA g)) (vx_X (fun _ : Unit => True) (fun E _ t => r.1.1 ≠ 0 ∧ E = xName r.1.1 ∧ HP g r.2 t) (gA g)) 1 6 (gA g)
def QT (X : AX) (r0 : (Nat × Int32) × Mem) : Prop := aQ X = vx_MQ (aBelow X) (va_Qi (fun v (_ : Unit) => r0.1.1 = 0 ∧ v = r0.1.2) (fun _ t => HO (aG X) r0.2 t) (gA (aG X))) (vx_X (fun _ : Unit => True) (fun E _ t => r0.1.1 ≠ 0 ∧ E = xName r0.1.1 ∧ HP (aG X) r0.2 t) (gA (aG X))) (aArgs X) (aS X) 1 6 (gA (aG X)) ∧ (aR X).cells = 1 ∧ (aR X).slots = 6 ∧ (aCe X = 0 ∧ aSl X = 0) ∧ (aL X).stackTraces = false ∧ EX (aG X) (aS X) ∧ (∀ x ∈ (aC X).exceptionTable.toList, False)
/-- what a throw of the k-th exception links: its class, the text, the constructor -/
def THR (own : String) (ik is ic k : Nat) (text : String) : Prop := Cond.classLink own ik (xName k) ∈ BIG ∧ Cond.initialized (xName k) ∈ BIG ∧ (is, text) ∈ strL ∧ own = RX11 ∧ Bundle.fit (xName k) = true ∧ (∀ w ∈ (vx_atS own ic (xName k) xNames).filter goodWord, w ∈ BIG) ∧ (∀ w ∈ (vx_atS own ic (xName k) xNames).filter (fun w => !goodWord w), w ∈ xwL) ∧ (∀ w ∈ Cond.classLink own ik (xName k) :: Cond.initialized (xName k) :: vx_atS own ic (xName k) xNames, vx_ot w = true)
section TENDS
variable {X : AX} {r0 : (Nat × Int32) × Mem} {cc : ByteArray} {mL : Nat} {own : String} {pc : Nat} {ls : List (Option Value)} {st : List Value} {σ : Mem}
theorem a_tiret {v : Int32} (hX : CX X cc mL own) (hQ : QT X r0) (hr : (aMeth X).sig.returnType = some .int) (d : decode cc pc = .ok (.ireturn, 1)) : AWo X r0 pc ls [.int v] σ (some ((0, v), σ)) := fun ho H locs lsA h1 h2 h3 h4 => by
  cases ho
  rw [hQ.1]
  refine vx_ret (W.widen (k := 1) (n := 6) (by rw [hQ.2.2.2.1.1]; exact Nat.zero_le _) (by rw [hQ.2.2.2.1.2]; exact Nat.zero_le _) ?_)
  exact W.iret (v := v) hX.1 hX.2.1 hr (fun t ht hW => ⟨⟨v, (), rfl, ⟨rfl, rfl⟩, HO.warm hW (by rw [ht]; exact h2) hX.2.2.2.2.2.1 h3 hX.2.2.2.2.2.2.1⟩, h4.F ht⟩) h4.2.2 d hX.2.2.2.2.2.2.2.1
theorem a_tzret0 {v : Int32} (hz : v = 0 ∨ v = 1) (hX : CX X cc mL own) (hQ : QT X r0) (hr : (aMeth X).sig.returnType = some .boolean) (d : decode cc pc = .ok (.ireturn, 1)) : AWo X r0 pc ls [.int v] σ (some ((0, v), σ)) := fun ho H locs lsA h1 h2 h3 h4 => by
  cases ho
  rw [hQ.1]
  refine vx_ret (W.widen (k := 1) (n := 6) (by rw [hQ.2.2.2.1.1]; exact Nat.zero_le _) (by rw [hQ.2.2.2.1.2]; exact Nat.zero_le _) ?_)
  exact W.zret (v := v) hX.1 hX.2.1 hr (by rcases hz with rfl | rfl <;> rfl) (fun t ht hW => ⟨⟨v, (), rfl, ⟨rfl, rfl⟩, HO.warm hW (by rw [ht]; exact h2) hX.2.2.2.2.2.1 h3 hX.2.2.2.2.2.2.1⟩, h4.F ht⟩) h4.2.2 d hX.2.2.2.2.2.2.2.1
theorem a_tzret {v : Int32} (hX : CX X cc mL own) (hQ : QT X r0) (hr : (aMeth X).sig.returnType = some .boolean) (d : decode cc pc = .ok (.ireturn, 1)) : AWo X r0 pc ls [.int v] σ (obind (zchk v) fun z => some ((0, z), σ)) := fun ho => by
  obtain ⟨z, hz, ho1⟩ := obind_inv ho
  obtain ⟨rfl, hz01⟩ := zchk_some hz
  exact a_tzret0 hz01 hX hQ hr d ho1
theorem a_throw {ik is ic k fr lo : Nat} {text : String} (hX : CX X cc mL own) (hR : (aR X).frames = fr ∧ (aR X).locals = lo ∧ aCe X ≤ (aR X).cells ∧ aSl X ≤ (aR X).slots) (hQ : QT X r0) (f : THR own ik is ic k text) (hk : k ≠ 0) (d0 : decode cc pc = .ok (.new ik, 3)) (d3 : decode cc (pc + 3) = .ok (.dup, 1)) (d4 : decode cc (pc + 4) = .ok (.ldc is, 2)) (d6 : decode cc (pc + 6) = .ok (.invokespecial ic, 3)) (d9 : decode cc (pc + 9) = .ok (.athrow, 1)) (hroom : 5 < fr ∧ 82 ≤ lo) (hl : ls.length = mL) : AWo X r0 pc ls [] σ (some ((k, 0), σ)) := fun ho H locs lsA h1 h2 h3 h4 => by
  cases ho
  obtain ⟨q1, q2, q3, ⟨qa, qb⟩, q4, q5, q6⟩ := hQ
  obtain ⟨f1, f2, f3, rfl, f5, f6, f7, f8⟩ := f
  obtain ⟨sa, hsa⟩ := q5.1 _ f3
  have hts := hX.2.2.2.2.1
  have ha : ∀ w ∈ vx_atS RX11 ic (xName k) xNames, w.before (aArgs X) (aS X) = true := vx_hat (fun w hw => hts w (f6 w hw)) f7 (fun w hw => by
    have h1 := q5.2.2.2 w hw
    simp only [xwL, List.mem_cons, List.not_mem_nil, or_false] at hw
    rcases hw with rfl | rfl | rfl | rfl | rfl | rfl <;> exact va_Nw.use rfl h1)
  rw [q1]
  exact vx_throwS (mc := 1) (ms := 6) hX.1 hX.2.1 q4 (names := xNames) hX.2.2.2.1 f5 (by decide) (hts _ f1) (hts _ f2) hsa ha f8 q5.2.1 q5.2.2.1 h4 (by rw [h1.1, hl, hX.2.2.1]) d0 d3 d4 d6 d9 (fun x hx => (q6 x hx).elim) (by rw [hR.1]; exact hroom.1) (by rw [hR.2.1]; exact hroom.2) (by rw [q2, qa]; exact Nat.le_refl _) (by rw [q3, qb]; exact Nat.le_refl _) hX.2.2.2.2.2.2.2.1
    (fun t hvm hz hkp => ⟨(), trivial, ⟨hk, rfl, h2.kept (fun k q hq => hkp q.1 (h2 k q hq).lt), h3⟩, ⟨Nat.le_trans h4.1 hz, fun q hq hn => by rw [hkp q (Nat.lt_of_lt_of_le hq h4.1)]; exact h4.2.1 q hq hn⟩⟩) h4.2.2 (by rw [qa]; exact Nat.le_refl _) (by rw [qb]; exact Nat.le_refl _)
theorem a_throwW {ik is ic k fr lo : Nat} {text : String} (hX : CX X cc mL own) (hR : (aR X).frames = fr ∧ (aR X).locals = lo ∧ aCe X ≤ (aR X).cells ∧ aSl X ≤ (aR X).slots) (hQ : QT X r0) (f : THR own ik is ic k text) (hk : k ≠ 0) (d0 : decode cc pc = .ok (.new ik, 3)) (d3 : decode cc (pc + 3) = .ok (.dup, 1)) (d4 : decode cc (pc + 4) = .ok (.ldc_w is, 3)) (d6 : decode cc (pc + 7) = .ok (.invokespecial ic, 3)) (d9 : decode cc (pc + 10) = .ok (.athrow, 1)) (hroom : 5 < fr ∧ 82 ≤ lo) (hl : ls.length = mL) : AWo X r0 pc ls [] σ (some ((k, 0), σ)) := fun ho H locs lsA h1 h2 h3 h4 => by
  cases ho
  obtain ⟨q1, q2, q3, ⟨qa, qb⟩, q4, q5, q6⟩ := hQ
  obtain ⟨f1, f2, f3, rfl, f5, f6, f7, f8⟩ := f
  obtain ⟨sa, hsa⟩ := q5.1 _ f3
  have hts := hX.2.2.2.2.1
  have ha : ∀ w ∈ vx_atS RX11 ic (xName k) xNames, w.before (aArgs X) (aS X) = true := vx_hat (fun w hw => hts w (f6 w hw)) f7 (fun w hw => by
    have h1 := q5.2.2.2 w hw
    simp only [xwL, List.mem_cons, List.not_mem_nil, or_false] at hw
    rcases hw with rfl | rfl | rfl | rfl | rfl | rfl <;> exact va_Nw.use rfl h1)
  rw [q1]
  exact vx_throwSW (mc := 1) (ms := 6) hX.1 hX.2.1 q4 (names := xNames) hX.2.2.2.1 f5 (by decide) (hts _ f1) (hts _ f2) hsa ha f8 q5.2.1 q5.2.2.1 h4 (by rw [h1.1, hl, hX.2.2.1]) d0 d3 d4 d6 d9 (fun x hx => (q6 x hx).elim) (by rw [hR.1]; exact hroom.1) (by rw [hR.2.1]; exact hroom.2) (by rw [q2, qa]; exact Nat.le_refl _) (by rw [q3, qb]; exact Nat.le_refl _) hX.2.2.2.2.2.2.2.1
    (fun t hvm hz hkp => ⟨(), trivial, ⟨hk, rfl, h2.kept (fun k q hq => hkp q.1 (h2 k q hq).lt), h3⟩, ⟨Nat.le_trans h4.1 hz, fun q hq hn => by rw [hkp q (Nat.lt_of_lt_of_le hq h4.1)]; exact h4.2.1 q hq hn⟩⟩) h4.2.2 (by rw [qa]; exact Nat.le_refl _) (by rw [qb]; exact Nat.le_refl _)
end TENDS
theorem ct_of {l : Launch} {y : MethodName} {b : ByteArray} {mL fr lo : Nat} {ret : Option FieldType} {as : List Value} {σ : Mem} {oo : Option ((Nat × Int32) × Mem)} (hy : plainName y.cls = true) (hc : ∀ u ∈ as, u.category = 1) (hn : as.length ≤ mL) (hlt : l.stackTraces = false)
    (body : ∀ (X : AX) (r : (Nat × Int32) × Mem), aL X = l → CX X b mL y.cls → (aR X).frames = fr ∧ (aR X).locals = lo ∧ aCe X ≤ (aR X).cells ∧ aSl X ≤ (aR X).slots → QT X r → (aMeth X).sig.returnType = ret → AWo X r 0 (as.map some ++ List.replicate (mL - as.length) none) [] σ oo) : CT l y b mL ret fr lo as σ oo := by
  intro g r hoo
  refine vx_ofW (cc := b) (maxL := mL) (ret := ret) hy rfl ?_
  intro p e s m args below meth c s₁ B hml hnt hv
  obtain ⟨rfl, ⟨hP, hK, hD, hN⟩, hE⟩ := hv
  have hts := atoms_spec (ws := .code y b mL ret :: BIG) B.pre
  rw [lg_entry_eq]
  by_cases hb : ∀ q, s.heap.size ≤ q → gb g ≤ q
  · exact body (p, l, e, rmX fr lo, s, m, (as.map (cv (gr g))).toArray, below, meth, c, g, vx_MQ below (va_Qi (fun v (_ : Unit) => r.1.1 = 0 ∧ v = r.1.2) (fun _ t => HO g r.2 t) (gA g)) (vx_X (fun _ : Unit => True) (fun E _ t => r.1.1 ≠ 0 ∧ E = xName r.1.1 ∧ HP g r.2 t) (gA g)) (as.map (cv (gr g))).toArray s 1 6 (gA g), 0, 0) r rfl
      ⟨B.exec, B.bytes, hml, findClass_of_methodNamed B.named, fun w hw => hts w (List.mem_cons_of_mem _ hw), hK, hN, B.notSynchronized, hb⟩ ⟨rfl, rfl, Nat.zero_le _, Nat.zero_le _⟩ ⟨rfl, rfl, rfl, ⟨rfl, rfl⟩, hlt, hE, hnt⟩ B.returns hoo s.heap [] _ (lvO_entry as mL hc hn) hP hD va_S.rf
  · exfalso
    apply hb
    intro q hq
    have h0 := hP 0 _ (wd_get s_0)
    have h1 := hD.2 0 _ (wd_get (g := g) (σ := σ) s_0)
    have h2 := h0.lt
    exact Nat.le_trans h1 (Nat.le_trans (Nat.le_of_lt h2) hq)
theorem thl_1 : ∀ w ∈ (vx_atS RX11 60 (xName 1) xNames).filter goodWord, w ∈ lw_tbl := by decide +kernel
theorem thl_2 : ∀ w ∈ (vx_atS RX11 70 (xName 2) xNames).filter goodWord, w ∈ lw_tbl := by decide +kernel
theorem thl_3 : ∀ w ∈ (vx_atS RX11 91 (xName 3) xNames).filter goodWord, w ∈ lw_tbl := by decide +kernel
theorem thg_1 : ∀ w ∈ (vx_atS RX11 60 (xName 1) xNames).filter goodWord, w ∈ BIG := fun w hw => List.mem_filter.mpr ⟨thl_1 w hw, (List.mem_filter.mp hw).2⟩
theorem thx_1 : ∀ w ∈ (vx_atS RX11 60 (xName 1) xNames).filter (fun w => !goodWord w), w ∈ xwL := by decide +kernel
theorem thg_2 : ∀ w ∈ (vx_atS RX11 70 (xName 2) xNames).filter goodWord, w ∈ BIG := fun w hw => List.mem_filter.mpr ⟨thl_2 w hw, (List.mem_filter.mp hw).2⟩
theorem thx_2 : ∀ w ∈ (vx_atS RX11 70 (xName 2) xNames).filter (fun w => !goodWord w), w ∈ xwL := by decide +kernel
theorem thg_3 : ∀ w ∈ (vx_atS RX11 91 (xName 3) xNames).filter goodWord, w ∈ BIG := fun w hw => List.mem_filter.mpr ⟨thl_3 w hw, (List.mem_filter.mp hw).2⟩
theorem thx_3 : ∀ w ∈ (vx_atS RX11 91 (xName 3) xNames).filter (fun w => !goodWord w), w ∈ xwL := by decide +kernel
theorem tho_1_56 : ∀ w ∈ Cond.classLink RX11 56 (xName 1) :: Cond.initialized (xName 1) :: vx_atS RX11 60 (xName 1) xNames, vx_ot w = true := by decide +kernel
theorem tho_2_66 : ∀ w ∈ Cond.classLink RX11 66 (xName 2) :: Cond.initialized (xName 2) :: vx_atS RX11 70 (xName 2) xNames, vx_ot w = true := by decide +kernel
theorem tho_3_87 : ∀ w ∈ Cond.classLink RX11 87 (xName 3) :: Cond.initialized (xName 3) :: vx_atS RX11 91 (xName 3) xNames, vx_ot w = true := by decide +kernel
theorem th_X11_56_108 : THR RX11 56 108 60 1 "no such version" := ⟨bg 668 (by decide +kernel) rfl, bg 66 (by decide +kernel) rfl, by decide +kernel, rfl, by decide +kernel, thg_1, thx_1, tho_1_56⟩
theorem th_X11_56_142 : THR RX11 56 142 60 1 "no such version or feature" := ⟨bg 668 (by decide +kernel) rfl, bg 66 (by decide +kernel) rfl, by decide +kernel, rfl, by decide +kernel, thg_1, thx_1, tho_1_56⟩
theorem th_X11_56_150 : THR RX11 56 150 60 1 "no such kind" := ⟨bg 668 (by decide +kernel) rfl, bg 66 (by decide +kernel) rfl, by decide +kernel, rfl, by decide +kernel, thg_1, thx_1, tho_1_56⟩
theorem th_X11_56_175 : THR RX11 56 175 60 1 "no such kind or range" := ⟨bg 668 (by decide +kernel) rfl, bg 66 (by decide +kernel) rfl, by decide +kernel, rfl, by decide +kernel, thg_1, thx_1, tho_1_56⟩
theorem th_X11_56_181 : THR RX11 56 181 60 1 "no such range or version" := ⟨bg 668 (by decide +kernel) rfl, bg 66 (by decide +kernel) rfl, by decide +kernel, rfl, by decide +kernel, thg_1, thx_1, tho_1_56⟩
theorem th_X11_56_186 : THR RX11 56 186 60 1 "no such version, package, range, kind or feature" := ⟨bg 668 (by decide +kernel) rfl, bg 66 (by decide +kernel) rfl, by decide +kernel, rfl, by decide +kernel, thg_1, thx_1, tho_1_56⟩
theorem th_X11_56_202 : THR RX11 56 202 60 1 "no such workspace, package or range" := ⟨bg 668 (by decide +kernel) rfl, bg 66 (by decide +kernel) rfl, by decide +kernel, rfl, by decide +kernel, thg_1, thx_1, tho_1_56⟩
theorem th_X11_56_216 : THR RX11 56 216 60 1 "no such package or range" := ⟨bg 668 (by decide +kernel) rfl, bg 66 (by decide +kernel) rfl, by decide +kernel, rfl, by decide +kernel, thg_1, thx_1, tho_1_56⟩
theorem th_X11_56_230 : THR RX11 56 230 60 1 "no such package" := ⟨bg 668 (by decide +kernel) rfl, bg 66 (by decide +kernel) rfl, by decide +kernel, rfl, by decide +kernel, thg_1, thx_1, tho_1_56⟩
theorem th_X11_56_240 : THR RX11 56 240 60 1 "no such platform" := ⟨bg 668 (by decide +kernel) rfl, bg 66 (by decide +kernel) rfl, by decide +kernel, rfl, by decide +kernel, thg_1, thx_1, tho_1_56⟩
theorem th_X11_56_58 : THR RX11 56 58 60 1 "no such package or place" := ⟨bg 668 (by decide +kernel) rfl, bg 66 (by decide +kernel) rfl, by decide +kernel, rfl, by decide +kernel, thg_1, thx_1, tho_1_56⟩
theorem th_X11_66_120 : THR RX11 66 120 70 2 "the versions are of unlike packages" := ⟨bg 739 (by decide +kernel) rfl, bg 67 (by decide +kernel) rfl, by decide +kernel, rfl, by decide +kernel, thg_2, thx_2, tho_2_66⟩
theorem th_X11_66_134 : THR RX11 66 134 70 2 "platforms is out of range" := ⟨bg 739 (by decide +kernel) rfl, bg 67 (by decide +kernel) rfl, by decide +kernel, rfl, by decide +kernel, thg_2, thx_2, tho_2_66⟩
theorem th_X11_66_155 : THR RX11 66 155 70 2 "a, b, c or pre is out of range" := ⟨bg 739 (by decide +kernel) rfl, bg 67 (by decide +kernel) rfl, by decide +kernel, rfl, by decide +kernel, thg_2, thx_2, tho_2_66⟩
theorem th_X11_66_188 : THR RX11 66 188 70 2 "platforms or features is out of range" := ⟨bg 739 (by decide +kernel) rfl, bg 67 (by decide +kernel) rfl, by decide +kernel, rfl, by decide +kernel, thg_2, thx_2, tho_2_66⟩
theorem th_X11_66_204 : THR RX11 66 204 70 2 "features is out of range" := ⟨bg 739 (by decide +kernel) rfl, bg 67 (by decide +kernel) rfl, by decide +kernel, rfl, by decide +kernel, thg_2, thx_2, tho_2_66⟩
theorem th_X11_66_245 : THR RX11 66 245 70 2 "workspaces or updated is out of range" := ⟨bg 739 (by decide +kernel) rfl, bg 67 (by decide +kernel) rfl, by decide +kernel, rfl, by decide +kernel, thg_2, thx_2, tho_2_66⟩
theorem th_X11_66_293 : THR RX11 66 293 70 2 "steps is out of range" := ⟨bg 739 (by decide +kernel) rfl, bg 67 (by decide +kernel) rfl, by decide +kernel, rfl, by decide +kernel, thg_2, thx_2, tho_2_66⟩
theorem th_X11_66_68 : THR RX11 66 68 70 2 "first, second, third or pre is out of range" := ⟨bg 739 (by decide +kernel) rfl, bg 67 (by decide +kernel) rfl, by decide +kernel, rfl, by decide +kernel, thg_2, thx_2, tho_2_66⟩
theorem th_X11_87_160 : THR RX11 87 160 91 3 "there are 30 ranges" := ⟨bg 767 (by decide +kernel) rfl, bg 68 (by decide +kernel) rfl, by decide +kernel, rfl, by decide +kernel, thg_3, thx_3, tho_3_87⟩
theorem th_X11_87_197 : THR RX11 87 197 91 3 "the version has 5 needs" := ⟨bg 767 (by decide +kernel) rfl, bg 68 (by decide +kernel) rfl, by decide +kernel, rfl, by decide +kernel, thg_3, thx_3, tho_3_87⟩
theorem th_X11_87_213 : THR RX11 87 213 91 3 "there are 6 demands" := ⟨bg 767 (by decide +kernel) rfl, bg 68 (by decide +kernel) rfl, by decide +kernel, rfl, by decide +kernel, thg_3, thx_3, tho_3_87⟩
theorem th_X11_87_222 : THR RX11 87 222 91 3 "there are 8 advisories" := ⟨bg 767 (by decide +kernel) rfl, bg 68 (by decide +kernel) rfl, by decide +kernel, rfl, by decide +kernel, thg_3, thx_3, tho_3_87⟩
theorem th_X11_87_235 : THR RX11 87 235 91 3 "the package would replace itself" := ⟨bg 767 (by decide +kernel) rfl, bg 68 (by decide +kernel) rfl, by decide +kernel, rfl, by decide +kernel, thg_3, thx_3, tho_3_87⟩
theorem th_X11_87_288 : THR RX11 87 288 91 3 "there is no solution" := ⟨bg 767 (by decide +kernel) rfl, bg 68 (by decide +kernel) rfl, by decide +kernel, rfl, by decide +kernel, thg_3, thx_3, tho_3_87⟩
theorem th_X11_87_308 : THR RX11 87 308 91 3 "the package is not on the disk" := ⟨bg 767 (by decide +kernel) rfl, bg 68 (by decide +kernel) rfl, by decide +kernel, rfl, by decide +kernel, thg_3, thx_3, tho_3_87⟩
theorem th_X11_87_89 : THR RX11 87 89 91 3 "the package has 4 versions, or one like this" := ⟨bg 767 (by decide +kernel) rfl, bg 68 (by decide +kernel) rfl, by decide +kernel, rfl, by decide +kernel, thg_3, thx_3, tho_3_87⟩
