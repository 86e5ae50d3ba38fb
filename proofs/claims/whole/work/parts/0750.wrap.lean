/-! ===== the law's own calls: they catch, and lay the answer into the row of one long ===== -/
def gτ (g : GX) (τ : Nat → Int64) : GX := (g.1, g.2.1, g.2.2.1, g.2.2.2.1, g.2.2.2.2.1, g.2.2.2.2.2.1, τ)
def isShort : Option SE → Bool
  | some (.inr (t, _)) => decide (t < 2)
  | _ => true
theorem shp_long : ∀ i, i < 114 → isShort shp[i]? = true := by decide +kernel
theorem sE_τ {g : GX} {σ : Mem} {τ : Nat → Int64} {k : Nat} {e : SE} (h : isShort (some e) = true) : sE (gτ g τ) σ k e = sE g σ k e := by
  rcases e with o | ⟨t, n⟩
  · rfl
  · match t with
    | 0 => rfl
    | 1 => rfl
    | t + 2 =>
      simp only [isShort, decide_eq_true_eq] at h
      omega
theorem wd_setL {g : GX} {σ : Mem} {τ : Nat → Int64} : (wd g σ).set 114 (gr g 114, .inl (g.2.2.2.1, 1, .inr (.inl τ))) = wd (gτ g τ) σ := by
  apply List.ext_getElem?
  intro i
  rw [List.getElem?_set]
  have h114 := wd_get (g := g) (σ := σ) s_114
  have hl : 114 < (wd g σ).length := (List.getElem?_eq_some_iff.mp h114).1
  by_cases hi : 114 = i
  · subst hi
    rw [if_pos rfl, if_pos hl, wd_get s_114]
    rfl
  · rw [if_neg hi]
    cases hs : shp[i]? with
    | none =>
      unfold wd
      rw [wdL_get, wdL_get, hs]
      rfl
    | some e =>
      rw [wd_get hs, wd_get hs]
      have hlt : i < 114 := by
        have h1 : i < shp.length := (List.getElem?_eq_some_iff.mp hs).1
        have h2 : shp.length = 115 := rfl
        omega
      have h3 := shp_long i hlt
      rw [hs] at h3
      rw [sE_τ h3]
      rfl
def ncL : List (String × String) := [(xName 2, xName 1), (xName 3, xName 1), (xName 3, xName 2)]
def EN (U : State) : Prop := ∀ q ∈ ncL, va_Nc q.1 q.2 U
theorem EN.moved {u U : State} (hvm : u.vm.Alike U.vm) (h : EN u) : EN U := fun q hq => va_Nc.moved hvm (h q hq)
def wres (km : Nat → Option Int32) (τ : Nat → Int64) : Option ((Nat × Int32) × Mem) → Option ((Int32 × (Nat → Int64)) × Mem)
  | none => none
  | some ((0, v), m) => some ((0, vp_updL τ 0 v.toInt64), m)
  | some ((k + 1, _), m) => match km (k + 1) with
    | some j => some ((j, τ), m)
    | none => none
def wresZ (km : Nat → Option Int32) (τ : Nat → Int64) : Option ((Nat × Int32) × Mem) → Option ((Int32 × (Nat → Int64)) × Mem)
  | none => none
  | some ((0, v), m) => some ((0, vp_updL τ 0 (if v = 0 then 0 else 1)), m)
  | some ((k + 1, _), m) => match km (k + 1) with
    | some j => some ((j, τ), m)
    | none => none
abbrev RW : Type := (Int32 × (Nat → Int64)) × Mem
def CW (l : Launch) (y : MethodName) (b : ByteArray) (mL : Nat) (hh : List (Nat × Nat × Nat × Nat)) (fr lo : Nat) (as : List Value) (σ : Mem) (oo : (Nat → Int64) → Option RW) : Prop :=
  ∀ (g : GX) (r : RW), oo (gt g) = some r → vx_Met l y (.codeWith y b mL (some .int) hh :: BIG) (rmX fr lo) (va_Pc (as.map (cv (gr g))) (fun U => HO g σ U ∧ EX g U ∧ EN U)) (va_Qi (fun v (_ : Unit) => v = r.1.1) (fun _ t => HP (gτ g r.1.2) r.2 t) (gA g)) (vx_X (fun _ : Unit => False) (fun _ _ _ => True) (gA g)) 1 6 (gA g)
def QW (X : AX) (r0 : RW) : Prop := aQ X = vx_MQ (aBelow X) (va_Qi (fun v (_ : Unit) => v = r0.1.1) (fun _ t => HP (gτ (aG X) r0.1.2) r0.2 t) (gA (aG X))) (vx_X (fun _ : Unit => False) (fun _ _ _ => True) (gA (aG X))) (aArgs X) (aS X) 1 6 (gA (aG X)) ∧ (aR X).cells = 1 ∧ (aR X).slots = 6 ∧ aCe X = 0 ∧ aSl X = 0 ∧ EX (aG X) (aS X) ∧ EN (aS X)
/-- the k-th exception is caught at pc: the handler answers j -/
def HND (own : String) (cc : ByteArray) (mL : Nat) (T : List ExceptionTableEntry) (pc k : Nat) (j : Int32) : Prop :=
  ∃ (pre suf : List ExceptionTableEntry) (x : ExceptionTableEntry) (i pb : Nat) (n : Int), T = pre ++ x :: suf ∧ (∀ z ∈ pre, z.catchType ≠ 0 ∧ ∃ nm : String, Cond.classLink own z.catchType nm ∈ BIG ∧ (xName k, nm) ∈ ncL) ∧ covers x pc = true ∧ x.catchType ≠ 0 ∧ Cond.classLink own x.catchType (xName k) ∈ BIG ∧ Cond.castable (xName k) (xName k) ∈ xwL ∧ i < mL ∧ ((decode cc x.handlerPc = .ok (.astore i, 2) ∧ pb = x.handlerPc + 2) ∨ (∃ k4 : Fin 4, (k4 : Nat) = i ∧ decode cc x.handlerPc = .ok (.astore_n k4, 1) ∧ pb = x.handlerPc + 1)) ∧ decode cc pb = .ok (.iconst n, 1) ∧ Int32.ofInt n = j ∧ decode cc (pb + 1) = .ok (.ireturn, 1)
section WRAPS
variable {X : AX} {r0 : RW} {cc : ByteArray} {mL : Nat} {own : String} {pc : Nat} {ls : List (Option Value)} {σ : Mem}
theorem w_ret {H : Heap} {locs : List Loc} {lsA : Array Slot} {pc : Nat} {v : Int32} {τ : Nat → Int64} {m : Mem} (hX : CX X cc mL own) (hQ : QW X ((v, τ), m)) (hr : (aMeth X).sig.returnType = some .int) (h2 : va_P (gD (aG X)) vwCl (wd (gτ (aG X) τ) m) H) (h3 : va_D (gA (aG X)) (wd (gτ (aG X) τ) m)) (h4 : va_S (gA (aG X)) (aS X).heap H locs) (d : decode cc pc = .ok (.ireturn, 1)) : W (aP X) (aL X) (aEn X) (aR X) (aS X) (aM X) (aArgs X) (aBelow X) (aMeth X) (aC X) H locs 1 6 (aQ X) (F0 (aM X) pc lsA [.int v]) := by
  rw [hQ.1]
  exact vx_ret (W.iret (v := v) hX.1 hX.2.1 hr (fun t ht hW => ⟨⟨v, (), rfl, rfl, by rw [ht]; exact h2, h3⟩, h4.F ht⟩) h4.2.2 d hX.2.2.2.2.2.2.2.1)
theorem w_call {idx fr lo mLc n ci q frC loC : Nat} {y : MethodName} {b : ByteArray} {ret : Option FieldType} {As rest stk : List Value} {fs : List (Option Nat)} {T : u_T} {N : Nat} {ov : Option ((Nat × Int32) × Mem)} {rv : (Nat × Int32) × Mem} {K : Option RW} (hX : CX X cc mL own) (hR : (aR X).frames = fr ∧ (aR X).locals = lo) (hQ : QW X r0) (ml : MLV own idx y b mLc ret n) (hc : CT (aL X) y b mLc ret frC loC (.ref q :: As) σ ov) (hs : shp[q]? = some (.inl (ci, fs))) (hci : vwCl[ci]? = some (y.cls, T, N)) (hn : As.length = n) (hst : stk = As.reverse ++ .ref q :: rest) (hroom : frC + 1 ≤ fr ∧ 8 + (mLc + 11) + loC ≤ lo) (hw : (rest.map fun v => v.category).sum ≤ 8) (hl : ls.length = mL) (d : decode cc pc = .ok (.invokevirtual idx, 3)) (hov : ov = some rv)
    (kk : ∀ (H : Heap) (locs : List Loc) (lsA : Array Slot), rv.1.1 = 0 → lvO (gr (aG X)) lsA ls → va_P (gD (aG X)) vwCl (wd (aG X) rv.2) H → va_D (gA (aG X)) (wd (aG X) rv.2) → va_S (gA (aG X)) (aS X).heap H locs → W (aP X) (aL X) (aEn X) (aR X) (aS X) (aM X) (aArgs X) (aBelow X) (aMeth X) (aC X) H locs 1 6 (aQ X) (F0 (aM X) (pc + 3) lsA (.int rv.1.2 :: rest.map (cv (gr (aG X))))))
    (kx : ∀ (H : Heap) (locs : List Loc) (lsA : Array Slot) (q9 : Addr) (ce : Cell), rv.1.1 ≠ 0 → H[q9]? = some ce → ce.vm = .none → (aS X).vm.findClass (xName rv.1.1) = some ce.cls → lvO (gr (aG X)) lsA ls → va_P (gD (aG X)) vwCl (wd (aG X) rv.2) H → va_D (gA (aG X)) (wd (aG X) rv.2) → va_S (gA (aG X)) (aS X).heap H locs → vx_W (aP X) (aL X) (aEn X) (aR X) (aS X) (aM X) (aArgs X) (aBelow X) (aMeth X) (aC X) H locs 1 6 (aQ X) (F0 (aM X) pc lsA (rest.map (cv (gr (aG X))))) q9) : AWo X r0 pc ls stk σ K := fun _ H locs lsA h1 h2 h3 h4 => by
  subst hst
  obtain ⟨q1, q2, q3, qa, qb, q5, q6⟩ := hQ
  have hts := hX.2.2.2.2.1
  have hM := hc (aG X) rv hov
  rw [map_rev]
  have hcell := recv_at h2 hX.2.2.2.2.2.1 hs hci
  rw [qa, qb]
  refine vx_calli (vx_runV (Ts := BIG) (As := As.map (cv (gr (aG X)))) (rest := rest.map (cv (gr (aG X)))) ⟨hX.1, hX.2.1, hX.2.2.1, hX.2.2.2.1, hts⟩ hM ⟨callB_of n hts (big_code ml.2.2.2.2.1) rfl rfl rfl (hts _ ml.2.2.2.1) (hts _ ml.1) ml.2.2.2.2.2 (by rw [hR.1, hR.2]; exact hroom), hts _ ml.2.1, hts _ ml.2.2.1⟩ ⟨fun a U gg mk z => ⟨z.1, ⟨z.2.1.1, va_K.moved (u := U) (U := U.calling gg mk a) (Vm.Alike.refl U.vm) z.2.1.2.1, z.2.1.2.2.1, NN.same rfl z.2.1.2.2.2⟩, z.2.2.blind⟩, hcell, fun U hU hW => ⟨rfl, HO.warm hW (by rw [hU]; exact h2) hX.2.2.2.2.2.1 h3 hX.2.2.2.2.2.2.1, EX.warm hW hU h4.2.1 q5⟩⟩ rfl (by rw [List.length_map]; exact hn) (by rw [h1.1]; exact hl) rfl (lv_room (by rw [cat_map]; exact hw)) d ⟨by rw [q2]; exact Nat.le_refl _, by rw [q3]; exact Nat.le_refl _⟩) h4 (fun q _ h => h) (fun q h => h) (fun q _ h => h) (fun E ce q9 u t H1 locs1 e1 e2 hp hb hz hk hS hce hcv hcl => ?_) (fun v u t H1 locs1 e1 e2 hv hb hz hk hS => ?_)
  · obtain ⟨hb1, rfl, hb2, hb3⟩ := hb
    exact kx H1 locs1 lsA q9 ce hb1 hce hcv hcl h1 (e1 ▸ hb2) hb3 hS
  · obtain ⟨hv0, rfl⟩ := hv
    obtain ⟨p1, p2⟩ := call_fin (s := aS X) e1 hb
    exact kk H1 locs1 lsA hv0 h1 p1 p2 hS
theorem w_catch {H : Heap} {locs : List Loc} {lsA : Array Slot} {rest : List Value} {q9 : Addr} {ce : Cell} {k : Nat} {j : Int32} {m : Mem} {hh : List (Nat × Nat × Nat × Nat)} (hX : CX X cc mL own) (hQ : QW X ((j, gt (aG X)), m)) (hr : (aMeth X).sig.returnType = some .int) (ht : (aC X).exceptionTable.toList = tableOf hh) (hN : HND own cc mL (tableOf hh) pc k j) (hce : H[q9]? = some ce) (hcv : ce.vm = .none) (hcl : (aS X).vm.findClass (xName k) = some ce.cls) (hl : ls.length = mL) (h1 : lvO (gr (aG X)) lsA ls) (h2 : va_P (gD (aG X)) vwCl (wd (aG X) m) H) (h3 : va_D (gA (aG X)) (wd (aG X) m)) (h4 : va_S (gA (aG X)) (aS X).heap H locs) : vx_W (aP X) (aL X) (aEn X) (aR X) (aS X) (aM X) (aArgs X) (aBelow X) (aMeth X) (aC X) H locs 1 6 (aQ X) (F0 (aM X) pc lsA rest) q9 := by
  obtain ⟨pre, suf, x, i, pb, n, e1, e2, e3, e4, e5, e6, e7, e8, e9, e10, e11⟩ := hN
  have hts := hX.2.2.2.2.1
  have hEX := hQ.2.2.2.2.2.1
  have hEN := hQ.2.2.2.2.2.2
  have hP' : va_P (gD (aG X)) vwCl (wd (gτ (aG X) (gt (aG X))) m) H := h2
  have hD' : va_D (gA (aG X)) (wd (gτ (aG X) (gt (aG X))) m) := h3
  have hlen : i < ls.length := by rw [hl]; exact e7
  have fin : ∀ ls' : Array Slot, W (aP X) (aL X) (aEn X) (aR X) (aS X) (aM X) (aArgs X) (aBelow X) (aMeth X) (aC X) H locs 1 6 (aQ X) (F0 (aM X) pb ls' []) := fun ls' => lv_iconst hX.1 hX.2.1 e9 e10 (w_ret hX hQ hr hP' hD' h4 e11)
  have hcast : (Cond.castable (xName k) (xName k)).before (aArgs X) (aS X) = true := va_Nw.use rfl (hEX.2.2.2 _ e6)
  refine vx_catch hX.2.2.2.1 pre x suf (ht.trans e1) (fun z hz => Or.inr ?_) e3 e4 (hts _ e5) hcast hce hcv hcl ?_
  · obtain ⟨z1, nm, z2, z3⟩ := e2 z hz
    exact ⟨z1, nm, hts _ z2, hEN _ z3⟩
  · rcases e8 with ⟨d, rfl⟩ | ⟨k4, rfl, d, rfl⟩
    · exact lv_astore hX.1 hX.2.1 d (lvO_has h1) hlen rfl (fun ls' _ => fin ls')
    · exact lv_astore_n hX.1 hX.2.1 d rfl (lvO_has h1) hlen rfl (fun ls' _ => fin ls')
theorem w_last {H : Heap} {locs : List Loc} {lsA : Array Slot} {x : Int64} {m : Mem} {off : Int} {pe : Nat} (hX : CX X cc mL own) (hQ : QW X ((0, vp_updL (gt (aG X)) 0 x), m)) (hr : (aMeth X).sig.returnType = some .int) (h2 : va_P (gD (aG X)) vwCl (wd (aG X) m) H) (h3 : va_D (gA (aG X)) (wd (aG X) m)) (h4 : va_S (gA (aG X)) (aS X).heap H locs) (d1 : decode cc pc = .ok (.lastore, 1)) (d2 : decode cc (pc + 1) = .ok (.goto off, 3)) (ht : ((pc + 1 : Nat) : Int) + off = (pe : Int)) (d3 : decode cc pe = .ok (.iconst 0, 1)) (d4 : decode cc (pe + 1) = .ok (.ireturn, 1)) : W (aP X) (aL X) (aEn X) (aR X) (aS X) (aM X) (aArgs X) (aBelow X) (aMeth X) (aC X) H locs 1 6 (aQ X) (F0 (aM X) pc lsA [.long x, .int 0, .ref (gr (aG X) 114)]) := by
  refine va_last hX.1 hX.2.1 hX.2.2.2.2.2.1 h2 h3 h4 114 2 (wd_get s_114) rfl (fun h => by rcases h with h | h <;> revert h <;> decide) d1 (fun H1 locs1 g2 g3 g4 => ?_)
  have e : (wd (aG X) m).set 114 (gr (aG X) 114, .inl ((aG X).2.2.2.1, 1, .inr (.inl (vp_updL (gt (aG X)) (0 : Int32).toNatClampNeg x)))) = wd (gτ (aG X) (vp_updL (gt (aG X)) 0 x)) m := wd_setL
  rw [e] at g2 g3
  refine lv_goto hX.1 hX.2.1 d2 ht ?_
  exact lv_iconst hX.1 hX.2.1 d3 (by decide) (w_ret hX hQ hr g2 g3 g4 d4)
theorem a_wrapI {idx fr lo mLc n frC loC pe : Nat} {y : MethodName} {b : ByteArray} {As stk : List Value} {ov : Option ((Nat × Int32) × Mem)} {km : Nat → Option Int32} {off : Int} {hh : List (Nat × Nat × Nat × Nat)} (hX : CX X cc mL own) (hR : (aR X).frames = fr ∧ (aR X).locals = lo) (hQ : QW X r0) (hr : (aMeth X).sig.returnType = some .int) (ht : (aC X).exceptionTable.toList = tableOf hh) (ml : MLV own idx y b mLc (some .int) n) (hc : CT (aL X) y b mLc (some .int) frC loC (.ref 0 :: As) σ ov) (hy : y.cls = RX11) (hn : As.length = n) (hst : stk = As.reverse ++ .ref 0 :: [.int 0, .ref 114]) (hroom : frC + 1 ≤ fr ∧ 8 + (mLc + 11) + loC ≤ lo) (hl : ls.length = mL) (d : decode cc pc = .ok (.invokevirtual idx, 3)) (d0 : decode cc (pc + 3) = .ok (.i2l, 1)) (d1 : decode cc (pc + 4) = .ok (.lastore, 1)) (d2 : decode cc (pc + 5) = .ok (.goto off, 3)) (hoff : ((pc + 5 : Nat) : Int) + off = (pe : Int)) (d3 : decode cc pe = .ok (.iconst 0, 1)) (d4 : decode cc (pe + 1) = .ok (.ireturn, 1)) (hN : ∀ k j, km k = some j → HND own cc mL (tableOf hh) pc k j) : AWo X r0 pc ls stk σ (wres km (gt (aG X)) ov) := fun ho => by
  cases hov : ov with
  | none => rw [hov] at ho; cases ho
  | some rv =>
    obtain ⟨⟨k, v⟩, m⟩ := rv
    rw [hov] at ho
    refine w_call hX hR hQ ml hc s_0 (T := TX11) (N := 5) (by rw [hy]; rfl) hn hst hroom (Nat.le_of_ble_eq_true rfl) hl d hov (fun H locs lsA hk h1 h2 h3 h4 => ?_) (fun H locs lsA q9 ce hk hce hcv hcl h1 h2 h3 h4 => ?_) ho
    · have hk : k = 0 := hk
      subst hk
      have e : ((0, vp_updL (gt (aG X)) 0 v.toInt64), m) = r0 := Option.some.inj ho
      subst e
      exact lv_i2l hX.1 hX.2.1 d0 rfl (w_last (pc := pc + 4) hX hQ hr h2 h3 h4 d1 d2 hoff d3 d4)
    · obtain ⟨k', rfl⟩ : ∃ k', k = k' + 1 := ⟨k - 1, by have : k ≠ 0 := hk; omega⟩
      simp only [wres] at ho
      cases hkm : km (k' + 1) with
      | none => rw [hkm] at ho; cases ho
      | some j =>
        rw [hkm] at ho
        have e : ((j, gt (aG X)), m) = r0 := Option.some.inj ho
        subst e
        exact w_catch hX hQ hr ht (hN _ _ hkm) hce hcv hcl hl h1 h2 h3 h4
theorem a_wrapZ {idx fr lo mLc n frC loC pe : Nat} {y : MethodName} {b : ByteArray} {As stk : List Value} {ov : Option ((Nat × Int32) × Mem)} {km : Nat → Option Int32} {off : Int} {hh : List (Nat × Nat × Nat × Nat)} (hX : CX X cc mL own) (hR : (aR X).frames = fr ∧ (aR X).locals = lo) (hQ : QW X r0) (hr : (aMeth X).sig.returnType = some .int) (ht : (aC X).exceptionTable.toList = tableOf hh) (ml : MLV own idx y b mLc (some .boolean) n) (hc : CT (aL X) y b mLc (some .boolean) frC loC (.ref 0 :: As) σ ov) (hy : y.cls = RX11) (hn : As.length = n) (hst : stk = As.reverse ++ .ref 0 :: [.int 0, .ref 114]) (hroom : frC + 1 ≤ fr ∧ 8 + (mLc + 11) + loC ≤ lo) (hl : ls.length = mL) (d : decode cc pc = .ok (.invokevirtual idx, 3)) (d0 : decode cc (pc + 3) = .ok (.ifCond .eq 7, 3)) (d0a : decode cc (pc + 6) = .ok (.lconst 1, 1)) (d0b : decode cc (pc + 7) = .ok (.goto 4, 3)) (d0c : decode cc (pc + 10) = .ok (.lconst 0, 1)) (d1 : decode cc (pc + 11) = .ok (.lastore, 1)) (d2 : decode cc (pc + 12) = .ok (.goto off, 3)) (hoff : ((pc + 12 : Nat) : Int) + off = (pe : Int)) (d3 : decode cc pe = .ok (.iconst 0, 1)) (d4 : decode cc (pe + 1) = .ok (.ireturn, 1)) (hN : ∀ k j, km k = some j → HND own cc mL (tableOf hh) pc k j) : AWo X r0 pc ls stk σ (wresZ km (gt (aG X)) ov) := fun ho => by
  cases hov : ov with
  | none => rw [hov] at ho; cases ho
  | some rv =>
    obtain ⟨⟨k, v⟩, m⟩ := rv
    rw [hov] at ho
    refine w_call hX hR hQ ml hc s_0 (T := TX11) (N := 5) (by rw [hy]; rfl) hn hst hroom (Nat.le_of_ble_eq_true rfl) hl d hov (fun H locs lsA hk h1 h2 h3 h4 => ?_) (fun H locs lsA q9 ce hk hce hcv hcl h1 h2 h3 h4 => ?_) ho
    · have hk : k = 0 := hk
      subst hk
      have e : ((0, vp_updL (gt (aG X)) 0 (if v = 0 then 0 else 1)), m) = r0 := Option.some.inj ho
      subst e
      refine lv_if_eq hX.1 hX.2.1 d0 (tgt := pc + 10) (by simp only [Int.natCast_add]; omega) (fun hv => ?_) (fun hv => ?_)
      · rw [if_pos hv] at hQ
        exact lv_lconst hX.1 hX.2.1 d0c rfl (w_last (pc := pc + 11) hX hQ hr h2 h3 h4 d1 d2 hoff d3 d4)
      · rw [if_neg hv] at hQ
        refine lv_lconst hX.1 hX.2.1 d0a rfl ?_
        exact lv_goto hX.1 hX.2.1 d0b (tgt := pc + 11) (by simp only [Int.natCast_add]; omega) (w_last (pc := pc + 11) hX hQ hr h2 h3 h4 d1 d2 hoff d3 d4)
    · obtain ⟨k', rfl⟩ : ∃ k', k = k' + 1 := ⟨k - 1, by have : k ≠ 0 := hk; omega⟩
      simp only [wresZ] at ho
      cases hkm : km (k' + 1) with
      | none => rw [hkm] at ho; cases ho
      | some j =>
        rw [hkm] at ho
        have e : ((j, gt (aG X)), m) = r0 := Option.some.inj ho
        subst e
        exact w_catch hX hQ hr ht (hN _ _ hkm) hce hcv hcl hl h1 h2 h3 h4
end WRAPS
theorem cw_of {l : Launch} {y : MethodName} {b : ByteArray} {mL fr lo : Nat} {hh : List (Nat × Nat × Nat × Nat)} {as : List Value} {σ : Mem} {oo : (Nat → Int64) → Option RW} (hy : plainName y.cls = true) (hc : ∀ u ∈ as, u.category = 1) (hn : as.length ≤ mL)
    (body : ∀ (X : AX) (r : RW), aL X = l → CX X b mL y.cls → (aR X).frames = fr ∧ (aR X).locals = lo → QW X r → (aMeth X).sig.returnType = some .int → (aC X).exceptionTable.toList = tableOf hh → AWo X r 0 (as.map some ++ List.replicate (mL - as.length) none) [] σ (oo (gt (aG X)))) : CW l y b mL hh fr lo as σ oo := by
  intro g r hoo
  refine vx_ofWH (cc := b) (maxL := mL) (ret := some .int) (hh := hh) hy rfl ?_
  intro p e s m args below meth c s₁ B hml hv
  obtain ⟨rfl, ⟨hP, hK, hD, hN⟩, hE, hEN⟩ := hv
  have hts := atoms_spec (ws := .codeWith y b mL (some .int) hh :: BIG) B.pre
  rw [lg_entry_eq]
  by_cases hb : ∀ q, s.heap.size ≤ q → gb g ≤ q
  · exact body (p, l, e, rmX fr lo, s, m, (as.map (cv (gr g))).toArray, below, meth, c, g, vx_MQ below (va_Qi (fun v (_ : Unit) => v = r.1.1) (fun _ t => HP (gτ g r.1.2) r.2 t) (gA g)) (vx_X (fun _ : Unit => False) (fun _ _ _ => True) (gA g)) (as.map (cv (gr g))).toArray s 1 6 (gA g), 0, 0) r rfl
      ⟨B.exec, B.bytes, hml, findClass_of_methodNamed B.named, fun w hw => hts w (List.mem_cons_of_mem _ hw), hK, hN, B.notSynchronized, hb⟩ ⟨rfl, rfl⟩ ⟨rfl, rfl, rfl, rfl, rfl, hE, hEN⟩ B.returns (vx_table (x := y) B (hts _ List.mem_cons_self)) hoo s.heap [] _ (lvO_entry as mL hc hn) hP hD va_S.rf
  · exfalso
    apply hb
    intro q hq
    have h0 := hP 0 _ (wd_get s_0)
    have h1 := hD.2 0 _ (wd_get (g := g) (σ := σ) s_0)
    have h2 := h0.lt
    exact Nat.le_trans h1 (Nat.le_trans (Nat.le_of_lt h2) hq)
