/-! ===== worlds that grow: the constructors ===== -/
abbrev GE : Type := (Nat × List Value) ⊕ (Nat × Nat × (Nat → Int32))
def gE (g : GX) (ρ : Nat → Nat) : GE → va_E
  | .inl o => .inr (o.1, o.2.map (cv ρ))
  | .inr (0, a) => .inl (g.2.1, a.1, .inl a.2)
  | .inr (_, a) => .inl (g.2.2.1, a.1, .inl a.2)
def gwL (g : GX) (ρ : Nat → Nat) : Nat → List GE → va_W
  | _, [] => []
  | k, e :: t => (ρ k, gE g ρ e) :: gwL g ρ (k + 1) t
theorem gwL_get (g : GX) (ρ : Nat → Nat) : ∀ (L : List GE) (b i : Nat), (gwL g ρ b L)[i]? = (L[i]?).map fun e => (ρ (b + i), gE g ρ e)
  | [], b, i => by simp [gwL]
  | e :: t, b, 0 => by simp [gwL]
  | e :: t, b, i + 1 => by
    simp only [gwL, List.getElem?_cons_succ]
    rw [gwL_get g ρ t (b + 1) i, show b + 1 + i = b + (i + 1) by omega]
theorem gwL_len (g : GX) (ρ : Nat → Nat) : ∀ (L : List GE) (b : Nat), (gwL g ρ b L).length = L.length
  | [], b => rfl
  | e :: t, b => by simp [gwL, gwL_len g ρ t]
abbrev gw (g : GX) (ρ : Nat → Nat) (ws : List GE) : va_W := gwL g ρ 0 ws
theorem gw_get {g : GX} {ρ : Nat → Nat} {ws : List GE} {k : Nat} {e : GE} (h : ws[k]? = some e) : (gw g ρ ws)[k]? = some (ρ k, gE g ρ e) := by
  rw [gwL_get, h]
  simp
theorem gw_set {g : GX} {ρ : Nat → Nat} {ws : List GE} {k : Nat} {e0 : GE} (e : GE) (h : ws[k]? = some e0) : (gw g ρ ws).set k (ρ k, gE g ρ e) = gw g ρ (ws.set k e) := by
  apply List.ext_getElem?
  intro i
  have hk : k < ws.length := (List.getElem?_eq_some_iff.mp h).1
  rw [List.getElem?_set, gwL_get, gwL_get, List.getElem?_set, gwL_len]
  by_cases hi : k = i
  · subst hi
    simp [hk]
  · simp [hi]
theorem gw_push {g : GX} {ρ : Nat → Nat} {ws : List GE} (e : GE) : gw g ρ ws ++ [(ρ ws.length, gE g ρ e)] = gw g ρ (ws ++ [e]) := by
  apply List.ext_getElem?
  intro i
  rw [gwL_get]
  by_cases hi : i < ws.length
  · rw [List.getElem?_append_left (by rw [gwL_len]; exact hi), List.getElem?_append_left hi, gwL_get]
  · rw [List.getElem?_append_right (by rw [gwL_len]; omega), List.getElem?_append_right (by omega), gwL_len]
    by_cases h0 : i = ws.length
    · subst h0
      simp
    · rw [List.getElem?_eq_none (by simp; omega), List.getElem?_eq_none (by simp; omega)]
      rfl
def bnd (n : Nat) : Value → Bool
  | .ref k => decide (k < n)
  | _ => true
def wfG (n : Nat) (ws : List GE) : Bool := ws.all fun e => match e with
  | .inl o => o.2.all (bnd n)
  | .inr _ => true
theorem cv_agree {ρ ρ' : Nat → Nat} {n : Nat} (h : ∀ k, k < n → ρ' k = ρ k) {v : Value} (hv : bnd n v = true) : cv ρ' v = cv ρ v := by
  cases v <;> first | rfl | (simp only [bnd, decide_eq_true_eq] at hv; simp only [cv, h _ hv])
theorem gE_agree {g : GX} {ρ ρ' : Nat → Nat} {n : Nat} (h : ∀ k, k < n → ρ' k = ρ k) {e : GE} (he : (match e with | .inl o => o.2.all (bnd n) | .inr _ => true) = true) : gE g ρ' e = gE g ρ e := by
  rcases e with o | ⟨t, a⟩
  · simp only [gE]
    congr 2
    apply List.map_congr_left
    intro v hv
    exact cv_agree h (List.all_eq_true.mp he v hv)
  · match t with
    | 0 => rfl
    | _ + 1 => rfl
theorem gw_agree {g : GX} {ρ ρ' : Nat → Nat} {ws : List GE} (h : ∀ k, k < ws.length → ρ' k = ρ k) (hw : wfG ws.length ws = true) : gw g ρ' ws = gw g ρ ws := by
  apply List.ext_getElem?
  intro i
  rw [gwL_get, gwL_get]
  cases hi : ws[i]? with
  | none => rfl
  | some e =>
    have hl : i < ws.length := (List.getElem?_eq_some_iff.mp hi).1
    have he := List.all_eq_true.mp hw e (List.mem_of_getElem? hi)
    simp only [Option.map_some, Nat.zero_add, h i hl]
    rw [gE_agree h he]
theorem map_agree {ρ ρ' : Nat → Nat} {n : Nat} (h : ∀ k, k < n → ρ' k = ρ k) {l : List Value} (hl : l.all (bnd n) = true) : l.map (cv ρ') = l.map (cv ρ) := by
  apply List.map_congr_left
  intro v hv
  exact cv_agree h (List.all_eq_true.mp hl v hv)
def obnd (n : Nat) (o : Option Value) : Bool := match o with
  | some v => bnd n v
  | none => true
theorem lvO_agree {ρ ρ' : Nat → Nat} {n : Nat} (h : ∀ k, k < n → ρ' k = ρ k) {lsA : Array Slot} {ls : List (Option Value)} (hl : ls.all (obnd n) = true) (hv : lvO ρ lsA ls) : lvO ρ' lsA ls := by
  refine ⟨hv.1, hv.2.1, fun i v hi => ?_⟩
  obtain ⟨h1, h2⟩ := hv.2.2 i v hi
  rw [cv_agree h (List.all_eq_true.mp hl (some v) (List.mem_of_getElem? hi))]
  exact ⟨h1, h2⟩
def nestG : List (String × Nat × MethodName) := [(RX10, 11, yX9_init), (RX10, 20, yX6_init), (RX10, 27, yX4_init), (RX10, 34, yX2_init), (RX11, 43, yX3_init)]
def NG (U : State) : Prop := ∀ q ∈ nestG, va_Nw (.methodLinkNest q.1 q.2.1 q.2.2 RX11) U
theorem NG.warm {s U : State} (hW : s.WarmedH U.vm) (h : NG s) : NG U := fun q hq => va_Nw.warmM hW (h q hq)
theorem NG.same {u U : State} (e : u.vm = U.vm) (h : NG u) : NG U := fun q hq => va_Nw.same rfl e (h q hq)
def HG (g : GX) (ρ : Nat → Nat) (ws : List GE) (U : State) : Prop := va_P (gD g) vwCl (gw g ρ ws) U.heap ∧ va_K (gD g) vwCl (gT g) U ∧ va_D (gA g) (gw g ρ ws) ∧ NN U ∧ NG U ∧ ∀ q, U.heap.size ≤ q → gb g ≤ q
theorem HG.blind {g : GX} {ρ : Nat → Nat} {ws : List GE} {as : List Value} : FrameBlind (va_Pc as (HG g ρ ws)) := fun a U gg mk q => ⟨q.1, q.2.1, va_K.moved (u := U) (U := U.calling gg mk a) (Vm.Alike.refl U.vm) q.2.2.1, q.2.2.2.1, NN.same rfl q.2.2.2.2.1, NG.same rfl q.2.2.2.2.2.1, q.2.2.2.2.2.2⟩
abbrev rmG (fr lo mc ms : Nat) : Room := { frames := fr, cells := mc, slots := ms, locals := lo }
/-- a constructor's contract: the world ws becomes ws' -/
def CG (l : Launch) (y : MethodName) (b : ByteArray) (mL fr lo mc ms : Nat) (as : List Value) (ws ws' : List GE) : Prop :=
  ∀ (g : GX) (ρ : Nat → Nat), Met l y (.code y b mL none :: BIG) (rmG fr lo mc ms) (va_Pc (as.map (cv ρ)) (HG g ρ ws)) (va_Qv (fun ρ' : Nat → Nat => ∀ k, k < ws.length → ρ' k = ρ k) (fun ρ' t => va_P (gD g) vwCl (gw g ρ' ws') t.heap ∧ va_D (gA g) (gw g ρ' ws')) (gA g)) mc ms (gA g)
/-- the judgement in a constructor: n0 is the length of the world at its start, ρ0 its places -/
def AG (X : AX) (ρ0 : Nat → Nat) (n0 ce sl pc : Nat) (ls : List (Option Value)) (st : List Value) (ws : List GE) : Prop :=
  ∀ (ρ : Nat → Nat) (H : Heap) (locs : List Loc) (lsA : Array Slot), (∀ k, k < n0 → ρ k = ρ0 k) → lvO ρ lsA ls → va_P (gD (aG X)) vwCl (gw (aG X) ρ ws) H → va_D (gA (aG X)) (gw (aG X) ρ ws) → va_S (gA (aG X)) (aS X).heap H locs →
    W (aP X) (aL X) (aEn X) (aR X) (aS X) (aM X) (aArgs X) (aBelow X) (aMeth X) (aC X) H locs ce sl (aQ X) (F0 (aM X) pc lsA (st.map (cv ρ)))
def CGX (X : AX) (cc : ByteArray) (mL : Nat) (own : String) : Prop := CX X cc mL own ∧ NG (aS X)
def NWF (own : String) (idx ci N : Nat) (fs : List Value) : Prop := ∃ (C : String) (T : u_T) (ty : Nat → FieldType), vwCl[ci]? = some (C, T, N) ∧ (∀ w ∈ u_ws C T N, w ∈ BIG) ∧ (∀ k, k < N → parseFieldDescriptor (T k).2.2.1 = some (ty k)) ∧ Cond.classLink own idx C ∈ BIG ∧ Cond.instantiable C N ∈ BIG ∧ Cond.initialized C ∈ BIG ∧ (∀ j, j < N → defaultValue (ty j) = vp_V fs j) ∧ fs.all (bnd 0) = true
/-- a field that a constructor writes: final, or not -/
def FPG (own : String) (idx ci k : Nat) (ty : FieldType) : Prop := ∃ (C : String) (T : u_T) (N : Nat) (ty0 : Nat → FieldType), vwCl[ci]? = some (C, T, N) ∧ k < N ∧ (∀ w ∈ u_ws C T N, w ∈ BIG) ∧ Cond.fieldLink own idx (T k).1 (T k).2.1 (T k).2.2.1 ∈ BIG ∧ (∀ k, k < N → parseFieldDescriptor (T k).2.2.1 = some (ty0 k)) ∧ (∀ a, a < N → ∀ b, b < N → a ≠ b → (T a).2.1 ≠ (T b).2.1) ∧ ((T k).2.2.2 = false ∨ ((T k).2.2.2 = true ∧ (T k).1 = own)) ∧ parseFieldDescriptor (T k).2.2.1 = some ty
section GROWS
variable {X : AX} {cc : ByteArray} {mL : Nat} {own : String} {ρ0 : Nat → Nat} {n0 ce sl pc pc1 : Nat} {ls : List (Option Value)} {st : List Value} {ws : List GE}
theorem g_al {i : Nat} {k4 : Fin 4} {x : Nat} (hX : CGX X cc mL own) (d : decode cc pc = .ok (.aload_n k4, 1)) (hi : (k4 : Nat) = i) (hl : ls[i]? = some (some (.ref x))) (hp : pc + 1 = pc1) (k : AG X ρ0 n0 ce sl pc1 ls (.ref x :: st) ws) : AG X ρ0 n0 ce sl pc ls st ws := fun ρ H locs lsA hρ h1 h2 h3 h4 => by
  subst hp
  exact lv_aload_n (x := ρ x) hX.1.1 hX.1.2.1 d hi (h1.2.2 i _ hl).1 (k ρ H locs lsA hρ h1 h2 h3 h4)
theorem g_il {i : Nat} {k4 : Fin 4} {x : Int32} (hX : CGX X cc mL own) (d : decode cc pc = .ok (.iload_n k4, 1)) (hi : (k4 : Nat) = i) (hl : ls[i]? = some (some (.int x))) (hp : pc + 1 = pc1) (k : AG X ρ0 n0 ce sl pc1 ls (.int x :: st) ws) : AG X ρ0 n0 ce sl pc ls st ws := fun ρ H locs lsA hρ h1 h2 h3 h4 => by
  subst hp
  exact lv_iload_n hX.1.1 hX.1.2.1 d hi (h1.2.2 i _ hl).1 (k ρ H locs lsA hρ h1 h2 h3 h4)
theorem g_is {i : Nat} {k4 : Fin 4} {x : Int32} (hX : CGX X cc mL own) (d : decode cc pc = .ok (.istore_n k4, 1)) (hi : (k4 : Nat) = i) (hn : i < ls.length) (hp : pc + 1 = pc1) (k : AG X ρ0 n0 ce sl pc1 (ls.set i (some (.int x))) st ws) : AG X ρ0 n0 ce sl pc ls (.int x :: st) ws := fun ρ H locs lsA hρ h1 h2 h3 h4 => by
  subst hp
  exact lv_istore_n hX.1.1 hX.1.2.1 d hi (lvO_has h1) hn rfl (fun ls' hl' => k ρ H locs ls' hρ (lvO_put (v := .int x) rfl (lvO_cat h1) hn hl') h2 h3 h4)
theorem g_as {i : Nat} {k4 : Fin 4} {x : Nat} (hX : CGX X cc mL own) (d : decode cc pc = .ok (.astore_n k4, 1)) (hi : (k4 : Nat) = i) (hn : i < ls.length) (hp : pc + 1 = pc1) (k : AG X ρ0 n0 ce sl pc1 (ls.set i (some (.ref x))) st ws) : AG X ρ0 n0 ce sl pc ls (.ref x :: st) ws := fun ρ H locs lsA hρ h1 h2 h3 h4 => by
  subst hp
  exact lv_astore_n (x := ρ x) hX.1.1 hX.1.2.1 d hi (lvO_has h1) hn rfl (fun ls' hl' => k ρ H locs ls' hρ (lvO_put (v := .ref x) rfl (lvO_cat h1) hn hl') h2 h3 h4)
theorem g_inc {i : Nat} {x v : Int32} {n : Int} (hX : CGX X cc mL own) (d : decode cc pc = .ok (.iinc i n, 3)) (hl : ls[i]? = some (some (.int x))) (hn : i < ls.length) (hv : x + Int32.ofInt n = v) (hp : pc + 3 = pc1) (k : AG X ρ0 n0 ce sl pc1 (ls.set i (some (.int v))) st ws) : AG X ρ0 n0 ce sl pc ls st ws := fun ρ H locs lsA hρ h1 h2 h3 h4 => by
  subst hp
  obtain ⟨k9, hk9⟩ := lvLst_mem (ρ := ρ) hl
  exact lv_iinc hX.1.1 hX.1.2.1 d (lvO_has h1) hk9 hv hn rfl (fun ls' hl' => k ρ H locs ls' hρ (lvO_put (v := .int v) rfl (lvO_cat h1) hn hl') h2 h3 h4)
theorem g_ic {n : Int} (v : Int32) (hX : CGX X cc mL own) (d : decode cc pc = .ok (.iconst n, 1)) (hv : Int32.ofInt n = v) (hp : pc + 1 = pc1) (k : AG X ρ0 n0 ce sl pc1 ls (.int v :: st) ws) : AG X ρ0 n0 ce sl pc ls st ws := fun ρ H locs lsA hρ h1 h2 h3 h4 => by
  subst hp
  exact lv_iconst hX.1.1 hX.1.2.1 d hv (k ρ H locs lsA hρ h1 h2 h3 h4)
theorem g_bi {n : Int} (v : Int32) (hX : CGX X cc mL own) (d : decode cc pc = .ok (.bipush n, 2)) (hv : (Int8.ofInt n).toInt32 = v) (hp : pc + 2 = pc1) (k : AG X ρ0 n0 ce sl pc1 ls (.int v :: st) ws) : AG X ρ0 n0 ce sl pc ls st ws := fun ρ H locs lsA hρ h1 h2 h3 h4 => by
  subst hp
  exact lv_bipush hX.1.1 hX.1.2.1 d hv (k ρ H locs lsA hρ h1 h2 h3 h4)
theorem g_si {n : Int} (v : Int32) (hX : CGX X cc mL own) (d : decode cc pc = .ok (.sipush n, 3)) (hv : (Int16.ofInt n).toInt32 = v) (hp : pc + 3 = pc1) (k : AG X ρ0 n0 ce sl pc1 ls (.int v :: st) ws) : AG X ρ0 n0 ce sl pc ls st ws := fun ρ H locs lsA hρ h1 h2 h3 h4 => by
  subst hp
  exact lv_sipush hX.1.1 hX.1.2.1 d hv (k ρ H locs lsA hρ h1 h2 h3 h4)
theorem g_dup {v : Value} (hX : CGX X cc mL own) (d : decode cc pc = .ok (.dup, 1)) (hv : v.category = 1) (hp : pc + 1 = pc1) (k : AG X ρ0 n0 ce sl pc1 ls (v :: v :: st) ws) : AG X ρ0 n0 ce sl pc ls (v :: st) ws := fun ρ H locs lsA hρ h1 h2 h3 h4 => by
  subst hp
  exact lv_dup hX.1.1 hX.1.2.1 d (by rw [cv_cat]; exact hv) (k ρ H locs lsA hρ h1 h2 h3 h4)
theorem g_goto {off : Int} (hX : CGX X cc mL own) (d : decode cc pc = .ok (.goto off, 3)) (ht : (pc : Int) + off = (pc1 : Int)) (k : AG X ρ0 n0 ce sl pc1 ls st ws) : AG X ρ0 n0 ce sl pc ls st ws := fun ρ H locs lsA hρ h1 h2 h3 h4 =>
  lv_goto hX.1.1 hX.1.2.1 d ht (k ρ H locs lsA hρ h1 h2 h3 h4)
theorem g_gef {x y : Int32} {off : Int} {tgt : Nat} (hX : CGX X cc mL own) (d : decode cc pc = .ok (.if_icmp .ge off, 3)) (ht : (pc : Int) + off = (tgt : Int)) (hc : ¬ y ≤ x) (hp : pc + 3 = pc1) (k : AG X ρ0 n0 ce sl pc1 ls st ws) : AG X ρ0 n0 ce sl pc ls (.int y :: .int x :: st) ws := fun ρ H locs lsA hρ h1 h2 h3 h4 => by
  subst hp
  exact lv_icmp_ge hX.1.1 hX.1.2.1 d ht (fun c => (hc c).elim) (fun _ => k ρ H locs lsA hρ h1 h2 h3 h4)
theorem g_get {x y : Int32} {off : Int} (hX : CGX X cc mL own) (d : decode cc pc = .ok (.if_icmp .ge off, 3)) (ht : (pc : Int) + off = (pc1 : Int)) (hc : y ≤ x) (k : AG X ρ0 n0 ce sl pc1 ls st ws) : AG X ρ0 n0 ce sl pc ls (.int y :: .int x :: st) ws := fun ρ H locs lsA hρ h1 h2 h3 h4 =>
  lv_icmp_ge hX.1.1 hX.1.2.1 d ht (fun _ => k ρ H locs lsA hρ h1 h2 h3 h4) (fun c => (c hc).elim)
theorem g_lef {x : Int32} {off : Int} {tgt : Nat} (hX : CGX X cc mL own) (d : decode cc pc = .ok (.ifCond .le off, 3)) (ht : (pc : Int) + off = (tgt : Int)) (hc : ¬ x ≤ 0) (hp : pc + 3 = pc1) (k : AG X ρ0 n0 ce sl pc1 ls st ws) : AG X ρ0 n0 ce sl pc ls (.int x :: st) ws := fun ρ H locs lsA hρ h1 h2 h3 h4 => by
  subst hp
  exact lv_if_le hX.1.1 hX.1.2.1 d ht (fun c => (hc c).elim) (fun _ => k ρ H locs lsA hρ h1 h2 h3 h4)
theorem g_ltf {x : Int32} {off : Int} {tgt : Nat} (hX : CGX X cc mL own) (d : decode cc pc = .ok (.ifCond .lt off, 3)) (ht : (pc : Int) + off = (tgt : Int)) (hc : ¬ x < 0) (hp : pc + 3 = pc1) (k : AG X ρ0 n0 ce sl pc1 ls st ws) : AG X ρ0 n0 ce sl pc ls (.int x :: st) ws := fun ρ H locs lsA hρ h1 h2 h3 h4 => by
  subst hp
  exact lv_if_lt hX.1.1 hX.1.2.1 d ht (fun c => (hc c).elim) (fun _ => k ρ H locs lsA hρ h1 h2 h3 h4)
theorem g_obj {idx a : Nat} (hX : CGX X cc mL own) (hm : Cond.methodLink own idx objectInit ∈ BIG ∧ Cond.instanceMethod objectInit ∈ BIG ∧ Cond.code objectInit ⟨#[0xb1]⟩ 1 none ∈ BIG) (hl : ls.length = mL) (hw : (st.map fun v => v.category).sum + 12 ≤ (aR X).locals) (hf : 1 ≤ (aR X).frames) (d : decode cc pc = .ok (.invokespecial idx, 3)) (hp : pc + 3 = pc1) (k : AG X ρ0 n0 ce sl pc1 ls st ws) : AG X ρ0 n0 ce sl pc ls (.ref a :: st) ws := fun ρ H locs lsA hρ h1 h2 h3 h4 => by
  subst hp
  have hts := hX.1.2.2.2.2.1
  refine W.objInit hX.1.1 hX.1.2.1 hX.1.2.2.2.1 (hts _ hm.1) (hts _ hm.2.1) (hts _ hm.2.2) rfl (by rw [hX.1.2.2.1]; exact h1.1.trans hl) rfl d hf ?_ ?_
  · rw [show ((F0 (aM X) pc lsA ((Value.ref a :: st).map (cv ρ))).monitorRoom) = 0 from rfl]
    have e := cat_map (ρ := ρ) st
    rw [e]
    omega
  · exact W.eq rfl (k ρ H locs lsA hρ h1 h2 h3 h4)
theorem g_new {idx ci N q9 : Nat} {fs : List Value} (hq9 : ws.length = q9) (hX : CGX X cc mL own) (f : NWF own idx ci N fs) (hwf : wfG ws.length ws = true) (hst : st.all (bnd ws.length) = true) (hls : ls.all (obnd ws.length) = true) (hn0 : n0 ≤ ws.length) (hce : ce + 1 ≤ (aR X).cells ∧ sl + N ≤ (aR X).slots) (d : decode cc pc = .ok (.new idx, 3)) (hp : pc + 3 = pc1) (k : AG X ρ0 n0 (ce + 1) (sl + N) pc1 ls (.ref q9 :: st) (ws ++ [.inl (ci, fs)])) : AG X ρ0 n0 ce sl pc ls st ws := fun ρ H locs lsA hρ h1 h2 h3 h4 => by
  subst hp; subst hq9
  have hts := hX.1.2.2.2.2.1
  obtain ⟨C, T, ty, f1, f2, f3, f4, f5, f6, f7, f8⟩ := f
  refine va_new (fs := fs) hX.1.1 hX.1.2.1 hts f2 ty f3 hX.1.2.2.2.1 (hts _ f4) (hts _ f5) (hts _ f6) hX.1.2.2.2.2.2.1 h2 h3 h4 hX.1.2.2.2.2.2.2.2.2 f1 f7 hce.1 hce.2 d (fun q H1 g2 g3 g4 => ?_)
  obtain ⟨ρ', hρ'⟩ : ∃ ρ' : Nat → Nat, ρ' = fun j => if j = ws.length then q else ρ j := ⟨_, rfl⟩
  have ha : ∀ j, j < ws.length → ρ' j = ρ j := fun j hj => by rw [hρ']; simp [Nat.ne_of_lt hj]
  have hq : ρ' ws.length = q := by rw [hρ']; simp
  have hfs : fs.map (cv ρ') = fs := by
    conv => rhs; rw [← List.map_id fs]
    apply List.map_congr_left
    intro v hv
    have := List.all_eq_true.mp f8 v hv
    cases v <;> first | rfl | (simp [bnd] at this)
  have e : gw (aG X) ρ ws ++ [(q, .inr (ci, fs))] = gw (aG X) ρ' (ws ++ [.inl (ci, fs)]) := by
    rw [← gw_push, gw_agree ha hwf, hq]
    simp only [gE, hfs]
  rw [e] at g2 g3
  have := k ρ' H1 locs lsA (fun j hj => (ha j (Nat.lt_of_lt_of_le hj hn0)).trans (hρ j hj)) (lvO_agree ha hls h1) g2 g3 g4
  rw [List.map_cons, map_agree ha hst] at this
  simp only [cv, hq] at this
  exact this
theorem g_newa {at9 : ArrayType} {ty9 : FieldType} {t N q9 : Nat} {n : Int32} (hq9 : ws.length = q9) (hX : CGX X cc mL own) (hty : newarray.typeOf at9 = ty9) (ht : (t = 0 ∧ ty9 = .int) ∨ (t = 0 ∧ ty9 = .int)) (hw : Cond.arrayClass ty9 ∈ BIG) (hwf : wfG ws.length ws = true) (hst : st.all (bnd ws.length) = true) (hls : ls.all (obnd ws.length) = true) (hn0 : n0 ≤ ws.length) (hn : ¬ n < 0) (hN : n.toNatClampNeg = N) (hby : N * componentBytes ty9 ≤ 536870912) (hce : ce + 1 ≤ (aR X).cells ∧ sl + N ≤ (aR X).slots) (d : decode cc pc = .ok (.newarray at9, 2)) (hp : pc + 2 = pc1) (k : AG X ρ0 n0 (ce + 1) (sl + N) pc1 ls (.ref q9 :: st) (ws ++ [.inr (t, N, fun _ => 0)])) : AG X ρ0 n0 ce sl pc ls (.int n :: st) ws := fun ρ H locs lsA hρ h1 h2 h3 h4 => by
  subst hp; subst hty; subst hq9
  have hts := hX.1.2.2.2.2.1
  have hK := hX.1.2.2.2.2.2.1
  refine va_newa (a0 := (N, .inl (fun _ => 0))) hX.1.1 hX.1.2.1 (hts _ hw) rfl hK h2 h3 h4 hX.1.2.2.2.2.2.2.2.2 (fun cA => by rcases ht with ⟨-, e⟩ | ⟨-, e⟩ <;> rw [e] <;> rfl) hn hN hby hce.1 hce.2 d (fun q cA H1 hK1 g2 g3 g4 => ?_)
  obtain ⟨ρ', hρ'⟩ : ∃ ρ' : Nat → Nat, ρ' = fun j => if j = ws.length then q else ρ j := ⟨_, rfl⟩
  have ha : ∀ j, j < ws.length → ρ' j = ρ j := fun j hj => by rw [hρ']; simp [Nat.ne_of_lt hj]
  have hq : ρ' ws.length = q := by rw [hρ']; simp
  have hcl := (hK1.2 1 (cA, newarray.typeOf at9) rfl).2
  have e : gw (aG X) ρ ws ++ [(q, .inl (cA, N, .inl (fun _ => 0)))] = gw (aG X) ρ' (ws ++ [.inr (t, N, fun _ => 0)]) := by
    rw [← gw_push, gw_agree ha hwf, hq]
    rcases ht with ⟨rfl, e⟩ | ⟨rfl, e⟩
    · have h9 := (hK.2 0 _ rfl).2
      rw [e] at hcl
      have : cA = (aG X).2.1 := Option.some.inj (hcl.symm.trans h9)
      simp only [gE, this]
    · have h9 := (hK.2 0 _ rfl).2
      rw [e] at hcl
      have : cA = (aG X).2.1 := Option.some.inj (hcl.symm.trans h9)
      simp only [gE, this]
  rw [e] at g2 g3
  have := k ρ' H1 locs lsA (fun j hj => (ha j (Nat.lt_of_lt_of_le hj hn0)).trans (hρ j hj)) (lvO_agree ha hls h1) g2 g3 g4
  rw [List.map_cons, map_agree ha hst] at this
  simp only [cv, hq] at this
  exact this
theorem g_put {idx ci k p : Nat} {fs : List Value} {v : Value} {ty : FieldType} (hX : CGX X cc mL own) (hi : (aMeth X).name = "<init>") (f : FPG own idx ci k ty) (hv : ∀ ρ, narrow ty (cv ρ v) = cv ρ v ∧ fits ty (cv ρ v) = true) (hs : ws[p]? = some (.inl (ci, fs))) (hk : k < fs.length) (d : decode cc pc = .ok (.putfield idx, 3)) (hp : pc + 3 = pc1) (kk : AG X ρ0 n0 ce sl pc1 ls st (ws.set p (.inl (ci, fs.set k v)))) : AG X ρ0 n0 ce sl pc ls (v :: .ref p :: st) ws := fun ρ H locs lsA hρ h1 h2 h3 h4 => by
  subst hp
  have hts := hX.1.2.2.2.2.1
  have hK := hX.1.2.2.2.2.2.1
  obtain ⟨C, T, N, ty0, f1, f2, f3, f4, f5, f6, f7, f8⟩ := f
  have e : (gw (aG X) ρ ws).set p (ρ p, .inr (ci, (fs.map (cv ρ)).set k (cv ρ v))) = gw (aG X) ρ (ws.set p (.inl (ci, fs.set k v))) := by
    rw [← gw_set _ hs]
    simp only [gE, List.map_set]
  have kk' : ∀ (H1 : Heap) (locs1 : List Loc), va_P (gD (aG X)) vwCl ((gw (aG X) ρ ws).set p (ρ p, .inr (ci, (fs.map (cv ρ)).set k (cv ρ v)))) H1 → va_D (gA (aG X)) ((gw (aG X) ρ ws).set p (ρ p, .inr (ci, (fs.map (cv ρ)).set k (cv ρ v)))) → va_S (gA (aG X)) (aS X).heap H1 locs1 → W (aP X) (aL X) (aEn X) (aR X) (aS X) (aM X) (aArgs X) (aBelow X) (aMeth X) (aC X) H1 locs1 ce sl (aQ X) (F0 (aM X) (pc + 3) lsA (st.map (cv ρ))) := fun H1 locs1 g2 g3 g4 => by
    rw [e] at g2 g3
    exact kk ρ H1 locs1 lsA hρ h1 g2 g3 g4
  rcases f7 with f7 | ⟨f7, f9⟩
  · exact va_put (v := cv ρ v) (ty := ty) hX.1.1 hX.1.2.1 hts f3 ty0 f5 f6 hX.1.2.2.2.1 hK h2 h3 h4 p (gw_get hs) f1 k f2 (hts _ f4) (fun _ h => h) f7 f8 (hv ρ).1 (hv ρ).2 (by rw [List.length_map]; exact hk) d kk'
  · exact va_putF (v := cv ρ v) (ty := ty) hX.1.1 hX.1.2.1 hts f3 ty0 f5 f6 hX.1.2.2.2.1 hK h2 h3 h4 p (gw_get hs) f1 k f2 (hts _ f4) (fun _ h => h) f7 hi f9 f8 (hv ρ).1 (hv ρ).2 (by rw [List.length_map]; exact hk) d kk'
theorem g_getR {idx ci k p q : Nat} {fs : List Value} (hX : CGX X cc mL own) (f : FLD own idx ci k) (hs : ws[p]? = some (.inl (ci, fs))) (hf : fs[k]? = some (.ref q)) (d : decode cc pc = .ok (.getfield idx, 3)) (hp : pc + 3 = pc1) (kk : AG X ρ0 n0 ce sl pc1 ls (.ref q :: st) ws) : AG X ρ0 n0 ce sl pc ls (.ref p :: st) ws := fun ρ H locs lsA hρ h1 h2 h3 h4 => by
  subst hp
  obtain ⟨C, T, N, f1, f2, f3, f4⟩ := f
  exact va_get (v := .ref (ρ q)) hX.1.1 hX.1.2.1 (hX.1.2.2.2.2.1) f3 hX.1.2.2.2.1 hX.1.2.2.2.2.2.1 h2 p (gw_get hs) f1 k f2 (hX.1.2.2.2.2.1 _ f4) (fun _ h => h) (by rw [List.getElem?_map, hf]; rfl) d (kk ρ H locs lsA hρ h1 h2 h3 h4)
theorem g_len {p n : Nat} {f : Nat → Int32} (v : Int32) (hX : CGX X cc mL own) (hs : ws[p]? = some (.inr (0, n, f))) (hv : Int32.ofNat n = v) (d : decode cc pc = .ok (.arraylength, 1)) (hp : pc + 1 = pc1) (kk : AG X ρ0 n0 ce sl pc1 ls (.int v :: st) ws) : AG X ρ0 n0 ce sl pc ls (.ref p :: st) ws := fun ρ H locs lsA hρ h1 h2 h3 h4 => by
  subst hp
  exact va_alen hX.1.1 hX.1.2.1 hX.1.2.2.2.2.2.1 h2 p 0 (gw_get hs) rfl hv d (kk ρ H locs lsA hρ h1 h2 h3 h4)
theorem g_ast {p n : Nat} {f : Nat → Int32} {i x : Int32} (hX : CGX X cc mL own) (hs : ws[p]? = some (.inr (0, n, f))) (hi : vp_in i n) (d : decode cc pc = .ok (.iastore, 1)) (hp : pc + 1 = pc1) (kk : AG X ρ0 n0 ce sl pc1 ls st (ws.set p (.inr (0, n, upd f i.toNatClampNeg x)))) : AG X ρ0 n0 ce sl pc ls (.int x :: .int i :: .ref p :: st) ws := fun ρ H locs lsA hρ h1 h2 h3 h4 => by
  subst hp
  refine va_iast hX.1.1 hX.1.2.1 hX.1.2.2.2.2.2.1 h2 h3 h4 p 0 (gw_get hs) rfl hi d (fun H1 locs1 g2 g3 g4 => ?_)
  have e : (gw (aG X) ρ ws).set p (ρ p, .inl ((aG X).2.1, n, .inl (upd f i.toNatClampNeg x))) = gw (aG X) ρ (ws.set p (.inr (0, n, upd f i.toNatClampNeg x))) := by
    rw [← gw_set _ hs]
    rfl
  rw [e] at g2 g3
  exact kk ρ H1 locs1 lsA hρ h1 g2 g3 g4
def QG (X : AX) (ρ0 : Nat → Nat) (n0 mc ms : Nat) (ws' : List GE) : Prop := aQ X = MQ (aBelow X) (va_Qv (fun ρ' : Nat → Nat => ∀ k, k < n0 → ρ' k = ρ0 k) (fun ρ' t => va_P (gD (aG X)) vwCl (gw (aG X) ρ' ws') t.heap ∧ va_D (gA (aG X)) (gw (aG X) ρ' ws')) (gA (aG X))) (aArgs X) (aS X) mc ms (gA (aG X))
theorem g_ret {ws' : List GE} (hX : CGX X cc mL own) (hQ : QG X ρ0 n0 ce sl ws') (hr : (aMeth X).sig.returnType = none) (he : ws = ws') (d : decode cc pc = .ok (.return_, 1)) : AG X ρ0 n0 ce sl pc ls [] ws := fun ρ H locs lsA hρ h1 h2 h3 h4 => by
  subst he
  rw [hQ]
  exact W.vret hX.1.1 hX.1.2.1 hr (fun t ht hW => ⟨⟨ρ, rfl, hρ, by rw [ht]; exact h2, h3⟩, h4.F ht⟩) h4.2.2 d hX.1.2.2.2.2.2.2.2.1
theorem g_call_fin {y : MethodName} {b : ByteArray} {mLc frC loC mc ms : Nat} {ws' : List GE} {As rest : List Value} {stk : List Value} {ρ : Nat → Nat} {H : Heap} {locs : List Loc} {lsA : Array Slot} (hst : rest.all (bnd ws.length) = true) (hls : ls.all (obnd ws.length) = true) (hn0 : n0 ≤ ws.length) (hρ : ∀ k, k < n0 → ρ k = ρ0 k) (h1 : lvO ρ lsA ls) (h4 : va_S (gA (aG X)) (aS X).heap H locs)
    (kk : AG X ρ0 n0 (ce + mc) (sl + ms) (pc + 3) ls rest ws')
    (hr : va_Run (aP X) (aL X) (aEn X) (aR X) (aS X) (aM X) (aArgs X) (aBelow X) (aMeth X) (aC X) H locs ce sl mc ms (F0 (aM X) pc lsA stk) (rest.map (cv ρ)) (va_Qv (fun ρ' : Nat → Nat => ∀ k, k < ws.length → ρ' k = ρ k) (fun ρ' t => va_P (gD (aG X)) vwCl (gw (aG X) ρ' ws') t.heap ∧ va_D (gA (aG X)) (gw (aG X) ρ' ws')) (gA (aG X)) As.toArray) (gA (aG X))) :
    W (aP X) (aL X) (aEn X) (aR X) (aS X) (aM X) (aArgs X) (aBelow X) (aMeth X) (aC X) H locs ce sl (aQ X) (F0 (aM X) pc lsA stk) := by
  refine va_callv hr h4 (fun q _ h => h) (fun q h => h) (fun ρ' t H1 locs1 e1 e2 hv hb hz hk hS => ?_)
  obtain ⟨p1, p2⟩ := hb
  rw [e1] at p1
  have := kk ρ' H1 locs1 lsA (fun k hk => (hv k (Nat.lt_of_lt_of_le hk hn0)).trans (hρ k hk)) (lvO_agree hv hls h1) p1 p2 hS
  rw [map_agree hv hst] at this
  exact this
theorem HG.at {ρ : Nat → Nat} {H : Heap} {locs : List Loc} (hX : CGX X cc mL own) (h2 : va_P (gD (aG X)) vwCl (gw (aG X) ρ ws) H) (h3 : va_D (gA (aG X)) (gw (aG X) ρ ws)) (h4 : va_S (gA (aG X)) (aS X).heap H locs) (U : State) (hU : U.heap = H) (hW : (aS X).WarmedH U.vm) : HG (aG X) ρ ws U :=
  ⟨by rw [hU]; exact h2, va_K.moved hW.alike hX.1.2.2.2.2.2.1, h3, hX.1.2.2.2.2.2.2.1.warm hW, hX.2.warm hW, fun q hq => hX.1.2.2.2.2.2.2.2.2 q (Nat.le_trans h4.1 (by rw [← hU]; exact hq))⟩
/-- a constructor called: by its own link, or over the nest -/
theorem g_callI {idx mLc n q frC loC mc ms : Nat} {y : MethodName} {b : ByteArray} {As rest stk : List Value} {ws' : List GE} (hX : CGX X cc mL own) (hlk : Cond.methodLink own idx y ∈ BIG) (hin : Cond.instanceMethod y ∈ BIG) (hini : Cond.initialized y.cls ∈ BIG) (hcd : Cond.code y b mLc none ∈ BIG) (hy : y.name = "<init>") (hd : y.cls ≠ "java/lang/invoke/MethodHandle" ∧ y.cls ≠ "java/lang/invoke/VarHandle" ∧ (parseMethodDescriptor y.desc).map (fun d => d.parameters.length) = some n) (hc : CG (aL X) y b mLc frC loC mc ms (.ref q :: As) ws ws') (hn : As.length = n) (hst : stk = As.reverse ++ .ref q :: rest) (hroom : frC + 1 ≤ (aR X).frames ∧ 8 + (mLc + 11) + loC ≤ (aR X).locals ∧ ce + mc ≤ (aR X).cells ∧ sl + ms ≤ (aR X).slots) (hw : (rest.map fun v => v.category).sum ≤ 8) (hl : ls.length = mL) (hbr : rest.all (bnd ws.length) = true) (hls : ls.all (obnd ws.length) = true) (hn0 : n0 ≤ ws.length) (d : decode cc pc = .ok (.invokespecial idx, 3)) (hp : pc + 3 = pc1) (kk : AG X ρ0 n0 (ce + mc) (sl + ms) pc1 ls rest ws') : AG X ρ0 n0 ce sl pc ls stk ws := fun ρ H locs lsA hρ h1 h2 h3 h4 => by
  subst hp; subst hst
  have hts := hX.1.2.2.2.2.1
  rw [map_rev]
  exact g_call_fin (As := .ref (ρ q) :: As.map (cv ρ)) (y := y) (b := b) (mLc := mLc) (frC := frC) (loC := loC) hbr hls hn0 hρ h1 h4 kk (va_runI (Ts := BIG) (As := As.map (cv ρ)) (rest := rest.map (cv ρ)) ⟨hX.1.1, hX.1.2.1, hX.1.2.2.1, hX.1.2.2.2.1, hts⟩ (hc (aG X) ρ) (cwI n hts (big_code hcd) rfl rfl rfl (hts _ hini) (hts _ hlk) (hts _ hin) hy hd ⟨hroom.1, hroom.2.1⟩) ⟨HG.blind, fun U hU hW => ⟨rfl, HG.at hX h2 h3 h4 U hU hW⟩⟩ rfl (by rw [List.length_map]; exact hn) (by rw [h1.1]; exact hl) rfl (lv_room (by rw [cat_map]; exact hw)) d hroom.2.2)
theorem g_callN {idx mLc n q frC loC mc ms : Nat} {y : MethodName} {b : ByteArray} {As rest stk : List Value} {ws' : List GE} (hX : CGX X cc mL own) (hlk : (own, idx, y) ∈ nestG) (hin : Cond.instanceMethod y ∈ BIG) (hini : Cond.initialized y.cls ∈ BIG) (hcd : Cond.code y b mLc none ∈ BIG) (hy : y.name = "<init>") (hd : y.cls ≠ "java/lang/invoke/MethodHandle" ∧ y.cls ≠ "java/lang/invoke/VarHandle" ∧ (parseMethodDescriptor y.desc).map (fun d => d.parameters.length) = some n) (hc : CG (aL X) y b mLc frC loC mc ms (.ref q :: As) ws ws') (hn : As.length = n) (hst : stk = As.reverse ++ .ref q :: rest) (hroom : frC + 1 ≤ (aR X).frames ∧ 8 + (mLc + 11) + loC ≤ (aR X).locals ∧ ce + mc ≤ (aR X).cells ∧ sl + ms ≤ (aR X).slots) (hw : (rest.map fun v => v.category).sum ≤ 8) (hl : ls.length = mL) (hbr : rest.all (bnd ws.length) = true) (hls : ls.all (obnd ws.length) = true) (hn0 : n0 ≤ ws.length) (d : decode cc pc = .ok (.invokespecial idx, 3)) (hp : pc + 3 = pc1) (kk : AG X ρ0 n0 (ce + mc) (sl + ms) pc1 ls rest ws') : AG X ρ0 n0 ce sl pc ls stk ws := fun ρ H locs lsA hρ h1 h2 h3 h4 => by
  subst hp; subst hst
  have hts := hX.1.2.2.2.2.1
  rw [map_rev]
  exact g_call_fin (As := .ref (ρ q) :: As.map (cv ρ)) (y := y) (b := b) (mLc := mLc) (frC := frC) (loC := loC) hbr hls hn0 hρ h1 h4 kk (va_runIN (host := RX11) (Ts := BIG) (As := As.map (cv ρ)) (rest := rest.map (cv ρ)) ⟨hX.1.1, hX.1.2.1, hX.1.2.2.1, hX.1.2.2.2.1, hts⟩ (hc (aG X) ρ) ⟨va_cnB n hts (big_code hcd) rfl rfl rfl (hX.2 _ hlk) (hts _ hini) hd ⟨hroom.1, hroom.2.1⟩, hy, hts _ hin⟩ ⟨HG.blind, fun U hU hW => ⟨rfl, HG.at hX h2 h3 h4 U hU hW⟩⟩ rfl (by rw [List.length_map]; exact hn) (by rw [h1.1]; exact hl) rfl (lv_room (by rw [cat_map]; exact hw)) d hroom.2.2)
theorem g_callS {idx mLc n frC loC mc ms : Nat} {y : MethodName} {b : ByteArray} {As rest stk : List Value} {ws' : List GE} (hX : CGX X cc mL own) (ml : MLS own idx y b mLc none n) (hc : CG (aL X) y b mLc frC loC mc ms As ws ws') (hn : As.length = n) (hst : stk = As.reverse ++ rest) (hroom : frC + 1 ≤ (aR X).frames ∧ 8 + (mLc + 11) + loC ≤ (aR X).locals ∧ ce + mc ≤ (aR X).cells ∧ sl + ms ≤ (aR X).slots) (hw : (rest.map fun v => v.category).sum ≤ 8) (hl : ls.length = mL) (hbr : rest.all (bnd ws.length) = true) (hls : ls.all (obnd ws.length) = true) (hn0 : n0 ≤ ws.length) (d : decode cc pc = .ok (.invokestatic idx, 3)) (hp : pc + 3 = pc1) (kk : AG X ρ0 n0 (ce + mc) (sl + ms) pc1 ls rest ws') : AG X ρ0 n0 ce sl pc ls stk ws := fun ρ H locs lsA hρ h1 h2 h3 h4 => by
  subst hp; subst hst
  have hts := hX.1.2.2.2.2.1
  rw [map_rev2]
  exact g_call_fin (As := As.map (cv ρ)) (y := y) (b := b) (mLc := mLc) (frC := frC) (loC := loC) hbr hls hn0 hρ h1 h4 kk (va_runS (Ts := BIG) (As := As.map (cv ρ)) (rest := rest.map (cv ρ)) ⟨hX.1.1, hX.1.2.1, hX.1.2.2.1, hX.1.2.2.2.1, hts⟩ (hc (aG X) ρ) ⟨callB_of n hts (big_code ml.2.2.2.1) rfl rfl rfl (hts _ ml.2.2.1) (hts _ ml.1) ml.2.2.2.2 ⟨hroom.1, hroom.2.1⟩, hts _ ml.2.1⟩ ⟨HG.blind, fun U hU hW => ⟨rfl, HG.at hX h2 h3 h4 U hU hW⟩⟩ rfl (by rw [List.length_map]; exact hn) (by rw [h1.1]; exact hl) rfl (lv_room (by rw [cat_map]; exact hw)) d hroom.2.2)
theorem g_callV {idx mLc n q frC loC mc ms ci : Nat} {y : MethodName} {b : ByteArray} {As rest stk : List Value} {ws' : List GE} {fs : List Value} {T : u_T} {N : Nat} (hX : CGX X cc mL own) (ml : MLV own idx y b mLc none n) (hc : CG (aL X) y b mLc frC loC mc ms (.ref q :: As) ws ws') (hs : ws[q]? = some (.inl (ci, fs))) (hci : vwCl[ci]? = some (y.cls, T, N)) (hn : As.length = n) (hst : stk = As.reverse ++ .ref q :: rest) (hroom : frC + 1 ≤ (aR X).frames ∧ 8 + (mLc + 11) + loC ≤ (aR X).locals ∧ ce + mc ≤ (aR X).cells ∧ sl + ms ≤ (aR X).slots) (hw : (rest.map fun v => v.category).sum ≤ 8) (hl : ls.length = mL) (hbr : rest.all (bnd ws.length) = true) (hls : ls.all (obnd ws.length) = true) (hn0 : n0 ≤ ws.length) (d : decode cc pc = .ok (.invokevirtual idx, 3)) (hp : pc + 3 = pc1) (kk : AG X ρ0 n0 (ce + mc) (sl + ms) pc1 ls rest ws') : AG X ρ0 n0 ce sl pc ls stk ws := fun ρ H locs lsA hρ h1 h2 h3 h4 => by
  subst hp; subst hst
  have hts := hX.1.2.2.2.2.1
  rw [map_rev]
  have hcell : ∃ cellB : Cell, H[ρ q]? = some cellB ∧ cellB.vm.isStatics = false ∧ (aS X).vm.findClass y.cls = some cellB.cls := by
    obtain ⟨r, hr1, cell, q1, q2, q3, q4⟩ := h2 q _ (gw_get hs)
    have hr : r = (y.cls, T, N) := Option.some.inj (hr1.symm.trans hci)
    subst hr
    obtain ⟨hS, hfc, kC, hkC, hkind⟩ := hX.1.2.2.2.2.2.1.1 ci _ hci
    exact ⟨cell, q1, by rw [q3]; rfl, by rw [q2]; exact hfc⟩
  exact g_call_fin (As := .ref (ρ q) :: As.map (cv ρ)) (y := y) (b := b) (mLc := mLc) (frC := frC) (loC := loC) hbr hls hn0 hρ h1 h4 kk (va_runV (Ts := BIG) (As := As.map (cv ρ)) (rest := rest.map (cv ρ)) ⟨hX.1.1, hX.1.2.1, hX.1.2.2.1, hX.1.2.2.2.1, hts⟩ (hc (aG X) ρ) ⟨callB_of n hts (big_code ml.2.2.2.2.1) rfl rfl rfl (hts _ ml.2.2.2.1) (hts _ ml.1) ml.2.2.2.2.2 ⟨hroom.1, hroom.2.1⟩, hts _ ml.2.1, hts _ ml.2.2.1⟩ ⟨HG.blind, hcell, fun U hU hW => ⟨rfl, HG.at hX h2 h3 h4 U hU hW⟩⟩ rfl (by rw [List.length_map]; exact hn) (by rw [h1.1]; exact hl) rfl (lv_room (by rw [cat_map]; exact hw)) d hroom.2.2)
end GROWS
theorem cg_of {l : Launch} {y : MethodName} {b : ByteArray} {mL fr lo mc ms : Nat} {as : List Value} {ws ws' : List GE} (hy : plainName y.cls = true) (hc : ∀ u ∈ as, u.category = 1) (hn : as.length ≤ mL)
    (body : ∀ (X : AX) (ρ0 : Nat → Nat), aL X = l → CX X b mL y.cls → NG (aS X) → (y.name = "<init>" → (aMeth X).name = "<init>") → aR X = rmG fr lo mc ms → QG X ρ0 ws.length mc ms ws' → (aMeth X).sig.returnType = none → AG X ρ0 ws.length 0 0 0 (as.map some ++ List.replicate (mL - as.length) none) [] ws) : CG l y b mL fr lo mc ms as ws ws' := by
  intro g ρ
  refine Met.ofW (cc := b) (maxL := mL) (ret := none) hy rfl ?_
  intro p e s m args below meth c s₁ B hml hv
  obtain ⟨rfl, hP, hK, hD, hN, hG, hb⟩ := hv
  have hts := atoms_spec (ws := .code y b mL none :: BIG) B.pre
  rw [lg_entry_eq]
  exact body (p, l, e, rmG fr lo mc ms, s, m, (as.map (cv ρ)).toArray, below, meth, c, g, MQ below (va_Qv (fun ρ' : Nat → Nat => ∀ k, k < ws.length → ρ' k = ρ k) (fun ρ' t => va_P (gD g) vwCl (gw g ρ' ws') t.heap ∧ va_D (gA g) (gw g ρ' ws')) (gA g)) (as.map (cv ρ)).toArray s mc ms (gA g), 0, 0) ρ rfl
      ⟨B.exec, B.bytes, hml, findClass_of_methodNamed B.named, fun w hw => hts w (List.mem_cons_of_mem _ hw), hK, hN, B.notSynchronized, hb⟩ hG (fun hi => by rw [(name_of_methodNamed B.named B.method).1, hi]) rfl rfl B.returns ρ s.heap [] _ (fun _ _ => rfl) (lvO_entry as mL hc hn) hP hD va_S.rf

theorem ar_int : Cond.arrayClass .int ∈ BIG := bg 69 (by decide +kernel) rfl
theorem ob_X7_3 : Cond.methodLink RX7 3 objectInit ∈ BIG ∧ Cond.instanceMethod objectInit ∈ BIG ∧ Cond.code objectInit ⟨#[0xb1]⟩ 1 none ∈ BIG := ⟨bg 61 (by decide +kernel) rfl, bg 42 (by decide +kernel) rfl, bg 43 (by decide +kernel) rfl⟩
theorem fg_X7_9 : FPG RX7 9 7 0 (.array .int) := ⟨RX7, TX7, 1, tyX7, rfl, by decide, bgc_7, bg 65 (by decide +kernel) rfl, tyX7_ok, nmX7, Or.inr ⟨rfl, rfl⟩, by decide +kernel⟩
/-! ===== the leaves of the constructors: Arrays.fill, Row.set, Row's own ===== -/
def fillF (f : Nat → Int32) (v : Int32) (N : Nat) : Nat → Int32 := fun j => if j < N then v else f j
theorem fillF_0 (f : Nat → Int32) (v : Int32) : fillF f v 0 = f := by
  funext j
  simp [fillF]
theorem fillF_s (f : Nat → Int32) (v : Int32) (i : Nat) : upd (fillF f v i) i v = fillF f v (i + 1) := by
  funext j
  unfold upd fillF
  by_cases h : j = i
  · subst h
    simp
  · by_cases h2 : j < i
    · simp [h, h2, Nat.lt_succ_of_lt h2]
    · simp [h, h2, show ¬ j < i + 1 by omega]
theorem ig_fill {X : AX} {ρ0 : Nat → Nat} {n0 : Nat} {ws : List GE} {q N : Nat} {v : Int32} {f : Nat → Int32} (hX : CGX X cJ7_fill_53178 4 RJ7) (hN : N < 2 ^ 31) (hq : q < ws.length) (hQ : QG X ρ0 n0 0 0 (ws.set q (.inr (0, N, fillF f v N)))) (hr : (aMeth X).sig.returnType = none) : ∀ (k i : Nat), i + k = N → AG X ρ0 n0 0 0 5 [some (.ref q), some (.int v), some (.int (nI i)), some (.int (nI N))] [] (ws.set q (.inr (0, N, fillF f v i))) := by
  intro k
  induction k with
  | zero =>
    intro i hi
    have e : i = N := hi
    subst e
    refine g_il hX dJ7_fill_53178_5 rfl rfl rfl ?_
    refine g_il hX dJ7_fill_53178_6 rfl rfl rfl ?_
    refine g_get hX dJ7_fill_53178_7 rfl ((nI_leI hN hN).mpr (Nat.le_refl _)) ?_
    exact g_ret hX hQ hr rfl dJ7_fill_53178_20
  | succ k ih =>
    intro i hi
    have h1 : i < N := by omega
    have h2 : i < 2 ^ 31 := by omega
    refine g_il hX dJ7_fill_53178_5 rfl rfl rfl ?_
    refine g_il hX dJ7_fill_53178_6 rfl rfl rfl ?_
    refine g_gef hX dJ7_fill_53178_7 (tgt := 20) rfl (fun h => by have := (nI_leI hN h2).mp h; omega) rfl ?_
    refine g_al hX dJ7_fill_53178_10 rfl rfl rfl ?_
    refine g_il hX dJ7_fill_53178_11 rfl rfl rfl ?_
    refine g_il hX dJ7_fill_53178_12 rfl rfl rfl ?_
    refine g_ast hX (n := N) (f := fillF f v i) (by simp [hq]) (vp_in_nI h1 hN) dJ7_fill_53178_13 rfl ?_
    rw [List.set_set, nI_clamp h2, fillF_s]
    refine g_inc hX dJ7_fill_53178_14 rfl (by simp) (v := nI (i + 1)) (by rw [nI_succ]; rfl) rfl ?_
    refine g_goto hX dJ7_fill_53178_17 rfl ?_
    exact ih (i + 1) (by omega)
theorem cg_fill (l : Launch) (q N : Nat) (v : Int32) (f : Nat → Int32) (ws : List GE) (hN : N < 2 ^ 31) (hs : ws[q]? = some (.inr (0, N, f))) : CG l yJ7_fill_53178 cJ7_fill_53178 4 0 0 0 0 [.ref q, .int v] ws (ws.set q (.inr (0, N, fillF f v N))) := by
  have hq : q < ws.length := (List.getElem?_eq_some_iff.mp hs).1
  refine cg_of (by decide) (by simp [Value.category]) (by simp) (fun X ρ0 hl hX0 hG _ hR hQ hr => ?_)
  have hX : CGX X cJ7_fill_53178 4 RJ7 := ⟨hX0, hG⟩
  refine g_ic 0 hX dJ7_fill_53178_0 (by decide) rfl ?_
  refine g_is hX dJ7_fill_53178_1 rfl (by simp) rfl ?_
  refine g_al hX dJ7_fill_53178_2 rfl rfl rfl ?_
  refine g_len (nI N) hX hs rfl dJ7_fill_53178_3 rfl ?_
  refine g_is hX dJ7_fill_53178_4 rfl (by simp) rfl ?_
  have := ig_fill (f := f) hX hN hq hQ hr N 0 (by omega)
  rw [fillF_0] at this
  have e : ws.set q (.inr (0, N, f)) = ws := by
    apply List.ext_getElem?
    intro i
    rw [List.getElem?_set]
    by_cases h : q = i
    · subst h
      rw [if_pos rfl, if_pos hq, hs]
    · simp [h]
  rw [e] at this
  exact this
theorem cg_set (l : Launch) (p a N : Nat) (i v : Int32) (f : Nat → Int32) (ws : List GE) (hp : ws[p]? = some (.inl (7, [.ref a]))) (ha : ws[a]? = some (.inr (0, N, f))) (h0 : ¬ i < 0) (h1 : ¬ Int32.ofNat N ≤ i) (hi : vp_in i N) : CG l yX7_set cX7_set 3 0 0 0 0 [.ref p, .int i, .int v] ws (ws.set a (.inr (0, N, upd f i.toNatClampNeg v))) := by
  refine cg_of (by decide) (by simp [Value.category]) (by simp) (fun X ρ0 hl hX0 hG _ hR hQ hr => ?_)
  have hX : CGX X cX7_set 3 RX7 := ⟨hX0, hG⟩
  refine g_il hX dX7_set_0 rfl rfl rfl ?_
  refine g_ltf hX dX7_set_1 (tgt := 20) rfl h0 rfl ?_
  refine g_il hX dX7_set_4 rfl rfl rfl ?_
  refine g_al hX dX7_set_5 rfl rfl rfl ?_
  refine g_getR (k := 0) hX fl_X7_9 hp rfl dX7_set_6 rfl ?_
  refine g_len (Int32.ofNat N) hX ha rfl dX7_set_9 rfl ?_
  refine g_gef hX dX7_set_10 (tgt := 20) rfl h1 rfl ?_
  refine g_al hX dX7_set_13 rfl rfl rfl ?_
  refine g_getR (k := 0) hX fl_X7_9 hp rfl dX7_set_14 rfl ?_
  refine g_il hX dX7_set_17 rfl rfl rfl ?_
  refine g_il hX dX7_set_18 rfl rfl rfl ?_
  refine g_ast hX ha hi dX7_set_19 rfl ?_
  exact g_ret hX hQ hr rfl dX7_set_20
theorem cg_row (l : Launch) (p N : Nat) (n v : Int32) (ws ws' : List GE) (h0 : ¬ n ≤ 0) (hN : n.toNatClampNeg = N) (hB : N ≤ 1000) (hwf : wfG ws.length ws = true) (hs : ws[p]? = some (.inl (7, [.null]))) (he : ws.set p (.inl (7, [.ref ws.length])) ++ [.inr (0, N, fillF (fun _ => 0) v N)] = ws') : CG l yX7_init cX7_init 3 1 23 1 N [.ref p, .int n, .int v] ws ws' := by
  subst he
  have hp : p < ws.length := (List.getElem?_eq_some_iff.mp hs).1
  refine cg_of (by decide) (by simp [Value.category]) (by simp) (fun X ρ0 hl hX0 hG hnm hR hQ hr => ?_)
  have hX : CGX X cX7_init 3 RX7 := ⟨hX0, hG⟩
  have hi := hnm rfl
  refine g_al hX dX7_init_0 rfl rfl rfl ?_
  refine g_obj hX ob_X7_3 rfl (by rw [hR]; exact Nat.le_of_ble_eq_true rfl) (by rw [hR]; exact Nat.le_of_ble_eq_true rfl) dX7_init_1 rfl ?_
  refine g_al hX dX7_init_4 rfl rfl rfl ?_
  refine g_il hX dX7_init_5 rfl rfl rfl ?_
  refine g_lef hX dX7_init_6 (tgt := 13) rfl h0 rfl ?_
  refine g_il hX dX7_init_9 rfl rfl rfl ?_
  refine g_goto hX dX7_init_10 (pc1 := 14) rfl ?_
  refine g_newa (t := 0) (N := N) (ty9 := .int) rfl hX rfl (Or.inl ⟨rfl, rfl⟩) ar_int hwf (by simp [bnd, hp]) (by simp [obnd, bnd, hp]) (Nat.le_refl _) (fun h => h0 (Int32.le_of_lt h)) hN (by show N * 4 ≤ 536870912; omega) ⟨by rw [hR]; exact Nat.le_refl _, by rw [hR]; show 0 + N ≤ N; omega⟩ dX7_init_14 rfl ?_
  refine g_put (k := 0) hX hi fg_X7_9 (fun _ => ⟨rfl, rfl⟩) (p := p) (ci := 7) (fs := [.null]) (by rw [List.getElem?_append_left hp]; exact hs) (by decide) dX7_init_16 rfl ?_
  rw [List.set_append_left _ _ hp]
  refine g_al hX dX7_init_19 rfl rfl rfl ?_
  refine g_getR (k := 0) (q := ws.length) (ci := 7) (fs := [.ref ws.length]) hX fl_X7_9 (by rw [List.getElem?_append_left (by rw [List.length_set]; exact hp)]; simp [hp]) rfl dX7_init_20 rfl ?_
  refine g_il hX dX7_init_23 rfl rfl rfl ?_
  have hlen : p < (ws.set p (.inl (7, [.ref ws.length])) ++ [.inr (0, N, fun _ => 0)] : List GE).length := by
    rw [List.length_append, List.length_set]
    exact Nat.lt_of_lt_of_le hp (Nat.le_add_right _ _)
  have hls9 : ([some (.ref p), some (.int n), some (.int v)] : List (Option Value)).all (obnd (ws.set p (.inl (7, [.ref ws.length])) ++ [.inr (0, N, fun _ => 0)] : List GE).length) = true := by
    show (decide (p < _) && (true && (true && true))) = true
    rw [decide_eq_true hlen]
    rfl
  refine g_callS hX ml_X7_15 (cg_fill _ ws.length N v (fun _ => 0) _ (by omega) (by rw [List.getElem?_append_right (by simp)]; simp)) rfl rfl ⟨by rw [hR]; exact Nat.le_of_ble_eq_true rfl, by rw [hR]; exact Nat.le_of_ble_eq_true rfl, by rw [hR]; exact Nat.le_refl _, by rw [hR]; show 0 + N + 0 ≤ N; omega⟩ (Nat.le_of_ble_eq_true rfl) rfl rfl hls9 (by simp) dX7_init_24 rfl ?_
  have hQ' : QG X ρ0 ws.length (0 + 1 + 0) (0 + N + 0) (ws.set p (.inl (7, [.ref ws.length])) ++ [.inr (0, N, fillF (fun _ => 0) v N)]) := by
    rw [show 0 + N + 0 = N by omega]
    exact hQ
  refine g_ret hX hQ' hr ?_ dX7_init_27
  rw [List.set_append_right _ _ (by simp)]
  simp
