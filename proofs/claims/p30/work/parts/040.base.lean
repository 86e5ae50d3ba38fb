abbrev Mem : Type := Nat → Nat → Int32
/-- what stands at a place of the system's heap: an object (its class's number, its fields: a place, or an int), or an array (0 int, 1 boolean, 2 long; its length) -/
abbrev SE : Type := (Nat × List (Option Nat)) ⊕ (Nat × Nat)
def shp : List SE := [.inl (11, [some 1, some 66, some 67, some 81, some 89]),
  .inl (10, [some 2, some 17, some 32, some 47, some 56, some 58, some 60, some 62, some 64, none, none]),
  .inl (9, [some 3, some 5, some 7, some 9, some 11, some 13, some 15, none, none, none, none]),
  .inl (7, [some 4]),
  .inr (0, 24),
  .inl (7, [some 6]),
  .inr (0, 24),
  .inl (7, [some 8]),
  .inr (0, 24),
  .inl (7, [some 10]),
  .inr (0, 24),
  .inl (7, [some 12]),
  .inr (0, 72),
  .inl (7, [some 14]),
  .inr (0, 24),
  .inl (7, [some 16]),
  .inr (0, 6),
  .inl (6, [some 18, some 20, some 22, some 24, some 26, some 28, some 30, none]),
  .inl (7, [some 19]),
  .inr (0, 30),
  .inl (7, [some 21]),
  .inr (0, 30),
  .inl (7, [some 23]),
  .inr (0, 30),
  .inl (7, [some 25]),
  .inr (0, 30),
  .inl (7, [some 27]),
  .inr (0, 30),
  .inl (7, [some 29]),
  .inr (0, 30),
  .inl (7, [some 31]),
  .inr (0, 30),
  .inl (4, [some 33, some 35, some 37, some 39, some 41, some 43, some 45]),
  .inl (7, [some 34]),
  .inr (0, 120),
  .inl (7, [some 36]),
  .inr (0, 120),
  .inl (7, [some 38]),
  .inr (0, 120),
  .inl (7, [some 40]),
  .inr (0, 120),
  .inl (7, [some 42]),
  .inr (0, 120),
  .inl (7, [some 44]),
  .inr (0, 120),
  .inl (7, [some 46]),
  .inr (0, 24),
  .inl (2, [some 48, some 50, some 52, some 54, none]),
  .inl (7, [some 49]),
  .inr (0, 6),
  .inl (7, [some 51]),
  .inr (0, 6),
  .inl (7, [some 53]),
  .inr (0, 6),
  .inl (7, [some 55]),
  .inr (0, 6),
  .inl (7, [some 57]),
  .inr (0, 6),
  .inl (7, [some 59]),
  .inr (0, 8),
  .inl (7, [some 61]),
  .inr (0, 8),
  .inl (7, [some 63]),
  .inr (0, 6),
  .inl (7, [some 65]),
  .inr (0, 6),
  .inl (5, [some 1, none, none]),
  .inl (8, [some 1, some 66, some 76, some 68, some 70, some 72, some 74, none, none, none]),
  .inl (7, [some 69]),
  .inr (0, 6),
  .inl (7, [some 71]),
  .inr (0, 30),
  .inl (7, [some 73]),
  .inr (0, 6),
  .inl (7, [some 75]),
  .inr (0, 6),
  .inl (1, [some 1, some 77, some 79]),
  .inl (7, [some 78]),
  .inr (0, 6),
  .inl (7, [some 80]),
  .inr (0, 6),
  .inl (0, [some 1, some 66, some 84, some 82]),
  .inl (7, [some 83]),
  .inr (0, 6),
  .inl (1, [some 1, some 85, some 87]),
  .inl (7, [some 86]),
  .inr (0, 6),
  .inl (7, [some 88]),
  .inr (0, 6),
  .inl (3, [some 90, some 92]),
  .inl (7, [some 91]),
  .inr (0, 6),
  .inl (7, [some 93]),
  .inr (0, 6)]

theorem s_0 : shp[0]? = some (.inl (11, [some 1, some 66, some 67, some 81, some 89])) := rfl
theorem s_1 : shp[1]? = some (.inl (10, [some 2, some 17, some 32, some 47, some 56, some 58, some 60, some 62, some 64, none, none])) := rfl
theorem s_2 : shp[2]? = some (.inl (9, [some 3, some 5, some 7, some 9, some 11, some 13, some 15, none, none, none, none])) := rfl
theorem s_3 : shp[3]? = some (.inl (7, [some 4])) := rfl
theorem s_4 : shp[4]? = some (.inr (0, 24)) := rfl
theorem s_5 : shp[5]? = some (.inl (7, [some 6])) := rfl
theorem s_6 : shp[6]? = some (.inr (0, 24)) := rfl
theorem s_7 : shp[7]? = some (.inl (7, [some 8])) := rfl
theorem s_8 : shp[8]? = some (.inr (0, 24)) := rfl
theorem s_9 : shp[9]? = some (.inl (7, [some 10])) := rfl
theorem s_10 : shp[10]? = some (.inr (0, 24)) := rfl
theorem s_11 : shp[11]? = some (.inl (7, [some 12])) := rfl
theorem s_12 : shp[12]? = some (.inr (0, 72)) := rfl
theorem s_13 : shp[13]? = some (.inl (7, [some 14])) := rfl
theorem s_14 : shp[14]? = some (.inr (0, 24)) := rfl
theorem s_15 : shp[15]? = some (.inl (7, [some 16])) := rfl
theorem s_16 : shp[16]? = some (.inr (0, 6)) := rfl
theorem s_17 : shp[17]? = some (.inl (6, [some 18, some 20, some 22, some 24, some 26, some 28, some 30, none])) := rfl
theorem s_18 : shp[18]? = some (.inl (7, [some 19])) := rfl
theorem s_19 : shp[19]? = some (.inr (0, 30)) := rfl
theorem s_20 : shp[20]? = some (.inl (7, [some 21])) := rfl
theorem s_21 : shp[21]? = some (.inr (0, 30)) := rfl
theorem s_22 : shp[22]? = some (.inl (7, [some 23])) := rfl
theorem s_23 : shp[23]? = some (.inr (0, 30)) := rfl
theorem s_24 : shp[24]? = some (.inl (7, [some 25])) := rfl
theorem s_25 : shp[25]? = some (.inr (0, 30)) := rfl
theorem s_26 : shp[26]? = some (.inl (7, [some 27])) := rfl
theorem s_27 : shp[27]? = some (.inr (0, 30)) := rfl
theorem s_28 : shp[28]? = some (.inl (7, [some 29])) := rfl
theorem s_29 : shp[29]? = some (.inr (0, 30)) := rfl
theorem s_30 : shp[30]? = some (.inl (7, [some 31])) := rfl
theorem s_31 : shp[31]? = some (.inr (0, 30)) := rfl
theorem s_32 : shp[32]? = some (.inl (4, [some 33, some 35, some 37, some 39, some 41, some 43, some 45])) := rfl
theorem s_33 : shp[33]? = some (.inl (7, [some 34])) := rfl
theorem s_34 : shp[34]? = some (.inr (0, 120)) := rfl
theorem s_35 : shp[35]? = some (.inl (7, [some 36])) := rfl
theorem s_36 : shp[36]? = some (.inr (0, 120)) := rfl
theorem s_37 : shp[37]? = some (.inl (7, [some 38])) := rfl
theorem s_38 : shp[38]? = some (.inr (0, 120)) := rfl
theorem s_39 : shp[39]? = some (.inl (7, [some 40])) := rfl
theorem s_40 : shp[40]? = some (.inr (0, 120)) := rfl
theorem s_41 : shp[41]? = some (.inl (7, [some 42])) := rfl
theorem s_42 : shp[42]? = some (.inr (0, 120)) := rfl
theorem s_43 : shp[43]? = some (.inl (7, [some 44])) := rfl
theorem s_44 : shp[44]? = some (.inr (0, 120)) := rfl
theorem s_45 : shp[45]? = some (.inl (7, [some 46])) := rfl
theorem s_46 : shp[46]? = some (.inr (0, 24)) := rfl
theorem s_47 : shp[47]? = some (.inl (2, [some 48, some 50, some 52, some 54, none])) := rfl
theorem s_48 : shp[48]? = some (.inl (7, [some 49])) := rfl
theorem s_49 : shp[49]? = some (.inr (0, 6)) := rfl
theorem s_50 : shp[50]? = some (.inl (7, [some 51])) := rfl
theorem s_51 : shp[51]? = some (.inr (0, 6)) := rfl
theorem s_52 : shp[52]? = some (.inl (7, [some 53])) := rfl
theorem s_53 : shp[53]? = some (.inr (0, 6)) := rfl
theorem s_54 : shp[54]? = some (.inl (7, [some 55])) := rfl
theorem s_55 : shp[55]? = some (.inr (0, 6)) := rfl
theorem s_56 : shp[56]? = some (.inl (7, [some 57])) := rfl
theorem s_57 : shp[57]? = some (.inr (0, 6)) := rfl
theorem s_58 : shp[58]? = some (.inl (7, [some 59])) := rfl
theorem s_59 : shp[59]? = some (.inr (0, 8)) := rfl
theorem s_60 : shp[60]? = some (.inl (7, [some 61])) := rfl
theorem s_61 : shp[61]? = some (.inr (0, 8)) := rfl
theorem s_62 : shp[62]? = some (.inl (7, [some 63])) := rfl
theorem s_63 : shp[63]? = some (.inr (0, 6)) := rfl
theorem s_64 : shp[64]? = some (.inl (7, [some 65])) := rfl
theorem s_65 : shp[65]? = some (.inr (0, 6)) := rfl
theorem s_66 : shp[66]? = some (.inl (5, [some 1, none, none])) := rfl
theorem s_67 : shp[67]? = some (.inl (8, [some 1, some 66, some 76, some 68, some 70, some 72, some 74, none, none, none])) := rfl
theorem s_68 : shp[68]? = some (.inl (7, [some 69])) := rfl
theorem s_69 : shp[69]? = some (.inr (0, 6)) := rfl
theorem s_70 : shp[70]? = some (.inl (7, [some 71])) := rfl
theorem s_71 : shp[71]? = some (.inr (0, 30)) := rfl
theorem s_72 : shp[72]? = some (.inl (7, [some 73])) := rfl
theorem s_73 : shp[73]? = some (.inr (0, 6)) := rfl
theorem s_74 : shp[74]? = some (.inl (7, [some 75])) := rfl
theorem s_75 : shp[75]? = some (.inr (0, 6)) := rfl
theorem s_76 : shp[76]? = some (.inl (1, [some 1, some 77, some 79])) := rfl
theorem s_77 : shp[77]? = some (.inl (7, [some 78])) := rfl
theorem s_78 : shp[78]? = some (.inr (0, 6)) := rfl
theorem s_79 : shp[79]? = some (.inl (7, [some 80])) := rfl
theorem s_80 : shp[80]? = some (.inr (0, 6)) := rfl
theorem s_81 : shp[81]? = some (.inl (0, [some 1, some 66, some 84, some 82])) := rfl
theorem s_82 : shp[82]? = some (.inl (7, [some 83])) := rfl
theorem s_83 : shp[83]? = some (.inr (0, 6)) := rfl
theorem s_84 : shp[84]? = some (.inl (1, [some 1, some 85, some 87])) := rfl
theorem s_85 : shp[85]? = some (.inl (7, [some 86])) := rfl
theorem s_86 : shp[86]? = some (.inr (0, 6)) := rfl
theorem s_87 : shp[87]? = some (.inl (7, [some 88])) := rfl
theorem s_88 : shp[88]? = some (.inr (0, 6)) := rfl
theorem s_89 : shp[89]? = some (.inl (3, [some 90, some 92])) := rfl
theorem s_90 : shp[90]? = some (.inl (7, [some 91])) := rfl
theorem s_91 : shp[91]? = some (.inr (0, 6)) := rfl
theorem s_92 : shp[92]? = some (.inl (7, [some 93])) := rfl
theorem s_93 : shp[93]? = some (.inr (0, 6)) := rfl
def NN (U : State) : Prop := ∀ q ∈ nestL, va_Nw (.methodLinkNest q.1 q.2.1 q.2.2 RX11) U
theorem NN.warm {s U : State} (hW : s.WarmedH U.vm) (h : NN s) : NN U := fun q hq => va_Nw.warmM hW (h q hq)
theorem NN.same {u U : State} (e : u.vm = U.vm) (h : NN u) : NN U := fun q hq => va_Nw.same rfl e (h q hq)
/-! ===== the world at a memory ===== -/
abbrev GX : Type := va_G × ClassId × ClassId × ClassId × (Nat → Nat) × Nat × (Nat → Int64)
abbrev gD (g : GX) : va_G := g.1
abbrev gT (g : GX) : List (ClassId × FieldType) := [(g.2.1, .int)]
abbrev gr (g : GX) : Nat → Nat := g.2.2.2.2.1
abbrev gb (g : GX) : Nat := g.2.2.2.2.2.1
abbrev gt (g : GX) : Nat → Int64 := g.2.2.2.2.2.2
def cv (ρ : Nat → Nat) : Value → Value
  | .ref k => .ref (ρ k)
  | v => v
def sF (ρ : Nat → Nat) (f : Nat → Int32) : Nat → List (Option Nat) → List Value
  | _, [] => []
  | j, some q :: t => .ref (ρ q) :: sF ρ f (j + 1) t
  | j, none :: t => .int (f j) :: sF ρ f (j + 1) t
def sE (g : GX) (σ : Mem) (k : Nat) : SE → va_E
  | .inl o => .inr (o.1, sF (gr g) (σ k) 0 o.2)
  | .inr (0, n) => .inl (g.2.1, n, .inl (σ k))
  | .inr (1, n) => .inl (g.2.2.1, n, .inl (σ k))
  | .inr (_, n) => .inl (g.2.2.2.1, n, .inr (.inl (gt g)))
def wdL (g : GX) (σ : Mem) : Nat → List SE → va_W
  | _, [] => []
  | k, e :: t => (gr g k, sE g σ k e) :: wdL g σ (k + 1) t
def wd (g : GX) (σ : Mem) : va_W := wdL g σ 0 shp
theorem wdL_get (g : GX) (σ : Mem) : ∀ (L : List SE) (b i : Nat), (wdL g σ b L)[i]? = (L[i]?).map fun e => (gr g (b + i), sE g σ (b + i) e)
  | [], b, i => by simp [wdL]
  | e :: t, b, 0 => by simp [wdL]
  | e :: t, b, i + 1 => by
    simp only [wdL, List.getElem?_cons_succ]
    rw [wdL_get g σ t (b + 1) i, show b + 1 + i = b + (i + 1) by omega]
theorem wd_get {g : GX} {σ : Mem} {k : Nat} {e : SE} (h : shp[k]? = some e) : (wd g σ)[k]? = some (gr g k, sE g σ k e) := by
  unfold wd
  rw [wdL_get, h]
  simp
def setA (σ : Mem) (k : Nat) (f : Nat → Int32) : Mem := fun k' => if k' = k then f else σ k'
def up (σ : Mem) (k j : Nat) (x : Int32) : Mem := setA σ k (upd (σ k) j x)
theorem setA_same (σ : Mem) (k : Nat) (f : Nat → Int32) : setA σ k f k = f := by simp [setA]
theorem setA_ne (σ : Mem) {k k' : Nat} (f : Nat → Int32) (h : k' ≠ k) : setA σ k f k' = σ k' := by simp [setA, h]
theorem sE_off {g : GX} {σ : Mem} {k k' : Nat} (f : Nat → Int32) (e : SE) (h : k' ≠ k) : sE g (setA σ k f) k' e = sE g σ k' e := by
  rcases e with o | ⟨t, n⟩
  · simp [sE, setA_ne _ _ h]
  · match t with
    | 0 => simp [sE, setA_ne _ _ h]
    | 1 => simp [sE, setA_ne _ _ h]
    | _ + 2 => simp [sE]
theorem wd_set {g : GX} {σ : Mem} {k : Nat} {e : SE} (f : Nat → Int32) (h : shp[k]? = some e) : (wd g σ).set k (gr g k, sE g (setA σ k f) k e) = wd g (setA σ k f) := by
  apply List.ext_getElem?
  intro i
  rw [List.getElem?_set]
  unfold wd
  rw [wdL_get, wdL_get]
  by_cases hi : k = i
  · subst hi
    have hk : k < (wdL g σ 0 shp).length := by
      have := wdL_get g σ shp 0 k
      rw [h] at this
      exact (List.getElem?_eq_some_iff.mp this).1
    rw [if_pos rfl, if_pos hk, h]
    simp
  · rw [if_neg hi]
    cases hs : shp[i]? with
    | none => rfl
    | some e' => simp [sE_off f e' (fun q => hi q.symm)]
theorem sF_get {ρ : Nat → Nat} {f : Nat → Int32} : ∀ (L : List (Option Nat)) (b i : Nat), (sF ρ f b L)[i]? = (L[i]?).map fun o => match o with
    | some q => Value.ref (ρ q)
    | none => Value.int (f (b + i))
  | [], b, i => by simp [sF]
  | some q :: t, b, 0 => by simp [sF]
  | none :: t, b, 0 => by simp [sF]
  | some q :: t, b, i + 1 => by
    simp only [sF, List.getElem?_cons_succ]
    rw [sF_get t (b + 1) i, show b + 1 + i = b + (i + 1) by omega]
  | none :: t, b, i + 1 => by
    simp only [sF, List.getElem?_cons_succ]
    rw [sF_get t (b + 1) i, show b + 1 + i = b + (i + 1) by omega]
theorem sF_len {ρ : Nat → Nat} {f : Nat → Int32} : ∀ (L : List (Option Nat)) (b : Nat), (sF ρ f b L).length = L.length
  | [], b => rfl
  | some q :: t, b => by simp [sF, sF_len t]
  | none :: t, b => by simp [sF, sF_len t]
theorem sF_set {ρ : Nat → Nat} {f : Nat → Int32} {L : List (Option Nat)} {j : Nat} (x : Int32) (h : L[j]? = some none) : (sF ρ f 0 L).set j (.int x) = sF ρ (upd f j x) 0 L := by
  apply List.ext_getElem?
  intro i
  rw [List.getElem?_set, sF_get, sF_get]
  by_cases hi : j = i
  · subst hi
    have hj : j < (sF ρ f 0 L).length := by rw [sF_len]; exact (List.getElem?_eq_some_iff.mp h).1
    rw [if_pos rfl, if_pos hj, h]
    simp [upd]
  · rw [if_neg hi]
    have hq : 0 + i ≠ j := by omega
    cases hs : L[i]? with
    | none => rfl
    | some o => cases o <;> simp [upd, hq, show i ≠ j by omega]
/-- what a state holds where the system's memory is σ -/
def HO (g : GX) (σ : Mem) (U : State) : Prop := va_P (gD g) vwCl (wd g σ) U.heap ∧ va_K (gD g) vwCl (gT g) U ∧ va_D (fun q => gb g ≤ q) (wd g σ) ∧ NN U
theorem HO.warm {g : GX} {σ : Mem} {s U : State} (hW : s.WarmedH U.vm) (hH : va_P (gD g) vwCl (wd g σ) U.heap) (h : va_K (gD g) vwCl (gT g) s) (hD : va_D (fun q => gb g ≤ q) (wd g σ)) (hN : NN s) : HO g σ U := ⟨hH, va_K.moved hW.alike h, hD, hN.warm hW⟩
theorem HO.blind {g : GX} {σ : Mem} {as : List Value} : FrameBlind (va_Pc as (HO g σ)) := fun a U gg mk q => ⟨q.1, q.2.1, va_K.moved (u := U) (U := U.calling gg mk a) (Vm.Alike.refl U.vm) q.2.2.1, q.2.2.2.1, NN.same rfl q.2.2.2.2⟩
abbrev rmOf (fr lo : Nat) : Room := { frames := fr, cells := 0, slots := 0, locals := lo }
abbrev gA (g : GX) : Nat → Prop := fun q => gb g ≤ q
/-- a method's contract: if its mirror is some r, then it returns r.1, and leaves the memory r.2 -/
def CI (l : Launch) (y : MethodName) (b : ByteArray) (mL : Nat) (ret : Option FieldType) (fr lo : Nat) (as : List Value) (σ : Mem) (oo : Option (Int32 × Mem)) : Prop :=
  ∀ (g : GX) (r : Int32 × Mem), oo = some r → Met l y (.code y b mL ret :: BIG) (rmOf fr lo) (va_Pc (as.map (cv (gr g))) (HO g σ)) (va_Qi (fun v (_ : Unit) => v = r.1) (fun _ t => HO g r.2 t) (gA g)) 0 0 (gA g)
def CV (l : Launch) (y : MethodName) (b : ByteArray) (mL : Nat) (fr lo : Nat) (as : List Value) (σ : Mem) (oo : Option (Int32 × Mem)) : Prop :=
  ∀ (g : GX) (r : Int32 × Mem), oo = some r → Met l y (.code y b mL none :: BIG) (rmOf fr lo) (va_Pc (as.map (cv (gr g))) (HO g σ)) (va_Qv (fun (_ : Unit) => True) (fun _ t => HO g r.2 t) (gA g)) 0 0 (gA g)
/-! ===== the judgement: where the mirror of what is left to do is oo, and this is the r0 that is wanted, the machine comes to Q ===== -/
abbrev AX : Type := Program × Launch × Env × Room × State × MethodId × Array Value × List Frame × Method × Code × GX × (State → Prop) × Nat × Nat
def lvO (ρ : Nat → Nat) (lsA : Array Slot) (ls : List (Option Value)) : Prop := lsA.size = ls.length ∧ lv_wf lsA ∧ ∀ (i : Nat) (v : Value), ls[i]? = some (some v) → lsA[i]? = some (.val (cv ρ v)) ∧ v.category = 1
abbrev aP (X : AX) : Program := X.1
abbrev aL (X : AX) : Launch := X.2.1
abbrev aEn (X : AX) : Env := X.2.2.1
abbrev aR (X : AX) : Room := X.2.2.2.1
abbrev aS (X : AX) : State := X.2.2.2.2.1
abbrev aM (X : AX) : MethodId := X.2.2.2.2.2.1
abbrev aArgs (X : AX) : Array Value := X.2.2.2.2.2.2.1
abbrev aBelow (X : AX) : List Frame := X.2.2.2.2.2.2.2.1
abbrev aMeth (X : AX) : Method := X.2.2.2.2.2.2.2.2.1
abbrev aC (X : AX) : Code := X.2.2.2.2.2.2.2.2.2.1
abbrev aG (X : AX) : GX := X.2.2.2.2.2.2.2.2.2.2.1
abbrev aQ (X : AX) : State → Prop := X.2.2.2.2.2.2.2.2.2.2.2.1
abbrev aCe (X : AX) : Nat := X.2.2.2.2.2.2.2.2.2.2.2.2.1
abbrev aSl (X : AX) : Nat := X.2.2.2.2.2.2.2.2.2.2.2.2.2
def AW (X : AX) (pc : Nat) (ls : List (Option Value)) (st : List Value) (σ : Mem) : Prop :=
  ∀ (H : Heap) (locs : List Loc) (lsA : Array Slot), lvO (gr (aG X)) lsA ls → va_P (gD (aG X)) vwCl (wd (aG X) σ) H → va_D (gA (aG X)) (wd (aG X) σ) → va_S (gA (aG X)) (aS X).heap H locs →
    W (aP X) (aL X) (aEn X) (aR X) (aS X) (aM X) (aArgs X) (aBelow X) (aMeth X) (aC X) H locs (aCe X) (aSl X) (aQ X) (F0 (aM X) pc lsA (st.map (cv (gr (aG X)))))
def AWo {α : Type} (X : AX) (r0 : α) (pc : Nat) (ls : List (Option Value)) (st : List Value) (σ : Mem) (oo : Option α) : Prop := oo = some r0 → AW X pc ls st σ
def CX (X : AX) (cc : ByteArray) (mL : Nat) (own : String) : Prop :=
  (aP X).tables.exec = Jvm.exec ∧ (aC X).code = cc ∧ (aC X).maxLocals = mL ∧ (aS X).vm.findClass own = some (aM X).cls ∧ (∀ w ∈ BIG, w.before (aArgs X) (aS X) = true) ∧ va_K (gD (aG X)) vwCl (gT (aG X)) (aS X) ∧ NN (aS X) ∧ (aMeth X).locks = false ∧ (∀ q, (aS X).heap.size ≤ q → gb (aG X) ≤ q)
def obind {α β : Type} : Option α → (α → Option β) → Option β
  | none, _ => none
  | some a, f => f a
theorem obind_some {α β : Type} (a : α) (f : α → Option β) : obind (some a) f = f a := rfl
theorem obind_of {α β : Type} {oa : Option α} {a : α} (f : α → Option β) (h : oa = some a) : obind oa f = f a := by rw [h]; rfl
theorem obind_inv {α β : Type} {oa : Option α} {f : α → Option β} {b : β} (h : obind oa f = some b) : ∃ a, oa = some a ∧ f a = some b := by
  cases oa with
  | none => cases h
  | some a => exact ⟨a, rfl, h⟩
/-! the reads that a mirror makes -/
def rowA (p : Nat) : Option Nat := match shp[p]? with
  | some (.inl (7, [some q])) => some q
  | _ => none
def arl (a : Nat) : Option Nat := match shp[a]? with
  | some (.inr (0, n)) => some n
  | _ => none
def ald (σ : Mem) (a n : Nat) (i : Int32) : Option Int32 := if i < 0 ∨ n ≤ i.toNatClampNeg then none else some (σ a i.toNatClampNeg)
def ast (σ : Mem) (a n : Nat) (i x : Int32) : Option Mem := if i < 0 ∨ n ≤ i.toNatClampNeg then none else some (up σ a i.toNatClampNeg x)
def zchk (x : Int32) : Option Int32 := if x = 0 then some 0 else if x = 1 then some 1 else none
theorem zchk_some {x y : Int32} (h : zchk x = some y) : y = x ∧ (x = 0 ∨ x = 1) := by
  unfold zchk at h
  by_cases h0 : x = 0
  · rw [if_pos h0] at h
    cases h
    exact ⟨h0.symm, Or.inl h0⟩
  · rw [if_neg h0] at h
    by_cases h1 : x = 1
    · rw [if_pos h1] at h
      cases h
      exact ⟨h1.symm, Or.inr h1⟩
    · rw [if_neg h1] at h
      cases h
theorem ald_some {σ : Mem} {a n : Nat} {i x : Int32} (h : ald σ a n i = some x) : vp_in i n ∧ x = σ a i.toNatClampNeg := by
  unfold ald at h
  by_cases hi : i < 0 ∨ n ≤ i.toNatClampNeg
  · rw [if_pos hi] at h
    cases h
  · rw [if_neg hi] at h
    cases h
    exact ⟨hi, rfl⟩
theorem ast_some {σ σ' : Mem} {a n : Nat} {i x : Int32} (h : ast σ a n i x = some σ') : vp_in i n ∧ σ' = up σ a i.toNatClampNeg x := by
  unfold ast at h
  by_cases hi : i < 0 ∨ n ≤ i.toNatClampNeg
  · rw [if_pos hi] at h
    cases h
  · rw [if_neg hi] at h
    cases h
    exact ⟨hi, rfl⟩
theorem arl_some {a n : Nat} (h : arl a = some n) : shp[a]? = some (.inr (0, n)) := by
  unfold arl at h
  split at h
  · rename_i n' e
    cases h
    exact e
  · cases h
theorem rowA_some {p q : Nat} (h : rowA p = some q) : shp[p]? = some (.inl (7, [some q])) := by
  unfold rowA at h
  split at h
  · rename_i q' e
    cases h
    exact e
  · cases h
/-! ===== locals ===== -/
def lvLst (ρ : Nat → Nat) (ls : List (Option Value)) : List (Nat × Value) := (List.range ls.length).filterMap fun i => ((ls[i]?).join).map fun v => (i, cv ρ v)
theorem cv_cat {ρ : Nat → Nat} (v : Value) : (cv ρ v).category = v.category := by cases v <;> rfl
theorem lvO_has {ρ : Nat → Nat} {lsA : Array Slot} {ls : List (Option Value)} (h : lvO ρ lsA ls) : lv_has lsA ls.length (lvLst ρ ls) := by
  refine ⟨h.1, h.2.1, fun q hq => ?_⟩
  obtain ⟨i, -, hi⟩ := List.mem_filterMap.mp hq
  cases hl : ls[i]? with
  | none => rw [hl] at hi; cases hi
  | some o =>
    cases o with
    | none => rw [hl] at hi; cases hi
    | some v =>
      rw [hl] at hi
      cases hi
      exact (h.2.2 i v hl).1
theorem lvO_put {ρ : Nat → Nat} {lsA' : Array Slot} {ls : List (Option Value)} {i : Nat} {v : Value} (hv : v.category = 1) (hc : ∀ (j : Nat) (u : Value), ls[j]? = some (some u) → u.category = 1) (hi : i < ls.length)
    (h : lv_has lsA' ls.length ((i, cv ρ v) :: (lvLst ρ ls).filter (fun q => !(q.1 == i) && !(q.1 + 1 == i && q.2.category == 2)))) : lvO ρ lsA' (ls.set i (some v)) := by
  refine ⟨by rw [h.1, List.length_set], h.2.1, fun j u hj => ?_⟩
  rw [List.getElem?_set] at hj
  by_cases hij : i = j
  · subst hij
    rw [if_pos rfl, if_pos hi] at hj
    cases hj
    exact ⟨h.2.2 (i, cv ρ v) List.mem_cons_self, hv⟩
  · rw [if_neg hij] at hj
    have hcat := hc j u hj
    refine ⟨h.2.2 (j, cv ρ u) (List.mem_cons_of_mem _ (List.mem_filter.mpr ⟨?_, ?_⟩)), hcat⟩
    · have hjl : j < ls.length := (List.getElem?_eq_some_iff.mp hj).1
      exact List.mem_filterMap.mpr ⟨j, List.mem_range.mpr hjl, by rw [hj]; rfl⟩
    · have h1 : ¬ j = i := fun e => hij e.symm
      simp [h1, cv_cat, hcat]
def lsub : List (Option Value) → List (Option Value) → Prop
  | [], [] => True
  | none :: t, _ :: t' => lsub t t'
  | some v :: t, o :: t' => o = some v ∧ lsub t t'
  | _, _ => False
theorem lsub_len : ∀ {a b : List (Option Value)}, lsub a b → a.length = b.length
  | [], [], _ => rfl
  | none :: t, _ :: t', h => by simp [lsub_len (a := t) (b := t') h]
  | some v :: t, o :: t', h => by simp [lsub_len (a := t) (b := t') h.2]
theorem lsub_get : ∀ {a b : List (Option Value)}, lsub a b → ∀ (i : Nat) (v : Value), a[i]? = some (some v) → b[i]? = some (some v)
  | [], [], _, i, v, hv => by simp at hv
  | none :: t, _ :: t', h, 0, v, hv => by simp at hv
  | none :: t, _ :: t', h, i + 1, v, hv => by simpa using lsub_get (a := t) (b := t') h i v (by simpa using hv)
  | some u :: t, o :: t', h, 0, v, hv => by
    have e : u = v := by simpa using hv
    simp [h.1, e]
  | some u :: t, o :: t', h, i + 1, v, hv => by simpa using lsub_get (a := t) (b := t') h.2 i v (by simpa using hv)
theorem lvO_sub {ρ : Nat → Nat} {lsA : Array Slot} {a b : List (Option Value)} (hs : lsub a b) (h : lvO ρ lsA b) : lvO ρ lsA a := ⟨by rw [h.1, lsub_len hs], h.2.1, fun i v hv => h.2.2 i v (lsub_get hs i v hv)⟩
/-! ===== rows ===== -/
section ROWS
variable {α : Type} {X : AX} {r0 : α} {cc : ByteArray} {mL : Nat} {own : String} {pc pc1 pc2 : Nat} {ls : List (Option Value)} {st : List Value} {σ : Mem} {oo oa ob : Option α}
theorem a_sub {ls' : List (Option Value)} (k : AWo X r0 pc ls' st σ oo) (h : lsub ls' ls) : AWo X r0 pc ls st σ oo := fun ho H locs lsA h1 => k ho H locs lsA (lvO_sub h h1)
theorem a_none : AWo X r0 pc ls st σ (none : Option α) := fun ho => by cases ho
theorem a_iln {i : Nat} {k4 : Fin 4} {x : Int32} (hX : CX X cc mL own) (d : decode cc pc = .ok (.iload_n k4, 1)) (hi : (k4 : Nat) = i) (hl : ls[i]? = some (some (.int x))) (hp : pc + 1 = pc1) (k : AWo X r0 pc1 ls (.int x :: st) σ oo) : AWo X r0 pc ls st σ oo := fun ho H locs lsA h1 h2 h3 h4 => by
  subst hp
  exact lv_iload_n hX.1 hX.2.1 d hi (h1.2.2 i _ hl).1 (k ho H locs lsA h1 h2 h3 h4)
theorem a_ilw {i : Nat} {x : Int32} (hX : CX X cc mL own) (d : decode cc pc = .ok (.iload i, 2)) (hl : ls[i]? = some (some (.int x))) (hp : pc + 2 = pc1) (k : AWo X r0 pc1 ls (.int x :: st) σ oo) : AWo X r0 pc ls st σ oo := fun ho H locs lsA h1 h2 h3 h4 => by
  subst hp
  exact lv_iload hX.1 hX.2.1 d (h1.2.2 i _ hl).1 (k ho H locs lsA h1 h2 h3 h4)
theorem a_aln {i : Nat} {k4 : Fin 4} {x : Nat} (hX : CX X cc mL own) (d : decode cc pc = .ok (.aload_n k4, 1)) (hi : (k4 : Nat) = i) (hl : ls[i]? = some (some (.ref x))) (hp : pc + 1 = pc1) (k : AWo X r0 pc1 ls (.ref x :: st) σ oo) : AWo X r0 pc ls st σ oo := fun ho H locs lsA h1 h2 h3 h4 => by
  subst hp
  exact lv_aload_n (x := gr (aG X) x) hX.1 hX.2.1 d hi (h1.2.2 i _ hl).1 (k ho H locs lsA h1 h2 h3 h4)
theorem a_alw {i : Nat} {x : Nat} (hX : CX X cc mL own) (d : decode cc pc = .ok (.aload i, 2)) (hl : ls[i]? = some (some (.ref x))) (hp : pc + 2 = pc1) (k : AWo X r0 pc1 ls (.ref x :: st) σ oo) : AWo X r0 pc ls st σ oo := fun ho H locs lsA h1 h2 h3 h4 => by
  subst hp
  exact lv_aload (x := gr (aG X) x) hX.1 hX.2.1 d (h1.2.2 i _ hl).1 (k ho H locs lsA h1 h2 h3 h4)
theorem lvO_cat {ρ : Nat → Nat} {lsA : Array Slot} (h : lvO ρ lsA ls) : ∀ (j : Nat) (u : Value), ls[j]? = some (some u) → u.category = 1 := fun j u hj => (h.2.2 j u hj).2
theorem a_isn {i : Nat} {k4 : Fin 4} {x : Int32} (hX : CX X cc mL own) (d : decode cc pc = .ok (.istore_n k4, 1)) (hi : (k4 : Nat) = i) (hn : i < ls.length) (hp : pc + 1 = pc1) (k : AWo X r0 pc1 (ls.set i (some (.int x))) st σ oo) : AWo X r0 pc ls (.int x :: st) σ oo := fun ho H locs lsA h1 h2 h3 h4 => by
  subst hp
  exact lv_istore_n hX.1 hX.2.1 d hi (lvO_has h1) hn rfl (fun ls' hl' => k ho H locs ls' (lvO_put (v := .int x) rfl (lvO_cat h1) hn hl') h2 h3 h4)
theorem a_isw {i : Nat} {x : Int32} (hX : CX X cc mL own) (d : decode cc pc = .ok (.istore i, 2)) (hn : i < ls.length) (hp : pc + 2 = pc1) (k : AWo X r0 pc1 (ls.set i (some (.int x))) st σ oo) : AWo X r0 pc ls (.int x :: st) σ oo := fun ho H locs lsA h1 h2 h3 h4 => by
  subst hp
  exact lv_istore hX.1 hX.2.1 d (lvO_has h1) hn rfl (fun ls' hl' => k ho H locs ls' (lvO_put (v := .int x) rfl (lvO_cat h1) hn hl') h2 h3 h4)
theorem lvLst_mem {ρ : Nat → Nat} {i : Nat} {v : Value} (h : ls[i]? = some (some v)) : ∃ k : Nat, (lvLst ρ ls)[k]? = some (i, cv ρ v) := by
  have hjl : i < ls.length := (List.getElem?_eq_some_iff.mp h).1
  exact List.getElem?_of_mem (List.mem_filterMap.mpr ⟨i, List.mem_range.mpr hjl, by rw [h]; rfl⟩)
theorem a_incw {i : Nat} {x v : Int32} {n : Int} (hX : CX X cc mL own) (d : decode cc pc = .ok (.iinc i n, 3)) (hl : ls[i]? = some (some (.int x))) (hn : i < ls.length) (hv : Int32.ofInt n = v) (hp : pc + 3 = pc1) (k : AWo X r0 pc1 (ls.set i (some (.int (x + v)))) st σ oo) : AWo X r0 pc ls st σ oo := fun ho H locs lsA h1 h2 h3 h4 => by
  subst hp; subst hv
  obtain ⟨k9, hk9⟩ := lvLst_mem (ρ := gr (aG X)) hl
  exact lv_iinc hX.1 hX.2.1 d (lvO_has h1) hk9 rfl hn rfl (fun ls' hl' => k ho H locs ls' (lvO_put (v := .int (x + Int32.ofInt n)) rfl (lvO_cat h1) hn hl') h2 h3 h4)
theorem a_ic {n : Int} (v : Int32) (hX : CX X cc mL own) (d : decode cc pc = .ok (.iconst n, 1)) (hv : Int32.ofInt n = v) (hp : pc + 1 = pc1) (k : AWo X r0 pc1 ls (.int v :: st) σ oo) : AWo X r0 pc ls st σ oo := fun ho H locs lsA h1 h2 h3 h4 => by
  subst hp
  exact lv_iconst hX.1 hX.2.1 d hv (k ho H locs lsA h1 h2 h3 h4)
theorem a_bi {n : Int} (v : Int32) (hX : CX X cc mL own) (d : decode cc pc = .ok (.bipush n, 2)) (hv : (Int8.ofInt n).toInt32 = v) (hp : pc + 2 = pc1) (k : AWo X r0 pc1 ls (.int v :: st) σ oo) : AWo X r0 pc ls st σ oo := fun ho H locs lsA h1 h2 h3 h4 => by
  subst hp
  exact lv_bipush hX.1 hX.2.1 d hv (k ho H locs lsA h1 h2 h3 h4)
theorem a_si {n : Int} (v : Int32) (hX : CX X cc mL own) (d : decode cc pc = .ok (.sipush n, 3)) (hv : (Int16.ofInt n).toInt32 = v) (hp : pc + 3 = pc1) (k : AWo X r0 pc1 ls (.int v :: st) σ oo) : AWo X r0 pc ls st σ oo := fun ho H locs lsA h1 h2 h3 h4 => by
  subst hp
  exact lv_sipush hX.1 hX.2.1 d hv (k ho H locs lsA h1 h2 h3 h4)
theorem a_ldc {idx : Nat} (v : Int32) (hX : CX X cc mL own) (hc : Cond.constant own idx v ∈ BIG) (d : decode cc pc = .ok (.ldc idx, 2)) (hp : pc + 2 = pc1) (k : AWo X r0 pc1 ls (.int v :: st) σ oo) : AWo X r0 pc ls st σ oo := fun ho H locs lsA h1 h2 h3 h4 => by
  subst hp
  exact lv_ldc hX.1 hX.2.1 hX.2.2.2.1 (hX.2.2.2.2.1 _ hc) d (k ho H locs lsA h1 h2 h3 h4)
theorem a_ldcw {idx : Nat} (v : Int32) (hX : CX X cc mL own) (hc : Cond.constant own idx v ∈ BIG) (d : decode cc pc = .ok (.ldc_w idx, 3)) (hp : pc + 3 = pc1) (k : AWo X r0 pc1 ls (.int v :: st) σ oo) : AWo X r0 pc ls st σ oo := fun ho H locs lsA h1 h2 h3 h4 => by
  subst hp
  exact lv_ldcw hX.1 hX.2.1 hX.2.2.2.1 (hX.2.2.2.2.1 _ hc) d (k ho H locs lsA h1 h2 h3 h4)
theorem a_iadd {x y : Int32} (hX : CX X cc mL own) (d : decode cc pc = .ok (.iadd, 1)) (hp : pc + 1 = pc1) (k : AWo X r0 pc1 ls (.int (x + y) :: st) σ oo) : AWo X r0 pc ls (.int y :: .int x :: st) σ oo := fun ho H locs lsA h1 h2 h3 h4 => by
  subst hp
  exact lv_iadd hX.1 hX.2.1 d (k ho H locs lsA h1 h2 h3 h4)
theorem a_isub {x y : Int32} (hX : CX X cc mL own) (d : decode cc pc = .ok (.isub, 1)) (hp : pc + 1 = pc1) (k : AWo X r0 pc1 ls (.int (x - y) :: st) σ oo) : AWo X r0 pc ls (.int y :: .int x :: st) σ oo := fun ho H locs lsA h1 h2 h3 h4 => by
  subst hp
  exact lv_isub hX.1 hX.2.1 d (k ho H locs lsA h1 h2 h3 h4)
theorem a_imul {x y : Int32} (hX : CX X cc mL own) (d : decode cc pc = .ok (.imul, 1)) (hp : pc + 1 = pc1) (k : AWo X r0 pc1 ls (.int (x * y) :: st) σ oo) : AWo X r0 pc ls (.int y :: .int x :: st) σ oo := fun ho H locs lsA h1 h2 h3 h4 => by
  subst hp
  exact lv_imul hX.1 hX.2.1 d (k ho H locs lsA h1 h2 h3 h4)
theorem a_iand {x y : Int32} (hX : CX X cc mL own) (d : decode cc pc = .ok (.iand, 1)) (hp : pc + 1 = pc1) (k : AWo X r0 pc1 ls (.int (x &&& y) :: st) σ oo) : AWo X r0 pc ls (.int y :: .int x :: st) σ oo := fun ho H locs lsA h1 h2 h3 h4 => by
  subst hp
  exact lv_iand hX.1 hX.2.1 d (k ho H locs lsA h1 h2 h3 h4)
theorem a_ior {x y : Int32} (hX : CX X cc mL own) (d : decode cc pc = .ok (.ior, 1)) (hp : pc + 1 = pc1) (k : AWo X r0 pc1 ls (.int (x ||| y) :: st) σ oo) : AWo X r0 pc ls (.int y :: .int x :: st) σ oo := fun ho H locs lsA h1 h2 h3 h4 => by
  subst hp
  exact lv_ior hX.1 hX.2.1 d (k ho H locs lsA h1 h2 h3 h4)
theorem a_ixor {x y : Int32} (hX : CX X cc mL own) (d : decode cc pc = .ok (.ixor, 1)) (hp : pc + 1 = pc1) (k : AWo X r0 pc1 ls (.int (x ^^^ y) :: st) σ oo) : AWo X r0 pc ls (.int y :: .int x :: st) σ oo := fun ho H locs lsA h1 h2 h3 h4 => by
  subst hp
  exact lv_ixor hX.1 hX.2.1 d (k ho H locs lsA h1 h2 h3 h4)
theorem a_ishl {x y : Int32} (hX : CX X cc mL own) (d : decode cc pc = .ok (.ishl, 1)) (hp : pc + 1 = pc1) (k : AWo X r0 pc1 ls (.int (x <<< (y &&& 31)) :: st) σ oo) : AWo X r0 pc ls (.int y :: .int x :: st) σ oo := fun ho H locs lsA h1 h2 h3 h4 => by
  subst hp
  exact lv_ishl hX.1 hX.2.1 d (k ho H locs lsA h1 h2 h3 h4)
theorem a_ishr {x y : Int32} (hX : CX X cc mL own) (d : decode cc pc = .ok (.ishr, 1)) (hp : pc + 1 = pc1) (k : AWo X r0 pc1 ls (.int (x >>> (y &&& 31)) :: st) σ oo) : AWo X r0 pc ls (.int y :: .int x :: st) σ oo := fun ho H locs lsA h1 h2 h3 h4 => by
  subst hp
  exact lv_ishr hX.1 hX.2.1 d (k ho H locs lsA h1 h2 h3 h4)
def ushr (x y : Int32) : Int32 := (x.toUInt32 >>> (y.toUInt32 &&& Int32.toUInt32 31)).toInt32
theorem a_iushr {x y : Int32} (hX : CX X cc mL own) (d : decode cc pc = .ok (.iushr, 1)) (hp : pc + 1 = pc1) (k : AWo X r0 pc1 ls (.int (ushr x y) :: st) σ oo) : AWo X r0 pc ls (.int y :: .int x :: st) σ oo := fun ho H locs lsA h1 h2 h3 h4 => by
  subst hp
  exact lv_iushr hX.1 hX.2.1 d rfl (k ho H locs lsA h1 h2 h3 h4)
theorem a_irem {x y : Int32} (hX : CX X cc mL own) (d : decode cc pc = .ok (.irem, 1)) (hne : ¬ y = 0) (hp : pc + 1 = pc1) (k : AWo X r0 pc1 ls (.int (x - x / y * y) :: st) σ oo) : AWo X r0 pc ls (.int y :: .int x :: st) σ oo := fun ho H locs lsA h1 h2 h3 h4 => by
  subst hp
  exact lv_irem hX.1 hX.2.1 d hne (k ho H locs lsA h1 h2 h3 h4)
theorem a_idiv {x y : Int32} (hX : CX X cc mL own) (d : decode cc pc = .ok (.idiv, 1)) (hne : ¬ y = 0) (hp : pc + 1 = pc1) (k : AWo X r0 pc1 ls (.int (x / y) :: st) σ oo) : AWo X r0 pc ls (.int y :: .int x :: st) σ oo := fun ho H locs lsA h1 h2 h3 h4 => by
  subst hp
  exact lv_idiv hX.1 hX.2.1 d hne (k ho H locs lsA h1 h2 h3 h4)
theorem a_dup {v : Value} (hX : CX X cc mL own) (d : decode cc pc = .ok (.dup, 1)) (hv : v.category = 1) (hp : pc + 1 = pc1) (k : AWo X r0 pc1 ls (v :: v :: st) σ oo) : AWo X r0 pc ls (v :: st) σ oo := fun ho H locs lsA h1 h2 h3 h4 => by
  subst hp
  exact lv_dup hX.1 hX.2.1 d (by rw [cv_cat]; exact hv) (k ho H locs lsA h1 h2 h3 h4)
theorem a_dup2 {v u : Value} (hX : CX X cc mL own) (d : decode cc pc = .ok (.dup2, 1)) (hv : v.category = 1) (hu : u.category = 1) (hp : pc + 1 = pc1) (k : AWo X r0 pc1 ls (v :: u :: v :: u :: st) σ oo) : AWo X r0 pc ls (v :: u :: st) σ oo := fun ho H locs lsA h1 h2 h3 h4 => by
  subst hp
  exact lv_dup2_11 hX.1 hX.2.1 d (by rw [cv_cat]; exact hv) (by rw [cv_cat]; exact hu) (k ho H locs lsA h1 h2 h3 h4)
theorem a_pop {v : Value} (hX : CX X cc mL own) (d : decode cc pc = .ok (.pop, 1)) (hv : v.category = 1) (hp : pc + 1 = pc1) (k : AWo X r0 pc1 ls st σ oo) : AWo X r0 pc ls (v :: st) σ oo := fun ho H locs lsA h1 h2 h3 h4 => by
  subst hp
  exact lv_pop hX.1 hX.2.1 d (by rw [cv_cat]; exact hv) (k ho H locs lsA h1 h2 h3 h4)
theorem a_goto {off : Int} (hX : CX X cc mL own) (d : decode cc pc = .ok (.goto off, 3)) (ht : (pc : Int) + off = (pc1 : Int)) (k : AWo X r0 pc1 ls st σ oo) : AWo X r0 pc ls st σ oo := fun ho H locs lsA h1 h2 h3 h4 =>
  lv_goto hX.1 hX.2.1 d ht (k ho H locs lsA h1 h2 h3 h4)
end ROWS

theorem a_il0 {α : Type} {X : AX} {r0 : α} {cc : ByteArray} {mL : Nat} {own : String} {pc pc1 : Nat} {st : List Value} {σ : Mem} {oo : Option α} {t : List (Option Value)} {x : Int32} (hX : CX X cc mL own) (d : decode cc pc = .ok (.iload_n 0, 1)) (hp : pc + 1 = pc1) (k : AWo X r0 pc1 (some (.int x) :: t) (.int x :: st) σ oo) : AWo X r0 pc (some (.int x) :: t) st σ oo := a_iln (i := 0) hX d rfl rfl hp k
theorem a_al0 {α : Type} {X : AX} {r0 : α} {cc : ByteArray} {mL : Nat} {own : String} {pc pc1 : Nat} {st : List Value} {σ : Mem} {oo : Option α} {t : List (Option Value)} {x : Nat} (hX : CX X cc mL own) (d : decode cc pc = .ok (.aload_n 0, 1)) (hp : pc + 1 = pc1) (k : AWo X r0 pc1 (some (.ref x) :: t) (.ref x :: st) σ oo) : AWo X r0 pc (some (.ref x) :: t) st σ oo := a_aln (i := 0) hX d rfl rfl hp k
theorem a_is0 {α : Type} {X : AX} {r0 : α} {cc : ByteArray} {mL : Nat} {own : String} {pc pc1 : Nat} {st : List Value} {σ : Mem} {oo : Option α} {ai : Option Value} {t : List (Option Value)} {x : Int32} (hX : CX X cc mL own) (d : decode cc pc = .ok (.istore_n 0, 1)) (hp : pc + 1 = pc1) (k : AWo X r0 pc1 (some (.int x) :: t) st σ oo) : AWo X r0 pc (ai :: t) (.int x :: st) σ oo := a_isn (i := 0) hX d rfl (by simp) hp k
theorem a_inc0 {α : Type} {X : AX} {r0 : α} {cc : ByteArray} {mL : Nat} {own : String} {pc pc1 : Nat} {st : List Value} {σ : Mem} {oo : Option α} {t : List (Option Value)} {x : Int32} {n : Int} (v : Int32) (hX : CX X cc mL own) (d : decode cc pc = .ok (.iinc 0 n, 3)) (hv : Int32.ofInt n = v) (hp : pc + 3 = pc1) (k : AWo X r0 pc1 (some (.int (x + v)) :: t) st σ oo) : AWo X r0 pc (some (.int x) :: t) st σ oo := a_incw (i := 0) hX d rfl (by simp) hv hp k
theorem a_il1 {α : Type} {X : AX} {r0 : α} {cc : ByteArray} {mL : Nat} {own : String} {pc pc1 : Nat} {st : List Value} {σ : Mem} {oo : Option α} {a0 : Option Value} {t : List (Option Value)} {x : Int32} (hX : CX X cc mL own) (d : decode cc pc = .ok (.iload_n 1, 1)) (hp : pc + 1 = pc1) (k : AWo X r0 pc1 (a0 :: some (.int x) :: t) (.int x :: st) σ oo) : AWo X r0 pc (a0 :: some (.int x) :: t) st σ oo := a_iln (i := 1) hX d rfl rfl hp k
theorem a_al1 {α : Type} {X : AX} {r0 : α} {cc : ByteArray} {mL : Nat} {own : String} {pc pc1 : Nat} {st : List Value} {σ : Mem} {oo : Option α} {a0 : Option Value} {t : List (Option Value)} {x : Nat} (hX : CX X cc mL own) (d : decode cc pc = .ok (.aload_n 1, 1)) (hp : pc + 1 = pc1) (k : AWo X r0 pc1 (a0 :: some (.ref x) :: t) (.ref x :: st) σ oo) : AWo X r0 pc (a0 :: some (.ref x) :: t) st σ oo := a_aln (i := 1) hX d rfl rfl hp k
theorem a_is1 {α : Type} {X : AX} {r0 : α} {cc : ByteArray} {mL : Nat} {own : String} {pc pc1 : Nat} {st : List Value} {σ : Mem} {oo : Option α} {a0 : Option Value} {ai : Option Value} {t : List (Option Value)} {x : Int32} (hX : CX X cc mL own) (d : decode cc pc = .ok (.istore_n 1, 1)) (hp : pc + 1 = pc1) (k : AWo X r0 pc1 (a0 :: some (.int x) :: t) st σ oo) : AWo X r0 pc (a0 :: ai :: t) (.int x :: st) σ oo := a_isn (i := 1) hX d rfl (by simp) hp k
theorem a_inc1 {α : Type} {X : AX} {r0 : α} {cc : ByteArray} {mL : Nat} {own : String} {pc pc1 : Nat} {st : List Value} {σ : Mem} {oo : Option α} {a0 : Option Value} {t : List (Option Value)} {x : Int32} {n : Int} (v : Int32) (hX : CX X cc mL own) (d : decode cc pc = .ok (.iinc 1 n, 3)) (hv : Int32.ofInt n = v) (hp : pc + 3 = pc1) (k : AWo X r0 pc1 (a0 :: some (.int (x + v)) :: t) st σ oo) : AWo X r0 pc (a0 :: some (.int x) :: t) st σ oo := a_incw (i := 1) hX d rfl (by simp) hv hp k
theorem a_il2 {α : Type} {X : AX} {r0 : α} {cc : ByteArray} {mL : Nat} {own : String} {pc pc1 : Nat} {st : List Value} {σ : Mem} {oo : Option α} {a0 a1 : Option Value} {t : List (Option Value)} {x : Int32} (hX : CX X cc mL own) (d : decode cc pc = .ok (.iload_n 2, 1)) (hp : pc + 1 = pc1) (k : AWo X r0 pc1 (a0 :: a1 :: some (.int x) :: t) (.int x :: st) σ oo) : AWo X r0 pc (a0 :: a1 :: some (.int x) :: t) st σ oo := a_iln (i := 2) hX d rfl rfl hp k
theorem a_al2 {α : Type} {X : AX} {r0 : α} {cc : ByteArray} {mL : Nat} {own : String} {pc pc1 : Nat} {st : List Value} {σ : Mem} {oo : Option α} {a0 a1 : Option Value} {t : List (Option Value)} {x : Nat} (hX : CX X cc mL own) (d : decode cc pc = .ok (.aload_n 2, 1)) (hp : pc + 1 = pc1) (k : AWo X r0 pc1 (a0 :: a1 :: some (.ref x) :: t) (.ref x :: st) σ oo) : AWo X r0 pc (a0 :: a1 :: some (.ref x) :: t) st σ oo := a_aln (i := 2) hX d rfl rfl hp k
theorem a_is2 {α : Type} {X : AX} {r0 : α} {cc : ByteArray} {mL : Nat} {own : String} {pc pc1 : Nat} {st : List Value} {σ : Mem} {oo : Option α} {a0 a1 : Option Value} {ai : Option Value} {t : List (Option Value)} {x : Int32} (hX : CX X cc mL own) (d : decode cc pc = .ok (.istore_n 2, 1)) (hp : pc + 1 = pc1) (k : AWo X r0 pc1 (a0 :: a1 :: some (.int x) :: t) st σ oo) : AWo X r0 pc (a0 :: a1 :: ai :: t) (.int x :: st) σ oo := a_isn (i := 2) hX d rfl (by simp) hp k
theorem a_inc2 {α : Type} {X : AX} {r0 : α} {cc : ByteArray} {mL : Nat} {own : String} {pc pc1 : Nat} {st : List Value} {σ : Mem} {oo : Option α} {a0 a1 : Option Value} {t : List (Option Value)} {x : Int32} {n : Int} (v : Int32) (hX : CX X cc mL own) (d : decode cc pc = .ok (.iinc 2 n, 3)) (hv : Int32.ofInt n = v) (hp : pc + 3 = pc1) (k : AWo X r0 pc1 (a0 :: a1 :: some (.int (x + v)) :: t) st σ oo) : AWo X r0 pc (a0 :: a1 :: some (.int x) :: t) st σ oo := a_incw (i := 2) hX d rfl (by simp) hv hp k
theorem a_il3 {α : Type} {X : AX} {r0 : α} {cc : ByteArray} {mL : Nat} {own : String} {pc pc1 : Nat} {st : List Value} {σ : Mem} {oo : Option α} {a0 a1 a2 : Option Value} {t : List (Option Value)} {x : Int32} (hX : CX X cc mL own) (d : decode cc pc = .ok (.iload_n 3, 1)) (hp : pc + 1 = pc1) (k : AWo X r0 pc1 (a0 :: a1 :: a2 :: some (.int x) :: t) (.int x :: st) σ oo) : AWo X r0 pc (a0 :: a1 :: a2 :: some (.int x) :: t) st σ oo := a_iln (i := 3) hX d rfl rfl hp k
theorem a_al3 {α : Type} {X : AX} {r0 : α} {cc : ByteArray} {mL : Nat} {own : String} {pc pc1 : Nat} {st : List Value} {σ : Mem} {oo : Option α} {a0 a1 a2 : Option Value} {t : List (Option Value)} {x : Nat} (hX : CX X cc mL own) (d : decode cc pc = .ok (.aload_n 3, 1)) (hp : pc + 1 = pc1) (k : AWo X r0 pc1 (a0 :: a1 :: a2 :: some (.ref x) :: t) (.ref x :: st) σ oo) : AWo X r0 pc (a0 :: a1 :: a2 :: some (.ref x) :: t) st σ oo := a_aln (i := 3) hX d rfl rfl hp k
theorem a_is3 {α : Type} {X : AX} {r0 : α} {cc : ByteArray} {mL : Nat} {own : String} {pc pc1 : Nat} {st : List Value} {σ : Mem} {oo : Option α} {a0 a1 a2 : Option Value} {ai : Option Value} {t : List (Option Value)} {x : Int32} (hX : CX X cc mL own) (d : decode cc pc = .ok (.istore_n 3, 1)) (hp : pc + 1 = pc1) (k : AWo X r0 pc1 (a0 :: a1 :: a2 :: some (.int x) :: t) st σ oo) : AWo X r0 pc (a0 :: a1 :: a2 :: ai :: t) (.int x :: st) σ oo := a_isn (i := 3) hX d rfl (by simp) hp k
theorem a_inc3 {α : Type} {X : AX} {r0 : α} {cc : ByteArray} {mL : Nat} {own : String} {pc pc1 : Nat} {st : List Value} {σ : Mem} {oo : Option α} {a0 a1 a2 : Option Value} {t : List (Option Value)} {x : Int32} {n : Int} (v : Int32) (hX : CX X cc mL own) (d : decode cc pc = .ok (.iinc 3 n, 3)) (hv : Int32.ofInt n = v) (hp : pc + 3 = pc1) (k : AWo X r0 pc1 (a0 :: a1 :: a2 :: some (.int (x + v)) :: t) st σ oo) : AWo X r0 pc (a0 :: a1 :: a2 :: some (.int x) :: t) st σ oo := a_incw (i := 3) hX d rfl (by simp) hv hp k
theorem a_il4 {α : Type} {X : AX} {r0 : α} {cc : ByteArray} {mL : Nat} {own : String} {pc pc1 : Nat} {st : List Value} {σ : Mem} {oo : Option α} {a0 a1 a2 a3 : Option Value} {t : List (Option Value)} {x : Int32} (hX : CX X cc mL own) (d : decode cc pc = .ok (.iload 4, 2)) (hp : pc + 2 = pc1) (k : AWo X r0 pc1 (a0 :: a1 :: a2 :: a3 :: some (.int x) :: t) (.int x :: st) σ oo) : AWo X r0 pc (a0 :: a1 :: a2 :: a3 :: some (.int x) :: t) st σ oo := a_ilw (i := 4) hX d rfl hp k
theorem a_al4 {α : Type} {X : AX} {r0 : α} {cc : ByteArray} {mL : Nat} {own : String} {pc pc1 : Nat} {st : List Value} {σ : Mem} {oo : Option α} {a0 a1 a2 a3 : Option Value} {t : List (Option Value)} {x : Nat} (hX : CX X cc mL own) (d : decode cc pc = .ok (.aload 4, 2)) (hp : pc + 2 = pc1) (k : AWo X r0 pc1 (a0 :: a1 :: a2 :: a3 :: some (.ref x) :: t) (.ref x :: st) σ oo) : AWo X r0 pc (a0 :: a1 :: a2 :: a3 :: some (.ref x) :: t) st σ oo := a_alw (i := 4) hX d rfl hp k
theorem a_is4 {α : Type} {X : AX} {r0 : α} {cc : ByteArray} {mL : Nat} {own : String} {pc pc1 : Nat} {st : List Value} {σ : Mem} {oo : Option α} {a0 a1 a2 a3 : Option Value} {ai : Option Value} {t : List (Option Value)} {x : Int32} (hX : CX X cc mL own) (d : decode cc pc = .ok (.istore 4, 2)) (hp : pc + 2 = pc1) (k : AWo X r0 pc1 (a0 :: a1 :: a2 :: a3 :: some (.int x) :: t) st σ oo) : AWo X r0 pc (a0 :: a1 :: a2 :: a3 :: ai :: t) (.int x :: st) σ oo := a_isw (i := 4) hX d (by simp) hp k
theorem a_inc4 {α : Type} {X : AX} {r0 : α} {cc : ByteArray} {mL : Nat} {own : String} {pc pc1 : Nat} {st : List Value} {σ : Mem} {oo : Option α} {a0 a1 a2 a3 : Option Value} {t : List (Option Value)} {x : Int32} {n : Int} (v : Int32) (hX : CX X cc mL own) (d : decode cc pc = .ok (.iinc 4 n, 3)) (hv : Int32.ofInt n = v) (hp : pc + 3 = pc1) (k : AWo X r0 pc1 (a0 :: a1 :: a2 :: a3 :: some (.int (x + v)) :: t) st σ oo) : AWo X r0 pc (a0 :: a1 :: a2 :: a3 :: some (.int x) :: t) st σ oo := a_incw (i := 4) hX d rfl (by simp) hv hp k
theorem a_il5 {α : Type} {X : AX} {r0 : α} {cc : ByteArray} {mL : Nat} {own : String} {pc pc1 : Nat} {st : List Value} {σ : Mem} {oo : Option α} {a0 a1 a2 a3 a4 : Option Value} {t : List (Option Value)} {x : Int32} (hX : CX X cc mL own) (d : decode cc pc = .ok (.iload 5, 2)) (hp : pc + 2 = pc1) (k : AWo X r0 pc1 (a0 :: a1 :: a2 :: a3 :: a4 :: some (.int x) :: t) (.int x :: st) σ oo) : AWo X r0 pc (a0 :: a1 :: a2 :: a3 :: a4 :: some (.int x) :: t) st σ oo := a_ilw (i := 5) hX d rfl hp k
theorem a_al5 {α : Type} {X : AX} {r0 : α} {cc : ByteArray} {mL : Nat} {own : String} {pc pc1 : Nat} {st : List Value} {σ : Mem} {oo : Option α} {a0 a1 a2 a3 a4 : Option Value} {t : List (Option Value)} {x : Nat} (hX : CX X cc mL own) (d : decode cc pc = .ok (.aload 5, 2)) (hp : pc + 2 = pc1) (k : AWo X r0 pc1 (a0 :: a1 :: a2 :: a3 :: a4 :: some (.ref x) :: t) (.ref x :: st) σ oo) : AWo X r0 pc (a0 :: a1 :: a2 :: a3 :: a4 :: some (.ref x) :: t) st σ oo := a_alw (i := 5) hX d rfl hp k
theorem a_is5 {α : Type} {X : AX} {r0 : α} {cc : ByteArray} {mL : Nat} {own : String} {pc pc1 : Nat} {st : List Value} {σ : Mem} {oo : Option α} {a0 a1 a2 a3 a4 : Option Value} {ai : Option Value} {t : List (Option Value)} {x : Int32} (hX : CX X cc mL own) (d : decode cc pc = .ok (.istore 5, 2)) (hp : pc + 2 = pc1) (k : AWo X r0 pc1 (a0 :: a1 :: a2 :: a3 :: a4 :: some (.int x) :: t) st σ oo) : AWo X r0 pc (a0 :: a1 :: a2 :: a3 :: a4 :: ai :: t) (.int x :: st) σ oo := a_isw (i := 5) hX d (by simp) hp k
theorem a_inc5 {α : Type} {X : AX} {r0 : α} {cc : ByteArray} {mL : Nat} {own : String} {pc pc1 : Nat} {st : List Value} {σ : Mem} {oo : Option α} {a0 a1 a2 a3 a4 : Option Value} {t : List (Option Value)} {x : Int32} {n : Int} (v : Int32) (hX : CX X cc mL own) (d : decode cc pc = .ok (.iinc 5 n, 3)) (hv : Int32.ofInt n = v) (hp : pc + 3 = pc1) (k : AWo X r0 pc1 (a0 :: a1 :: a2 :: a3 :: a4 :: some (.int (x + v)) :: t) st σ oo) : AWo X r0 pc (a0 :: a1 :: a2 :: a3 :: a4 :: some (.int x) :: t) st σ oo := a_incw (i := 5) hX d rfl (by simp) hv hp k
theorem a_il6 {α : Type} {X : AX} {r0 : α} {cc : ByteArray} {mL : Nat} {own : String} {pc pc1 : Nat} {st : List Value} {σ : Mem} {oo : Option α} {a0 a1 a2 a3 a4 a5 : Option Value} {t : List (Option Value)} {x : Int32} (hX : CX X cc mL own) (d : decode cc pc = .ok (.iload 6, 2)) (hp : pc + 2 = pc1) (k : AWo X r0 pc1 (a0 :: a1 :: a2 :: a3 :: a4 :: a5 :: some (.int x) :: t) (.int x :: st) σ oo) : AWo X r0 pc (a0 :: a1 :: a2 :: a3 :: a4 :: a5 :: some (.int x) :: t) st σ oo := a_ilw (i := 6) hX d rfl hp k
theorem a_al6 {α : Type} {X : AX} {r0 : α} {cc : ByteArray} {mL : Nat} {own : String} {pc pc1 : Nat} {st : List Value} {σ : Mem} {oo : Option α} {a0 a1 a2 a3 a4 a5 : Option Value} {t : List (Option Value)} {x : Nat} (hX : CX X cc mL own) (d : decode cc pc = .ok (.aload 6, 2)) (hp : pc + 2 = pc1) (k : AWo X r0 pc1 (a0 :: a1 :: a2 :: a3 :: a4 :: a5 :: some (.ref x) :: t) (.ref x :: st) σ oo) : AWo X r0 pc (a0 :: a1 :: a2 :: a3 :: a4 :: a5 :: some (.ref x) :: t) st σ oo := a_alw (i := 6) hX d rfl hp k
theorem a_is6 {α : Type} {X : AX} {r0 : α} {cc : ByteArray} {mL : Nat} {own : String} {pc pc1 : Nat} {st : List Value} {σ : Mem} {oo : Option α} {a0 a1 a2 a3 a4 a5 : Option Value} {ai : Option Value} {t : List (Option Value)} {x : Int32} (hX : CX X cc mL own) (d : decode cc pc = .ok (.istore 6, 2)) (hp : pc + 2 = pc1) (k : AWo X r0 pc1 (a0 :: a1 :: a2 :: a3 :: a4 :: a5 :: some (.int x) :: t) st σ oo) : AWo X r0 pc (a0 :: a1 :: a2 :: a3 :: a4 :: a5 :: ai :: t) (.int x :: st) σ oo := a_isw (i := 6) hX d (by simp) hp k
theorem a_inc6 {α : Type} {X : AX} {r0 : α} {cc : ByteArray} {mL : Nat} {own : String} {pc pc1 : Nat} {st : List Value} {σ : Mem} {oo : Option α} {a0 a1 a2 a3 a4 a5 : Option Value} {t : List (Option Value)} {x : Int32} {n : Int} (v : Int32) (hX : CX X cc mL own) (d : decode cc pc = .ok (.iinc 6 n, 3)) (hv : Int32.ofInt n = v) (hp : pc + 3 = pc1) (k : AWo X r0 pc1 (a0 :: a1 :: a2 :: a3 :: a4 :: a5 :: some (.int (x + v)) :: t) st σ oo) : AWo X r0 pc (a0 :: a1 :: a2 :: a3 :: a4 :: a5 :: some (.int x) :: t) st σ oo := a_incw (i := 6) hX d rfl (by simp) hv hp k
theorem a_il7 {α : Type} {X : AX} {r0 : α} {cc : ByteArray} {mL : Nat} {own : String} {pc pc1 : Nat} {st : List Value} {σ : Mem} {oo : Option α} {a0 a1 a2 a3 a4 a5 a6 : Option Value} {t : List (Option Value)} {x : Int32} (hX : CX X cc mL own) (d : decode cc pc = .ok (.iload 7, 2)) (hp : pc + 2 = pc1) (k : AWo X r0 pc1 (a0 :: a1 :: a2 :: a3 :: a4 :: a5 :: a6 :: some (.int x) :: t) (.int x :: st) σ oo) : AWo X r0 pc (a0 :: a1 :: a2 :: a3 :: a4 :: a5 :: a6 :: some (.int x) :: t) st σ oo := a_ilw (i := 7) hX d rfl hp k
theorem a_al7 {α : Type} {X : AX} {r0 : α} {cc : ByteArray} {mL : Nat} {own : String} {pc pc1 : Nat} {st : List Value} {σ : Mem} {oo : Option α} {a0 a1 a2 a3 a4 a5 a6 : Option Value} {t : List (Option Value)} {x : Nat} (hX : CX X cc mL own) (d : decode cc pc = .ok (.aload 7, 2)) (hp : pc + 2 = pc1) (k : AWo X r0 pc1 (a0 :: a1 :: a2 :: a3 :: a4 :: a5 :: a6 :: some (.ref x) :: t) (.ref x :: st) σ oo) : AWo X r0 pc (a0 :: a1 :: a2 :: a3 :: a4 :: a5 :: a6 :: some (.ref x) :: t) st σ oo := a_alw (i := 7) hX d rfl hp k
theorem a_is7 {α : Type} {X : AX} {r0 : α} {cc : ByteArray} {mL : Nat} {own : String} {pc pc1 : Nat} {st : List Value} {σ : Mem} {oo : Option α} {a0 a1 a2 a3 a4 a5 a6 : Option Value} {ai : Option Value} {t : List (Option Value)} {x : Int32} (hX : CX X cc mL own) (d : decode cc pc = .ok (.istore 7, 2)) (hp : pc + 2 = pc1) (k : AWo X r0 pc1 (a0 :: a1 :: a2 :: a3 :: a4 :: a5 :: a6 :: some (.int x) :: t) st σ oo) : AWo X r0 pc (a0 :: a1 :: a2 :: a3 :: a4 :: a5 :: a6 :: ai :: t) (.int x :: st) σ oo := a_isw (i := 7) hX d (by simp) hp k
theorem a_inc7 {α : Type} {X : AX} {r0 : α} {cc : ByteArray} {mL : Nat} {own : String} {pc pc1 : Nat} {st : List Value} {σ : Mem} {oo : Option α} {a0 a1 a2 a3 a4 a5 a6 : Option Value} {t : List (Option Value)} {x : Int32} {n : Int} (v : Int32) (hX : CX X cc mL own) (d : decode cc pc = .ok (.iinc 7 n, 3)) (hv : Int32.ofInt n = v) (hp : pc + 3 = pc1) (k : AWo X r0 pc1 (a0 :: a1 :: a2 :: a3 :: a4 :: a5 :: a6 :: some (.int (x + v)) :: t) st σ oo) : AWo X r0 pc (a0 :: a1 :: a2 :: a3 :: a4 :: a5 :: a6 :: some (.int x) :: t) st σ oo := a_incw (i := 7) hX d rfl (by simp) hv hp k
theorem a_il8 {α : Type} {X : AX} {r0 : α} {cc : ByteArray} {mL : Nat} {own : String} {pc pc1 : Nat} {st : List Value} {σ : Mem} {oo : Option α} {a0 a1 a2 a3 a4 a5 a6 a7 : Option Value} {t : List (Option Value)} {x : Int32} (hX : CX X cc mL own) (d : decode cc pc = .ok (.iload 8, 2)) (hp : pc + 2 = pc1) (k : AWo X r0 pc1 (a0 :: a1 :: a2 :: a3 :: a4 :: a5 :: a6 :: a7 :: some (.int x) :: t) (.int x :: st) σ oo) : AWo X r0 pc (a0 :: a1 :: a2 :: a3 :: a4 :: a5 :: a6 :: a7 :: some (.int x) :: t) st σ oo := a_ilw (i := 8) hX d rfl hp k
theorem a_al8 {α : Type} {X : AX} {r0 : α} {cc : ByteArray} {mL : Nat} {own : String} {pc pc1 : Nat} {st : List Value} {σ : Mem} {oo : Option α} {a0 a1 a2 a3 a4 a5 a6 a7 : Option Value} {t : List (Option Value)} {x : Nat} (hX : CX X cc mL own) (d : decode cc pc = .ok (.aload 8, 2)) (hp : pc + 2 = pc1) (k : AWo X r0 pc1 (a0 :: a1 :: a2 :: a3 :: a4 :: a5 :: a6 :: a7 :: some (.ref x) :: t) (.ref x :: st) σ oo) : AWo X r0 pc (a0 :: a1 :: a2 :: a3 :: a4 :: a5 :: a6 :: a7 :: some (.ref x) :: t) st σ oo := a_alw (i := 8) hX d rfl hp k
theorem a_is8 {α : Type} {X : AX} {r0 : α} {cc : ByteArray} {mL : Nat} {own : String} {pc pc1 : Nat} {st : List Value} {σ : Mem} {oo : Option α} {a0 a1 a2 a3 a4 a5 a6 a7 : Option Value} {ai : Option Value} {t : List (Option Value)} {x : Int32} (hX : CX X cc mL own) (d : decode cc pc = .ok (.istore 8, 2)) (hp : pc + 2 = pc1) (k : AWo X r0 pc1 (a0 :: a1 :: a2 :: a3 :: a4 :: a5 :: a6 :: a7 :: some (.int x) :: t) st σ oo) : AWo X r0 pc (a0 :: a1 :: a2 :: a3 :: a4 :: a5 :: a6 :: a7 :: ai :: t) (.int x :: st) σ oo := a_isw (i := 8) hX d (by simp) hp k
theorem a_inc8 {α : Type} {X : AX} {r0 : α} {cc : ByteArray} {mL : Nat} {own : String} {pc pc1 : Nat} {st : List Value} {σ : Mem} {oo : Option α} {a0 a1 a2 a3 a4 a5 a6 a7 : Option Value} {t : List (Option Value)} {x : Int32} {n : Int} (v : Int32) (hX : CX X cc mL own) (d : decode cc pc = .ok (.iinc 8 n, 3)) (hv : Int32.ofInt n = v) (hp : pc + 3 = pc1) (k : AWo X r0 pc1 (a0 :: a1 :: a2 :: a3 :: a4 :: a5 :: a6 :: a7 :: some (.int (x + v)) :: t) st σ oo) : AWo X r0 pc (a0 :: a1 :: a2 :: a3 :: a4 :: a5 :: a6 :: a7 :: some (.int x) :: t) st σ oo := a_incw (i := 8) hX d rfl (by simp) hv hp k
theorem a_il9 {α : Type} {X : AX} {r0 : α} {cc : ByteArray} {mL : Nat} {own : String} {pc pc1 : Nat} {st : List Value} {σ : Mem} {oo : Option α} {a0 a1 a2 a3 a4 a5 a6 a7 a8 : Option Value} {t : List (Option Value)} {x : Int32} (hX : CX X cc mL own) (d : decode cc pc = .ok (.iload 9, 2)) (hp : pc + 2 = pc1) (k : AWo X r0 pc1 (a0 :: a1 :: a2 :: a3 :: a4 :: a5 :: a6 :: a7 :: a8 :: some (.int x) :: t) (.int x :: st) σ oo) : AWo X r0 pc (a0 :: a1 :: a2 :: a3 :: a4 :: a5 :: a6 :: a7 :: a8 :: some (.int x) :: t) st σ oo := a_ilw (i := 9) hX d rfl hp k
theorem a_al9 {α : Type} {X : AX} {r0 : α} {cc : ByteArray} {mL : Nat} {own : String} {pc pc1 : Nat} {st : List Value} {σ : Mem} {oo : Option α} {a0 a1 a2 a3 a4 a5 a6 a7 a8 : Option Value} {t : List (Option Value)} {x : Nat} (hX : CX X cc mL own) (d : decode cc pc = .ok (.aload 9, 2)) (hp : pc + 2 = pc1) (k : AWo X r0 pc1 (a0 :: a1 :: a2 :: a3 :: a4 :: a5 :: a6 :: a7 :: a8 :: some (.ref x) :: t) (.ref x :: st) σ oo) : AWo X r0 pc (a0 :: a1 :: a2 :: a3 :: a4 :: a5 :: a6 :: a7 :: a8 :: some (.ref x) :: t) st σ oo := a_alw (i := 9) hX d rfl hp k
theorem a_is9 {α : Type} {X : AX} {r0 : α} {cc : ByteArray} {mL : Nat} {own : String} {pc pc1 : Nat} {st : List Value} {σ : Mem} {oo : Option α} {a0 a1 a2 a3 a4 a5 a6 a7 a8 : Option Value} {ai : Option Value} {t : List (Option Value)} {x : Int32} (hX : CX X cc mL own) (d : decode cc pc = .ok (.istore 9, 2)) (hp : pc + 2 = pc1) (k : AWo X r0 pc1 (a0 :: a1 :: a2 :: a3 :: a4 :: a5 :: a6 :: a7 :: a8 :: some (.int x) :: t) st σ oo) : AWo X r0 pc (a0 :: a1 :: a2 :: a3 :: a4 :: a5 :: a6 :: a7 :: a8 :: ai :: t) (.int x :: st) σ oo := a_isw (i := 9) hX d (by simp) hp k
theorem a_inc9 {α : Type} {X : AX} {r0 : α} {cc : ByteArray} {mL : Nat} {own : String} {pc pc1 : Nat} {st : List Value} {σ : Mem} {oo : Option α} {a0 a1 a2 a3 a4 a5 a6 a7 a8 : Option Value} {t : List (Option Value)} {x : Int32} {n : Int} (v : Int32) (hX : CX X cc mL own) (d : decode cc pc = .ok (.iinc 9 n, 3)) (hv : Int32.ofInt n = v) (hp : pc + 3 = pc1) (k : AWo X r0 pc1 (a0 :: a1 :: a2 :: a3 :: a4 :: a5 :: a6 :: a7 :: a8 :: some (.int (x + v)) :: t) st σ oo) : AWo X r0 pc (a0 :: a1 :: a2 :: a3 :: a4 :: a5 :: a6 :: a7 :: a8 :: some (.int x) :: t) st σ oo := a_incw (i := 9) hX d rfl (by simp) hv hp k
theorem a_il10 {α : Type} {X : AX} {r0 : α} {cc : ByteArray} {mL : Nat} {own : String} {pc pc1 : Nat} {st : List Value} {σ : Mem} {oo : Option α} {a0 a1 a2 a3 a4 a5 a6 a7 a8 a9 : Option Value} {t : List (Option Value)} {x : Int32} (hX : CX X cc mL own) (d : decode cc pc = .ok (.iload 10, 2)) (hp : pc + 2 = pc1) (k : AWo X r0 pc1 (a0 :: a1 :: a2 :: a3 :: a4 :: a5 :: a6 :: a7 :: a8 :: a9 :: some (.int x) :: t) (.int x :: st) σ oo) : AWo X r0 pc (a0 :: a1 :: a2 :: a3 :: a4 :: a5 :: a6 :: a7 :: a8 :: a9 :: some (.int x) :: t) st σ oo := a_ilw (i := 10) hX d rfl hp k
theorem a_al10 {α : Type} {X : AX} {r0 : α} {cc : ByteArray} {mL : Nat} {own : String} {pc pc1 : Nat} {st : List Value} {σ : Mem} {oo : Option α} {a0 a1 a2 a3 a4 a5 a6 a7 a8 a9 : Option Value} {t : List (Option Value)} {x : Nat} (hX : CX X cc mL own) (d : decode cc pc = .ok (.aload 10, 2)) (hp : pc + 2 = pc1) (k : AWo X r0 pc1 (a0 :: a1 :: a2 :: a3 :: a4 :: a5 :: a6 :: a7 :: a8 :: a9 :: some (.ref x) :: t) (.ref x :: st) σ oo) : AWo X r0 pc (a0 :: a1 :: a2 :: a3 :: a4 :: a5 :: a6 :: a7 :: a8 :: a9 :: some (.ref x) :: t) st σ oo := a_alw (i := 10) hX d rfl hp k
theorem a_is10 {α : Type} {X : AX} {r0 : α} {cc : ByteArray} {mL : Nat} {own : String} {pc pc1 : Nat} {st : List Value} {σ : Mem} {oo : Option α} {a0 a1 a2 a3 a4 a5 a6 a7 a8 a9 : Option Value} {ai : Option Value} {t : List (Option Value)} {x : Int32} (hX : CX X cc mL own) (d : decode cc pc = .ok (.istore 10, 2)) (hp : pc + 2 = pc1) (k : AWo X r0 pc1 (a0 :: a1 :: a2 :: a3 :: a4 :: a5 :: a6 :: a7 :: a8 :: a9 :: some (.int x) :: t) st σ oo) : AWo X r0 pc (a0 :: a1 :: a2 :: a3 :: a4 :: a5 :: a6 :: a7 :: a8 :: a9 :: ai :: t) (.int x :: st) σ oo := a_isw (i := 10) hX d (by simp) hp k
theorem a_inc10 {α : Type} {X : AX} {r0 : α} {cc : ByteArray} {mL : Nat} {own : String} {pc pc1 : Nat} {st : List Value} {σ : Mem} {oo : Option α} {a0 a1 a2 a3 a4 a5 a6 a7 a8 a9 : Option Value} {t : List (Option Value)} {x : Int32} {n : Int} (v : Int32) (hX : CX X cc mL own) (d : decode cc pc = .ok (.iinc 10 n, 3)) (hv : Int32.ofInt n = v) (hp : pc + 3 = pc1) (k : AWo X r0 pc1 (a0 :: a1 :: a2 :: a3 :: a4 :: a5 :: a6 :: a7 :: a8 :: a9 :: some (.int (x + v)) :: t) st σ oo) : AWo X r0 pc (a0 :: a1 :: a2 :: a3 :: a4 :: a5 :: a6 :: a7 :: a8 :: a9 :: some (.int x) :: t) st σ oo := a_incw (i := 10) hX d rfl (by simp) hv hp k
theorem a_il11 {α : Type} {X : AX} {r0 : α} {cc : ByteArray} {mL : Nat} {own : String} {pc pc1 : Nat} {st : List Value} {σ : Mem} {oo : Option α} {a0 a1 a2 a3 a4 a5 a6 a7 a8 a9 a10 : Option Value} {t : List (Option Value)} {x : Int32} (hX : CX X cc mL own) (d : decode cc pc = .ok (.iload 11, 2)) (hp : pc + 2 = pc1) (k : AWo X r0 pc1 (a0 :: a1 :: a2 :: a3 :: a4 :: a5 :: a6 :: a7 :: a8 :: a9 :: a10 :: some (.int x) :: t) (.int x :: st) σ oo) : AWo X r0 pc (a0 :: a1 :: a2 :: a3 :: a4 :: a5 :: a6 :: a7 :: a8 :: a9 :: a10 :: some (.int x) :: t) st σ oo := a_ilw (i := 11) hX d rfl hp k
theorem a_al11 {α : Type} {X : AX} {r0 : α} {cc : ByteArray} {mL : Nat} {own : String} {pc pc1 : Nat} {st : List Value} {σ : Mem} {oo : Option α} {a0 a1 a2 a3 a4 a5 a6 a7 a8 a9 a10 : Option Value} {t : List (Option Value)} {x : Nat} (hX : CX X cc mL own) (d : decode cc pc = .ok (.aload 11, 2)) (hp : pc + 2 = pc1) (k : AWo X r0 pc1 (a0 :: a1 :: a2 :: a3 :: a4 :: a5 :: a6 :: a7 :: a8 :: a9 :: a10 :: some (.ref x) :: t) (.ref x :: st) σ oo) : AWo X r0 pc (a0 :: a1 :: a2 :: a3 :: a4 :: a5 :: a6 :: a7 :: a8 :: a9 :: a10 :: some (.ref x) :: t) st σ oo := a_alw (i := 11) hX d rfl hp k
theorem a_is11 {α : Type} {X : AX} {r0 : α} {cc : ByteArray} {mL : Nat} {own : String} {pc pc1 : Nat} {st : List Value} {σ : Mem} {oo : Option α} {a0 a1 a2 a3 a4 a5 a6 a7 a8 a9 a10 : Option Value} {ai : Option Value} {t : List (Option Value)} {x : Int32} (hX : CX X cc mL own) (d : decode cc pc = .ok (.istore 11, 2)) (hp : pc + 2 = pc1) (k : AWo X r0 pc1 (a0 :: a1 :: a2 :: a3 :: a4 :: a5 :: a6 :: a7 :: a8 :: a9 :: a10 :: some (.int x) :: t) st σ oo) : AWo X r0 pc (a0 :: a1 :: a2 :: a3 :: a4 :: a5 :: a6 :: a7 :: a8 :: a9 :: a10 :: ai :: t) (.int x :: st) σ oo := a_isw (i := 11) hX d (by simp) hp k
theorem a_inc11 {α : Type} {X : AX} {r0 : α} {cc : ByteArray} {mL : Nat} {own : String} {pc pc1 : Nat} {st : List Value} {σ : Mem} {oo : Option α} {a0 a1 a2 a3 a4 a5 a6 a7 a8 a9 a10 : Option Value} {t : List (Option Value)} {x : Int32} {n : Int} (v : Int32) (hX : CX X cc mL own) (d : decode cc pc = .ok (.iinc 11 n, 3)) (hv : Int32.ofInt n = v) (hp : pc + 3 = pc1) (k : AWo X r0 pc1 (a0 :: a1 :: a2 :: a3 :: a4 :: a5 :: a6 :: a7 :: a8 :: a9 :: a10 :: some (.int (x + v)) :: t) st σ oo) : AWo X r0 pc (a0 :: a1 :: a2 :: a3 :: a4 :: a5 :: a6 :: a7 :: a8 :: a9 :: a10 :: some (.int x) :: t) st σ oo := a_incw (i := 11) hX d rfl (by simp) hv hp k
theorem a_il12 {α : Type} {X : AX} {r0 : α} {cc : ByteArray} {mL : Nat} {own : String} {pc pc1 : Nat} {st : List Value} {σ : Mem} {oo : Option α} {a0 a1 a2 a3 a4 a5 a6 a7 a8 a9 a10 a11 : Option Value} {t : List (Option Value)} {x : Int32} (hX : CX X cc mL own) (d : decode cc pc = .ok (.iload 12, 2)) (hp : pc + 2 = pc1) (k : AWo X r0 pc1 (a0 :: a1 :: a2 :: a3 :: a4 :: a5 :: a6 :: a7 :: a8 :: a9 :: a10 :: a11 :: some (.int x) :: t) (.int x :: st) σ oo) : AWo X r0 pc (a0 :: a1 :: a2 :: a3 :: a4 :: a5 :: a6 :: a7 :: a8 :: a9 :: a10 :: a11 :: some (.int x) :: t) st σ oo := a_ilw (i := 12) hX d rfl hp k
theorem a_al12 {α : Type} {X : AX} {r0 : α} {cc : ByteArray} {mL : Nat} {own : String} {pc pc1 : Nat} {st : List Value} {σ : Mem} {oo : Option α} {a0 a1 a2 a3 a4 a5 a6 a7 a8 a9 a10 a11 : Option Value} {t : List (Option Value)} {x : Nat} (hX : CX X cc mL own) (d : decode cc pc = .ok (.aload 12, 2)) (hp : pc + 2 = pc1) (k : AWo X r0 pc1 (a0 :: a1 :: a2 :: a3 :: a4 :: a5 :: a6 :: a7 :: a8 :: a9 :: a10 :: a11 :: some (.ref x) :: t) (.ref x :: st) σ oo) : AWo X r0 pc (a0 :: a1 :: a2 :: a3 :: a4 :: a5 :: a6 :: a7 :: a8 :: a9 :: a10 :: a11 :: some (.ref x) :: t) st σ oo := a_alw (i := 12) hX d rfl hp k
theorem a_is12 {α : Type} {X : AX} {r0 : α} {cc : ByteArray} {mL : Nat} {own : String} {pc pc1 : Nat} {st : List Value} {σ : Mem} {oo : Option α} {a0 a1 a2 a3 a4 a5 a6 a7 a8 a9 a10 a11 : Option Value} {ai : Option Value} {t : List (Option Value)} {x : Int32} (hX : CX X cc mL own) (d : decode cc pc = .ok (.istore 12, 2)) (hp : pc + 2 = pc1) (k : AWo X r0 pc1 (a0 :: a1 :: a2 :: a3 :: a4 :: a5 :: a6 :: a7 :: a8 :: a9 :: a10 :: a11 :: some (.int x) :: t) st σ oo) : AWo X r0 pc (a0 :: a1 :: a2 :: a3 :: a4 :: a5 :: a6 :: a7 :: a8 :: a9 :: a10 :: a11 :: ai :: t) (.int x :: st) σ oo := a_isw (i := 12) hX d (by simp) hp k
theorem a_inc12 {α : Type} {X : AX} {r0 : α} {cc : ByteArray} {mL : Nat} {own : String} {pc pc1 : Nat} {st : List Value} {σ : Mem} {oo : Option α} {a0 a1 a2 a3 a4 a5 a6 a7 a8 a9 a10 a11 : Option Value} {t : List (Option Value)} {x : Int32} {n : Int} (v : Int32) (hX : CX X cc mL own) (d : decode cc pc = .ok (.iinc 12 n, 3)) (hv : Int32.ofInt n = v) (hp : pc + 3 = pc1) (k : AWo X r0 pc1 (a0 :: a1 :: a2 :: a3 :: a4 :: a5 :: a6 :: a7 :: a8 :: a9 :: a10 :: a11 :: some (.int (x + v)) :: t) st σ oo) : AWo X r0 pc (a0 :: a1 :: a2 :: a3 :: a4 :: a5 :: a6 :: a7 :: a8 :: a9 :: a10 :: a11 :: some (.int x) :: t) st σ oo := a_incw (i := 12) hX d rfl (by simp) hv hp k
theorem a_il13 {α : Type} {X : AX} {r0 : α} {cc : ByteArray} {mL : Nat} {own : String} {pc pc1 : Nat} {st : List Value} {σ : Mem} {oo : Option α} {a0 a1 a2 a3 a4 a5 a6 a7 a8 a9 a10 a11 a12 : Option Value} {t : List (Option Value)} {x : Int32} (hX : CX X cc mL own) (d : decode cc pc = .ok (.iload 13, 2)) (hp : pc + 2 = pc1) (k : AWo X r0 pc1 (a0 :: a1 :: a2 :: a3 :: a4 :: a5 :: a6 :: a7 :: a8 :: a9 :: a10 :: a11 :: a12 :: some (.int x) :: t) (.int x :: st) σ oo) : AWo X r0 pc (a0 :: a1 :: a2 :: a3 :: a4 :: a5 :: a6 :: a7 :: a8 :: a9 :: a10 :: a11 :: a12 :: some (.int x) :: t) st σ oo := a_ilw (i := 13) hX d rfl hp k
theorem a_al13 {α : Type} {X : AX} {r0 : α} {cc : ByteArray} {mL : Nat} {own : String} {pc pc1 : Nat} {st : List Value} {σ : Mem} {oo : Option α} {a0 a1 a2 a3 a4 a5 a6 a7 a8 a9 a10 a11 a12 : Option Value} {t : List (Option Value)} {x : Nat} (hX : CX X cc mL own) (d : decode cc pc = .ok (.aload 13, 2)) (hp : pc + 2 = pc1) (k : AWo X r0 pc1 (a0 :: a1 :: a2 :: a3 :: a4 :: a5 :: a6 :: a7 :: a8 :: a9 :: a10 :: a11 :: a12 :: some (.ref x) :: t) (.ref x :: st) σ oo) : AWo X r0 pc (a0 :: a1 :: a2 :: a3 :: a4 :: a5 :: a6 :: a7 :: a8 :: a9 :: a10 :: a11 :: a12 :: some (.ref x) :: t) st σ oo := a_alw (i := 13) hX d rfl hp k
theorem a_is13 {α : Type} {X : AX} {r0 : α} {cc : ByteArray} {mL : Nat} {own : String} {pc pc1 : Nat} {st : List Value} {σ : Mem} {oo : Option α} {a0 a1 a2 a3 a4 a5 a6 a7 a8 a9 a10 a11 a12 : Option Value} {ai : Option Value} {t : List (Option Value)} {x : Int32} (hX : CX X cc mL own) (d : decode cc pc = .ok (.istore 13, 2)) (hp : pc + 2 = pc1) (k : AWo X r0 pc1 (a0 :: a1 :: a2 :: a3 :: a4 :: a5 :: a6 :: a7 :: a8 :: a9 :: a10 :: a11 :: a12 :: some (.int x) :: t) st σ oo) : AWo X r0 pc (a0 :: a1 :: a2 :: a3 :: a4 :: a5 :: a6 :: a7 :: a8 :: a9 :: a10 :: a11 :: a12 :: ai :: t) (.int x :: st) σ oo := a_isw (i := 13) hX d (by simp) hp k
theorem a_inc13 {α : Type} {X : AX} {r0 : α} {cc : ByteArray} {mL : Nat} {own : String} {pc pc1 : Nat} {st : List Value} {σ : Mem} {oo : Option α} {a0 a1 a2 a3 a4 a5 a6 a7 a8 a9 a10 a11 a12 : Option Value} {t : List (Option Value)} {x : Int32} {n : Int} (v : Int32) (hX : CX X cc mL own) (d : decode cc pc = .ok (.iinc 13 n, 3)) (hv : Int32.ofInt n = v) (hp : pc + 3 = pc1) (k : AWo X r0 pc1 (a0 :: a1 :: a2 :: a3 :: a4 :: a5 :: a6 :: a7 :: a8 :: a9 :: a10 :: a11 :: a12 :: some (.int (x + v)) :: t) st σ oo) : AWo X r0 pc (a0 :: a1 :: a2 :: a3 :: a4 :: a5 :: a6 :: a7 :: a8 :: a9 :: a10 :: a11 :: a12 :: some (.int x) :: t) st σ oo := a_incw (i := 13) hX d rfl (by simp) hv hp k
