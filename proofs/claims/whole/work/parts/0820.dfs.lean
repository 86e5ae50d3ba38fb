/-! ===== a search in depth over six lists of offers ===== -/
def sN (t : Nat → Nat) (a x : Nat) : Nat → Nat := fun q => if q = a then x else t q
theorem sN_same {t : Nat → Nat} {a x : Nat} : sN t a x a = x := if_pos rfl
theorem sN_off {t : Nat → Nat} {a x q : Nat} (h : q ≠ a) : sN t a x q = t q := if_neg h
def subL (O : Nat → List Nat) : Nat → List Nat → List (List Nat)
  | 0, c => [c]
  | r + 1, c => (O c.length).flatMap fun x => subL O r (c ++ [x])
def preL (c : Nat → Nat) (a : Nat) : List Nat := (List.range a).map c
theorem preL_len (c : Nat → Nat) (a : Nat) : (preL c a).length = a := by simp [preL]
theorem preL_s (c : Nat → Nat) (a : Nat) : preL c (a + 1) = preL c a ++ [c a] := by simp [preL, List.range_succ]
theorem preL_congr {c c' : Nat → Nat} {a : Nat} (h : ∀ q, q < a → c q = c' q) : preL c a = preL c' a := by
  unfold preL
  apply List.map_congr_left
  intro q hq
  exact h q (List.mem_range.mp hq)
theorem preL_get (c : Nat → Nat) {a p : Nat} (h : p < a) : (preL c a).getD p 0 = c p := by
  unfold preL
  simp [List.getD, h]
def remU (O : Nat → List Nat) (c t : Nat → Nat) : Nat → List (List Nat)
  | 0 => []
  | a + 1 => (((O a).drop (t a)).flatMap fun x => subL O (5 - a) (preL c a ++ [x])) ++ remU O c t a
section DFS
variable {O : Nat → List Nat} {c t : Nat → Nat}
theorem remU_congr {c' t' : Nat → Nat} : ∀ (a : Nat), (∀ q, q < a → t q = t' q) → (∀ q, q + 1 < a → c q = c' q) → remU O c t a = remU O c' t' a
  | 0, _, _ => rfl
  | a + 1, h1, h2 => by
    unfold remU
    rw [remU_congr a (fun q hq => h1 q (by omega)) (fun q hq => h2 q (by omega)), h1 a (by omega), preL_congr fun q hq => h2 q (by omega)]
theorem remU_pick {a x : Nat} (h : (O a)[t a]? = some x) : remU O c t (a + 1) = subL O (5 - a) (preL c a ++ [x]) ++ remU O c (sN t a (t a + 1)) (a + 1) := by
  have hl : t a < (O a).length := by
    rcases Nat.lt_or_ge (t a) (O a).length with h1 | h1
    · exact h1
    · rw [List.getElem?_eq_none h1] at h
      cases h
  have hx : (O a)[t a] = x := by
    rw [List.getElem?_eq_getElem hl] at h
    exact Option.some.inj h
  unfold remU
  rw [sN_same, List.drop_eq_getElem_cons hl, List.flatMap_cons, List.append_assoc, hx, remU_congr (t := sN t a (t a + 1)) (t' := t) a (fun q hq => sN_off (by omega)) (fun q _ => rfl)]
theorem remU_back {a : Nat} (h : (O a).length ≤ t a) : remU O c t (a + 1) = remU O c t a := by
  rw [remU, List.drop_eq_nil_of_le h]
  rfl
theorem remU_adv {a x : Nat} (ha : a < 5) : subL O (5 - a) (preL c a ++ [x]) ++ remU O c t (a + 1) = remU O (sN c a x) (sN t (a + 1) 0) (a + 2) := by
  obtain ⟨r, hr⟩ : ∃ r, 5 - a = r + 1 := ⟨4 - a, by omega⟩
  have hr2 : 5 - (a + 1) = r := by omega
  show _ = (((O (a + 1)).drop (sN t (a + 1) 0 (a + 1))).flatMap fun x' => subL O (5 - (a + 1)) (preL (sN c a x) (a + 1) ++ [x'])) ++ remU O (sN c a x) (sN t (a + 1) 0) (a + 1)
  rw [sN_same, List.drop_zero, hr2, hr, subL]
  have e1 : (preL c a ++ [x]).length = a + 1 := by simp [preL_len]
  have e2 : preL (sN c a x) (a + 1) = preL c a ++ [x] := by
    rw [preL_s, sN_same, preL_congr fun q hq => sN_off (by omega)]
  rw [e1, e2, remU_congr (c := sN c a x) (t := sN t (a + 1) 0) (c' := c) (t' := t) (a + 1) (fun q hq => sN_off (by omega)) (fun q hq => sN_off (by omega))]
theorem remU_leaf {x : Nat} : subL O (5 - 5) (preL c 5 ++ [x]) = [preL (sN c 5 x) 6] := by
  show [preL c 5 ++ [x]] = _
  rw [preL_s (sN c 5 x) 5, sN_same, preL_congr (c := sN c 5 x) (c' := c) fun q hq => sN_off (show q ≠ 5 by omega)]
theorem remU_start : remU O c (sN t 0 0) 1 = subL O 6 [] := by
  unfold remU remU
  rw [sN_same, List.drop_zero, List.append_nil]
  rfl
/-! what is in it -/
theorem subL_mem : ∀ (r : Nat) (c : List Nat) (l : List Nat), l ∈ subL O r c ↔ ∃ s : List Nat, l = c ++ s ∧ s.length = r ∧ ∀ i, i < r → s.getD i 0 ∈ O (c.length + i)
  | 0, c, l => by
    unfold subL
    rw [List.mem_singleton]
    constructor
    · intro h
      exact ⟨[], by rw [List.append_nil]; exact h, rfl, fun i hi => by omega⟩
    · rintro ⟨s, h1, h2, -⟩
      rw [List.length_eq_zero_iff.mp h2, List.append_nil] at h1
      exact h1
  | r + 1, c, l => by
    unfold subL
    rw [List.mem_flatMap]
    constructor
    · rintro ⟨x, hx, h⟩
      obtain ⟨s, h1, h2, h3⟩ := (subL_mem r (c ++ [x]) l).mp h
      refine ⟨x :: s, by rw [h1]; simp, by simp [h2], fun i hi => ?_⟩
      cases i with
      | zero => simpa using hx
      | succ i =>
        have := h3 i (by omega)
        rw [List.length_append] at this
        simp only [List.length_cons, List.length_nil] at this
        rw [show c.length + (i + 1) = c.length + (0 + 1) + i by omega]
        simpa using this
    · rintro ⟨s, h1, h2, h3⟩
      cases s with
      | nil => cases h2
      | cons x s =>
        refine ⟨x, by simpa using h3 0 (by omega), (subL_mem r (c ++ [x]) l).mpr ⟨s, by rw [h1]; simp, by simpa using h2, fun i hi => ?_⟩⟩
        have := h3 (i + 1) (by omega)
        rw [List.length_append]
        simp only [List.length_cons, List.length_nil]
        rw [show c.length + (i + 1) = c.length + (0 + 1) + i by omega] at this
        simpa using this
theorem subL_all {l : List Nat} : l ∈ subL O 6 [] ↔ l.length = 6 ∧ ∀ p, p < 6 → chL l p ∈ O p := by
  rw [subL_mem]
  constructor
  · rintro ⟨s, h1, h2, h3⟩
    rw [List.nil_append] at h1
    subst h1
    refine ⟨h2, fun p hp => ?_⟩
    have := h3 p hp
    rw [List.length_nil, Nat.zero_add] at this
    exact this
  · rintro ⟨h1, h2⟩
    refine ⟨l, by simp, h1, fun i hi => ?_⟩
    rw [List.length_nil, Nat.zero_add]
    exact h2 i hi
/-- in what lies below a prefix the prefix stands -/
theorem subL_pre {a x : Nat} {l : List Nat} (ha : a < 6) (h : l ∈ subL O (5 - a) (preL c a ++ [x])) : ∀ p, p ≤ a → chL l p = sN c a x p := by
  obtain ⟨s, h1, h2, h3⟩ := (subL_mem _ _ _).mp h
  intro p hp
  have e2 : preL (sN c a x) (a + 1) = preL c a ++ [x] := by
    rw [preL_s, sN_same, preL_congr fun q hq => sN_off (by omega)]
  rw [← e2] at h1
  unfold chL
  rw [h1, ← preL_get (sN c a x) (a := a + 1) (p := p) (by omega)]
  simp only [List.getD]
  rw [List.getElem?_append_left (by rw [preL_len]; omega)]
theorem chL_pre {p : Nat} (hp : p < 6) : chL (preL c 6) p = c p := preL_get c hp
/-! the order in which the leaves come -/
def LexL (R : Nat → Nat → Nat → Prop) (l l' : List Nat) : Prop := ∃ p, p < 6 ∧ (∀ q, q < p → chL l q = chL l' q) ∧ R p (chL l p) (chL l' p)
theorem pw_flat {R : Nat → Nat → Prop} {Q : List Nat → List Nat → Prop} {g : Nat → List (List Nat)} : ∀ (xs : List Nat), xs.Pairwise R → (∀ x, x ∈ xs → (g x).Pairwise Q) → (∀ x y, x ∈ xs → y ∈ xs → R x y → ∀ a, a ∈ g x → ∀ b, b ∈ g y → Q a b) → (xs.flatMap g).Pairwise Q
  | [], _, _, _ => List.Pairwise.nil
  | x :: xs, h, h1, h2 => by
    rw [List.flatMap_cons, List.pairwise_append]
    rw [List.pairwise_cons] at h
    refine ⟨h1 x (by simp), pw_flat xs h.2 (fun y hy => h1 y (by simp [hy])) (fun y z hy hz => h2 y z (by simp [hy]) (by simp [hz])), fun a ha b hb => ?_⟩
    obtain ⟨y, hy, hb⟩ := List.mem_flatMap.mp hb
    exact h2 x y (by simp) (by simp [hy]) (h.1 y hy) a ha b hb
theorem getD_app {c s : List Nat} {p : Nat} (h : p < c.length) : (c ++ s).getD p 0 = c.getD p 0 := by
  simp only [List.getD]
  rw [List.getElem?_append_left h]
theorem getD_at {c s : List Nat} {x : Nat} : (c ++ [x] ++ s).getD c.length 0 = x := by
  simp [List.getD]
theorem subL_pw {R : Nat → Nat → Nat → Prop} (hO : ∀ p, p < 6 → (O p).Pairwise (R p)) : ∀ (r : Nat) (c : List Nat), c.length + r = 6 → (subL O r c).Pairwise (LexL R)
  | 0, c, _ => List.pairwise_singleton _ _
  | r + 1, c, h => by
    unfold subL
    refine pw_flat (R := R c.length) _ (hO c.length (by omega)) (fun x hx => subL_pw hO r (c ++ [x]) (by simp; omega)) (fun x y hx hy hR a ha b hb => ?_)
    obtain ⟨s, h1, h2, h3⟩ := (subL_mem _ _ _).mp ha
    obtain ⟨s', h1', h2', h3'⟩ := (subL_mem _ _ _).mp hb
    refine ⟨c.length, by omega, fun q hq => ?_, ?_⟩
    · unfold chL
      rw [h1, h1', List.append_assoc, List.append_assoc, getD_app hq, getD_app hq]
    · unfold chL
      rw [h1, h1', getD_at, getD_at]
      exact hR
/-! the measure of a search -/
def wv : Nat → Nat
  | 0 => 0
  | r + 1 => 5 * (1 + wv r) + 1
def muU (O : Nat → List Nat) (t : Nat → Nat) : Nat → Nat
  | 0 => 0
  | a + 1 => ((O a).length - t a) * (1 + wv (5 - a)) + 1 + muU O t a
theorem muU_congr {t' : Nat → Nat} : ∀ (a : Nat), (∀ q, q < a → t q = t' q) → muU O t a = muU O t' a
  | 0, _ => rfl
  | a + 1, h => by
    unfold muU
    rw [muU_congr a (fun q hq => h q (by omega)), h a (by omega)]
theorem muU_pick {a : Nat} (h : t a < (O a).length) : muU O (sN t a (t a + 1)) (a + 1) + (1 + wv (5 - a)) = muU O t (a + 1) := by
  unfold muU
  rw [sN_same, muU_congr (t := sN t a (t a + 1)) (t' := t) a (fun q hq => sN_off (by omega))]
  obtain ⟨n, hn⟩ : ∃ n, (O a).length - t a = n + 1 := ⟨(O a).length - t a - 1, by omega⟩
  rw [hn, show (O a).length - (t a + 1) = n by omega, Nat.succ_mul]
  omega
theorem muU_adv {a : Nat} (ha : a < 5) (hl : (O (a + 1)).length ≤ 5) : muU O (sN t (a + 1) 0) (a + 2) ≤ muU O t (a + 1) + wv (5 - a) := by
  obtain ⟨r, hr⟩ : ∃ r, 5 - a = r + 1 := ⟨4 - a, by omega⟩
  rw [muU, sN_same, Nat.sub_zero, muU_congr (t := sN t (a + 1) 0) (t' := t) (a + 1) (fun q hq => sN_off (by omega)), hr, wv, show 5 - (a + 1) = r by omega]
  have := Nat.mul_le_mul_right (1 + wv r) hl
  omega
theorem muU_back {a : Nat} : muU O t a < muU O t (a + 1) := by
  rw [muU]
  omega
theorem muU_start (hl : (O 0).length ≤ 5) : muU O (sN t 0 0) 1 ≤ 23436 := by
  unfold muU muU
  rw [sN_same, Nat.sub_zero]
  have := Nat.mul_le_mul_right (1 + wv 5) hl
  have e : wv 5 = 4686 := rfl
  rw [show (5 : Nat) - 0 = 5 from rfl, e] at *
  omega
end DFS
/-! counting -/
noncomputable def fltP (G : List Nat → Prop) (R : List (List Nat)) : List (List Nat) := R.filter fun l => @decide (G l) (Classical.propDecidable _)
section FLT
variable {G : List Nat → Prop}
theorem fltP_mem {R : List (List Nat)} {l : List Nat} : l ∈ fltP G R ↔ l ∈ R ∧ G l := by
  unfold fltP
  rw [List.mem_filter]
  constructor
  · rintro ⟨h1, h2⟩
    exact ⟨h1, @of_decide_eq_true _ (Classical.propDecidable _) h2⟩
  · rintro ⟨h1, h2⟩
    exact ⟨h1, @decide_eq_true _ (Classical.propDecidable _) h2⟩
theorem fltP_none {R : List (List Nat)} (h : ∀ l, l ∈ R → ¬ G l) : fltP G R = [] := by
  unfold fltP
  rw [List.filter_eq_nil_iff]
  intro l hl h2
  exact h l hl (@of_decide_eq_true _ (Classical.propDecidable _) h2)
theorem fltP_app {R R' : List (List Nat)} : fltP G (R ++ R') = fltP G R ++ fltP G R' := List.filter_append _ _
theorem fltP_cons {R : List (List Nat)} {l : List Nat} (h : G l) : fltP G (l :: R) = l :: fltP G R := by
  unfold fltP
  rw [List.filter_cons, if_pos (@decide_eq_true _ (Classical.propDecidable _) h)]
theorem fltP_not {R : List (List Nat)} {l : List Nat} (h : ¬ G l) : fltP G (l :: R) = fltP G R := by
  unfold fltP
  rw [List.filter_cons, if_neg (fun h2 => h (@of_decide_eq_true _ (Classical.propDecidable _) h2))]
theorem nd_len : ∀ {l l' : List (List Nat)}, l.Nodup → (∀ x, x ∈ l → x ∈ l') → l.length ≤ l'.length
  | [], l', _, _ => Nat.zero_le _
  | a :: l, l', h, hs => by
    rw [List.nodup_cons] at h
    have ha := hs a (by simp)
    have h1 := nd_len (l := l) (l' := l'.erase a) h.2 (fun x hx => by
      have hne : x ≠ a := fun e => h.1 (e ▸ hx)
      exact (List.mem_erase_of_ne hne).mpr (hs x (by simp [hx])))
    rw [List.length_erase_of_mem ha] at h1
    have : 0 < l'.length := List.length_pos_of_mem ha
    rw [List.length_cons]
    omega
theorem NSol.uni {S : SP} {D n m : Nat} (h : NSol S D n) (h' : NSol S D m) : n = m := by
  obtain ⟨l, h1, h2, h3⟩ := h
  obtain ⟨l', h1', h2', h3'⟩ := h'
  have a := nd_len h1 (fun x hx => (h2' x).mpr ((h2 x).mp hx))
  have b := nd_len h1' (fun x hx => (h2 x).mpr ((h2' x).mp hx))
  omega
end FLT
