/-! ===== the class: what a search begins with ===== -/
def s_rw (S : SP) (v : Nat) : Nat := if (s_use S).testBit v = true then s_plb S v 7 else 0
def s_rch (S : SP) (D : Nat) : Nat := its (s_own S) (s_rw S) (s_nv S) 6 (s_dset S D)
section BEG
variable {S : SP} {σ : Mem} {D : Nat}
theorem s_rw_lt (hW : WF S) : ∀ v, v < s_nv S → s_rw S v < 2 ^ 6 := fun v hv => by
  unfold s_rw
  split
  · exact s_plb_lt hW hv
  · decide
theorem c_reachable (hW : WF S) (hR : RC S σ) (hD : D < 64) (h67 : σ 67 7 = nI D) : m_X8_reachable (nI (s_use S)) σ = some (nI (s_rch S D), σ) := by
  have h24 := hW.nv
  have hset := its_lt (key := s_own S) (s_rw_lt hW) (s_dset_lt hW D)
  have hul := s_use_lt hW
  have round : ∀ (f14 : Int32 → Int32 → Int32 → Mem → Option (Int32 × Mem)) (P r : Nat), P < 2 ^ 6 → m_X8_reachable_23 f14 FU (nI (s_use S)) (nI P) (nI r) 0 σ = f14 (nI (s_use S)) (nI (rndS (s_own S) (s_rw S) (s_nv S) P)) (nI (r + 1)) σ := by
    intro f14 P r hP
    refine up_fu (n := s_nv S) (P := fun i f => m_X8_reachable_23 f14 f (nI (s_use S)) (nI (rndS (s_own S) (s_rw S) i P)) (nI r) (nI i) σ = f14 (nI (s_use S)) (nI (rndS (s_own S) (s_rw S) (s_nv S) P)) (nI (r + 1)) σ) (by omega) (fun f => ?_) (fun i f hi ih => ?_) 0 (Nat.zero_le _)
    · unfold m_X8_reachable_23
      rw [hR.nv, if_pos (nI_le (Nat.le_refl _) (by omega)), nI_1]
    · have hlt : rndS (s_own S) (s_rw S) i P < 2 ^ 6 := rnd_lt i (fun j hj => s_rw_lt hW j (by omega)) hP
      have ho := hW.own hi
      have hstp : rndS (s_own S) (s_rw S) (i + 1) P = stp (s_own S) (s_rw S) (rndS (s_own S) (s_rw S) i P) i := rfl
      rw [hstp] at ih
      have hrw : s_rw S i = if (s_use S).testBit i = true then s_plb S i 7 else 0 := rfl
      unfold stp at ih
      rw [hrw] at ih
      unfold m_X8_reachable_23
      rw [hR.nv, if_neg (nI_ge hi (by omega))]
      have e7 : m_X10_pulledBy (nI i) 7 σ = some (nI (s_plb S i 7), σ) := c_pulledBy hW hR hi (fs := 7) (by decide)
      simp only [x_isIn hul (show i < 31 by omega), c_own hW hR hi, x_isIn (show rndS (s_own S) (s_rw S) i P < 2 ^ 31 by omega) (show s_own S i < 31 by omega), e7, obind_some, b2i_0, nI_1, nI_or]
      cases g1 : (s_use S).testBit i with
      | false =>
        rw [if_pos rfl]
        rw [g1] at ih
        simpa using ih
      | true =>
        rw [if_neg (by simp)]
        rw [g1] at ih
        cases g2 : (rndS (s_own S) (s_rw S) i P).testBit (s_own S i) with
        | true =>
          rw [if_neg (by simp)]
          rw [g2] at ih
          simpa using ih
        | false =>
          rw [if_pos rfl]
          rw [g2] at ih
          simpa using ih
  unfold m_X8_reachable
  rw [h67, c_demanded hW hR hD, obind_s]
  refine up_fu (n := 6) (P := fun r f => m_X8_reachable_14 f (nI (s_use S)) (nI (its (s_own S) (s_rw S) (s_nv S) r (s_dset S D))) (nI r) σ = some (nI (s_rch S D), σ)) (by decide) (fun f => ?_) (fun r f hr ih => ?_) 0 (Nat.zero_le _)
  · unfold m_X8_reachable_14
    rw [if_pos (show (6 : Int32) ≤ nI 6 by decide)]
    rfl
  · unfold m_X8_reachable_14
    rw [if_neg (show ¬ (6 : Int32) ≤ nI r from nI_ge (b := 6) hr (by decide)), round _ _ _ (hset r)]
    exact ih
/-- what is pulled can be reached -/
theorem rch_pul (hW : WF S) {c : Nat → Nat} (hc : ∀ p, p < 6 → Cand S p (c p)) {p : Nat} (h : Pul S D c p) : (s_rch S D).testBit p = true := by
  have hcl := its_clo (key := s_own S) (n := s_nv S) (s_rw_lt hW) (s_dset_lt hW D)
  refine h (fun q => (s_rch S D).testBit q = true) ⟨fun d hd hb => ?_, fun q hq h0 hb k hk hcn h2 => ?_⟩
  · refine its_mono 6 ?_
    rw [s_dset_bit]
    exact anyR_t.mpr ⟨d, hd, by simp [hb]⟩
  · rcases hc q hq with h1 | ⟨h1, h3, h4⟩
    · exact absurd h1 h0
    · have wn := hW.need h1 hk
      refine hcl (c q - 1) h1 (by rw [h3]; exact hb) _ ?_
      unfold s_rw
      rw [if_pos (by rw [s_use_bit]; simp [h1, h4]), s_plb_bit]
      refine anyR_t.mpr ⟨k, hk, ?_⟩
      have : s_counts S (5 * (c q - 1) + k) 7 = true := by
        unfold s_counts
        rw [Bool.and_eq_true, Bool.or_eq_true]
        refine ⟨hcn.1, ?_⟩
        have h7 : s_nft S (5 * (c q - 1) + k) = 0 ∨ s_nft S (5 * (c q - 1) + k) = 1 ∨ s_nft S (5 * (c q - 1) + k) = 2 ∨ s_nft S (5 * (c q - 1) + k) = 3 := by omega
        rcases h7 with h7 | h7 | h7 | h7 <;> rw [h7] <;> decide
      rw [this]
      simpa using h2
end BEG
/-! ===== a list that is kept in order ===== -/
def insR (w : Nat → Nat) (x : Nat) : List Nat → List Nat → List Nat
  | [], B => x :: B
  | y :: A, B => if w y < w x then insR w x A (y :: B) else (y :: A).reverse ++ x :: B
theorem insR_mem {w : Nat → Nat} {x : Nat} : ∀ (A B : List Nat) (z : Nat), z ∈ insR w x A B ↔ z ∈ A ∨ z = x ∨ z ∈ B
  | [], B, z => by simp [insR]
  | y :: A, B, z => by
    unfold insR
    split
    · rw [insR_mem A (y :: B) z]
      simp only [List.mem_cons]
      constructor
      · rintro (h | h | h | h)
        · exact Or.inl (Or.inr h)
        · exact Or.inr (Or.inl h)
        · exact Or.inl (Or.inl h)
        · exact Or.inr (Or.inr h)
      · rintro ((h | h) | h | h)
        · exact Or.inr (Or.inr (Or.inl h))
        · exact Or.inl h
        · exact Or.inr (Or.inl h)
        · exact Or.inr (Or.inr (Or.inr h))
    · simp
      constructor
      · rintro (h | h | h | h)
        · exact Or.inl (Or.inr h)
        · exact Or.inl (Or.inl h)
        · exact Or.inr (Or.inl h)
        · exact Or.inr (Or.inr h)
      · rintro ((h | h) | h | h)
        · exact Or.inr (Or.inl h)
        · exact Or.inl h
        · exact Or.inr (Or.inr (Or.inl h))
        · exact Or.inr (Or.inr (Or.inr h))
theorem insR_len {w : Nat → Nat} {x : Nat} : ∀ (A B : List Nat), (insR w x A B).length = A.length + B.length + 1
  | [], B => by simp [insR]
  | y :: A, B => by
    unfold insR
    split
    · rw [insR_len A (y :: B)]
      simp
      omega
    · simp
      omega
def dsc (w : Nat → Nat) (L : List Nat) : Prop := L.Pairwise fun x y => w y < w x
theorem insR_dsc {w : Nat → Nat} {x : Nat} : ∀ (A B : List Nat), dsc w (A.reverse ++ B) → (∀ y, y ∈ B → w y < w x) → (∀ y, y ∈ A → w y ≠ w x) → dsc w (insR w x A B)
  | [], B, h, hB, hA => by
    unfold insR dsc
    rw [List.pairwise_cons]
    exact ⟨hB, by simpa [dsc] using h⟩
  | y :: A, B, h, hB, hA => by
    unfold insR
    have e : (y :: A).reverse ++ B = A.reverse ++ (y :: B) := by simp
    split
    · rename_i h1
      refine insR_dsc A (y :: B) (by rw [← e]; exact h) (fun z hz => ?_) (fun z hz => hA z (by simp [hz]))
      rw [List.mem_cons] at hz
      rcases hz with hz | hz
      · rw [hz]
        exact h1
      · exact hB z hz
    · rename_i h1
      have hy : w x < w y := by
        have := hA y (by simp)
        omega
      unfold dsc at h ⊢
      rw [List.pairwise_append] at h ⊢
      obtain ⟨a1, a2, a3⟩ := h
      refine ⟨a1, ?_, fun z hz u hu => ?_⟩
      · rw [List.pairwise_cons]
        exact ⟨hB, a2⟩
      · have hz2 : w x < w z := by
          have hz : z = y ∨ z ∈ A := by simpa [or_comm] using hz
          rcases hz with hz | hz
          · rw [hz]
            exact hy
          · have : w y < w z := by
              rw [show (y :: A).reverse = A.reverse ++ [y] by simp, List.pairwise_append] at a1
              exact a1.2.2 z (by simpa using hz) y (by simp)
            omega
        rw [List.mem_cons] at hu
        rcases hu with hu | hu
        · rw [hu]
          exact hz2
        · have := hB u hu
          omega
/-- a row holds a list -/
def RoL (σ : Mem) (a b : Nat) (L : List Nat) : Prop := ∀ i, i < L.length → σ a (b + i) = oi (L.getD i 0)
theorem RoL.app {σ : Mem} {a b : Nat} {L L' : List Nat} (h : RoL σ a b L) (h' : RoL σ a (b + L.length) L') : RoL σ a b (L ++ L') := by
  intro i hi
  rcases Nat.lt_or_ge i L.length with h1 | h1
  · rw [getD_app h1]
    exact h i h1
  · rw [List.length_append] at hi
    have := h' (i - L.length) (by omega)
    rw [show b + L.length + (i - L.length) = b + i by omega] at this
    rw [this]
    simp only [List.getD]
    rw [List.getElem?_append_right h1]
theorem RoL.cons {σ : Mem} {a b x : Nat} {L : List Nat} (h : σ a b = oi x) (h' : RoL σ a (b + 1) L) : RoL σ a b (x :: L) := by
  refine RoL.app (L := [x]) (fun i hi => ?_) h'
  have : i = 0 := by simpa using hi
  subst this
  simpa using h
theorem RoL.congr {σ σ' : Mem} {a b : Nat} {L : List Nat} (h : RoL σ a b L) (he : ∀ i, i < L.length → σ' a (b + i) = σ a (b + i)) : RoL σ' a b L := fun i hi => (he i hi).trans (h i hi)
theorem RoL.left {σ : Mem} {a b : Nat} {L L' : List Nat} (h : RoL σ a b (L ++ L')) : RoL σ a b L := fun i hi => by
  rw [h i (by rw [List.length_append]; omega), getD_app hi]
theorem RoL.last {σ : Mem} {a b x : Nat} {L : List Nat} (h : RoL σ a b (L ++ [x])) : σ a (b + L.length) = oi x := by
  rw [h L.length (by simp)]
  simp [List.getD]
