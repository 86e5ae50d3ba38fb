/-! ===== the class: the offers of a package ===== -/
theorem oi_le {a b : Nat} (ha : a < 2 ^ 31) (hb : b < 2 ^ 31) : oi a ≤ oi b ↔ a ≤ b := by
  unfold oi
  by_cases h0 : a = 0
  · by_cases h1 : b = 0
    · simp [h0, h1]
    · rw [if_pos h0, if_neg h1]
      constructor
      · intro _
        omega
      · intro _
        rw [Int32.le_iff_toInt_le, nI_toInt (by omega), show (-1 : Int32).toInt = -1 from by decide]
        omega
  · by_cases h1 : b = 0
    · rw [if_neg h0, if_pos h1]
      constructor
      · intro h
        rw [Int32.le_iff_toInt_le, nI_toInt (by omega), show (-1 : Int32).toInt = -1 from by decide] at h
        omega
      · intro h
        omega
    · rw [if_neg h0, if_neg h1, nI_leI (by omega) (by omega)]
      omega
theorem worth_inj {S : SP} (hW : WF S) {p x y : Nat} (hx : Cand S p x) (hy : Cand S p y) (h : s_worth S p x = s_worth S p y) : x = y := by
  unfold s_worth at h
  rcases hx with hx | ⟨hx, hx2, -⟩
  · rcases hy with hy | ⟨hy, hy2, -⟩
    · omega
    · rw [if_pos hx] at h
      split at h
      · omega
      · split at h <;> omega
  · rcases hy with hy | ⟨hy, hy2, -⟩
    · rw [if_pos hy] at h
      split at h
      · omega
      · split at h <;> omega
    · have r1 := hW.rank hx
      have r2 := hW.rank hy
      by_cases e1 : x = 0
      · rw [if_pos e1] at h
        split at h
        · omega
        · split at h <;> omega
      · by_cases e2 : y = 0
        · rw [if_neg e1, if_pos e2] at h
          split at h <;> omega
        · rw [if_neg e1, if_neg e2] at h
          split at h
          · rename_i h1
            split at h
            · rename_i h2
              rw [h1.2, h2.2]
            · omega
          · split at h
            · omega
            · have := hW.inj hx hy (by rw [hx2, hy2]) (by omega)
              omega
theorem vs_pw {f : Nat → Bool} : ∀ n, ((List.range n).filter f).Pairwise (· < ·)
  | 0 => by simp
  | n + 1 => by
    rw [List.range_succ, List.filter_append, List.pairwise_append]
    refine ⟨vs_pw n, ?_, fun a ha b hb => ?_⟩
    · simp only [List.filter_cons, List.filter_nil]
      split <;> simp
    · have h1 := List.mem_range.mp (List.mem_filter.mp ha).1
      have h2 := (List.mem_filter.mp hb).1
      rw [List.mem_singleton] at h2
      omega
theorem s_mem_inj {S : SP} {p i j : Nat} (h : s_mem S p i = s_mem S p j) (h0 : s_mem S p i ≠ 0) : i = j := by
  have hp : (s_vs S p).Pairwise (· < ·) := vs_pw _
  rw [List.pairwise_iff_getElem] at hp
  have get : ∀ k, s_mem S p k ≠ 0 → ∃ hk : k < (s_vs S p).length, s_mem S p k = (s_vs S p)[k] + 1 := by
    intro k hk0
    rcases Nat.lt_or_ge k (s_vs S p).length with h1 | h1
    · refine ⟨h1, ?_⟩
      unfold s_mem
      rw [List.getElem?_eq_getElem h1]
    · unfold s_mem at hk0
      rw [List.getElem?_eq_none h1] at hk0
      exact absurd rfl hk0
  obtain ⟨hi, e1⟩ := get i h0
  obtain ⟨hj, e2⟩ := get j (by rw [← h]; exact h0)
  rcases Nat.lt_trichotomy i j with h1 | h1 | h1
  · have := hp i j hi hj h1
    omega
  · exact h1
  · have := hp j i hj hi h1
    omega
def FO (p : Nat) (σ σ' : Mem) : Prop := fr [71, 73] σ σ' ∧ (∀ j, (j < 5 * p ∨ 5 * p + 5 ≤ j) → σ' 71 j = σ 71 j) ∧ ∀ q, q ≠ p → σ' 73 q = σ 73 q
theorem FO.refl {p : Nat} {σ : Mem} : FO p σ σ := ⟨fr.refl, fun _ _ => rfl, fun _ _ => rfl⟩
theorem FO.trans {p : Nat} {σ σ' σ'' : Mem} (h : FO p σ σ') (h' : FO p σ' σ'') : FO p σ σ'' := ⟨h.1.trans h'.1, fun j hj => (h'.2.1 j hj).trans (h.2.1 j hj), fun q hq => (h'.2.2 q hq).trans (h.2.2 q hq)⟩
theorem FO.off {p j : Nat} {σ : Mem} {x : Int32} (h : 5 * p ≤ j) (h' : j < 5 * p + 5) : FO p σ (up σ 71 j x) := ⟨fr.up (by simp), fun k hk => up_off _ _ (Or.inr (by omega)), fun q _ => by rw [up_pl _ _ (by decide)]⟩
theorem FO.cnt {p : Nat} {σ : Mem} {x : Int32} : FO p σ (up σ 73 p x) := ⟨fr.up (by simp), fun k _ => by rw [up_pl _ _ (by decide)], fun q hq => up_off _ _ (Or.inr hq)⟩
section OFF
variable {S : SP} {σ : Mem} {p x : Nat}
theorem c_offer82 {n j : Nat} (hp : p < 6) (hj : 5 * p ≤ j) (hj2 : j < 5 * p + 5) (h : σ 73 p = nI n) : ∃ σ', m_X8_offer_82 (nI p) (oi x) (nI j) σ = some (0, σ') ∧ FO p σ σ' ∧ σ' 71 = (up σ 71 j (oi x)) 71 ∧ σ' 73 p = nI (n + 1) := by
  refine ⟨up (up σ 71 j (oi x)) 73 p (nI (n + 1)), ?_, (FO.off hj hj2).trans FO.cnt, up_pl _ _ (by decide), up_same _ _ _ _⟩
  have e2 : (up σ 71 j (oi x)) 73 p = nI n := by rw [up_pl _ _ (by decide), h]
  unfold m_X8_offer_82
  simp only [x_set (σ := σ) (a := 71) (show j < 30 by omega) (by decide), x_get hp (show 6 < 2 ^ 31 by decide), e2, obind_some, nI_1, x_set hp (show 6 < 2 ^ 31 by decide)]
theorem c_offer_loop (hW : WF S) (hp : p < 6) (hx : x ≤ s_nv S) : ∀ (A B : List Nat) (f : Nat) (σ : Mem), A.length < f → RC S σ → RoL σ 71 (5 * p) A.reverse → RoL σ 71 (5 * p + A.length + 1) B → A.length + B.length ≤ 4 → σ 73 p = nI (A.length + B.length) → (∀ y, y ∈ A → y ≤ s_nv S) → ∃ σ', m_X8_offer_29 f (nI p) (oi x) (nI (5 * p + A.length)) (nI (5 * p)) (oi (s_worth S p x)) σ = some (0, σ') ∧ RoL σ' 71 (5 * p) (insR (s_worth S p) x A B) ∧ σ' 73 p = nI (A.length + B.length + 1) ∧ FO p σ σ'
  | [], B, f, σ, hf, hR, hA, hB, hl, hn, hy => by
    obtain ⟨g, rfl⟩ : ∃ g, f = g + 1 := ⟨f - 1, by simp at hf; omega⟩
    simp only [List.length_nil, Nat.add_zero, Nat.zero_add] at *
    obtain ⟨σ', q1, q2, q3, q4⟩ := c_offer82 (x := x) (j := 5 * p) hp (Nat.le_refl _) (by omega) hn
    refine ⟨σ', ?_, ?_, q4, q2⟩
    · rw [m_X8_offer_29]
      rw [if_pos (nI_le (Nat.le_refl _) (by omega)), q1]
    · unfold insR
      refine RoL.cons (by rw [q3]; exact up_same _ _ _ _) (hB.congr fun i hi => ?_)
      rw [q3]
      exact up_off _ _ (Or.inr (by omega))
  | y :: A, B, f, σ, hf, hR, hA, hB, hl, hn, hy => by
    obtain ⟨g, rfl⟩ : ∃ g, f = g + 1 := ⟨f - 1, by omega⟩
    have h24 := hW.nv
    simp only [List.length_cons] at *
    rw [List.reverse_cons] at hA
    have hy1 := hy y (by simp)
    have hlast := hA.last
    rw [List.length_reverse] at hlast
    have hwx := s_worth_lt hW (p := p) hx
    have hwy := s_worth_lt hW (p := p) hy1
    have e1 : m_X7_get 71 30 (nI (5 * p + (A.length + 1)) - 1) σ = some (oi y, σ) := by
      rw [← Nat.add_assoc, nI_pred, x_get (by omega) (by decide), hlast]
    have e2 := c_worth hW hR hp hy1
    by_cases hw : s_worth S p y < s_worth S p x
    · have e3 : m_X7_set 71 30 (nI (5 * p + (A.length + 1))) (oi y) σ = some (0, up σ 71 (5 * p + (A.length + 1)) (oi y)) := x_set (by omega) (by decide)
      obtain ⟨σ', q1, q2, q3, q4⟩ := c_offer_loop hW hp hx A (y :: B) g (up σ 71 (5 * p + (A.length + 1)) (oi y)) (by omega) (hR.fr (fr.up (l := [71]) (by simp)) (by decide)) (hA.left.congr fun i hi => up_off _ _ (Or.inr (by rw [List.length_reverse] at hi; omega))) (RoL.cons (up_same _ _ _ _) (RoL.congr (by rw [show 5 * p + A.length + 1 + 1 = 5 * p + (A.length + 1) + 1 by omega]; exact hB) fun i hi => up_off _ _ (Or.inr (by omega)))) (by simp only [List.length_cons]; omega) (by rw [up_pl _ _ (by decide), hn]; simp only [List.length_cons]; congr 1; omega) (fun z hz => hy z (by simp [hz]))
      refine ⟨σ', ?_, ?_, by rw [q3]; simp only [List.length_cons]; congr 1; omega, (FO.off (by omega) (by omega)).trans q4⟩
      · rw [m_X8_offer_29]
        rw [if_neg (nI_ge (show 5 * p < 5 * p + (A.length + 1) by omega) (by omega)), e1, obind_some, e2, obind_some, if_neg (fun h => by have := (oi_le (by omega) (by omega)).mp h; omega), e1, obind_some, e3, obind_some, ← Nat.add_assoc, pk_m1]
        exact q1
      · rw [insR, if_pos hw]
        exact q2
    · obtain ⟨σ', q1, q2, q3, q4⟩ := c_offer82 (x := x) (j := 5 * p + (A.length + 1)) hp (by omega) (by omega) hn
      refine ⟨σ', ?_, ?_, q4, q2⟩
      · rw [m_X8_offer_29]
        rw [if_neg (nI_ge (show 5 * p < 5 * p + (A.length + 1) by omega) (by omega)), e1, obind_some, e2, obind_some, if_pos ((oi_le (by omega) (by omega)).mpr (by omega)), q1]
      · rw [insR, if_neg hw, List.reverse_cons]
        refine RoL.app (hA.congr fun i hi => ?_) (RoL.cons ?_ (RoL.congr (b := 5 * p + (A.reverse ++ [y]).length + 1) (by simpa using hB) fun i hi => ?_))
        · rw [q3]
          refine up_off _ _ (Or.inr ?_)
          simp at hi
          omega
        · rw [q3]
          simp only [List.length_append, List.length_reverse, List.length_cons, List.length_nil]
          exact up_same _ _ _ _
        · rw [q3]
          refine up_off _ _ (Or.inr ?_)
          simp
          omega
theorem c_offer (hW : WF S) (hR : RC S σ) (hp : p < 6) (hx : x ≤ s_nv S) {L : List Nat} (hL : RoL σ 71 (5 * p) L) (hn : σ 73 p = nI L.length) (h4 : L.length ≤ 4) (hy : ∀ y, y ∈ L → y ≤ s_nv S) : ∃ σ', m_X8_offer (nI p) (oi x) σ = some (0, σ') ∧ RoL σ' 71 (5 * p) (insR (s_worth S p) x L.reverse []) ∧ σ' 73 p = nI (L.length + 1) ∧ FO p σ σ' := by
  obtain ⟨σ', q1, q2, q3, q4⟩ := c_offer_loop hW hp hx L.reverse [] FU σ (by rw [FU_eq, List.length_reverse]; omega) hR (by rw [List.reverse_reverse]; exact hL) (fun i hi => by cases hi) (by simpa using h4) (by simpa using hn) (fun y h => hy y (by simpa using h))
  refine ⟨σ', ?_, q2, by simpa using q3, q4⟩
  unfold m_X8_offer
  rw [x_get hp (by decide), obind_s, obind_s, obind_s, c_worth hW hR hp hx, obind_s, hn, mulr_nI (y := 5) 5 rfl]
  simp only [nI_add]
  rw [List.length_reverse] at q1
  exact q1
theorem s_dmd0 {D : Nat} : s_dmd S D p 0 = !(s_dset S D).testBit p := by
  rw [s_dset_bit]
  unfold s_dmd
  congr 1
  refine anyR_congr fun d hd => ?_
  simp
end OFF
