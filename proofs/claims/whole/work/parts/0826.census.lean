/-! ===== the class: all choices, one by one ===== -/
def valD (S : SP) (p d : Nat) : Nat := if d = 4 then 0 else s_mem S p (3 - d)
def cnN (S : SP) (n : Nat) : Nat → Nat := fun p => valD S p (n / 5 ^ (5 - p) % 5)
theorem valD_cand {S : SP} {p d : Nat} : Cand S p (valD S p d) ↔ d = 4 ∨ valD S p d = 0 ∨ (s_use S).testBit (valD S p d - 1) = true := by
  unfold valD
  by_cases h : d = 4
  · simp [h, Cand]
  · rw [if_neg h]
    rcases Nat.eq_zero_or_pos (s_mem S p (3 - d)) with h0 | h0
    · rw [h0]
      simp [Cand]
    · obtain ⟨v, hv⟩ : ∃ v, s_mem S p (3 - d) = v + 1 := ⟨s_mem S p (3 - d) - 1, by omega⟩
      obtain ⟨g1, g2⟩ := s_mem_own hv
      rw [hv, Nat.add_sub_cancel, s_use_bit]
      unfold Cand
      simp [h, g1, g2]
theorem Ahead.trans {S : SP} {a b c : Nat → Nat} (h : Ahead S a b) (h' : Ahead S b c) : Ahead S a c := by
  rcases h with h | ⟨h, p, hp, h1, h2⟩
  · rcases h' with h' | ⟨h', -⟩
    · exact Or.inl (by omega)
    · exact Or.inl (by omega)
  · rcases h' with h' | ⟨h', q, hq, g1, g2⟩
    · exact Or.inl (by omega)
    · refine Or.inr ⟨by omega, ?_⟩
      rcases Nat.lt_trichotomy p q with e | e | e
      · refine ⟨p, hp, fun r hr => (h1 r hr).trans (g1 r (by omega)), ?_⟩
        rw [← g1 p e]
        exact h2
      · subst e
        exact ⟨p, hp, fun r hr => (h1 r hr).trans (g1 r hr), by omega⟩
      · refine ⟨q, hq, fun r hr => (h1 r (by omega)).trans (g1 r hr), ?_⟩
        rw [h1 q e]
        exact g2
section CENS
variable {S : SP} {σ : Mem} {D : Nat}
theorem cn_ex (hW : WF S) {c : Nat → Nat} (hc : ∀ p, p < 6 → Cand S p (c p)) : ∃ n, n < 15625 ∧ ∀ p, p < 6 → cnN S n p = c p ∧ (n / 5 ^ (5 - p) % 5 = 4 ∨ c p ≠ 0) := by
  have dig : ∀ p, p < 6 → ∃ d, d < 5 ∧ valD S p d = c p ∧ (d = 4 ∨ c p ≠ 0) := by
    intro p hp
    rcases hc p hp with h | ⟨h1, h2, h3⟩
    · exact ⟨4, by decide, by unfold valD; rw [if_pos rfl, h], Or.inl rfl⟩
    · by_cases h0 : c p = 0
      · exact ⟨4, by decide, by unfold valD; rw [if_pos rfl, h0], Or.inl rfl⟩
      · obtain ⟨i, hi, he⟩ := hW.mem_ex h1
        refine ⟨3 - i, by omega, ?_, Or.inr h0⟩
        unfold valD
        rw [if_neg (by omega), show 3 - (3 - i) = i by omega]
        rw [h2] at he
        omega
  obtain ⟨d0, l0, e0, g0⟩ := dig 0 (by decide)
  obtain ⟨d1, l1, e1, g1⟩ := dig 1 (by decide)
  obtain ⟨d2, l2, e2, g2⟩ := dig 2 (by decide)
  obtain ⟨d3, l3, e3, g3⟩ := dig 3 (by decide)
  obtain ⟨d4, l4, e4, g4⟩ := dig 4 (by decide)
  obtain ⟨d5, l5, e5, g5⟩ := dig 5 (by decide)
  refine ⟨((((d0 * 5 + d1) * 5 + d2) * 5 + d3) * 5 + d4) * 5 + d5, by omega, fun p hp => ?_⟩
  have hp2 : p = 0 ∨ p = 1 ∨ p = 2 ∨ p = 3 ∨ p = 4 ∨ p = 5 := by omega
  unfold cnN
  rcases hp2 with h | h | h | h | h | h <;> subst h
  · rw [show (5 : Nat) ^ (5 - 0) = 3125 from rfl, show (((((d0 * 5 + d1) * 5 + d2) * 5 + d3) * 5 + d4) * 5 + d5) / 3125 % 5 = d0 by omega]
    exact ⟨e0, g0⟩
  · rw [show (5 : Nat) ^ (5 - 1) = 625 from rfl, show (((((d0 * 5 + d1) * 5 + d2) * 5 + d3) * 5 + d4) * 5 + d5) / 625 % 5 = d1 by omega]
    exact ⟨e1, g1⟩
  · rw [show (5 : Nat) ^ (5 - 2) = 125 from rfl, show (((((d0 * 5 + d1) * 5 + d2) * 5 + d3) * 5 + d4) * 5 + d5) / 125 % 5 = d2 by omega]
    exact ⟨e2, g2⟩
  · rw [show (5 : Nat) ^ (5 - 3) = 25 from rfl, show (((((d0 * 5 + d1) * 5 + d2) * 5 + d3) * 5 + d4) * 5 + d5) / 25 % 5 = d3 by omega]
    exact ⟨e3, g3⟩
  · rw [show (5 : Nat) ^ (5 - 4) = 5 from rfl, show (((((d0 * 5 + d1) * 5 + d2) * 5 + d3) * 5 + d4) * 5 + d5) / 5 % 5 = d4 by omega]
    exact ⟨e4, g4⟩
  · rw [show (5 : Nat) ^ (5 - 5) = 1 from rfl, show (((((d0 * 5 + d1) * 5 + d2) * 5 + d3) * 5 + d4) * 5 + d5) / 1 % 5 = d5 by omega]
    exact ⟨e5, g5⟩
theorem c_pickAll_loop (hW : WF S) : ∀ (a n f : Nat) (σ : Mem), a ≤ 6 → n < 2 ^ 30 → a < f → RC S σ → ∃ σ' b, m_X0_pickAll_5 f (nI (s_use S)) (nI n) (oi a) σ = some (b2i b, σ') ∧ fr [86] σ σ' ∧ (b = false → ∃ p, p < a ∧ n / 5 ^ (a - 1 - p) % 5 ≠ 4 ∧ ¬ (valD S p (n / 5 ^ (a - 1 - p) % 5) ≠ 0 ∧ Cand S p (valD S p (n / 5 ^ (a - 1 - p) % 5)))) ∧ (b = true → ∀ p, p < a → σ' 86 p = oi (valD S p (n / 5 ^ (a - 1 - p) % 5)) ∧ Cand S p (valD S p (n / 5 ^ (a - 1 - p) % 5))) ∧ ∀ p, a ≤ p → σ' 86 p = σ 86 p := by
  have h24 := hW.nv
  have hul := s_use_lt hW
  intro a
  induction a with
  | zero =>
    intro n f σ _ hn hf hR
    obtain ⟨g, rfl⟩ : ∃ g, f = g + 1 := ⟨f - 1, by omega⟩
    refine ⟨σ, true, ?_, fr.refl, fun h => (by cases h), fun _ p hp => (by omega), fun p _ => rfl⟩
    rw [m_X0_pickAll_5]
    rw [if_pos (show oi 0 < 0 by decide)]
    rfl
  | succ a ih =>
    intro n f σ ha hn hf hR
    obtain ⟨g, rfl⟩ : ∃ g, f = g + 1 := ⟨f - 1, by omega⟩
    have ha6 : a < 6 := by omega
    have hdig : nI n - nI n / 5 * 5 = nI (n % 5) := pk_rem (d := 5) (by omega) (by decide) (by decide)
    have hdiv : nI n / 5 = nI (n / 5) := pk_div (d := 5) (by omega) (by decide) (by decide)
    have hn5 : n / 5 < 2 ^ 30 := by omega
    have hpow : ∀ p, p < a → n / 5 ^ (a + 1 - 1 - p) % 5 = n / 5 / 5 ^ (a - 1 - p) % 5 := fun p hp => by
      rw [Nat.div_div_eq_div_mul, show a + 1 - 1 - p = (a - 1 - p) + 1 by omega, Nat.pow_succ, Nat.mul_comm]
    have htop : n / 5 ^ (a + 1 - 1 - a) % 5 = n % 5 := by
      rw [show a + 1 - 1 - a = 0 by omega, Nat.pow_zero, Nat.div_one]
    have em : oi (a + 1) + (-1) = oi a := by
      rw [oi_s]
      rcases Nat.eq_zero_or_pos a with h1 | h1
      · rw [h1]
        decide
      · obtain ⟨k, rfl⟩ : ∃ k, a = k + 1 := ⟨a - 1, by omega⟩
        rw [pk_m1, oi_s]
    have hmem : m_X9_member (nI a) (3 - nI (n % 5)) σ = some (oi (valD S a (n % 5)), σ) := by
      unfold valD
      have hd : n % 5 = 4 ∨ n % 5 ≤ 3 := by omega
      rcases hd with hd | hd
      · rw [hd, if_pos rfl, show (3 : Int32) - nI 4 = -1 by decide, c_memberM]
        rfl
      · rw [if_neg (by omega), show (3 : Int32) = nI 3 from rfl, pk_sub hd, c_member hW hR ha6 (by omega)]
    have hvl : valD S a (n % 5) ≤ s_nv S := by
      unfold valD
      split
      · omega
      · exact s_mem_lt _ _
    have go : Cand S a (valD S a (n % 5)) → m_X0_pickAll_5 (g + 1) (nI (s_use S)) (nI n) (oi (a + 1)) σ = m_X0_pickAll_5 g (nI (s_use S)) (nI (n / 5)) (oi a) (up σ 86 a (oi (valD S a (n % 5)))) → ∃ σ' b, m_X0_pickAll_5 (g + 1) (nI (s_use S)) (nI n) (oi (a + 1)) σ = some (b2i b, σ') ∧ fr [86] σ σ' ∧ (b = false → ∃ p, p < a + 1 ∧ n / 5 ^ (a + 1 - 1 - p) % 5 ≠ 4 ∧ ¬ (valD S p (n / 5 ^ (a + 1 - 1 - p) % 5) ≠ 0 ∧ Cand S p (valD S p (n / 5 ^ (a + 1 - 1 - p) % 5)))) ∧ (b = true → ∀ p, p < a + 1 → σ' 86 p = oi (valD S p (n / 5 ^ (a + 1 - 1 - p) % 5)) ∧ Cand S p (valD S p (n / 5 ^ (a + 1 - 1 - p) % 5))) ∧ ∀ p, a + 1 ≤ p → σ' 86 p = σ 86 p := by
      intro hcd he
      obtain ⟨σ', b, q1, q2, q3, q4, q5⟩ := ih (n / 5) g (up σ 86 a (oi (valD S a (n % 5)))) (by omega) hn5 (by omega) (hR.fr (fr.up (l := [86]) (by simp)) (by decide))
      refine ⟨σ', b, by rw [he, q1], (fr.up (by simp)).trans q2, fun hb => ?_, fun hb p hp => ?_, fun p hp => ?_⟩
      · obtain ⟨p, hp, h1, h2⟩ := q3 hb
        exact ⟨p, by omega, by rw [hpow p hp]; exact h1, by rw [hpow p hp]; exact h2⟩
      · by_cases e : p = a
        · subst e
          rw [htop, q5 p (Nat.le_refl _), up_same]
          exact ⟨rfl, hcd⟩
        · rw [hpow p (by omega)]
          exact q4 hb p (by omega)
      · rw [q5 p (by omega), up_off _ _ (Or.inr (by omega))]
    have un : m_X0_pickAll_5 (g + 1) (nI (s_use S)) (nI n) (oi (a + 1)) σ = if 4 ≤ n % 5 then m_X0_pickAll_5 g (nI (s_use S)) (nI (n / 5)) (oi a) (up σ 86 a (oi (valD S a (n % 5)))) else if (valD S a (n % 5) != 0 && (s_use S).testBit (valD S a (n % 5) - 1)) = false then some (0, σ) else m_X0_pickAll_5 g (nI (s_use S)) (nI (n / 5)) (oi a) (up σ 86 a (oi (valD S a (n % 5)))) := by
      rw [m_X0_pickAll_5]
      rw [if_neg (by rw [oi_s]; exact nI_pos (by omega)), obind_some, hdig, obind_some, hdiv, ← em]
      unfold m_X0_pickAll_54
      rw [oi_s, hmem]
      simp only [obind_some, m_isInO hul (show valD S a (n % 5) < 32 by omega), x_set ha6 (show 6 < 2 ^ 31 by decide), b2i_0]
      by_cases h4 : 4 ≤ n % 5
      · rw [if_pos (show (4 : Int32) ≤ nI (n % 5) from nI_le (a := 4) h4 (by omega)), if_pos h4]
      · rw [if_neg (show ¬ (4 : Int32) ≤ nI (n % 5) from nI_ge (b := 4) (by omega) (by decide)), if_neg h4]
    by_cases h4 : 4 ≤ n % 5
    · have h44 : n % 5 = 4 := by omega
      exact go (valD_cand.mpr (Or.inl h44)) (by rw [un, if_pos h4])
    · cases hb : (valD S a (n % 5) != 0 && (s_use S).testBit (valD S a (n % 5) - 1)) with
      | false =>
        refine ⟨σ, false, by rw [un, if_neg h4, hb, if_pos rfl]; rfl, fr.refl, fun _ => ⟨a, by omega, by rw [htop]; omega, ?_⟩, fun h => (by cases h), fun p _ => rfl⟩
        rw [htop]
        rintro ⟨h0, h1⟩
        rcases valD_cand.mp h1 with h2 | h2 | h2
        · omega
        · exact h0 h2
        · rw [h2] at hb
          simp [h0] at hb
      | true =>
        rw [Bool.and_eq_true] at hb
        exact go (valD_cand.mpr (Or.inr (Or.inr hb.2))) (by rw [un, if_neg h4, hb.1, hb.2, if_neg (by decide)])
theorem c_pickAll (hW : WF S) (hR : RC S σ) {n : Nat} (hn : n < 15625) : ∃ σ' b, m_X0_pickAll (nI n) (nI (s_use S)) σ = some (b2i b, σ') ∧ fr [86] σ σ' ∧ (b = false → (∃ p, p < 6 ∧ ¬ Cand S p (cnN S n p)) ∨ ∃ p, p < 6 ∧ n / 5 ^ (5 - p) % 5 ≠ 4 ∧ cnN S n p = 0) ∧ (b = true → ∀ p, p < 6 → σ' 86 p = oi (cnN S n p) ∧ Cand S p (cnN S n p)) := by
  obtain ⟨σ', b, q1, q2, q3, q4, q5⟩ := c_pickAll_loop hW 6 n FU σ (Nat.le_refl _) (by omega) (by rw [FU_eq]; omega) hR
  refine ⟨σ', b, q1, q2, fun hb => ?_, fun hb => q4 hb⟩
  obtain ⟨p, hp, h1, h2⟩ := q3 hb
  by_cases h0 : cnN S n p = 0
  · exact Or.inr ⟨p, hp, h1, h0⟩
  · exact Or.inl ⟨p, hp, fun h => h2 ⟨h0, h⟩⟩
theorem c_better_loop (hW : WF S) (hR : RC S σ) {b c : Nat → Nat} (hb : ∀ p, p < 6 → σ 83 p = oi (b p)) (hc : ∀ p, p < 6 → σ 86 p = oi (c p)) (hbc : ∀ p, p < 6 → Cand S p (b p)) (hcc : ∀ p, p < 6 → Cand S p (c p)) : ∃ g, m_X0_isBetter_47 FU 0 σ = some (b2i g, σ) ∧ (g = true → ∃ p, p < 6 ∧ (∀ q, q < p → c q = b q) ∧ s_worth S p (b p) < s_worth S p (c p)) ∧ (g = false → (∀ p, p < 6 → c p = b p) ∨ ∃ p, p < 6 ∧ (∀ q, q < p → b q = c q) ∧ s_worth S p (c p) < s_worth S p (b p)) := by
  have h24 := hW.nv
  have cn : ∀ {p x : Nat}, Cand S p x → x ≤ s_nv S := fun h => by
    rcases h with h | h
    · omega
    · omega
  refine up_fu (n := 6) (P := fun i f => (∀ q, q < i → c q = b q) → ∃ g, m_X0_isBetter_47 f (nI i) σ = some (b2i g, σ) ∧ (g = true → ∃ p, p < 6 ∧ (∀ q, q < p → c q = b q) ∧ s_worth S p (b p) < s_worth S p (c p)) ∧ (g = false → (∀ p, p < 6 → c p = b p) ∨ ∃ p, p < 6 ∧ (∀ q, q < p → b q = c q) ∧ s_worth S p (c p) < s_worth S p (b p))) (by decide) (fun f h => ?_) (fun i f hi ih h => ?_) 0 (Nat.zero_le _) (fun q hq => by omega)
  · refine ⟨false, ?_, fun h2 => (by cases h2), fun _ => Or.inl h⟩
    rw [m_X0_isBetter_47]
    rw [if_pos (show (6 : Int32) ≤ nI 6 by decide)]
    rfl
  · have e1 : m_X7_get 86 6 (nI i) σ = some (oi (c i), σ) := by rw [x_get hi (by decide), hc i hi]
    have e3 : m_X7_get 83 6 (nI i) σ = some (oi (b i), σ) := by rw [x_get hi (by decide), hb i hi]
    have w1 := s_worth_lt hW (p := i) (cn (hcc i hi))
    have w2 := s_worth_lt hW (p := i) (cn (hbc i hi))
    have un : m_X0_isBetter_47 (f + 1) (nI i) σ = if s_worth S i (c i) = s_worth S i (b i) then m_X0_isBetter_47 f (nI (i + 1)) σ else if s_worth S i (c i) ≤ s_worth S i (b i) then some (0, σ) else some (1, σ) := by
      rw [m_X0_isBetter_47]
      rw [if_neg (show ¬ (6 : Int32) ≤ nI i from nI_ge (b := 6) hi (by decide)), e1, obind_some, c_worth hW hR hi (cn (hcc i hi)), obind_some, e3, obind_some, c_worth hW hR hi (cn (hbc i hi)), obind_some]
      simp only [oi_inj (show s_worth S i (c i) < 2 ^ 31 by omega) (show s_worth S i (b i) < 2 ^ 31 by omega), oi_le (show s_worth S i (c i) < 2 ^ 31 by omega) (show s_worth S i (b i) < 2 ^ 31 by omega), nI_1]
    by_cases h1 : s_worth S i (c i) = s_worth S i (b i)
    · obtain ⟨g, q1, q2, q3⟩ := ih (fun q hq => by
        by_cases e : q = i
        · subst e
          exact worth_inj hW (hcc q hi) (hbc q hi) h1
        · exact h q (by omega))
      exact ⟨g, by rw [un, if_pos h1, q1], q2, q3⟩
    · by_cases h2 : s_worth S i (c i) ≤ s_worth S i (b i)
      · exact ⟨false, by rw [un, if_neg h1, if_pos h2]; rfl, fun h3 => (by cases h3), fun _ => Or.inr ⟨i, hi, fun q hq => (h q hq).symm, by omega⟩⟩
      · exact ⟨true, by rw [un, if_neg h1, if_neg h2]; rfl, fun _ => ⟨i, hi, h, by omega⟩, fun h3 => by cases h3⟩
theorem c_isBetter (hW : WF S) (hR : RC S σ) {b c : Nat → Nat} (hb : ∀ p, p < 6 → σ 83 p = oi (b p)) (hc : ∀ p, p < 6 → σ 86 p = oi (c p)) (hbc : ∀ p, p < 6 → Cand S p (b p)) (hcc : ∀ p, p < 6 → Cand S p (c p)) : ∃ g, m_X0_isBetter σ = some (b2i g, σ) ∧ (g = true → Ahead S c b) ∧ (g = false → (∀ p, p < 6 → c p = b p) ∨ Ahead S b c) := by
  have h24 := hW.nv
  have cn : ∀ {p x : Nat}, Cand S p x → x < 2 ^ 31 := fun h => by
    rcases h with h | h
    · omega
    · omega
  have e1 : m_X5_changes 86 6 5 σ = some (nI (s_chg S c), σ) := c_changes hW hR (show 5 < 6 by decide) hc (fun p hp => cn (hcc p hp))
  have e2 : m_X5_changes 83 6 5 σ = some (nI (s_chg S b), σ) := c_changes hW hR (show 5 < 6 by decide) hb (fun p hp => cn (hbc p hp))
  have l1 := chg_le (S := S) c
  have l2 := chg_le (S := S) b
  obtain ⟨g, q1, q2, q3⟩ := c_better_loop hW hR hb hc hbc hcc
  have un : m_X0_isBetter σ = if s_chg S c = s_chg S b then m_X0_isBetter_47 FU 0 σ else if s_chg S b ≤ s_chg S c then some (0, σ) else some (1, σ) := by
    unfold m_X0_isBetter
    rw [e1, obind_s, e2, obind_s]
    simp only [nI_eq (show s_chg S c < 2 ^ 31 by omega) (show s_chg S b < 2 ^ 31 by omega), nI_leI (show s_chg S b < 2 ^ 31 by omega) (show s_chg S c < 2 ^ 31 by omega)]
  by_cases h1 : s_chg S c = s_chg S b
  · refine ⟨g, by rw [un, if_pos h1, q1], fun hg => Or.inr ⟨h1, q2 hg⟩, fun hg => ?_⟩
    rcases q3 hg with h | h
    · exact Or.inl h
    · exact Or.inr (Or.inr ⟨h1.symm, h⟩)
  · by_cases h2 : s_chg S b ≤ s_chg S c
    · exact ⟨false, by rw [un, if_neg h1, if_pos h2]; rfl, fun h3 => (by cases h3), fun _ => Or.inr (Or.inl (by omega))⟩
    · exact ⟨true, by rw [un, if_neg h1, if_neg h2]; rfl, fun _ => Or.inl (by omega), fun h3 => (by cases h3)⟩
def OkN (S : SP) (n : Nat) : Prop := ∀ p, p < 6 → n / 5 ^ (5 - p) % 5 = 4 ∨ cnN S n p ≠ 0
def ceS : List Nat := [83, 86, 88]
theorem c_census_loop (hW : WF S) (hD : D < 64) : ∀ i, i ≤ 15625 → ∀ (σ : Mem) (fd : Bool), RC S σ → (fd = false → ∀ n, n < i → OkN S n → ¬ SolF S D (cnN S n)) → (fd = true → ∃ b, (∀ p, p < 6 → σ 83 p = oi (b p)) ∧ SolF S D b ∧ ∀ n, n < i → OkN S n → SolF S D (cnN S n) → (∀ p, p < 6 → cnN S n p = b p) ∨ Ahead S b (cnN S n)) → ∃ σ' b, m_X0_findBest_29 FU (nI (s_use S)) (nI D) (b2i fd) (nI i) σ = some (b2i b, σ') ∧ fr ceS σ σ' ∧ (b = false → ∀ c, ¬ SolF S D c) ∧ (b = true → ∃ c, IsBest S D c ∧ ∀ p, p < 6 → σ' 83 p = oi (c p)) := by
  refine up_fu (n := 15625) (P := fun i f => ∀ (σ : Mem) (fd : Bool), RC S σ → (fd = false → ∀ n, n < i → OkN S n → ¬ SolF S D (cnN S n)) → (fd = true → ∃ b, (∀ p, p < 6 → σ 83 p = oi (b p)) ∧ SolF S D b ∧ ∀ n, n < i → OkN S n → SolF S D (cnN S n) → (∀ p, p < 6 → cnN S n p = b p) ∨ Ahead S b (cnN S n)) → ∃ σ' b, m_X0_findBest_29 f (nI (s_use S)) (nI D) (b2i fd) (nI i) σ = some (b2i b, σ') ∧ fr ceS σ σ' ∧ (b = false → ∀ c, ¬ SolF S D c) ∧ (b = true → ∃ c, IsBest S D c ∧ ∀ p, p < 6 → σ' 83 p = oi (c p))) (by decide) (fun f σ fd hR hf ht => ?_) (fun i f hi ih σ fd hR hf ht => ?_)
  · refine ⟨σ, fd, ?_, fr.refl, fun hfd c hs => ?_, fun hfd => ?_⟩
    · rw [m_X0_findBest_29]
      rw [if_pos (show (15625 : Int32) ≤ nI 15625 by decide), zchk_b]
      rfl
    · obtain ⟨n, hn, he⟩ := cn_ex hW hs.1
      exact hf hfd n hn (fun p hp => by rw [(he p hp).1]; exact (he p hp).2) (hs.congr hW fun p hp => (he p hp).1.symm)
    · obtain ⟨b, h1, h2, h3⟩ := ht hfd
      refine ⟨b, ⟨h2, fun c' hs hne => ?_⟩, h1⟩
      obtain ⟨n, hn, he⟩ := cn_ex hW hs.1
      rcases h3 n hn (fun p hp => by rw [(he p hp).1]; exact (he p hp).2) (hs.congr hW fun p hp => (he p hp).1.symm) with h4 | h4
      · obtain ⟨p, hp, hne⟩ := hne
        rw [← (he p hp).1, h4 p hp] at hne
        exact absurd rfl hne
      · exact Ahead.congr (fun _ _ => rfl) (fun p hp => (he p hp).1) h4
  · obtain ⟨σ1, b, q1, q2, q3, q4⟩ := c_pickAll hW hR hi
    have hlt : ¬ (15625 : Int32) ≤ nI i := nI_ge (b := 15625) hi (by decide)
    have hcl : fr ceS σ σ1 := q2.mono (by decide)
    have hR1 := hR.fr q2 (by decide)
    have h831 : ∀ p, σ1 83 p = σ 83 p := fun p => by rw [q2 83 (by decide)]
    -- goes on without a change
    have skip : ∀ σ2, fr ceS σ σ2 → RC S σ2 → (∀ p, σ2 83 p = σ 83 p) → (fd = false → OkN S i → ¬ SolF S D (cnN S i)) → (∀ b, fd = true → (∀ p, p < 6 → σ 83 p = oi (b p)) → SolF S D b → OkN S i → SolF S D (cnN S i) → (∀ p, p < 6 → cnN S i p = b p) ∨ Ahead S b (cnN S i)) → m_X0_findBest_29 (f + 1) (nI (s_use S)) (nI D) (b2i fd) (nI i) σ = m_X0_findBest_29 f (nI (s_use S)) (nI D) (b2i fd) (nI (i + 1)) σ2 → ∃ σ' b, m_X0_findBest_29 (f + 1) (nI (s_use S)) (nI D) (b2i fd) (nI i) σ = some (b2i b, σ') ∧ fr ceS σ σ' ∧ (b = false → ∀ c, ¬ SolF S D c) ∧ (b = true → ∃ c, IsBest S D c ∧ ∀ p, p < 6 → σ' 83 p = oi (c p)) := by
      intro σ2 hfr hR2 h83 hs1 hs2 he
      obtain ⟨σ', b, r1, r2, r3, r4⟩ := ih σ2 fd hR2 (fun hfd n hn hok => by
        by_cases e : n = i
        · subst e
          exact hs1 hfd hok
        · exact hf hfd n (by omega) hok) (fun hfd => by
        obtain ⟨b, h1, h2, h3⟩ := ht hfd
        refine ⟨b, fun p hp => by rw [h83 p]; exact h1 p hp, h2, fun n hn hok hs => ?_⟩
        by_cases e : n = i
        · subst e
          exact hs2 b hfd h1 h2 hok hs
        · exact h3 n (by omega) hok hs)
      exact ⟨σ', b, by rw [he, r1], hfr.trans r2, r3, r4⟩
    cases hb : b with
    | false =>
      rw [hb] at q1
      have hno : OkN S i → ¬ SolF S D (cnN S i) := by
        intro hok hs
        rcases q3 hb with ⟨p, hp, h⟩ | ⟨p, hp, h1, h2⟩
        · exact h (hs.1 p hp)
        · rcases hok p hp with h3 | h3
          · exact h1 h3
          · exact h3 h2
      refine skip σ1 hcl hR1 h831 (fun _ => hno) (fun b _ _ _ hok hs => absurd hs (hno hok)) ?_
      rw [m_X0_findBest_29]
      rw [if_neg hlt, q1, obind_some, if_pos (show b2i false = 0 from rfl), nI_1]
    | true =>
      rw [hb] at q1
      have h86 : ∀ p, p < 6 → σ1 86 p = oi (cnN S i p) := fun p hp => (q4 hb p hp).1
      have hcd : ∀ p, p < 6 → Cand S p (cnN S i p) := fun p hp => (q4 hb p hp).2
      obtain ⟨σ2, sl, s1, s2, s3⟩ := c_isSolution (pa := 86) (oa := 88) hW hD hR1 (by decide) (by decide) h86 hcd
      -- where the choice is tried
      have tr : (∀ b, fd = true → (∀ p, p < 6 → σ 83 p = oi (b p)) → SolF S D b → Ahead S (cnN S i) b) → m_X0_findBest_29 (f + 1) (nI (s_use S)) (nI D) (b2i fd) (nI i) σ = m_X0_findBest_58 (m_X0_findBest_29 f) (nI (s_use S)) (nI D) (b2i fd) (nI i) σ1 → ∃ σ' b, m_X0_findBest_29 (f + 1) (nI (s_use S)) (nI D) (b2i fd) (nI i) σ = some (b2i b, σ') ∧ fr ceS σ σ' ∧ (b = false → ∀ c, ¬ SolF S D c) ∧ (b = true → ∃ c, IsBest S D c ∧ ∀ p, p < 6 → σ' 83 p = oi (c p)) := by
        intro hah he
        unfold m_X0_findBest_58 at he
        rw [s1, obind_some] at he
        have hfr2 : fr ceS σ σ2 := hcl.trans (s2.mono (by decide))
        have hR2 := hR1.fr s2 (by decide)
        cases hsl : sl with
        | false =>
          rw [hsl, if_pos (show b2i false = 0 from rfl), nI_1] at he
          have hno : ¬ SolF S D (cnN S i) := fun hs => by
            have := s3.mpr hs
            rw [hsl] at this
            cases this
          exact skip σ2 hfr2 hR2 (fun p => by rw [s2 83 (by decide), h831]) (fun _ _ => hno) (fun b _ _ _ _ hs => absurd hs hno) he
        | true =>
          have hsol := s3.mp hsl
          obtain ⟨σ3, c1, c2, c3⟩ := x_copy (σ := σ2) (a := 83) (a1 := 86) (by decide)
          rw [hsl, if_neg (show ¬ b2i true = 0 by decide), c1, obind_some, nI_1] at he
          obtain ⟨σ', b, r1, r2, r3, r4⟩ := ih σ3 true (hR2.fr c2 (by decide)) (fun h => by cases h) (fun _ => ⟨cnN S i, fun p hp => by rw [c3 p hp, s2 86 (by decide), h86 p hp], hsol, fun n hn hok hs => by
            by_cases e : n = i
            · subst e
              exact Or.inl fun _ _ => rfl
            · cases hfd : fd with
              | false => exact absurd hs (hf hfd n (by omega) hok)
              | true =>
                obtain ⟨b, h1, h2, h3⟩ := ht hfd
                have ha := hah b hfd h1 h2
                rcases h3 n (by omega) hok hs with h4 | h4
                · exact Or.inr (Ahead.congr (fun _ _ => rfl) (fun p hp => (h4 p hp).symm) ha)
                · exact Or.inr (ha.trans h4)⟩)
          exact ⟨σ', b, by rw [he]; exact r1, (hfr2.trans (c2.mono (by decide))).trans r2, r3, r4⟩
      cases hfd : fd with
      | false =>
        rw [hfd] at tr
        refine tr (fun b h => by cases h) ?_
        rw [m_X0_findBest_29]
        rw [if_neg hlt, q1, obind_some, if_neg (show ¬ b2i true = 0 by decide), if_pos (show b2i false = 0 from rfl)]
      | true =>
        obtain ⟨b0, h1, h2, h3⟩ := ht hfd
        obtain ⟨g, g1, g2, g3⟩ := c_isBetter hW hR1 (fun p hp => by rw [h831]; exact h1 p hp) h86 h2.1 hcd
        have hb0 : ∀ b, (∀ p, p < 6 → σ 83 p = oi (b p)) → SolF S D b → ∀ p, p < 6 → b0 p = b p := by
          intro b hb1 hb2 p hp
          have e := (h1 p hp).symm.trans (hb1 p hp)
          have h24 := hW.nv
          have l1 : b0 p < 2 ^ 31 := by
            rcases h2.1 p hp with h | h
            · omega
            · omega
          have l2 : b p < 2 ^ 31 := by
            rcases hb2.1 p hp with h | h
            · omega
            · omega
          exact (oi_inj l1 l2).mp e
        have un : m_X0_findBest_29 (f + 1) (nI (s_use S)) (nI D) (b2i true) (nI i) σ = if b2i g = 0 then m_X0_findBest_29 f (nI (s_use S)) (nI D) (b2i true) (nI i + 1) σ1 else m_X0_findBest_58 (m_X0_findBest_29 f) (nI (s_use S)) (nI D) (b2i true) (nI i) σ1 := by
          rw [m_X0_findBest_29]
          rw [if_neg hlt, q1, obind_some, if_neg (show ¬ b2i true = 0 by decide), if_neg (show ¬ b2i true = 0 by decide), g1, obind_some]
        rw [hfd] at tr skip
        cases hg : g with
        | true =>
          rw [hg, if_neg (show ¬ b2i true = 0 by decide)] at un
          exact tr (fun b _ hb1 hb2 => Ahead.congr (fun _ _ => rfl) (hb0 b hb1 hb2) (g2 hg)) un
        | false =>
          rw [hg, if_pos (show b2i false = 0 from rfl), nI_1] at un
          refine skip σ1 hcl hR1 h831 (fun h => by cases h) (fun b _ hb1 hb2 _ _ => ?_) un
          rcases g3 hg with h | h
          · exact Or.inl fun p hp => (h p hp).trans (hb0 b hb1 hb2 p hp)
          · exact Or.inr (Ahead.congr (hb0 b hb1 hb2) (fun _ _ => rfl) h)
theorem c_census (hW : WF S) (hR : RC S σ) : ∃ σ' b, m_X0_findBest σ = some (b2i b, σ') ∧ fr ceS σ σ' ∧ (b = false → ∀ c, ¬ SolF S (s_dems S (s_wsp S)) c) ∧ (b = true → ∃ c, IsBest S (s_dems S (s_wsp S)) c ∧ ∀ p, p < 6 → σ' 83 p = oi (c p)) := by
  have hD := s_dems_lt hW (s_wsp S)
  obtain ⟨σ1, a1, a2, a3⟩ := c_fill (σ := σ) (a := 83) (n := 6) (x := -1) (by decide)
  obtain ⟨σ2, b, q1, q2, q3, q4⟩ := c_census_loop hW hD 0 (Nat.zero_le _) σ1 false (hR.fr a2 (by decide)) (fun _ n hn => by omega) (fun h => by cases h)
  refine ⟨σ2, b, ?_, (a2.mono (by decide)).trans q2, q3, q4⟩
  unfold m_X0_findBest
  rw [c_usable hW hR, obind_s, c_demands hW hR, obind_s, a1, obind_s]
  exact q1
end CENS
