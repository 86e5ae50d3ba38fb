/-! ===== replace ===== -/
section REPL
variable {S T : SP} {σ : Mem}
theorem anyR_c {n : Nat} {f : Nat → Bool} : anyR (n + 1) f = (f 0 || anyR n fun j => f (j + 1)) := by
  apply Bool.eq_iff_iff.mpr
  rw [Bool.or_eq_true, anyR_t, anyR_t]
  constructor
  · rintro ⟨i, hi, h⟩
    cases i with
    | zero => exact Or.inl h
    | succ i => exact Or.inr ⟨i, by omega, h⟩
  · rintro (h | ⟨i, hi, h⟩)
    · exact ⟨0, by omega, h⟩
    · exact ⟨i + 1, by omega, h⟩
theorem walk_add (a : Nat) : ∀ (b p : Nat), s_walk S (a + b) p = s_walk S b (s_walk S a p) := by
  induction a with
  | zero =>
    intro b p
    rw [Nat.zero_add]
    rfl
  | succ a ih =>
    intro b p
    rw [show a + 1 + b = (a + b) + 1 by omega]
    show s_walk S (a + b) (s_step S p) = s_walk S b (s_walk S a (s_step S p))
    exact ih b (s_step S p)
theorem walk_lt (hr : ∀ p, p < 6 → s_rep S p ≤ 6) : ∀ (n : Nat) {p : Nat}, p < 6 → s_walk S n p < 6
  | 0, p, hp => hp
  | n + 1, p, hp => walk_lt hr n (by
    have := hr p hp
    show s_step S p < 6
    unfold s_step
    split <;> omega)
/-- one that ends, ends within five steps -/
theorem walk_end (hr : ∀ p, p < 6 → s_rep S p ≤ 6) {p : Nat} (hp : p < 6) (he : ∃ n, s_rep S (s_walk S n p) = 0) : s_rep S (s_walk S 5 p) = 0 := by
  obtain ⟨n, hn, hm⟩ := pk_least _ he
  have stay : ∀ m, n ≤ m → s_walk S m p = s_walk S n p := fun m hm => by
    obtain ⟨k, rfl⟩ : ∃ k, m = n + k := ⟨m - n, by omega⟩
    rw [walk_add n k p, s_walk_fix hn]
  by_cases h5 : n ≤ 5
  · rw [stay 5 h5]
    exact hn
  · exfalso
    have inj : ∀ i j, i < j → j ≤ n → s_walk S i p ≠ s_walk S j p := fun i j hij hj e => by
      refine hm (i + (n - j)) (by omega) ?_
      rw [walk_add i (n - j) p, e, ← walk_add j (n - j) p, show j + (n - j) = n by omega]
      exact hn
    have hnd : ((List.range 7).map fun i => s_walk S i p).Nodup := by
      refine List.pairwise_map.mpr ?_
      refine List.Pairwise.imp_of_mem ?_ (List.pairwise_lt_range (n := 7))
      intro a b ha hb hab
      have := List.mem_range.mp hb
      exact inj a b hab (by omega)
    have hln := nd_lenN (l' := List.range 6) hnd (fun x hx => by
      obtain ⟨i, hi, rfl⟩ := List.mem_map.mp hx
      exact List.mem_range.mpr (walk_lt hr i hp))
    rw [List.length_map, List.length_range, List.length_range] at hln
    omega
theorem walk_eq {p : Nat} (h : ∀ q, q ≠ p → s_rep T q = s_rep S q) : ∀ (n q : Nat), (∀ j, j < n → s_walk S j q ≠ p) → s_walk T n q = s_walk S n q
  | 0, _, _ => rfl
  | n + 1, q, hq => by
    have h0 : q ≠ p := hq 0 (by omega)
    have hs : s_step T q = s_step S q := by
      unfold s_step
      rw [h q h0]
    show s_walk T n (s_step T q) = s_walk S n (s_step S q)
    rw [hs]
    exact walk_eq h n (s_step S q) (fun j hj => hq (j + 1) (by omega))
/-- a package's new successor leads nowhere back: all walks end -/
theorem walk_new (hrS : ∀ p, p < 6 → s_rep S p ≤ 6 ∧ s_rep S (s_heir S p) = 0) {p x : Nat} (hp : p < 6) (hx : x ≤ 6) (hTp : s_rep T p = x) (h : ∀ q, q ≠ p → s_rep T q = s_rep S q) (hno : x ≠ 0 → ∀ j, s_walk S j (x - 1) ≠ p) : ∀ q, q < 6 → s_rep T q ≤ 6 ∧ s_rep T (s_heir T q) = 0 := by
  have hrT : ∀ q, q < 6 → s_rep T q ≤ 6 := fun q hq => by
    by_cases e : q = p
    · rw [e, hTp]
      exact hx
    · rw [h q e]
      exact (hrS q hq).1
  have hend : ∀ q, q < 6 → (∀ j, s_walk S j q ≠ p) → ∃ n, s_rep T (s_walk T n q) = 0 := fun q hq hn => by
    refine ⟨6, ?_⟩
    rw [walk_eq h 6 q (fun j _ => hn j), h _ (hn 6)]
    exact (hrS q hq).2
  have hpe : ∃ n, s_rep T (s_walk T n p) = 0 := by
    by_cases h0 : x = 0
    · exact ⟨0, by show s_rep T p = 0; rw [hTp]; exact h0⟩
    · obtain ⟨n, hn⟩ := hend (x - 1) (by omega) (hno h0)
      refine ⟨n + 1, ?_⟩
      have hs : s_step T p = x - 1 := by
        unfold s_step
        rw [hTp, if_neg h0]
      show s_rep T (s_walk T n (s_step T p)) = 0
      rw [hs]
      exact hn
  intro q hq
  refine ⟨hrT q hq, ?_⟩
  have he : ∃ n, s_rep T (s_walk T n q) = 0 := by
    by_cases hit : ∃ i, s_walk S i q = p
    · obtain ⟨i, hi, hm⟩ := pk_least _ hit
      obtain ⟨n, hn⟩ := hpe
      refine ⟨i + n, ?_⟩
      rw [walk_add i n q, walk_eq h i q hm, hi]
      exact hn
    · exact hend q hq fun j hj => hit ⟨j, hj⟩
  have h5 := walk_end hrT hq he
  have h6 : s_heir T q = s_walk T 5 q := by
    show s_walk T (5 + 1) q = _
    rw [walk_add 5 1 q, s_walk_fix h5]
  rw [h6]
  exact h5
/-! the class -/
theorem c_leads_loop (hW : WF S) (hR : RC S σ) {p : Nat} (hp : p < 6) : ∀ (k i f q : Nat), i + k = 6 → k < f → q < 6 → m_X10_leadsTo_5 f (nI p) (nI q) (nI i) σ = some (b2i (anyR k fun j => s_walk S j q == p), σ) := by
  intro k
  induction k with
  | zero =>
    intro i f q hi hf hq
    obtain ⟨g, rfl⟩ : ∃ g, f = g + 1 := ⟨f - 1, by omega⟩
    rw [m_X10_leadsTo_5]
    rw [show i = 6 by omega, if_pos (show (6 : Int32) ≤ nI 6 by decide)]
    rfl
  | succ k ih =>
    intro i f q hi hf hq
    obtain ⟨g, rfl⟩ : ∃ g, f = g + 1 := ⟨f - 1, by omega⟩
    have h6 := (hW.rep hq).1
    rw [m_X10_leadsTo_5]
    rw [if_neg (show ¬ (6 : Int32) ≤ nI i from nI_ge (b := 6) (by omega) (by decide)), if_neg (nI_nm1 (by omega)), anyR_c]
    by_cases e : q = p
    · rw [if_pos (show nI q = nI p by rw [e])]
      have : (s_walk S 0 q == p) = true := by
        show (q == p) = true
        rw [e]
        exact beq_self_eq_true p
      rw [this, Bool.true_or]
      rfl
    · rw [if_neg (fun h => e ((nI_eq (by omega) (by omega)).mp h)), x_get hq (by decide), (hR.pkg hq).1, obind_some, nI_1]
      have h0 : (s_walk S 0 q == p) = false := beq_eq_false_iff_ne.mpr e
      rw [h0, Bool.false_or]
      by_cases hr0 : s_rep S q = 0
      · have hall : (anyR k fun j => s_walk S (j + 1) q == p) = false := anyR_f.mpr fun j _ => by
          rw [s_walk_fix hr0]
          exact h0
        obtain ⟨g2, rfl⟩ : ∃ g2, g = g2 + 1 := ⟨g - 1, by omega⟩
        rw [hall, hr0, m_X10_leadsTo_5]
        by_cases h7 : (6 : Int32) ≤ nI (i + 1)
        · rw [if_pos h7]
          rfl
        · rw [if_neg h7, if_pos (show oi 0 = -1 from rfl)]
          rfl
      · have e2 : oi (s_rep S q) = nI (s_step S q) := by
          unfold oi s_step
          rw [if_neg hr0, if_neg hr0]
        dsimp only
        rw [e2]
        exact ih (i + 1) g (s_step S q) (by omega) (by omega) (s_step_lt hW hq)
theorem c_last {rep : Nat → Nat} (hr : ∀ p, p < 6 → s_rep T p ≤ 6) (h63 : ∀ q, q < 6 → σ 63 q = oi (s_rep T q)) : ∀ (k i f q : Nat), i + k = 6 → k < f → q < 6 → m_X10_lastSuccessor_4 f (nI q) (nI i) σ = some (nI (s_walk T k q), σ) := by
  intro k
  induction k with
  | zero =>
    intro i f q hi hf hq
    obtain ⟨g, rfl⟩ : ∃ g, f = g + 1 := ⟨f - 1, by omega⟩
    rw [m_X10_lastSuccessor_4]
    rw [show i = 6 by omega, if_pos (show (6 : Int32) ≤ nI 6 by decide)]
    rfl
  | succ k ih =>
    intro i f q hi hf hq
    obtain ⟨g, rfl⟩ : ∃ g, f = g + 1 := ⟨f - 1, by omega⟩
    have h6 := hr q hq
    have e1 : m_X7_get 63 6 (nI q) σ = some (oi (s_rep T q), σ) := by rw [x_get hq (by decide), h63 q hq]
    rw [m_X10_lastSuccessor_4]
    rw [if_neg (show ¬ (6 : Int32) ≤ nI i from nI_ge (b := 6) (by omega) (by decide)), e1, obind_some]
    by_cases hr0 : s_rep T q = 0
    · rw [if_pos (show oi (s_rep T q) = -1 by rw [hr0]; rfl), s_walk_fix hr0]
    · rw [if_neg (fun e => hr0 ((oi_m1 (by omega)).mp e))]
      dsimp only
      rw [e1, obind_some, nI_1]
      have e2 : oi (s_rep T q) = nI (s_step T q) := by
        unfold oi s_step
        rw [if_neg hr0, if_neg hr0]
      dsimp only
      rw [e2]
      exact ih (i + 1) g (s_step T q) (by omega) (by omega) (by
        unfold s_step
        split <;> omega)
theorem c_redirect {b : Int32} (hr : ∀ p, p < 6 → s_rep T p ≤ 6) (h63 : ∀ q, q < 6 → σ 63 q = oi (s_rep T q)) : ∃ σ', m_X10_redirect_13 FU b 0 σ = some (b, σ') ∧ fr [65] σ σ' ∧ ∀ q, q < 6 → σ' 65 q = nI (s_heir T q) := by
  have key := up_fu (n := 6) (P := fun i f => ∀ σ1 : Mem, fr [65] σ σ1 → (∀ q, q < i → σ1 65 q = nI (s_heir T q)) → ∃ σ', m_X10_redirect_13 f b (nI i) σ1 = some (b, σ') ∧ fr [65] σ σ' ∧ ∀ q, q < 6 → σ' 65 q = nI (s_heir T q)) (by decide) (fun f σ1 hf h => by
      refine ⟨σ1, ?_, hf, h⟩
      rw [m_X10_redirect_13]
      rw [if_pos (show (6 : Int32) ≤ nI 6 by decide)]) (fun i f hi ih σ1 hf h => by
      obtain ⟨σ', q1, q2, q3⟩ := ih (up σ1 65 i (nI (s_heir T i))) (hf.trans (fr.up (by simp))) (fun q hq => by
        by_cases e : q = i
        · rw [e, up_same]
        · rw [up_off _ _ (Or.inr e)]
          exact h q (by omega))
      refine ⟨σ', ?_, q2, q3⟩
      have e1 : m_X10_lastSuccessor (nI i) σ1 = some (nI (s_heir T i), σ1) := by
        unfold m_X10_lastSuccessor
        exact c_last (rep := fun _ => 0) hr (fun q hq => by rw [hf 63 (by decide)]; exact h63 q hq) 6 0 FU i (by omega) (by rw [FU_eq]; omega) hi
      rw [← q1, m_X10_redirect_13]
      rw [if_neg (show ¬ (6 : Int32) ≤ nI i from nI_ge (b := 6) hi (by decide)), e1, obind_some]
      dsimp only
      rw [x_set hi (by decide), obind_some, nI_1]) 0 (Nat.zero_le _) σ fr.refl (fun q hq => by omega)
  exact key
/-! the reference -/
theorem r_ring_loop (hW : WF S) (hR : RM S σ) {p : Nat} (hp : p < 6) {v2 : Int32} : ∀ (n f q : Nat), q < 6 → s_rep S (s_walk S n q) = 0 → n + 2 < f → q ≠ p → m_X12_replace_49 f (nI p) v2 1 0 (nI q) σ = if (anyR (n + 1) fun j => s_walk S j q == p) = true then m_X12_replace_104 (nI p) v2 2 σ else m_X12_replace_104 (nI p) v2 0 σ := by
  have out : ∀ f, 1 < f → m_X12_replace_49 f (nI p) v2 1 0 (-1) σ = m_X12_replace_104 (nI p) v2 0 σ := fun f hf => by
    obtain ⟨g, rfl⟩ : ∃ g, f = g + 1 := ⟨f - 1, by omega⟩
    rw [m_X12_replace_49]
    rw [if_pos rfl]
    unfold m_X12_replace_85
    rw [if_neg ne10, if_pos rfl]
  have last : ∀ n f q, q < 6 → 2 < f → q ≠ p → s_rep S q = 0 → m_X12_replace_49 f (nI p) v2 1 0 (nI q) σ = if (anyR (n + 1) fun j => s_walk S j q == p) = true then m_X12_replace_104 (nI p) v2 2 σ else m_X12_replace_104 (nI p) v2 0 σ := by
    intro n f q hq hf hqp h0
    obtain ⟨g, rfl⟩ : ∃ g, f = g + 1 := ⟨f - 1, by omega⟩
    have hall : (anyR (n + 1) fun j => s_walk S j q == p) = false := anyR_f.mpr fun j _ => by
      rw [s_walk_fix h0]
      exact beq_eq_false_iff_ne.mpr hqp
    rw [hall, if_neg (by decide), m_X12_replace_49]
    rw [if_neg (nI_nm1 (by omega)), if_pos rfl, ald_nI hq (by decide), (hR.pkg hq).1, obind_some, h0, oi_0, if_neg (fun e => nI_nm1 (x := p) (by omega) e.symm)]
    exact out g (by omega)
  intro n
  induction n with
  | zero =>
    intro f q hq h0 hf hqp
    exact last 0 f q hq (by omega) hqp h0
  | succ n ih =>
    intro f q hq h0 hf hqp
    by_cases hr0 : s_rep S q = 0
    · exact last (n + 1) f q hq (by omega) hqp hr0
    · obtain ⟨g, rfl⟩ : ∃ g, f = g + 1 := ⟨f - 1, by omega⟩
      have h6 := (hW.rep hq).1
      have e2 : oi (s_rep S q) = nI (s_step S q) := by
        unfold oi s_step
        rw [if_neg hr0, if_neg hr0]
      have hst := s_step_lt hW hq
      rw [anyR_c, show (s_walk S 0 q == p) = false from beq_eq_false_iff_ne.mpr hqp, Bool.false_or, m_X12_replace_49]
      rw [if_neg (nI_nm1 (by omega)), if_pos rfl, ald_nI hq (by decide), (hR.pkg hq).1, obind_some, e2]
      by_cases e : s_step S q = p
      · have hyes : (anyR (n + 1) fun j => s_walk S (j + 1) q == p) = true := anyR_t.mpr ⟨0, by omega, by
          show (s_step S q == p) = true
          rw [e]
          exact beq_self_eq_true p⟩
        obtain ⟨g2, rfl⟩ : ∃ g2, g = g2 + 1 := ⟨g - 1, by omega⟩
        rw [if_pos (show nI (s_step S q) = nI p by rw [e]), hyes, if_pos rfl, m_X12_replace_49]
        rw [if_neg (nI_nm1 (by omega)), if_neg ne10]
        unfold m_X12_replace_85
        rw [if_neg ne10, if_neg ne10]
      · rw [if_neg (fun h => e ((nI_eq (by omega) (by omega)).mp h))]
        exact ih g (s_step S q) hst h0 (by omega) e
theorem r_inG {n : Nat} (hn : n + 1 < 2 ^ 31) {x y : Int32} (hy : y = nI n) : m_X12_in x (-1) y σ = some (b2i (decide (x = -1) || inN x (n + 1)), σ) := by
  subst hy
  unfold m_X12_in
  by_cases e : x = -1
  · have h1 : ¬ nI n < x := by
      rw [e, Int32.lt_iff_toInt_lt, nI_toInt (by omega), show (-1 : Int32).toInt = -1 from by decide]
      omega
    rw [if_neg (by rw [e]; decide), if_neg h1, decide_eq_true e]
    rfl
  · rw [decide_eq_false e, Bool.false_or]
    cases h : inN x (n + 1) with
    | true =>
      obtain ⟨k, hk, rfl⟩ := (inN_t hn).mp h
      have h1 : ¬ nI k < -1 := by
        rw [Int32.lt_iff_toInt_lt, nI_toInt (by omega), show (-1 : Int32).toInt = -1 from by decide]
        omega
      rw [if_neg h1, if_neg (nI_nlt (by omega) (by omega))]
      rfl
    | false =>
      rcases pk_ix x (n := n + 1) hn with h1 | h1 | ⟨k, hk, h1⟩
      · rw [if_pos]
        · rfl
        · rw [Int32.lt_iff_toInt_lt] at h1 ⊢
          have h2 : ¬ x.toInt = (-1 : Int32).toInt := fun h3 => e (Int32.toInt_inj.mp h3)
          rw [show (0 : Int32).toInt = 0 from by decide] at h1
          rw [show (-1 : Int32).toInt = -1 from by decide] at h2 ⊢
          omega
      · have h2 : nI n < x := by
          rw [Int32.le_iff_toInt_le, nI_toInt hn] at h1
          rw [Int32.lt_iff_toInt_lt, nI_toInt (by omega)]
          omega
        by_cases h3 : x < -1
        · rw [if_pos h3]
          rfl
        · rw [if_neg h3, if_pos h2]
          rfl
      · have := (inN_t hn).mpr ⟨k, hk, h1⟩
        rw [h] at this
        cases this
theorem r_replBad {v1 v2 : Int32} : m_X12_replace_20 v1 v2 σ = some (0, up σ 94 0 1) := by
  obtain ⟨g, hg⟩ : ∃ g, FU = g + 1 := ⟨3999999, rfl⟩
  unfold m_X12_replace_20 m_X12_replace_21
  rw [if_pos rfl]
  unfold m_X12_replace_35 m_X12_replace_36
  rw [if_pos rfl, hg, m_X12_replace_49]
  rw [if_pos rfl]
  unfold m_X12_replace_85
  rw [if_pos rfl]
  unfold m_X12_replace_104
  rw [r_wellK ne10, obind_s, if_pos rfl]
theorem op_replace : OP_replace Inv := by
  intro v1 v2 σ τ ⟨S, hI⟩
  obtain ⟨hW, hR, hM, hS, hC⟩ := id hI
  have h24 := hW.nv
  cases h1 : inN v1 6 with
  | false =>
    refine op_thr (mdl := m_X12_replace v1 v2) (j := 0) (k := 1) (σ1 := σ) (m := σ) (v := 0) (bb := 0) ?_ rfl (by decide) ?_ ⟨S, hI.thrown 1⟩
    · simp only [m_X11_replace, c_isPackage, h1, obind_some, b2i_f, if_true]
    · simp only [m_X12_replace, r_isPackage, h1, obind_some, b2i_f, if_true, r_replBad]
  | true =>
    obtain ⟨p, hp, rfl⟩ := (inN_t (by omega)).mp h1
    have h5 : (v2 = -1 ∨ inN v2 6 = true) ∨ (¬ v2 = -1 ∧ inN v2 6 = false) := by
      by_cases e : v2 = -1
      · exact Or.inl (Or.inl e)
      · cases h : inN v2 6 with
        | true => exact Or.inl (Or.inr rfl)
        | false => exact Or.inr ⟨e, rfl⟩
    rcases h5 with h5 | ⟨h5, h5b⟩
    · obtain ⟨x, hx, rfl⟩ : ∃ x, x ≤ 6 ∧ v2 = oi x := by
        rcases h5 with h | h
        · exact ⟨0, by omega, h⟩
        · obtain ⟨k, hk, e⟩ := (inN_t (by decide)).mp h
          exact ⟨k + 1, by omega, e⟩
      have c29 : m_X11_replace (nI p) (oi x) σ = m_X11_replace_29 (nI p) (oi x) σ := by
        by_cases e : oi x = -1
        · simp only [m_X11_replace, c_isPackage, h1, obind_some, b2i_t, ne10, if_false, e, if_true]
        · have e2 : inN (oi x) 6 = true := by
            rcases h5 with h | h
            · exact absurd h e
            · exact h
          simp only [m_X11_replace, c_isPackage, h1, obind_some, b2i_t, ne10, if_false, e, e2]
      have r21 : ∀ σ9, m_X12_replace (nI p) (oi x) σ9 = m_X12_replace_21 (nI p) (oi x) 1 σ9 := fun σ9 => by
        have e2 : (decide (oi x = -1) || inN (oi x) 6) = true := by
          rcases h5 with h | h
          · rw [decide_eq_true h, Bool.true_or]
          · rw [h, Bool.or_true]
        unfold m_X12_replace
        rw [r_isPackage, h1, obind_s, if_neg (show ¬ b2i true = 0 by decide)]
        dsimp only
        rw [r_inG (n := 5) (by decide) (show (5 : Int32) = nI 5 from rfl), e2, obind_s, if_neg (show ¬ b2i true = 0 by decide)]
      obtain ⟨hit, hhit⟩ : ∃ hit : Bool, hit = (x != 0 && anyR 6 fun j => s_walk S j (x - 1) == p) := ⟨_, rfl⟩
      obtain ⟨g, hg⟩ : ∃ g, FU = g + 1 := ⟨3999999, rfl⟩
      have cl : m_X10_leadsTo (oi x) (nI p) σ = some (b2i hit, σ) := by
        unfold m_X10_leadsTo
        by_cases h0 : x = 0
        · rw [hhit, h0, hg, m_X10_leadsTo_5]
          rw [if_neg (by decide), if_pos (show oi 0 = -1 from rfl)]
          rfl
        · obtain ⟨q, rfl⟩ : ∃ q, x = q + 1 := ⟨x - 1, by omega⟩
          have := c_leads_loop hW hR hp 6 0 FU q (by omega) (by rw [FU_eq]; omega) (by omega)
          rw [oi_s, show (0 : Int32) = nI 0 from rfl, this, hhit]
          simp
      have rl : ∀ σ9, RM S σ9 → m_X12_replace (nI p) (oi x) σ9 = if hit = true then m_X12_replace_104 (nI p) (oi x) 2 σ9 else m_X12_replace_104 (nI p) (oi x) 0 σ9 := fun σ9 hM9 => by
        rw [r21 σ9]
        unfold m_X12_replace_21
        rw [if_neg ne10]
        by_cases h0 : x = 0
        · have hf : hit = false := by rw [hhit, h0]; rfl
          rw [hf, if_neg (show ¬ false = true by decide), h0, oi_0, if_neg (show ¬ (-1 : Int32) = nI p from fun e => nI_nm1 (x := p) (by omega) e.symm)]
          unfold m_X12_replace_35 m_X12_replace_36
          rw [if_neg ne10, hg, m_X12_replace_49]
          rw [if_pos rfl]
          unfold m_X12_replace_85
          rw [if_neg ne10, if_pos rfl]
        · obtain ⟨q, rfl⟩ : ∃ q, x = q + 1 := ⟨x - 1, by omega⟩
          have hq : q < 6 := by omega
          have hh : hit = anyR 6 fun j => s_walk S j q == p := by rw [hhit]; simp
          rw [oi_s]
          by_cases e : q = p
          · have ht : hit = true := by
              rw [hh]
              exact anyR_t.mpr ⟨0, by omega, by rw [e]; exact beq_self_eq_true p⟩
            rw [ht, if_pos rfl, if_pos (show nI q = nI p by rw [e])]
            unfold m_X12_replace_36
            rw [if_neg ne10, hg, m_X12_replace_49]
            rw [if_neg (nI_nm1 (by omega)), if_neg ne10]
            unfold m_X12_replace_85
            rw [if_neg ne10, if_neg ne10]
          · rw [if_neg (fun h => e ((nI_eq (by omega) (by omega)).mp h))]
            unfold m_X12_replace_35 m_X12_replace_36
            rw [if_neg ne10, hh]
            exact r_ring_loop hW hM9 hp 5 FU q hq (walk_end (fun p hp => (hW.rep hp).1) hq ⟨6, (hW.rep hq).2⟩) (by rw [FU_eq]; omega) e
      cases hb : hit with
      | true =>
        refine op_thr (mdl := m_X12_replace (nI p) (oi x)) (j := 2) (k := 2) (σ1 := σ) (m := σ) (v := 0) (bb := 0) ?_ rfl (by decide) ?_ ⟨S, hI.thrown 2⟩
        · rw [c29]
          unfold m_X11_replace_29
          rw [cl, obind_s, hb, if_neg (show ¬ b2i true = 0 by decide)]
        · rw [rl σ hM, hb, if_pos rfl]
          unfold m_X12_replace_104
          rw [r_wellK ne20, obind_s, if_pos rfl]
      | false =>
        obtain ⟨T, hT⟩ : ∃ T : SP, T = upS S 32 p x := ⟨_, rfl⟩
        have G : gk [32] S T := by rw [hT]; exact gk.refl.u (by decide)
        have tp : s_rep T p = x := by rw [hT]; exact upS_same _ _ _ _
        have to : ∀ q, q ≠ p → s_rep T q = s_rep S q := fun q hq => by
          rw [hT]
          exact upS_j _ _ _ hq
        have hno : x ≠ 0 → ∀ j, s_walk S j (x - 1) ≠ p := fun h0 j => by
          have hq : x - 1 < 6 := by omega
          rw [hhit] at hb
          have h6 : (anyR 6 fun j => s_walk S j (x - 1) == p) = false := by
            cases hx2 : (anyR 6 fun j => s_walk S j (x - 1) == p) with
            | false => rfl
            | true =>
              rw [hx2, Bool.and_true] at hb
              simp at hb
              exact absurd hb h0
          by_cases hj : j < 6
          · exact beq_eq_false_iff_ne.mp (anyR_f.mp h6 j hj)
          · have h5 := walk_end (fun p hp => (hW.rep hp).1) hq ⟨6, (hW.rep hq).2⟩
            rw [show j = 5 + (j - 5) by omega, walk_add 5 (j - 5), s_walk_fix h5]
            exact beq_eq_false_iff_ne.mp (anyR_f.mp h6 5 (by omega))
        have hrT := walk_new (fun p hp => hW.rep hp) hp hx tp to hno
        have hrep6 := (hW.rep hp).1
        obtain ⟨σa, hσa⟩ : ∃ σa : Mem, σa = up σ 63 p (oi x) := ⟨_, rfl⟩
        have a63 : ∀ q, q < 6 → σa 63 q = oi (s_rep T q) := fun q hq => by
          rw [hσa]
          by_cases e : q = p
          · rw [e, up_same, tp]
          · rw [up_off _ _ (Or.inr e), to q e, (hR.pkg hq).1]
        obtain ⟨σ1, q1, q2, q3⟩ := c_redirect (σ := σa) (T := T) (b := oi (s_rep S p)) (fun q hq => (hrT q hq).1) a63
        have F1 : fr [63, 65] σ σ1 := by
          have : fr [63, 65] σ σa := by rw [hσa]; exact fr.up (by simp)
          exact this.trans (q2.mono (by decide))
        have hM1 := hM.fr F1 (by decide) (by decide)
        obtain ⟨m, hm⟩ : ∃ m : Mem, m = up (up (up σ1 94 0 0) 102 p (oi x)) 94 31 0 := ⟨_, rfl⟩
        have FR : fr [63, 65, 94, 102] σ m := by rw [hm]; exact fr_u (fr_u (fr_u (F1.mono (by decide)) (by decide)) (by decide)) (by decide)
        have E94 : c94 [0, 31] σ m := by
          have h1 : c94 [0, 31] σ σ1 := fun j _ => by rw [F1 94 (by decide)]
          rw [hm]
          exact ((h1.u (by decide)).v (by decide)).u (by decide)
        have m63 : m 63 = σ1 63 := by rw [hm, up_pl _ _ (by decide), up_pl _ _ (by decide), up_pl _ _ (by decide)]
        have m65 : m 65 = σ1 65 := by rw [hm, up_pl _ _ (by decide), up_pl _ _ (by decide), up_pl _ _ (by decide)]
        have klock : s_lock T = s_lock S := G 33 (by decide)
        have kdsk : s_dsk T = s_dsk S := G 37 (by decide)
        refine op_ok (mdl := m_X12_replace (nI p) (oi x)) (v := oi (s_rep S p)) (σ1 := σ1) (m := m) ?_ ?_ ?_ (inv_mk (S := T) ⟨hW.1.S (G.on (by decide)), hW.2.1.S (G.on (by decide)), hW.2.2.1.S (G.on (by decide)), hW.2.2.2.1.S (G.on (by decide)), hW.2.2.2.2.x32 (G.on (by decide)) hrT⟩ ⟨hR.1.S (G.on (by decide)) (mk_fr FR (by decide)), hR.2.1.S (G.on (by decide)) (mk_fr FR (by decide)), hR.2.2.1.S (G.on (by decide)) (mk_fr FR (by decide)), hR.2.2.2.1.S (G.on (by decide)) (mk_fr FR (by decide)), hR.2.2.2.2.x32 (G.on (by decide)) (mk_fr FR (by decide)) (by rw [FR 1 (by decide)]) (by rw [FR 1 (by decide)]) (by rw [FR 66 (by decide)]) (by rw [FR 66 (by decide)]) ?_⟩ ⟨hM.1.S (G.on (by decide)) (mk_fr FR (by decide)) (E94.on (by decide)), hM.2.1.S (G.on (by decide)) (mk_fr FR (by decide)) (E94.on (by decide)), hM.2.2.1.S (G.on (by decide)) (mk_fr FR (by decide)), hM.2.2.2.1.S (G.on (by decide)) (mk_fr FR (by decide)) (E94.on (by decide)), hM.2.2.2.2.x32 (G.on (by decide)) (mk_fr FR (by decide)) (E94 4 (by decide)) (E94 5 (by decide)) (E94 6 (by decide)) (E94 7 (by decide)) ?_⟩ (hS.chg (G 37 (by decide)) (FR 93 (by decide)) (FR 105 (by decide)) (FR 112 (by decide))) (by rw [hm, up_same]))
        · rw [c29]
          unfold m_X11_replace_29
          rw [cl, obind_s, hb, if_pos (show b2i false = 0 from rfl)]
          unfold m_X10_redirect
          dsimp only
          rw [x_exchange hp (by decide), (hR.pkg hp).1, obind_s, ← hσa, q1, obind_s]
        · rw [rl σ1 hM1, hb, if_neg (by decide)]
          unfold m_X12_replace_104
          rw [r_well0, obind_s, if_neg ne10]
          dsimp only
          rw [ald_nI hp (by decide), up_pl _ _ (by decide), (hM1.pkg hp).1, obind_s, ast_nI hp (by decide), obind_s, obind_s, ← hm]
        · rw [hm, up_off _ _ (Or.inr (by decide)), up_pl _ _ (by decide), up_same]
        · intro q hq
          obtain ⟨u1, u2, u3⟩ := hR.pkg hq
          rw [klock, m63, m65, FR 57 (by decide), q2 63 (by decide)]
          exact ⟨a63 q hq, q3 q hq, u3⟩
        · intro q hq
          obtain ⟨u1, u2, u3⟩ := hM.pkg hq
          rw [klock, kdsk, FR 103 (by decide), FR 104 (by decide)]
          refine ⟨?_, u2, u3⟩
          rw [hm, up_pl _ _ (by decide)]
          by_cases e : q = p
          · rw [e, up_same, tp]
          · rw [up_off _ _ (Or.inr e), to q e, up_pl _ _ (by decide), F1 102 (by decide), u1]
    · refine op_thr (mdl := m_X12_replace (nI p) v2) (j := 0) (k := 1) (σ1 := σ) (m := σ) (v := 0) (bb := 0) ?_ rfl (by decide) ?_ ⟨S, hI.thrown 1⟩
      · simp only [m_X11_replace, c_isPackage, h1, obind_some, b2i_t, b2i_f, ne10, if_false, if_true, h5, h5b]
      · simp only [m_X12_replace, r_isPackage, r_inG (n := 5) (by decide) (show (5 : Int32) = nI 5 from rfl), h1, decide_eq_false h5, h5b, Bool.or_false, obind_some, b2i_t, b2i_f, ne10, if_false, if_true, r_replBad]
end REPL
