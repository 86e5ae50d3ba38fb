/-! ===== calls that ask ===== -/
section ASK
variable {S : SP} {σ : Mem}
theorem InvS.cls {l : List Nat} {σ' : Mem} (h : InvS S σ) (hf : fr l σ σ') (h1 : ∀ k ∈ cData, k ∉ l) (h2 : ∀ k ∈ mData, k ∉ l) (h3 : ∀ k ∈ [94, 112, 113], k ∉ l) : InvS S σ' := by
  obtain ⟨a1, a2, a3, a4, a5⟩ := h
  have e94 := hf 94 (h3 94 (by simp))
  exact ⟨a1, a2.fr hf h1, a3.fr hf h2 (h3 94 (by simp)), a4.congr (hf 93 (h1 93 (by decide))) (hf 105 (h2 105 (by decide))) (hf 112 (h3 112 (by simp))), a5.congr (by rw [e94]) (by rw [e94]) (hf 112 (h3 112 (by simp))) (hf 113 (h3 113 (by simp)))⟩
theorem InvS.found {σ' : Mem} (h : InvS S σ) (hf : frR σ σ') (h31 : σ' 94 31 = 1) (hF : FoundOK S σ') (hB : RB σ') : InvS S σ' := by
  obtain ⟨a1, a2, a3, a4, a5⟩ := h
  refine ⟨a1, a2.frR hf, a3.frR hf, ⟨fun p hp hd => ?_, hB⟩, Or.inr ⟨h31, hF⟩⟩
  rw [hf.1 93 (by decide), hf.1 105 (by decide)]
  exact a4.1 p hp hd
theorem InvS.stale (h : InvS S σ) : InvS S (up σ 94 31 0) := by
  obtain ⟨h1, h2, h3, h4, h5⟩ := h
  refine ⟨h1, h2.congr fun k hk => up_pl _ _ (fun e => by subst e; revert hk; decide), h3.congr (fun k hk => up_pl _ _ (fun e => by subst e; revert hk; decide)) (fun j hj => up_off _ _ (Or.inr (fun e => by subst e; revert hj; decide))), h4.congr (up_pl _ _ (by decide)) (up_pl _ _ (by decide)) (up_pl _ _ (by decide)), Or.inl (up_same _ _ _ _)⟩
theorem NSol.zero (hW : WF S) {D n : Nat} (h : NSol S D n) : n = 0 ↔ ∀ c, ¬ SolF S D c := by
  obtain ⟨l, h1, h2, h3⟩ := h
  constructor
  · intro h0 c hs
    have hl : l = [] := List.length_eq_zero_iff.mp (h3.trans h0)
    have := (h2 (preL c 6)).mpr ⟨preL_len c 6, hs.congr hW fun p hp => (chL_pre hp).symm⟩
    rw [hl] at this
    cases this
  · intro hno
    cases l with
    | nil => exact h3.symm
    | cons x l => exact absurd ((h2 x).mp List.mem_cons_self).2 (hno _)
theorem find_cls (h : InvS S σ) : ∃ (σ1 : Mem) (b : Bool) (c : Nat → Nat), m_X8_findBest σ = some (b2i b, σ1) ∧ InvS S σ1 ∧ fr clS σ σ1 ∧ σ1 67 7 = nI (s_dems S (s_wsp S)) ∧ (b = true → IsBest S (s_dems S (s_wsp S)) c ∧ ∀ p, p < 6 → σ1 69 p = oi (c p)) ∧ (b = false → ∀ c, ¬ SolF S (s_dems S (s_wsp S)) c) := by
  obtain ⟨hW, hR, hM, hS, hC⟩ := id h
  obtain ⟨σ1, b, h1, h2, h3, h4, h5⟩ := c_findBest hW hR
  have hI := h.cls h2 (by decide) (by decide) (by decide)
  cases hb : b with
  | false => exact ⟨σ1, false, fun _ => 0, by rw [h1, hb], hI, h2, h3, (fun h => by cases h), fun _ => h4 hb⟩
  | true =>
    obtain ⟨c, g1, g2⟩ := h5 hb
    exact ⟨σ1, true, c, by rw [h1, hb], hI, h2, h3, fun _ => ⟨g1, g2⟩, (fun h => by cases h)⟩
theorem find_ref (h : InvS S σ) : ∃ (σ2 : Mem) (n : Nat) (c : Nat → Nat), m_X12_find σ = some (0, σ2) ∧ InvS S σ2 ∧ frR σ σ2 ∧ σ2 94 30 = nI n ∧ n ≤ 15625 ∧ NSol S (s_dems S (s_wsp S)) n ∧ (n ≠ 0 → IsBest S (s_dems S (s_wsp S)) c ∧ ∀ p, p < 6 → σ2 112 p = oi (c p) ∧ σ2 113 p = nI (onv S (s_dems S (s_wsp S)) c p)) := by
  obtain ⟨hW, hR, hM, hS, hC⟩ := id h
  obtain ⟨σ2, h1, h2, h3, h4, h5⟩ := r_find hW hM hC hS.2
  have hI := h.found h2 h3 h4 h5
  obtain ⟨n, g1, g2, g3, g4⟩ := h4
  by_cases h0 : n = 0
  · exact ⟨σ2, n, fun _ => 0, h1, hI, h2, g3, g2, g1, fun h => absurd h0 h⟩
  · obtain ⟨c, k1, k2⟩ := g4 h0
    exact ⟨σ2, n, c, h1, hI, h2, g3, g2, g1, fun _ => ⟨k1, k2⟩⟩
/-- both sides' best ones are the same -/
theorem agree (hW : WF S) {D n a : Nat} {b : Bool} {c c' : Nat → Nat} {σ1 σ2 : Mem} (h1 : b = true → IsBest S D c ∧ ∀ p, p < 6 → σ1 a p = oi (c p)) (h2 : b = false → ∀ c, ¬ SolF S D c) (h3 : NSol S D n) (h4 : n ≠ 0 → IsBest S D c' ∧ ∀ p, p < 6 → σ2 112 p = oi (c' p) ∧ σ2 113 p = nI (onv S D c' p)) : (b = true ∧ n ≠ 0 ∧ SolF S D c ∧ (∀ p, p < 6 → c p ≤ s_nv S) ∧ (∀ p, p < 6 → σ1 a p = oi (c p)) ∧ ∀ p, p < 6 → σ2 112 p = oi (c p) ∧ σ2 113 p = nI (onv S D c p)) ∨ (b = false ∧ n = 0) := by
  cases b with
  | false => exact Or.inr ⟨rfl, (h3.zero hW).mpr (h2 rfl)⟩
  | true =>
    obtain ⟨g1, g2⟩ := h1 rfl
    have hn : n ≠ 0 := fun h0 => (h3.zero hW).mp h0 c g1.1
    obtain ⟨k1, k2⟩ := h4 hn
    have e := g1.uni k1
    refine Or.inl ⟨rfl, hn, g1.1, fun p hp => ?_, g2, fun p hp => ?_⟩
    · rcases g1.1.1 p hp with h | h
      · omega
      · have := h.1
        omega
    · rw [e p hp, onv.congr e hp]
      exact k2 p hp
theorem op_chosen : OP_chosen Inv := by
  intro v1 σ τ ⟨S, hI⟩
  have hW := hI.1
  have h24 := hW.nv
  cases h1 : inN v1 6 with
  | false =>
    refine op_thr (mdl := m_X12_chosen v1) (j := 0) (k := 1) (σ1 := σ) (m := σ) (v := 0) (bb := 0) ?_ rfl (by decide) ?_ ⟨S, hI.thrown 1⟩
    · simp only [m_X11_chosen, c_isPackage, h1, obind_some, b2i_f, if_true]
    · simp only [m_X12_chosen, m_X12_chosen_13, r_isPackage, h1, obind_some, b2i_f, if_true, r_wellK ne10]
  | true =>
    obtain ⟨p, hp, rfl⟩ := (inN_t (by omega)).mp h1
    obtain ⟨σ1, b, c, a1, a2, a3, a4, a5, a6⟩ := find_cls hI
    obtain ⟨σ2, n, c', b1, b2, b3, b4, b5, b6, b7⟩ := find_ref (a2.thrown 0)
    have h0 : σ2 94 0 = 0 := by rw [b3.2 0 (by decide), up_same]
    have n0 : σ2 94 30 = 0 ↔ n = 0 := by rw [b4]; exact nI_z (by omega)
    rcases agree hW a5 a6 b6 b7 with ⟨hb, hn, k1, k2, k3, k4⟩ | ⟨hb, hn⟩
    · have e1 : m_X7_get 69 6 (nI p) σ1 = some (oi (c p), σ1) := by rw [x_get hp (by decide), k3 p hp]
      have e2 : ald σ2 112 6 (nI p) = some (oi (c p)) := by rw [ald_nI hp (by decide), (k4 p hp).1]
      refine op_ok (mdl := m_X12_chosen (nI p)) (v := oi (c p)) (σ1 := σ1) (m := σ2) ?_ ?_ h0 ⟨S, b2⟩
      · simp only [m_X11_chosen, c_isPackage, h1, obind_some, b2i_t, ne10, if_false, a1, hb, e1]
      · simp only [m_X12_chosen, m_X12_chosen_13, m_X12_chosenOf, r_isPackage, h1, obind_some, b2i_t, ne10, if_false, r_well0, b1, n0, hn, e2]
    · refine op_ok (mdl := m_X12_chosen (nI p)) (v := -1) (σ1 := σ1) (m := σ2) ?_ ?_ h0 ⟨S, b2⟩
      · simp only [m_X11_chosen, c_isPackage, h1, obind_some, b2i_t, b2i_f, ne10, if_false, a1, hb, if_true]
      · simp only [m_X12_chosen, m_X12_chosen_13, m_X12_chosenOf, r_isPackage, h1, obind_some, b2i_t, ne10, if_false, r_well0, b1, n0, hn, if_true]
theorem op_chosenAnew : OP_chosenAnew Inv := by
  intro v1 σ τ ⟨S, hI⟩
  have hW := hI.1
  have h24 := hW.nv
  cases h1 : inN v1 6 with
  | false =>
    refine op_thr (mdl := m_X12_chosenAnew v1) (j := 0) (k := 1) (σ1 := σ) (m := σ) (v := 0) (bb := 0) ?_ rfl (by decide) ?_ ⟨S, hI.thrown 1⟩
    · simp only [m_X11_chosenAnew, c_isPackage, h1, obind_some, b2i_f, if_true]
    · simp only [m_X12_chosenAnew, m_X12_chosenAnew_13, r_isPackage, h1, obind_some, b2i_f, if_true, r_wellK ne10]
  | true =>
    obtain ⟨p, hp, rfl⟩ := (inN_t (by omega)).mp h1
    obtain ⟨σ1, b, a1, a3, a6, a5⟩ := c_census hW hI.2.1
    have a2 := hI.cls a3 (by decide) (by decide) (by decide)
    obtain ⟨σ2, n, c', b1, b2, b3, b4, b5, b6, b7⟩ := find_ref (a2.thrown 0).stale
    have h0 : σ2 94 0 = 0 := by rw [b3.2 0 (by decide), up_off _ _ (Or.inr (by decide)), up_same]
    have n0 : σ2 94 30 = 0 ↔ n = 0 := by rw [b4]; exact nI_z (by omega)
    obtain ⟨c, a5⟩ : ∃ c : Nat → Nat, b = true → IsBest S (s_dems S (s_wsp S)) c ∧ ∀ p, p < 6 → σ1 83 p = oi (c p) := by
      cases hb : b with
      | false => exact ⟨fun _ => 0, fun h => by cases h⟩
      | true =>
        obtain ⟨c, g⟩ := a5 hb
        exact ⟨c, fun _ => g⟩
    rcases agree hW a5 a6 b6 b7 with ⟨hb, hn, k1, k2, k3, k4⟩ | ⟨hb, hn⟩
    · have e1 : m_X7_get 83 6 (nI p) σ1 = some (oi (c p), σ1) := by rw [x_get hp (by decide), k3 p hp]
      have e2 : ald σ2 112 6 (nI p) = some (oi (c p)) := by rw [ald_nI hp (by decide), (k4 p hp).1]
      refine op_ok (mdl := m_X12_chosenAnew (nI p)) (v := oi (c p)) (σ1 := σ1) (m := σ2) ?_ ?_ h0 ⟨S, b2⟩
      · simp only [m_X11_chosenAnew, c_isPackage, h1, obind_some, b2i_t, ne10, if_false, a1, hb, e1]
      · simp only [m_X12_chosenAnew, m_X12_chosenAnew_13, m_X12_chosenOf, r_isPackage, h1, obind_some, b2i_t, ne10, if_false, r_well0, b1, n0, hn, e2]
    · refine op_ok (mdl := m_X12_chosenAnew (nI p)) (v := -1) (σ1 := σ1) (m := σ2) ?_ ?_ h0 ⟨S, b2⟩
      · simp only [m_X11_chosenAnew, c_isPackage, h1, obind_some, b2i_t, b2i_f, ne10, if_false, a1, hb, if_true]
      · simp only [m_X12_chosenAnew, m_X12_chosenAnew_13, m_X12_chosenOf, r_isPackage, h1, obind_some, b2i_t, ne10, if_false, r_well0, b1, n0, hn, if_true]
theorem op_features : OP_features Inv := by
  intro v1 σ τ ⟨S, hI⟩
  have hW := hI.1
  have h24 := hW.nv
  cases h1 : inN v1 6 with
  | false =>
    refine op_thr (mdl := m_X12_features v1) (j := 0) (k := 1) (σ1 := σ) (m := σ) (v := 0) (bb := 0) ?_ rfl (by decide) ?_ ⟨S, hI.thrown 1⟩
    · simp only [m_X11_features, c_isPackage, h1, obind_some, b2i_f, if_true]
    · simp only [m_X12_features, m_X12_features_13, r_isPackage, h1, obind_some, b2i_f, if_true, r_wellK ne10]
  | true =>
    obtain ⟨p, hp, rfl⟩ := (inN_t (by omega)).mp h1
    obtain ⟨σ1, b, c, a1, a2, a3, a4, a5, a6⟩ := find_cls hI
    have fin : ∀ (σ9 : Mem) (f : Nat), InvS S σ9 → m_X11_features (nI p) σ = some ((0, nI f), σ9) → ((b = true ∧ c p ≠ 0 ∧ f = onv S (s_dems S (s_wsp S)) c p) ∨ (b = true ∧ c p = 0 ∧ f = 0) ∨ (b = false ∧ f = 0)) → ∃ (k : Int32) (τ' : Nat → Int64) (σ1 : Mem) (bb : Int32) (m2 m3 : Mem), w_features (nI p) σ τ = some ((k, τ'), σ1) ∧ m_X12_features (nI p) σ1 = some (bb, m2) ∧ m_X12_thrown m2 = some (k, m3) ∧ (k = 0 → τ' 0 = bb.toInt64) ∧ Inv m3 := by
      intro σ9 f h9 he hf
      obtain ⟨σ2, n, c', b1, b2, b3, b4, b5, b6, b7⟩ := find_ref (h9.thrown 0)
      have h0 : σ2 94 0 = 0 := by rw [b3.2 0 (by decide), up_same]
      have n0 : σ2 94 30 = 0 ↔ n = 0 := by rw [b4]; exact nI_z (by omega)
      refine op_ok (mdl := m_X12_features (nI p)) (v := nI f) (σ1 := σ9) (m := σ2) he ?_ h0 ⟨S, b2⟩
      rcases agree hW a5 a6 b6 b7 with ⟨hb, hn, k1, k2, k3, k4⟩ | ⟨hb, hn⟩
      · have e2 : ald σ2 112 6 (nI p) = some (oi (c p)) := by rw [ald_nI hp (by decide), (k4 p hp).1]
        have e3 : ald σ2 113 6 (nI p) = some (nI (onv S (s_dems S (s_wsp S)) c p)) := by rw [ald_nI hp (by decide), (k4 p hp).2]
        have hcp := k2 p hp
        have em := oi_m1 (show c p < 2 ^ 31 by omega)
        rcases hf with ⟨g1, g2, g3⟩ | ⟨g1, g2, g3⟩ | ⟨g1, g3⟩
        · simp only [m_X12_features, m_X12_features_13, m_X12_chosenOf, r_isPackage, h1, obind_some, b2i_t, ne10, if_false, r_well0, b1, n0, hn, e2, em, g2, e3, g3]
        · simp only [m_X12_features, m_X12_features_13, m_X12_chosenOf, r_isPackage, h1, obind_some, b2i_t, ne10, if_false, r_well0, b1, n0, hn, e2, em, g2, if_true, g3] <;> rfl
        · rw [hb] at g1
          cases g1
      · have g3 : f = 0 := by
          rcases hf with ⟨g1, g2, g3⟩ | ⟨g1, g2, g3⟩ | ⟨g1, g3⟩
          · rw [hb] at g1
            cases g1
          · exact g3
          · exact g3
        simp only [m_X12_features, m_X12_features_13, m_X12_chosenOf, r_isPackage, h1, obind_some, b2i_t, ne10, if_false, r_well0, b1, n0, hn, if_true, g3] <;> rfl
    cases hb : b with
    | false =>
      refine fin σ1 0 a2 ?_ (Or.inr (Or.inr ⟨hb, rfl⟩))
      simp only [m_X11_features, c_isPackage, h1, obind_some, b2i_t, b2i_f, ne10, if_false, a1, hb, if_true] <;> rfl
    | true =>
      obtain ⟨g1, g2⟩ := a5 hb
      have hcn : ∀ p, p < 6 → c p ≤ s_nv S := fun p hp => by
        rcases g1.1.1 p hp with h | h
        · omega
        · have := h.1
          omega
      have hcp := hcn p hp
      have e1 : m_X7_get 69 6 (nI p) σ1 = some (oi (c p), σ1) := by rw [x_get hp (by decide), g2 p hp]
      have em := oi_m1 (show c p < 2 ^ 31 by omega)
      by_cases h0 : c p = 0
      · refine fin σ1 0 a2 ?_ (Or.inr (Or.inl ⟨hb, h0, rfl⟩))
        simp only [m_X11_features, c_isPackage, h1, obind_some, b2i_t, ne10, if_false, a1, hb, e1, em, h0, if_true] <;> rfl
      · obtain ⟨σ9, q1, q2⟩ := c_bestFeatures hW a2.2.1 (s_dems_lt hW _) a4 g2 hcn hp h0
        refine fin σ9 _ (a2.cls q2 (by decide) (by decide) (by decide)) ?_ (Or.inl ⟨hb, h0, rfl⟩)
        simp only [m_X11_features, c_isPackage, h1, obind_some, b2i_t, ne10, if_false, a1, hb, e1, em, h0, q1]
theorem op_solutions : OP_solutions Inv := by
  intro σ ⟨S, hI⟩
  have hW := hI.1
  obtain ⟨σ3, n, c, -, -, -, -, d5, d6, -⟩ := find_ref hI
  obtain ⟨σ1, a1, a2⟩ := c_solutions hW hI.2.1 d6
  have hI1 := hI.cls a2 (by decide) (by decide) (by decide)
  obtain ⟨σ2, n', c', b1, b2, b3, b4, b5, b6, b7⟩ := find_ref (hI1.thrown 0)
  have en := b6.uni d6
  subst en
  refine ⟨nI (min 1000 n'), σ1, σ2, a1, ?_, S, b2⟩
  unfold m_X12_solutions
  rw [obind_s, b1, obind_s]
  dsimp only
  have hle : σ2 94 30 ≤ 1000 ↔ n' ≤ 1000 := by
    rw [b4]
    exact nI_leI (b := 1000) (by omega) (by decide)
  by_cases h : n' ≤ 1000
  · rw [if_pos (hle.mpr h), Nat.min_eq_right h, b4]
  · rw [if_neg (fun e => h (hle.mp e)), Nat.min_eq_left (by omega)]
    rfl
end ASK
