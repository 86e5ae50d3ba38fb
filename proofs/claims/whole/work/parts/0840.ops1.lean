/-! ===== how a call ends ===== -/
section OPX
variable {km : Nat → Option Int32} {τ : Nat → Int64} {cls : Option ((Nat × Int32) × Mem)} {mdl : Mem → Option (Int32 × Mem)} {σ1 m : Mem} {v bb k : Int32} {j : Nat}
theorem op_thr (h1 : cls = some ((j + 1, v), σ1)) (hk : km (j + 1) = some k) (hk0 : ¬ k = 0) (h2 : mdl σ1 = some (bb, up m 94 0 k)) (h3 : Inv (up m 94 0 k)) : ∃ (k : Int32) (τ' : Nat → Int64) (σ1 : Mem) (bb : Int32) (m2 m3 : Mem), wres km τ cls = some ((k, τ'), σ1) ∧ mdl σ1 = some (bb, m2) ∧ m_X12_thrown m2 = some (k, m3) ∧ (k = 0 → τ' 0 = bb.toInt64) ∧ Inv m3 := by
  refine ⟨k, τ, σ1, bb, _, _, ?_, h2, r_thrown, fun h => absurd h hk0, h3⟩
  rw [h1]
  simp only [wres, hk]
theorem op_thrZ (h1 : cls = some ((j + 1, v), σ1)) (hk : km (j + 1) = some k) (hk0 : ¬ k = 0) (h2 : mdl σ1 = some (bb, up m 94 0 k)) (h3 : Inv (up m 94 0 k)) : ∃ (k : Int32) (τ' : Nat → Int64) (σ1 : Mem) (bb : Int32) (m2 m3 : Mem), wresZ km τ cls = some ((k, τ'), σ1) ∧ mdl σ1 = some (bb, m2) ∧ m_X12_thrown m2 = some (k, m3) ∧ (k = 0 → τ' 0 = (if bb = 0 then 0 else 1)) ∧ Inv m3 := by
  refine ⟨k, τ, σ1, bb, _, _, ?_, h2, r_thrown, fun h => absurd h hk0, h3⟩
  rw [h1]
  simp only [wresZ, hk]
theorem op_ok (h1 : cls = some ((0, v), σ1)) (h2 : mdl σ1 = some (v, m)) (h0 : m 94 0 = 0) (h3 : Inv m) : ∃ (k : Int32) (τ' : Nat → Int64) (σ1 : Mem) (bb : Int32) (m2 m3 : Mem), wres km τ cls = some ((k, τ'), σ1) ∧ mdl σ1 = some (bb, m2) ∧ m_X12_thrown m2 = some (k, m3) ∧ (k = 0 → τ' 0 = bb.toInt64) ∧ Inv m3 := by
  refine ⟨0, vp_updL τ 0 v.toInt64, σ1, v, m, m, ?_, h2, ?_, fun _ => pk_uLs, h3⟩
  · rw [h1]
    rfl
  · unfold m_X12_thrown
    rw [h0]
theorem op_okZ (h1 : cls = some ((0, v), σ1)) (h2 : mdl σ1 = some (v, m)) (h0 : m 94 0 = 0) (h3 : Inv m) : ∃ (k : Int32) (τ' : Nat → Int64) (σ1 : Mem) (bb : Int32) (m2 m3 : Mem), wresZ km τ cls = some ((k, τ'), σ1) ∧ mdl σ1 = some (bb, m2) ∧ m_X12_thrown m2 = some (k, m3) ∧ (k = 0 → τ' 0 = (if bb = 0 then 0 else 1)) ∧ Inv m3 := by
  refine ⟨0, vp_updL τ 0 (if v = 0 then 0 else 1), σ1, v, m, m, ?_, h2, ?_, fun _ => pk_uLs, h3⟩
  · rw [h1]
    rfl
  · unfold m_X12_thrown
    rw [h0]
end OPX
theorem ne10 : ¬ (1 : Int32) = 0 := by decide
theorem ne20 : ¬ (2 : Int32) = 0 := by decide
theorem ne30 : ¬ (3 : Int32) = 0 := by decide
/-! what stays where other keys and places change -/
def gk (K : List Nat) (S S' : SP) : Prop := ∀ j, j ∉ K → S' j = S j
theorem gk.refl {K : List Nat} {S : SP} : gk K S S := fun _ _ => rfl
theorem gk.u {K : List Nat} {S S1 : SP} {a j x : Nat} (h : gk K S S1) (ha : a ∈ K) : gk K S (upS S1 a j x) := fun k hk => (upS_k _ _ _ (fun e => hk (by rw [e]; exact ha))).trans (h k hk)
theorem gk.on {K L : List Nat} {S S' : SP} (h : gk K S S') (hl : ∀ k ∈ L, k ∉ K) : ∀ k, k ∈ L → S' k = S k := fun k hk => h k (hl k hk)
theorem fr_u {l : List Nat} {σ σ1 : Mem} {a j : Nat} {x : Int32} (h : fr l σ σ1) (ha : a ∈ l) : fr l σ (up σ1 a j x) := h.trans (fr.up ha)
def c94 (C : List Nat) (σ m : Mem) : Prop := ∀ j, j ∉ C → m 94 j = σ 94 j
theorem c94.refl {C : List Nat} {σ : Mem} : c94 C σ σ := fun _ _ => rfl
theorem c94.u {C : List Nat} {σ σ1 : Mem} {j : Nat} {x : Int32} (h : c94 C σ σ1) (hj : j ∈ C) : c94 C σ (up σ1 94 j x) := fun k hk => (up_off _ _ (Or.inr (fun e => hk (by rw [e]; exact hj)))).trans (h k hk)
theorem c94.v {C : List Nat} {σ σ1 : Mem} {a j : Nat} {x : Int32} (h : c94 C σ σ1) (ha : 94 ≠ a) : c94 C σ (up σ1 a j x) := fun k hk => by
  rw [up_pl _ _ ha]
  exact h k hk
theorem c94.w {C l : List Nat} {σ σ1 σ2 : Mem} (h : c94 C σ σ1) (hf : fr l σ1 σ2) (hl : 94 ∉ l) : c94 C σ σ2 := fun k hk => by
  rw [hf 94 hl]
  exact h k hk
theorem c94.on {C L : List Nat} {σ m : Mem} (h : c94 C σ m) (hl : ∀ k ∈ L, k ∉ C) : ∀ j, j ∈ L → m 94 j = σ 94 j := fun j hj => h j (hl j hj)
theorem RS.chg {S S' : SP} {σ m : Mem} (h : RS S σ) (h1 : S' 37 = S 37) (h2 : m 93 = σ 93) (h3 : m 105 = σ 105) (h4 : m 112 = σ 112) : RS S' m := ⟨fun p hp hd => by
  rw [h2, h3]
  have hd2 : S' 37 p ≠ 0 := hd
  rw [h1] at hd2
  exact h.1 p hp hd2, h.2.congr h4⟩
theorem mk_fr {L l : List Nat} {σ σ' : Mem} (h : fr l σ σ') (hl : ∀ k ∈ L, k ∉ l) : ∀ k, k ∈ L → σ' k = σ k := fun k hk => h k (hl k hk)
theorem inv_mk {S : SP} {m : Mem} (h1 : WF S) (h2 : RC S m) (h3 : RM S m) (h4 : RS S m) (h5 : m 94 31 = 0) : Inv m := ⟨S, h1, h2, h3, h4, Or.inl h5⟩
section OPS1
theorem op_compare : OP_compare Inv := by
  intro v1 v2 σ τ ⟨S, hI⟩
  obtain ⟨hW, hR, hM, hS, hC⟩ := id hI
  have h24 := hW.nv
  cases h1 : inN v1 (s_nv S) with
  | false =>
    refine op_thr (mdl := m_X12_compare v1 v2) (j := 0) (k := 1) (σ1 := σ) (m := σ) (v := 0) (bb := 0) ?_ rfl (by decide) ?_ ⟨S, hI.thrown 1⟩
    · simp only [m_X11_compare, c_isVersion hW hR, h1, obind_some, b2i_f, if_true]
    · simp only [m_X12_compare, m_X12_compare_20, m_X12_compare_21, m_X12_compare_49, r_isVersion hW hM, h1, obind_some, b2i_f, if_true, r_wellK ne10]
  | true =>
    obtain ⟨a, ha, rfl⟩ := (inN_t (by omega)).mp h1
    cases h2 : inN v2 (s_nv S) with
    | false =>
      refine op_thr (mdl := m_X12_compare (nI a) v2) (j := 0) (k := 1) (σ1 := σ) (m := σ) (v := 0) (bb := 0) ?_ rfl (by decide) ?_ ⟨S, hI.thrown 1⟩
      · simp only [m_X11_compare, c_isVersion hW hR, h1, h2, obind_some, b2i_f, b2i_t, if_true, ne10, if_false]
      · simp only [m_X12_compare, m_X12_compare_20, m_X12_compare_21, m_X12_compare_49, r_isVersion hW hM, h1, h2, obind_some, b2i_f, b2i_t, if_true, ne10, if_false, r_wellK ne10]
    | true =>
      obtain ⟨b, hb, rfl⟩ := (inN_t (by omega)).mp h2
      have oa := hW.own ha
      have ob := hW.own hb
      by_cases h3 : s_own S a = s_own S b
      · have hM0 := (hI.thrown 0).2.2.1
        obtain ⟨x, e1, x1, x2, x3⟩ := r_compared hW.1 hM0.1 ha hb
        have ra := hW.rank ha
        have rb := hW.rank hb
        have ec : m_X11_compare (nI a) (nI b) σ = some ((0, if s_rank S b ≤ s_rank S a then (if s_rank S a = s_rank S b then 0 else 1) else -1), σ) := by
          simp only [m_X11_compare, c_isVersion hW hR, h1, h2, obind_some, b2i_t, if_true, ne10, if_false, c_own hW hR ha, c_own hW hR hb, c_rank hW hR ha, c_rank hW hR hb, h3, m_J6_compare_7cf53, nI_leI (show s_rank S b < 2 ^ 31 by omega) (show s_rank S a < 2 ^ 31 by omega), nI_eq (show s_rank S a < 2 ^ 31 by omega) (show s_rank S b < 2 ^ 31 by omega)]
          by_cases g1 : s_rank S b ≤ s_rank S a
          · rw [if_pos g1, if_pos g1]
            by_cases g2 : s_rank S a = s_rank S b
            · rw [if_pos g2, if_pos g2]
              rfl
            · rw [if_neg g2, if_neg g2]
              rfl
          · rw [if_neg g1, if_neg g1]
            rfl
        have hle : x ≤ 0 ↔ ¬ s_rank S b < s_rank S a := by
          rw [← x2, Int32.le_iff_toInt_le, Int32.lt_iff_toInt_lt]
          omega
        have hge : 0 ≤ x ↔ ¬ s_rank S a < s_rank S b := by
          rw [← x1, Int32.le_iff_toInt_le, Int32.lt_iff_toInt_lt]
          omega
        refine op_ok (mdl := m_X12_compare (nI a) (nI b)) (m := up σ 94 0 0) ec ?_ (up_same _ _ _ _) ⟨S, hI.thrown 0⟩
        simp only [m_X12_compare, m_X12_compare_21, m_X12_compare_49, r_isVersion hW hM, h1, h2, obind_some, b2i_t, if_true, ne10, if_false, r_packageOf hW.1 hM.1 ha, r_packageOf hW.1 hM.1 hb, h3, r_well0, e1, hle, hge]
        by_cases g1 : s_rank S b ≤ s_rank S a
        · rw [if_pos g1]
          by_cases g2 : s_rank S a = s_rank S b
          · rw [if_pos g2, if_pos (by omega), if_pos (by omega)]
          · rw [if_neg g2, if_neg (by omega)]
        · rw [if_neg g1, if_pos (by omega), if_neg (by omega)]
      · refine op_thr (mdl := m_X12_compare (nI a) (nI b)) (j := 1) (k := 2) (σ1 := σ) (m := σ) (v := 0) (bb := 0) ?_ rfl (by decide) ?_ ⟨S, hI.thrown 2⟩
        · simp only [m_X11_compare, c_isVersion hW hR, h1, h2, obind_some, b2i_t, ne10, if_false, c_own hW hR ha, c_own hW hR hb, nI_eq (show s_own S a < 2 ^ 31 by omega) (show s_own S b < 2 ^ 31 by omega), h3]
        · simp only [m_X12_compare, m_X12_compare_21, m_X12_compare_49, r_isVersion hW hM, h1, h2, obind_some, b2i_t, if_true, ne10, if_false, r_packageOf hW.1 hM.1 ha, r_packageOf hW.1 hM.1 hb, nI_eq (show s_own S a < 2 ^ 31 by omega) (show s_own S b < 2 ^ 31 by omega), h3, r_wellK ne20]
theorem op_has : OP_has Inv := by
  intro v1 v2 σ τ ⟨S, hI⟩
  obtain ⟨hW, hR, hM, hS, hC⟩ := id hI
  have h24 := hW.nv
  have h30 := hW.nr
  cases h1 : inN v1 (s_nr S) with
  | false =>
    refine op_thrZ (mdl := m_X12_has v1 v2) (j := 0) (k := 1) (σ1 := σ) (m := σ) (v := 0) (bb := 0) ?_ rfl (by decide) ?_ ⟨S, hI.thrown 1⟩
    · simp only [m_X11_has, c_isRange hW hR, h1, obind_some, b2i_f, if_true]
    · simp only [m_X12_has, m_X12_has_21, m_X12_has_22, r_isRange hW hM, h1, obind_some, b2i_f, if_true, r_wellK ne10]
  | true =>
    obtain ⟨a, ha, rfl⟩ := (inN_t (by omega)).mp h1
    cases h2 : inN v2 (s_nv S) with
    | false =>
      refine op_thrZ (mdl := m_X12_has (nI a) v2) (j := 0) (k := 1) (σ1 := σ) (m := σ) (v := 0) (bb := 0) ?_ rfl (by decide) ?_ ⟨S, hI.thrown 1⟩
      · simp only [m_X11_has, c_isRange hW hR, c_isVersion hW hR, h1, h2, obind_some, b2i_f, b2i_t, if_true, ne10, if_false]
      · simp only [m_X12_has, m_X12_has_21, m_X12_has_22, r_isRange hW hM, r_isVersion hW hM, h1, h2, obind_some, b2i_f, b2i_t, if_true, ne10, if_false, r_wellK ne10]
    | true =>
      obtain ⟨b, hb, rfl⟩ := (inN_t (by omega)).mp h2
      have hM0 := (hI.thrown 0).2.2.1
      refine op_okZ (mdl := m_X12_has (nI a) (nI b)) (m := up σ 94 0 0) (v := b2i (s_has S (24 * a + b) == 1)) (σ1 := σ) ?_ ?_ (up_same _ _ _ _) ⟨S, hI.thrown 0⟩
      · simp only [m_X11_has, c_isRange hW hR, c_isVersion hW hR, h1, h2, obind_some, b2i_t, ne10, if_false, c_holds hW hR ha hb, zchk_b]
      · simp only [m_X12_has, m_X12_has_22, r_isRange hW hM, r_isVersion hW hM, h1, h2, obind_some, b2i_t, ne10, if_false, r_well0, r_has hW hM0 ha hb, has_0 hW ha hb]
        cases (s_has S (24 * a + b) == 1) <;> rfl
theorem op_onDisk : OP_onDisk Inv := by
  intro v1 σ τ ⟨S, hI⟩
  obtain ⟨hW, hR, hM, hS, hC⟩ := id hI
  have h24 := hW.nv
  cases h1 : inN v1 6 with
  | false =>
    refine op_thr (mdl := m_X12_onDisk v1) (j := 0) (k := 1) (σ1 := σ) (m := σ) (v := 0) (bb := 0) ?_ rfl (by decide) ?_ ⟨S, hI.thrown 1⟩
    · simp only [m_X11_onDisk, c_isPackage, h1, obind_some, b2i_f, if_true]
    · simp only [m_X12_onDisk, m_X12_onDisk_13, m_X12_onDisk_49, r_isPackage, h1, obind_some, b2i_f, if_true, r_wellK ne10, up_same, ne10, if_false]
  | true =>
    obtain ⟨p, hp, rfl⟩ := (inN_t (by omega)).mp h1
    have hd := hW.dsk hp
    have hM0 := (hI.thrown 0).2.2.1
    have e1 : m_X7_get 91 6 (nI p) σ = some (oi (s_dsk S p), σ) := by rw [x_get hp (by decide), hR.dsk hp]
    have e2 : m_X7_get 93 6 (nI p) σ = some (σ 93 p, σ) := x_get hp (by decide)
    have e3 : ald (up σ 94 0 0) 104 6 (nI p) = some (oi (s_dsk S p)) := by rw [ald_nI hp (by decide), (hM0.pkg hp).2.2]
    have e4 : ald (up σ 94 0 0) 105 6 (nI p) = some (σ 105 p) := by rw [ald_nI hp (by decide), up_pl _ _ (by decide)]
    by_cases h0 : s_dsk S p = 0
    · refine op_ok (mdl := m_X12_onDisk (nI p)) (m := up σ 94 0 0) (v := -1) (σ1 := σ) ?_ ?_ (up_same _ _ _ _) ⟨S, hI.thrown 0⟩
      · simp only [m_X11_onDisk, c_isPackage, h1, obind_some, b2i_t, ne10, if_false, e1, h0, show oi 0 = -1 from rfl, if_true]
      · simp only [m_X12_onDisk, m_X12_onDisk_13, m_X12_onDisk_49, r_isPackage, h1, obind_some, b2i_t, ne10, if_false, r_well0, e3, h0, show oi 0 = -1 from rfl, if_true, up_same]
    · refine op_ok (mdl := m_X12_onDisk (nI p)) (m := up σ 94 0 0) (v := 10000 * oi (s_dsk S p) + σ 93 p) (σ1 := σ) ?_ ?_ (up_same _ _ _ _) ⟨S, hI.thrown 0⟩
      · simp only [m_X11_onDisk, c_isPackage, h1, obind_some, b2i_t, ne10, if_false, e1, e2, oi_m1 (show s_dsk S p < 2 ^ 31 by omega), h0]
      · simp only [m_X12_onDisk, m_X12_onDisk_13, r_isPackage, h1, obind_some, b2i_t, ne10, if_false, r_well0, e3, e4, oi_m1 (show s_dsk S p < 2 ^ 31 by omega), h0, hS.1 p hp h0]
end OPS1
