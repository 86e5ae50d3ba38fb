/-! ===== demand, need, mending ===== -/
theorem op_demand : OP_demand Inv := by
  intro v1 v2 v3 v4 σ τ ⟨S, hI⟩
  obtain ⟨hW, hR, hM, hS, hC⟩ := id hI
  have h24 := hW.nv
  have h30 := hW.nr
  have h6 := hW.nd
  cases h1 : inN v1 3 with
  | false =>
    refine op_thr (mdl := m_X12_demand v1 v2 v3 v4) (j := 0) (k := 1) (σ1 := σ) (m := σ) (v := 0) (bb := 0) ?_ rfl (by decide) ?_ ⟨S, hI.thrown 1⟩
    · simp only [m_X11_demand, c_up 2 (by decide) (show (2 : Int32) = nI 2 from rfl), h1, obind_some, b2i_f, if_true]
    · simp only [m_X12_demand, m_X12_demand_28, m_X12_demand_29, m_X12_demand_70, r_inN (n := 2) (by decide) (show (2 : Int32) = nI 2 from rfl), h1, obind_some, b2i_f, if_true, r_wellK ne10]
  | true =>
    obtain ⟨ws, hws, rfl⟩ := (inN_t (by omega)).mp h1
    cases h2 : inN v2 6 with
    | false =>
      refine op_thr (mdl := m_X12_demand (nI ws) v2 v3 v4) (j := 0) (k := 1) (σ1 := σ) (m := σ) (v := 0) (bb := 0) ?_ rfl (by decide) ?_ ⟨S, hI.thrown 1⟩
      · simp only [m_X11_demand, c_up 2 (by decide) (show (2 : Int32) = nI 2 from rfl), c_isPackage, h1, h2, obind_some, b2i_t, b2i_f, ne10, if_false, if_true]
      · simp only [m_X12_demand, m_X12_demand_28, m_X12_demand_29, m_X12_demand_70, r_inN (n := 2) (by decide) (show (2 : Int32) = nI 2 from rfl), r_isPackage, h1, h2, obind_some, b2i_t, b2i_f, ne10, if_false, if_true, r_wellK ne10]
    | true =>
      obtain ⟨p, hp, rfl⟩ := (inN_t (by omega)).mp h2
      cases h3 : inN v3 (s_nr S) with
      | false =>
        refine op_thr (mdl := m_X12_demand (nI ws) (nI p) v3 v4) (j := 0) (k := 1) (σ1 := σ) (m := σ) (v := 0) (bb := 0) ?_ rfl (by decide) ?_ ⟨S, hI.thrown 1⟩
        · simp only [m_X11_demand, c_up 2 (by decide) (show (2 : Int32) = nI 2 from rfl), c_isPackage, c_isRange hW hR, h1, h2, h3, obind_some, b2i_t, b2i_f, ne10, if_false, if_true]
        · simp only [m_X12_demand, m_X12_demand_28, m_X12_demand_29, m_X12_demand_70, r_inN (n := 2) (by decide) (show (2 : Int32) = nI 2 from rfl), r_isPackage, r_isRange hW hM, h1, h2, h3, obind_some, b2i_t, b2i_f, ne10, if_false, if_true, r_wellK ne10]
      | true =>
        obtain ⟨r, hr, rfl⟩ := (inN_t (by omega)).mp h3
        have c0 : σ 47 4 < 6 ↔ s_nd S < 6 := by
          rw [hR.nd]
          exact nI_ltI (b := 6) (by omega) (by decide)
        have r0 : σ 94 3 = 6 ↔ s_nd S = 6 := by
          rw [hM.nd]
          exact nI_eq (b := 6) (by omega) (by decide)
        cases h4 : inN v4 8 with
        | false =>
          refine op_thr (mdl := m_X12_demand (nI ws) (nI p) (nI r) v4) (j := 1) (k := 2) (σ1 := σ) (m := σ) (v := 0) (bb := 0) ?_ rfl (by decide) ?_ ⟨S, hI.thrown 2⟩
          · simp only [m_X11_demand, c_up 2 (by decide) (show (2 : Int32) = nI 2 from rfl), c_up 7 (by decide) (show (7 : Int32) = nI 7 from rfl), c_isPackage, c_isRange hW hR, h1, h2, h3, h4, obind_some, b2i_t, b2i_f, ne10, if_false, if_true]
          · simp only [m_X12_demand, m_X12_demand_29, m_X12_demand_70, r_inN (n := 2) (by decide) (show (2 : Int32) = nI 2 from rfl), r_inN (n := 7) (by decide) (show (7 : Int32) = nI 7 from rfl), r_isPackage, r_isRange hW hM, h1, h2, h3, h4, obind_some, b2i_t, b2i_f, ne10, if_false, if_true, r_wellK ne20]
        | true =>
          obtain ⟨fs, hfs, rfl⟩ := (inN_t (by omega)).mp h4
          by_cases h5 : s_nd S < 6
          · have h56 : ¬ s_nd S = 6 := by omega
            have G : gk [24, 25, 26, 27, 28] S (upS (upS (upS (upS (upS S 25 (s_nd S) ws) 26 (s_nd S) p) 27 (s_nd S) r) 28 (s_nd S) fs) 24 0 (s_nd S + 1)) := ((((gk.refl.u (by decide)).u (by decide)).u (by decide)).u (by decide)).u (by decide)
            have FR : fr [47, 49, 51, 53, 55, 94, 100] σ (up (up (up (up (up (up (up (up (up (up (up (up σ 49 (s_nd S) (nI ws)) 51 (s_nd S) (nI p)) 53 (s_nd S) (nI r)) 55 (s_nd S) (nI fs)) 47 4 (nI (s_nd S + 1))) 94 0 0) 100 (4 * s_nd S) (nI ws)) 100 (4 * s_nd S + 1) (nI p)) 100 (4 * s_nd S + 2) (nI r)) 100 (4 * s_nd S + 3) (nI fs)) 94 3 (nI (s_nd S + 1))) 94 31 0) := fr_u (fr_u (fr_u (fr_u (fr_u (fr_u (fr_u (fr_u (fr_u (fr_u (fr_u (fr_u (fr.refl) (by decide)) (by decide)) (by decide)) (by decide)) (by decide)) (by decide)) (by decide)) (by decide)) (by decide)) (by decide)) (by decide)) (by decide)
            have E94 : c94 [0, 3, 31] σ (up (up (up (up (up (up (up (up (up (up (up (up σ 49 (s_nd S) (nI ws)) 51 (s_nd S) (nI p)) 53 (s_nd S) (nI r)) 55 (s_nd S) (nI fs)) 47 4 (nI (s_nd S + 1))) 94 0 0) 100 (4 * s_nd S) (nI ws)) 100 (4 * s_nd S + 1) (nI p)) 100 (4 * s_nd S + 2) (nI r)) 100 (4 * s_nd S + 3) (nI fs)) 94 3 (nI (s_nd S + 1))) 94 31 0) := (((((((((((c94.refl.v (by decide)).v (by decide)).v (by decide)).v (by decide)).v (by decide)).u (by decide)).v (by decide)).v (by decide)).v (by decide)).v (by decide)).u (by decide)).u (by decide)
            have g17 : s_nr (upS (upS (upS (upS (upS S 25 (s_nd S) ws) 26 (s_nd S) p) 27 (s_nd S) r) 28 (s_nd S) fs) 24 0 (s_nd S + 1)) = s_nr S := rfl
            have g24 : s_nd (upS (upS (upS (upS (upS S 25 (s_nd S) ws) 26 (s_nd S) p) 27 (s_nd S) r) 28 (s_nd S) fs) 24 0 (s_nd S + 1)) = s_nd S + 1 := upS_same _ _ _ _
            have ya : ∀ d, s_dws (upS (upS (upS (upS (upS S 25 (s_nd S) ws) 26 (s_nd S) p) 27 (s_nd S) r) 28 (s_nd S) fs) 24 0 (s_nd S + 1)) d = if d = s_nd S then ws else s_dws S d := fun d => by
              show (upS (upS (upS (upS (upS S 25 (s_nd S) ws) 26 (s_nd S) p) 27 (s_nd S) r) 28 (s_nd S) fs) 24 0 (s_nd S + 1)) 25 d = _
              rw [upS_k _ _ _ (by decide), upS_k _ _ _ (by decide), upS_k _ _ _ (by decide), upS_k _ _ _ (by decide)]
              by_cases e : d = s_nd S
              · rw [if_pos e, e, upS_same]
              · rw [if_neg e, upS_j _ _ _ e]
            have yb : ∀ d, s_dtg (upS (upS (upS (upS (upS S 25 (s_nd S) ws) 26 (s_nd S) p) 27 (s_nd S) r) 28 (s_nd S) fs) 24 0 (s_nd S + 1)) d = if d = s_nd S then p else s_dtg S d := fun d => by
              show (upS (upS (upS (upS (upS S 25 (s_nd S) ws) 26 (s_nd S) p) 27 (s_nd S) r) 28 (s_nd S) fs) 24 0 (s_nd S + 1)) 26 d = _
              rw [upS_k _ _ _ (by decide), upS_k _ _ _ (by decide), upS_k _ _ _ (by decide)]
              by_cases e : d = s_nd S
              · rw [if_pos e, e, upS_same]
              · rw [if_neg e, upS_j _ _ _ e, upS_k _ _ _ (by decide)]
            have yc : ∀ d, s_drg (upS (upS (upS (upS (upS S 25 (s_nd S) ws) 26 (s_nd S) p) 27 (s_nd S) r) 28 (s_nd S) fs) 24 0 (s_nd S + 1)) d = if d = s_nd S then r else s_drg S d := fun d => by
              show (upS (upS (upS (upS (upS S 25 (s_nd S) ws) 26 (s_nd S) p) 27 (s_nd S) r) 28 (s_nd S) fs) 24 0 (s_nd S + 1)) 27 d = _
              rw [upS_k _ _ _ (by decide), upS_k _ _ _ (by decide)]
              by_cases e : d = s_nd S
              · rw [if_pos e, e, upS_same]
              · rw [if_neg e, upS_j _ _ _ e, upS_k _ _ _ (by decide), upS_k _ _ _ (by decide)]
            have yd : ∀ d, s_dfs (upS (upS (upS (upS (upS S 25 (s_nd S) ws) 26 (s_nd S) p) 27 (s_nd S) r) 28 (s_nd S) fs) 24 0 (s_nd S + 1)) d = if d = s_nd S then fs else s_dfs S d := fun d => by
              show (upS (upS (upS (upS (upS S 25 (s_nd S) ws) 26 (s_nd S) p) 27 (s_nd S) r) 28 (s_nd S) fs) 24 0 (s_nd S + 1)) 28 d = _
              rw [upS_k _ _ _ (by decide)]
              by_cases e : d = s_nd S
              · rw [if_pos e, e, upS_same]
              · rw [if_neg e, upS_j _ _ _ e, upS_k _ _ _ (by decide), upS_k _ _ _ (by decide), upS_k _ _ _ (by decide)]
            have hMC : RM S (up (up (up (up (up σ 49 (s_nd S) (nI ws)) 51 (s_nd S) (nI p)) 53 (s_nd S) (nI r)) 55 (s_nd S) (nI fs)) 47 4 (nI (s_nd S + 1))) := hM.fr (l := [49, 51, 53, 55, 47]) (fr_u (fr_u (fr_u (fr_u (fr_u (fr.refl) (by decide)) (by decide)) (by decide)) (by decide)) (by decide)) (by decide) (by decide)
            have r0' : (up (up (up (up (up σ 49 (s_nd S) (nI ws)) 51 (s_nd S) (nI p)) 53 (s_nd S) (nI r)) 55 (s_nd S) (nI fs)) 47 4 (nI (s_nd S + 1))) 94 3 = 6 ↔ s_nd S = 6 := by
              rw [hMC.nd]
              exact nI_eq (b := 6) (by omega) (by decide)
            have f4 : (up (up (up (up σ 49 (s_nd S) (nI ws)) 51 (s_nd S) (nI p)) 53 (s_nd S) (nI r)) 55 (s_nd S) (nI fs)) 47 4 = nI (s_nd S) := by rw [up_pl _ _ (by decide), up_pl _ _ (by decide), up_pl _ _ (by decide), up_pl _ _ (by decide), hR.nd]
            have c1 : m_X2_add (nI ws) (nI p) (nI r) (nI fs) σ = some (nI (s_nd S), up (up (up (up (up σ 49 (s_nd S) (nI ws)) 51 (s_nd S) (nI p)) 53 (s_nd S) (nI r)) 55 (s_nd S) (nI fs)) 47 4 (nI (s_nd S + 1))) := by
              simp only [m_X2_add, hR.nd, f4, x_set h5 (show 6 < 2 ^ 31 by decide), obind_some, nI_1]
            have q0 : (up (up (up (up (up (up σ 49 (s_nd S) (nI ws)) 51 (s_nd S) (nI p)) 53 (s_nd S) (nI r)) 55 (s_nd S) (nI fs)) 47 4 (nI (s_nd S + 1))) 94 0 0) 94 3 = nI (s_nd S) := by rw [up_off _ _ (Or.inr (by decide)), hMC.nd]
            have q4 : (up (up (up (up (up (up (up (up (up (up σ 49 (s_nd S) (nI ws)) 51 (s_nd S) (nI p)) 53 (s_nd S) (nI r)) 55 (s_nd S) (nI fs)) 47 4 (nI (s_nd S + 1))) 94 0 0) 100 (4 * s_nd S) (nI ws)) 100 (4 * s_nd S + 1) (nI p)) 100 (4 * s_nd S + 2) (nI r)) 100 (4 * s_nd S + 3) (nI fs)) 94 3 = nI (s_nd S) := by rw [up_pl _ _ (by decide), up_pl _ _ (by decide), up_pl _ _ (by decide), up_pl _ _ (by decide), q0]
            have q5 : (up (up (up (up (up (up (up (up (up (up (up (up σ 49 (s_nd S) (nI ws)) 51 (s_nd S) (nI p)) 53 (s_nd S) (nI r)) 55 (s_nd S) (nI fs)) 47 4 (nI (s_nd S + 1))) 94 0 0) 100 (4 * s_nd S) (nI ws)) 100 (4 * s_nd S + 1) (nI p)) 100 (4 * s_nd S + 2) (nI r)) 100 (4 * s_nd S + 3) (nI fs)) 94 3 (nI (s_nd S + 1))) 94 31 0) 94 3 = nI (s_nd S + 1) := by rw [up_off _ _ (Or.inr (by decide)), up_same]
            have i2 : (4 : Int32) * nI (s_nd S) = nI (4 * s_nd S) := mul_nI 4 rfl _
            have eo : ∀ j, j < 4 * s_nd S → (up (up (up (up (up (up (up (up (up (up (up (up σ 49 (s_nd S) (nI ws)) 51 (s_nd S) (nI p)) 53 (s_nd S) (nI r)) 55 (s_nd S) (nI fs)) 47 4 (nI (s_nd S + 1))) 94 0 0) 100 (4 * s_nd S) (nI ws)) 100 (4 * s_nd S + 1) (nI p)) 100 (4 * s_nd S + 2) (nI r)) 100 (4 * s_nd S + 3) (nI fs)) 94 3 (nI (s_nd S + 1))) 94 31 0) 100 j = σ 100 j := fun j hj => by
              rw [up_pl _ _ (by decide), up_pl _ _ (by decide), up_off _ _ (Or.inr (by omega)), up_off _ _ (Or.inr (by omega)), up_off _ _ (Or.inr (by omega)), up_off _ _ (Or.inr (by omega)), up_pl _ _ (by decide), up_pl _ _ (by decide), up_pl _ _ (by decide), up_pl _ _ (by decide), up_pl _ _ (by decide), up_pl _ _ (by decide)]
            refine op_ok (mdl := m_X12_demand (nI ws) (nI p) (nI r) (nI fs)) (v := nI (s_nd S)) (σ1 := up (up (up (up (up σ 49 (s_nd S) (nI ws)) 51 (s_nd S) (nI p)) 53 (s_nd S) (nI r)) 55 (s_nd S) (nI fs)) 47 4 (nI (s_nd S + 1))) (m := up (up (up (up (up (up (up (up (up (up (up (up σ 49 (s_nd S) (nI ws)) 51 (s_nd S) (nI p)) 53 (s_nd S) (nI r)) 55 (s_nd S) (nI fs)) 47 4 (nI (s_nd S + 1))) 94 0 0) 100 (4 * s_nd S) (nI ws)) 100 (4 * s_nd S + 1) (nI p)) 100 (4 * s_nd S + 2) (nI r)) 100 (4 * s_nd S + 3) (nI fs)) 94 3 (nI (s_nd S + 1))) 94 31 0) ?_ ?_ ?_ (inv_mk (S := upS (upS (upS (upS (upS S 25 (s_nd S) ws) 26 (s_nd S) p) 27 (s_nd S) r) 28 (s_nd S) fs) 24 0 (s_nd S + 1)) ⟨hW.1.S (G.on (by decide)), hW.2.1.S (G.on (by decide)), hW.2.2.1.S (G.on (by decide)), ⟨by rw [g24]; omega, ?_⟩, hW.2.2.2.2.S (G.on (by decide))⟩ ⟨hR.1.S (G.on (by decide)) (mk_fr FR (by decide)), hR.2.1.S (G.on (by decide)) (mk_fr FR (by decide)), hR.2.2.1.S (G.on (by decide)) (mk_fr FR (by decide)), ⟨?_, ?_⟩, hR.2.2.2.2.S (G.on (by decide)) (mk_fr FR (by decide))⟩ ⟨hM.1.S (G.on (by decide)) (mk_fr FR (by decide)) (E94.on (by decide)), hM.2.1.S (G.on (by decide)) (mk_fr FR (by decide)) (E94.on (by decide)), hM.2.2.1.S (G.on (by decide)) (mk_fr FR (by decide)), ⟨by rw [q5, g24], ?_⟩, hM.2.2.2.2.S (G.on (by decide)) (mk_fr FR (by decide)) (E94.on (by decide))⟩ (hS.chg (G 37 (by decide)) (FR 93 (by decide)) (FR 105 (by decide)) (FR 112 (by decide))) ?_)
            · simp only [m_X11_demand, m_X2_isFull, c_up 2 (by decide) (show (2 : Int32) = nI 2 from rfl), c_up 7 (by decide) (show (7 : Int32) = nI 7 from rfl), c_isPackage, c_isRange hW hR, h1, h2, h3, h4, obind_some, b2i_t, ne10, if_false, c0, h5, if_true, c1]
            · simp only [m_X12_demand, m_X12_demand_29, m_X12_demand_70, r_inN (n := 2) (by decide) (show (2 : Int32) = nI 2 from rfl), r_inN (n := 7) (by decide) (show (7 : Int32) = nI 7 from rfl), r_isPackage, r_isRange hW hMC, h1, h2, h3, h4, obind_some, b2i_t, ne10, if_false, r0', h56, r_well0, q0, q4, i2, add_nI (y := 1) 1 rfl, add_nI (y := 2) 2 rfl, add_nI (y := 3) 3 rfl, ast_nI (show 4 * s_nd S < 24 by omega) (show 24 < 2 ^ 31 by decide), ast_nI (show 4 * s_nd S + 1 < 24 by omega) (show 24 < 2 ^ 31 by decide), ast_nI (show 4 * s_nd S + 2 < 24 by omega) (show 24 < 2 ^ 31 by decide), ast_nI (show 4 * s_nd S + 3 < 24 by omega) (show 24 < 2 ^ 31 by decide), q5, nI_pred]
            · rw [up_off _ _ (Or.inr (by decide)), up_off _ _ (Or.inr (by decide)), up_pl _ _ (by decide), up_pl _ _ (by decide), up_pl _ _ (by decide), up_pl _ _ (by decide), up_same]
            · intro d hd
              rw [g24] at hd
              rw [ya d, yb d, yc d, yd d, g17]
              by_cases e : d = s_nd S
              · rw [if_pos e, if_pos e, if_pos e, if_pos e]
                exact ⟨by omega, hp, hr, by omega⟩
              · rw [if_neg e, if_neg e, if_neg e, if_neg e]
                exact hW.dem (by omega)
            · rw [g24, up_pl _ _ (by decide), up_pl _ _ (by decide), up_pl _ _ (by decide), up_pl _ _ (by decide), up_pl _ _ (by decide), up_pl _ _ (by decide), up_pl _ _ (by decide), up_same]
            · intro d hd
              rw [g24] at hd
              rw [ya d, yb d, yc d, yd d]
              have st : ∀ k, k ∈ [49, 51, 53, 55] → (up (up (up (up (up (up (up (up (up (up (up (up σ 49 (s_nd S) (nI ws)) 51 (s_nd S) (nI p)) 53 (s_nd S) (nI r)) 55 (s_nd S) (nI fs)) 47 4 (nI (s_nd S + 1))) 94 0 0) 100 (4 * s_nd S) (nI ws)) 100 (4 * s_nd S + 1) (nI p)) 100 (4 * s_nd S + 2) (nI r)) 100 (4 * s_nd S + 3) (nI fs)) 94 3 (nI (s_nd S + 1))) 94 31 0) k d = (up (up (up (up σ 49 (s_nd S) (nI ws)) 51 (s_nd S) (nI p)) 53 (s_nd S) (nI r)) 55 (s_nd S) (nI fs)) k d := fun k hk => by
                simp at hk
                rw [up_pl _ _ (by omega), up_pl _ _ (by omega), up_pl _ _ (by omega), up_pl _ _ (by omega), up_pl _ _ (by omega), up_pl _ _ (by omega), up_pl _ _ (by omega), up_pl _ _ (by omega)]
              rw [st 49 (by decide), st 51 (by decide), st 53 (by decide), st 55 (by decide)]
              by_cases e : d = s_nd S
              · rw [if_pos e, if_pos e, if_pos e, if_pos e, e]
                refine ⟨?_, ?_, ?_, ?_⟩
                · rw [up_pl _ _ (by decide), up_pl _ _ (by decide), up_pl _ _ (by decide), up_same]
                · rw [up_pl _ _ (by decide), up_pl _ _ (by decide), up_same]
                · rw [up_pl _ _ (by decide), up_same]
                · rw [up_same]
              · rw [if_neg e, if_neg e, if_neg e, if_neg e]
                have h0 := hR.dem (show d < s_nd S by omega)
                refine ⟨?_, ?_, ?_, ?_⟩
                · rw [up_pl _ _ (by decide), up_pl _ _ (by decide), up_pl _ _ (by decide), up_off _ _ (Or.inr e)]
                  exact h0.1
                · rw [up_pl _ _ (by decide), up_pl _ _ (by decide), up_off _ _ (Or.inr e), up_pl _ _ (by decide)]
                  exact h0.2.1
                · rw [up_pl _ _ (by decide), up_off _ _ (Or.inr e), up_pl _ _ (by decide), up_pl _ _ (by decide)]
                  exact h0.2.2.1
                · rw [up_off _ _ (Or.inr e), up_pl _ _ (by decide), up_pl _ _ (by decide), up_pl _ _ (by decide)]
                  exact h0.2.2.2
            · intro d hd
              rw [g24] at hd
              rw [ya d, yb d, yc d, yd d]
              by_cases e : d = s_nd S
              · rw [if_pos e, if_pos e, if_pos e, if_pos e, e]
                refine ⟨?_, ?_, ?_, ?_⟩
                · rw [up_pl _ _ (by decide), up_pl _ _ (by decide), up_off _ _ (Or.inr (by omega)), up_off _ _ (Or.inr (by omega)), up_off _ _ (Or.inr (by omega)), up_same]
                · rw [up_pl _ _ (by decide), up_pl _ _ (by decide), up_off _ _ (Or.inr (by omega)), up_off _ _ (Or.inr (by omega)), up_same]
                · rw [up_pl _ _ (by decide), up_pl _ _ (by decide), up_off _ _ (Or.inr (by omega)), up_same]
                · rw [up_pl _ _ (by decide), up_pl _ _ (by decide), up_same]
              · rw [if_neg e, if_neg e, if_neg e, if_neg e, eo _ (by omega), eo _ (by omega), eo _ (by omega), eo _ (by omega)]
                exact hM.dem (by omega)
            · exact up_same _ _ _ _
          · have h56 : s_nd S = 6 := by omega
            refine op_thr (mdl := m_X12_demand (nI ws) (nI p) (nI r) (nI fs)) (j := 2) (k := 3) (σ1 := σ) (m := σ) (v := 0) (bb := 0) ?_ rfl (by decide) ?_ ⟨S, hI.thrown 3⟩
            · simp only [m_X11_demand, m_X2_isFull, c_up 2 (by decide) (show (2 : Int32) = nI 2 from rfl), c_up 7 (by decide) (show (7 : Int32) = nI 7 from rfl), c_isPackage, c_isRange hW hR, h1, h2, h3, h4, obind_some, b2i_t, ne10, if_false, c0, h5]
            · simp only [m_X12_demand, m_X12_demand_29, m_X12_demand_70, r_inN (n := 2) (by decide) (show (2 : Int32) = nI 2 from rfl), r_inN (n := 7) (by decide) (show (7 : Int32) = nI 7 from rfl), r_isPackage, r_isRange hW hM, h1, h2, h3, h4, obind_some, b2i_t, ne10, if_false, r0, h56, if_true, r_wellK ne30]

def BestIn (S : SP) (Q : Nat → Prop) (x : Nat) : Prop := (x = 0 → ∀ u, ¬ Q u) ∧ (x ≠ 0 → Q (x - 1) ∧ ∀ u, Q u → s_rank S (x - 1) ≤ s_rank S u)
def okU (S : SP) (v u : Nat) : Prop := u < s_nv S ∧ s_own S u = s_own S v ∧ s_rank S v < s_rank S u ∧ s_flaw S u = 0
theorem BestIn.uni {S : SP} (hW : WF S) {v x y : Nat} (h : BestIn S (okU S v) x) (h' : BestIn S (okU S v) y) : x = y := by
  by_cases h0 : x = 0
  · by_cases h1 : y = 0
    · omega
    · exact absurd (h'.2 h1).1 (h.1 h0 _)
  · by_cases h1 : y = 0
    · exact absurd (h.2 h0).1 (h'.1 h1 _)
    · obtain ⟨a1, a2⟩ := h.2 h0
      obtain ⟨b1, b2⟩ := h'.2 h1
      have := a2 _ b1
      have := b2 _ a1
      have := hW.inj a1.1 b1.1 (by rw [a1.2.1, b1.2.1]) (by omega)
      omega
section MEND
variable {S : SP} {σ : Mem}
theorem BestIn.congr {Q Q' : Nat → Prop} {x : Nat} (h : BestIn S Q x) (hq : ∀ u, Q u ↔ Q' u) : BestIn S Q' x := ⟨fun h0 u hu => h.1 h0 u ((hq u).mpr hu), fun h0 => ⟨(hq _).mp (h.2 h0).1, fun u hu => (h.2 h0).2 u ((hq u).mpr hu)⟩⟩
/-- one more is looked at -/
theorem BestIn.skip {Q : Nat → Prop} {x u : Nat} (h : BestIn S Q x) (hu : x ≠ 0 → s_rank S (x - 1) ≤ s_rank S u) (h0 : x ≠ 0) : BestIn S (fun z => Q z ∨ z = u) x := ⟨fun h1 => absurd h1 h0, fun _ => ⟨Or.inl (h.2 h0).1, fun z hz => by
  rcases hz with hz | hz
  · exact (h.2 h0).2 z hz
  · rw [hz]
    exact hu h0⟩⟩
theorem BestIn.take {Q : Nat → Prop} {x u : Nat} (h : BestIn S Q x) (hu : x ≠ 0 → s_rank S u ≤ s_rank S (x - 1)) : BestIn S (fun z => Q z ∨ z = u) (u + 1) := ⟨fun h1 => absurd h1 (by omega), fun _ => ⟨Or.inr rfl, fun z hz => by
  rw [Nat.add_sub_cancel]
  rcases hz with hz | hz
  · by_cases h0 : x = 0
    · exact absurd hz (h.1 h0 z)
    · have := (h.2 h0).2 z hz
      have := hu h0
      omega
  · rw [hz]
    exact Nat.le_refl _⟩⟩
theorem c_nextUsable (hW : WF S) (hR : RC S σ) {v : Nat} (hv : v < s_nv S) : ∃ x, m_X10_nextUsable (nI v) σ = some (oi x, σ) ∧ BestIn S (okU S v) x := by
  have h24 := hW.nv
  have ho := hW.own hv
  have rv := hW.rank hv
  have key := up_fu (n := 4) (P := fun i f => ∀ b, b ≤ s_nv S → BestIn S (fun u => okU S v u ∧ ∃ j, j < i ∧ s_mem S (s_own S v) j = u + 1) b → ∃ x, m_X10_nextUsable_17 f (nI v) (nI (s_own S v)) (oi b) (nI i) σ = some (oi x, σ) ∧ BestIn S (fun u => okU S v u ∧ ∃ j, j < 4 ∧ s_mem S (s_own S v) j = u + 1) x) (by decide) (fun f b hb h => by
      refine ⟨b, ?_, h⟩
      rw [m_X10_nextUsable_17]
      rw [if_pos (show (4 : Int32) ≤ nI 4 by decide)]) (fun i f hi ih b hb h => by
      have hml := s_mem_lt (S := S) (s_own S v) i
      have e1 := c_member hW hR ho (show i < 4 by omega)
      have e3 := c_rank hW hR hv
      have same : (∀ u, s_mem S (s_own S v) i = u + 1 → ¬ okU S v u) → BestIn S (fun u => okU S v u ∧ ∃ j, j < i + 1 ∧ s_mem S (s_own S v) j = u + 1) b := fun hn => h.congr fun u => by
        constructor
        · rintro ⟨a, j, h1, h2⟩
          exact ⟨a, j, by omega, h2⟩
        · rintro ⟨a, j, h1, h2⟩
          refine ⟨a, j, ?_, h2⟩
          by_cases e : j = i
          · subst e
            exact absurd a (hn u h2)
          · omega
      have more : ∀ u, s_mem S (s_own S v) i = u + 1 → okU S v u → ∀ x, BestIn S (fun z => (okU S v z ∧ ∃ j, j < i ∧ s_mem S (s_own S v) j = z + 1) ∨ z = u) x → BestIn S (fun u => okU S v u ∧ ∃ j, j < i + 1 ∧ s_mem S (s_own S v) j = u + 1) x := fun u hu hok x hx => hx.congr fun z => by
        constructor
        · rintro (⟨a, j, h1, h2⟩ | h1)
          · exact ⟨a, j, by omega, h2⟩
          · rw [h1]
            exact ⟨hok, i, by omega, hu⟩
        · rintro ⟨a, j, h1, h2⟩
          by_cases e : j = i
          · subst e
            right
            omega
          · exact Or.inl ⟨a, j, by omega, h2⟩
      have un : ∀ (z : Int32 × Mem), m_X7_get 6 24 (oi (s_mem S (s_own S v) i)) σ = some z → m_X10_nextUsable_17 (f + 1) (nI v) (nI (s_own S v)) (oi b) (nI i) σ = (obind (some z) fun x2 => obind (m_X7_get 6 24 (nI v) x2.2) fun x3 => if x2.1 ≤ x3.1 then m_X10_nextUsable_17 f (nI v) (nI (s_own S v)) (oi b) (nI i + 1) x3.2 else obind (m_X10_flaw (oi (s_mem S (s_own S v) i)) x3.2) fun x4 => if x4.1 = 0 then if oi b = (-1) then m_X10_nextUsable_95 (m_X10_nextUsable_17 f) (nI v) (nI (s_own S v)) (nI i) (oi (s_mem S (s_own S v) i)) x4.2 else obind (m_X7_get 6 24 (oi b) x4.2) fun x5 => if x5.1 ≤ x2.1 then m_X10_nextUsable_17 f (nI v) (nI (s_own S v)) (oi b) (nI i + 1) x5.2 else m_X10_nextUsable_95 (m_X10_nextUsable_17 f) (nI v) (nI (s_own S v)) (nI i) (oi (s_mem S (s_own S v) i)) x5.2 else m_X10_nextUsable_17 f (nI v) (nI (s_own S v)) (oi b) (nI i + 1) x4.2) := fun z hz => by
        rw [m_X10_nextUsable_17]
        rw [if_neg (show ¬ (4 : Int32) ≤ nI i from nI_ge (b := 4) hi (by decide)), e1, obind_some, hz]
      by_cases h0 : s_mem S (s_own S v) i = 0
      · obtain ⟨x, q1, q2⟩ := ih b hb (same fun u hu => by omega)
        refine ⟨x, ?_, q2⟩
        rw [un (-1, σ) (by rw [h0, oi_0, x_getM]), obind_some, e3, obind_some, if_pos (show (-1 : Int32) ≤ nI (s_rank S v) from by
          rw [Int32.le_iff_toInt_le, nI_toInt (by omega), show (-1 : Int32).toInt = -1 from by decide]
          omega), nI_1]
        exact q1
      · obtain ⟨u, hu⟩ : ∃ u, s_mem S (s_own S v) i = u + 1 := ⟨s_mem S (s_own S v) i - 1, by omega⟩
        obtain ⟨hun, huo⟩ := s_mem_own hu
        have ru := hW.rank hun
        have hfl := s_flaw_lt (S := S) u
        rw [hu, oi_s] at un
        have un := un _ (c_rank hW hR hun)
        rw [obind_some, e3, obind_some] at un
        by_cases g1 : s_rank S u ≤ s_rank S v
        · obtain ⟨x, q1, q2⟩ := ih b hb (same fun z hz hok => by
            have : z = u := by omega
            rw [this] at hok
            have := hok.2.2.1
            omega)
          refine ⟨x, ?_, q2⟩
          rw [un, if_pos (nI_le g1 (by omega)), nI_1]
          exact q1
        · rw [if_neg (nI_ge (by omega) (by omega)), c_flaw hW hR hun, obind_some] at un
          by_cases g2 : s_flaw S u = 0
          · have hok : okU S v u := ⟨hun, huo, by omega, g2⟩
            rw [if_pos ((nI_z (by omega)).mpr g2)] at un
            unfold m_X10_nextUsable_95 at un
            rw [nI_1] at un
            have takeit : (b ≠ 0 → s_rank S u ≤ s_rank S (b - 1)) → m_X10_nextUsable_17 (f + 1) (nI v) (nI (s_own S v)) (oi b) (nI i) σ = m_X10_nextUsable_17 f (nI v) (nI (s_own S v)) (nI u) (nI (i + 1)) σ → ∃ x, m_X10_nextUsable_17 (f + 1) (nI v) (nI (s_own S v)) (oi b) (nI i) σ = some (oi x, σ) ∧ BestIn S (fun u => okU S v u ∧ ∃ j, j < 4 ∧ s_mem S (s_own S v) j = u + 1) x := by
              intro hle he
              obtain ⟨x, q1, q2⟩ := ih (u + 1) (by omega) (more u hu hok _ (h.take hle))
              exact ⟨x, by rw [he, ← oi_s]; exact q1, q2⟩
            by_cases g3 : b = 0
            · rw [if_pos (show oi b = -1 by rw [g3]; rfl)] at un
              exact takeit (fun h => absurd g3 h) un
            · obtain ⟨w, rfl⟩ : ∃ w, b = w + 1 := ⟨b - 1, by omega⟩
              rw [oi_s] at un takeit
              rw [if_neg (nI_nm1 (by omega)), c_rank hW hR (show w < s_nv S by omega), obind_some] at un
              have rw1 := hW.rank (show w < s_nv S by omega)
              by_cases g4 : s_rank S w ≤ s_rank S u
              · rw [if_pos (nI_le g4 (by omega))] at un
                obtain ⟨x, q1, q2⟩ := ih (w + 1) hb (more u hu hok _ (h.skip (fun _ => g4) (by omega)))
                exact ⟨x, by rw [oi_s, un, ← oi_s w]; exact q1, q2⟩
              · rw [if_neg (nI_ge (by omega) (by omega))] at un
                have := takeit (fun _ => by rw [Nat.add_sub_cancel]; omega) un
                rw [oi_s]
                exact this
          · rw [if_neg (fun e => g2 ((nI_z (by omega)).mp e)), nI_1] at un
            obtain ⟨x, q1, q2⟩ := ih b hb (same fun z hz hok => by
              have : z = u := by omega
              rw [this] at hok
              exact g2 hok.2.2.2)
            exact ⟨x, by rw [un]; exact q1, q2⟩) 0 (Nat.zero_le _) 0 (Nat.zero_le _) ⟨fun _ u hu => by obtain ⟨-, j, hj, -⟩ := hu; omega, fun h => absurd rfl h⟩
  obtain ⟨x, q1, q2⟩ := key
  refine ⟨x, ?_, q2.congr fun u => ⟨fun h => h.1, fun h => ⟨h, ?_⟩⟩⟩
  · unfold m_X10_nextUsable
    rw [c_own hW hR hv, obind_s]
    rw [oi_0] at q1
    exact q1
  · obtain ⟨i, hi, he⟩ := hW.mem_ex h.1
    rw [h.2.1] at he
    exact ⟨i, hi, he⟩
theorem r_mend (hW : WF S) (hR : RM S σ) {v : Nat} (hv : v < s_nv S) : ∃ x, m_X12_mending_26 FU (nI v) (-1) 0 σ = some (oi x, σ) ∧ BestIn S (okU S v) x := by
  have h24 := hW.nv
  have ho := hW.own hv
  have key := up_fu (n := s_nv S) (P := fun i f => ∀ b, b ≤ s_nv S → BestIn S (fun u => okU S v u ∧ u < i) b → ∃ x, m_X12_mending_26 f (nI v) (oi b) (nI i) σ = some (oi x, σ) ∧ BestIn S (fun u => okU S v u ∧ u < s_nv S) x) (by omega) (fun f b hb h => by
      refine ⟨b, ?_, h⟩
      rw [m_X12_mending_26]
      rw [hR.nv, if_pos (nI_le (Nat.le_refl _) (by omega))]) (fun i f hi ih b hb h => by
      have hoi := hW.own hi
      have hfl := s_flaw_lt (S := S) i
      have skip : ¬ okU S v i → m_X12_mending_26 (f + 1) (nI v) (oi b) (nI i) σ = m_X12_mending_68 (m_X12_mending_26 f) (nI v) (oi b) (nI i) σ → ∃ x, m_X12_mending_26 (f + 1) (nI v) (oi b) (nI i) σ = some (oi x, σ) ∧ BestIn S (fun u => okU S v u ∧ u < s_nv S) x := by
        intro hn he
        obtain ⟨x, q1, q2⟩ := ih b hb (h.congr fun u => ⟨fun hu => ⟨hu.1, by omega⟩, fun hu => ⟨hu.1, by
          by_cases e : u = i
          · rw [e] at hu
            exact absurd hu.1 hn
          · omega⟩⟩)
        refine ⟨x, ?_, q2⟩
        rw [he]
        unfold m_X12_mending_68 m_X12_mending_69 m_X12_mending_94 m_X12_mending_95
        rw [if_pos rfl, nI_1]
        exact q1
      by_cases g1 : s_own S i = s_own S v
      · obtain ⟨x3, e3, a1, a2, a3⟩ := r_compared hW.1 hR.1 hi hv
        have un : m_X12_mending_26 (f + 1) (nI v) (oi b) (nI i) σ = if x3 ≤ 0 then m_X12_mending_68 (m_X12_mending_26 f) (nI v) (oi b) (nI i) σ else if s_flaw S i = 0 then m_X12_mending_69 (m_X12_mending_26 f) (nI v) (oi b) (nI i) 1 σ else m_X12_mending_68 (m_X12_mending_26 f) (nI v) (oi b) (nI i) σ := by
          rw [m_X12_mending_26]
          rw [hR.nv, if_neg (nI_ge hi (by omega)), r_packageOf hW.1 hR.1 hi, obind_some, r_packageOf hW.1 hR.1 hv, obind_some, if_pos (show nI (s_own S i) = nI (s_own S v) by rw [g1]), e3, obind_some, r_hinders hW hR hi, obind_some]
          simp only [nI_z (show s_flaw S i < 2 ^ 31 by omega)]
        have hle : x3 ≤ 0 ↔ ¬ s_rank S v < s_rank S i := by
          rw [← a2, Int32.le_iff_toInt_le, Int32.lt_iff_toInt_lt]
          omega
        by_cases g2 : s_rank S v < s_rank S i
        · rw [if_neg (fun e => hle.mp e g2)] at un
          by_cases g3 : s_flaw S i = 0
          · rw [if_pos g3] at un
            have hok : okU S v i := ⟨hi, g1, g2, g3⟩
            have more : ∀ x, BestIn S (fun z => (okU S v z ∧ z < i) ∨ z = i) x → BestIn S (fun u => okU S v u ∧ u < i + 1) x := fun x hx => hx.congr fun z => by
              constructor
              · rintro (⟨a, b⟩ | h1)
                · exact ⟨a, by omega⟩
                · rw [h1]
                  exact ⟨hok, by omega⟩
              · rintro ⟨a, b⟩
                by_cases e : z = i
                · exact Or.inr e
                · exact Or.inl ⟨a, by omega⟩
            have takeit : (b ≠ 0 → s_rank S i ≤ s_rank S (b - 1)) → m_X12_mending_26 (f + 1) (nI v) (oi b) (nI i) σ = m_X12_mending_26 f (nI v) (nI i) (nI (i + 1)) σ → ∃ x, m_X12_mending_26 (f + 1) (nI v) (oi b) (nI i) σ = some (oi x, σ) ∧ BestIn S (fun u => okU S v u ∧ u < s_nv S) x := by
              intro hl he
              obtain ⟨x, q1, q2⟩ := ih (i + 1) (by omega) (more _ (h.take hl))
              exact ⟨x, by rw [he, ← oi_s i]; exact q1, q2⟩
            unfold m_X12_mending_69 m_X12_mending_94 m_X12_mending_95 at un
            rw [if_neg (by decide), nI_1] at un
            by_cases g4 : b = 0
            · rw [if_pos (show oi b = -1 by rw [g4]; rfl)] at un
              exact takeit (fun h => absurd g4 h) un
            · obtain ⟨w, rfl⟩ : ∃ w, b = w + 1 := ⟨b - 1, by omega⟩
              obtain ⟨x4, e4, b1, b2, b3⟩ := r_compared hW.1 hR.1 hi (show w < s_nv S by omega)
              rw [oi_s] at un takeit
              rw [if_neg (nI_nm1 (by omega)), e4, obind_some] at un
              have hge : 0 ≤ x4 ↔ ¬ s_rank S i < s_rank S w := by
                rw [← b1, Int32.le_iff_toInt_le, Int32.lt_iff_toInt_lt]
                omega
              rw [oi_s]
              by_cases g5 : s_rank S i < s_rank S w
              · rw [if_neg (fun e => hge.mp e g5)] at un
                exact takeit (fun _ => by rw [Nat.add_sub_cancel]; omega) un
              · rw [if_pos (hge.mpr g5)] at un
                obtain ⟨x, q1, q2⟩ := ih (w + 1) hb (more _ (h.skip (fun _ => by rw [Nat.add_sub_cancel]; omega) (by omega)))
                exact ⟨x, by rw [un, ← oi_s w]; exact q1, q2⟩
          · rw [if_neg g3] at un
            exact skip (fun hok => g3 hok.2.2.2) un
        · rw [if_pos (hle.mpr g2)] at un
          exact skip (fun hok => g2 hok.2.2.1) un
      · refine skip (fun hok => g1 hok.2.1) ?_
        rw [m_X12_mending_26]
        rw [hR.nv, if_neg (nI_ge hi (by omega)), r_packageOf hW.1 hR.1 hi, obind_some, r_packageOf hW.1 hR.1 hv, obind_some, if_neg (fun e => g1 ((nI_eq (by omega) (by omega)).mp e))]) 0 (Nat.zero_le _) 0 (Nat.zero_le _) ⟨fun _ u hu => by omega, fun h => absurd rfl h⟩
  obtain ⟨x, q1, q2⟩ := key
  exact ⟨x, q1, q2.congr fun u => ⟨fun h => h.1, fun h => ⟨h, h.1⟩⟩⟩
theorem op_mending : OP_mending Inv := by
  intro v1 σ τ ⟨S, hI⟩
  obtain ⟨hW, hR, hM, hS, hC⟩ := id hI
  have h24 := hW.nv
  cases h1 : inN v1 (s_nv S) with
  | false =>
    refine op_thr (mdl := m_X12_mending v1) (j := 0) (k := 1) (σ1 := σ) (m := σ) (v := 0) (bb := 0) ?_ rfl (by decide) ?_ ⟨S, hI.thrown 1⟩
    · simp only [m_X11_mending, c_isVersion hW hR, h1, obind_some, b2i_f, if_true]
    · simp only [m_X12_mending, m_X12_mending_14, r_isVersion hW hM, h1, obind_some, b2i_f, if_true, r_wellK ne10]
  | true =>
    obtain ⟨v, hv, rfl⟩ := (inN_t (by omega)).mp h1
    obtain ⟨x, q1, q2⟩ := c_nextUsable hW hR hv
    obtain ⟨y, r1, r2⟩ := r_mend hW (hI.thrown 0).2.2.1 hv
    have e := q2.uni hW r2
    subst e
    refine op_ok (mdl := m_X12_mending (nI v)) (v := oi x) (σ1 := σ) (m := up σ 94 0 0) ?_ ?_ (up_same _ _ _ _) ⟨S, hI.thrown 0⟩
    · simp only [m_X11_mending, c_isVersion hW hR, h1, obind_some, b2i_t, ne10, if_false, q1]
    · unfold m_X12_mending m_X12_mending_14
      rw [r_isVersion hW hM, h1, obind_s, if_neg (show ¬ b2i true = 0 by decide), r_well0, obind_s, if_neg ne10]
      exact r1
end MEND

