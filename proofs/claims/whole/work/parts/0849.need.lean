/-! ===== need ===== -/
section NEED
variable {S : SP} {σ : Mem}
theorem r_inF {x : Int32} : m_X12_in x (-1) 2 σ = some (b2i (decide (x = -1) || inN x 3), σ) := by
  unfold m_X12_in
  by_cases e : x = -1
  · rw [if_neg (by rw [e]; decide), if_neg (by rw [e]; decide), decide_eq_true e]
    rfl
  · rw [decide_eq_false e, Bool.false_or]
    cases h : inN x 3 with
    | true =>
      obtain ⟨k, hk, rfl⟩ := (inN_t (by decide)).mp h
      rw [if_neg, if_neg]
      · rfl
      · rcases (show k = 0 ∨ k = 1 ∨ k = 2 by omega) with rfl | rfl | rfl <;> decide
      · rcases (show k = 0 ∨ k = 1 ∨ k = 2 by omega) with rfl | rfl | rfl <;> decide
    | false =>
      rcases pk_ix x (n := 3) (by decide) with h1 | h1 | ⟨k, hk, h1⟩
      · rw [if_pos]
        · rfl
        · rw [Int32.lt_iff_toInt_lt] at h1 ⊢
          have h2 : ¬ x.toInt = (-1 : Int32).toInt := fun h3 => e (Int32.toInt_inj.mp h3)
          rw [show (0 : Int32).toInt = 0 from by decide] at h1
          rw [show (-1 : Int32).toInt = -1 from by decide] at h2 ⊢
          omega
      · have h2 : (2 : Int32) < x := by
          rw [Int32.le_iff_toInt_le, nI_toInt (by decide)] at h1
          rw [Int32.lt_iff_toInt_lt, show (2 : Int32).toInt = 2 from by decide]
          omega
        by_cases h3 : x < -1
        · rw [if_pos h3]
          rfl
        · rw [if_neg h3, if_pos h2]
          rfl
      · have := (inN_t (n := 3) (by decide)).mpr ⟨k, hk, h1⟩
        rw [h] at this
        cases this
theorem r_needBad {v1 v2 v3 v4 v5 v6 v7 : Int32} : m_X12_need_47 v1 v2 v3 v4 v5 v6 v7 σ = some (0, up σ 94 0 1) := by
  unfold m_X12_need_47 m_X12_need_48
  rw [r_inN (n := 7) (by decide) (show (7 : Int32) = nI 7 from rfl), obind_s]
  cases inN v6 8 with
  | false => simp only [b2i_f, if_true, m_X12_need_76, m_X12_need_77, m_X12_need_100, m_X12_need_132, r_wellK ne10, obind_some]
  | true =>
    simp only [r_inN (n := 7) (by decide) (show (7 : Int32) = nI 7 from rfl), b2i_t, ne10, if_false, obind_some]
    cases inN v7 8 with
    | false => simp only [b2i_f, if_true, m_X12_need_76, m_X12_need_77, m_X12_need_100, m_X12_need_132, r_wellK ne10, obind_some]
    | true => simp only [b2i_t, ne10, if_false, if_true, m_X12_need_77, m_X12_need_100, m_X12_need_132, r_wellK ne10, obind_some]
theorem op_need : OP_need Inv := by
  intro v1 v2 v3 v4 v5 v6 v7 σ τ ⟨S, hI⟩
  obtain ⟨hW, hR, hM, hS, hC⟩ := id hI
  have h24 := hW.nv
  have h30 := hW.nr
  cases h1 : inN v1 (s_nv S) with
  | false =>
    refine op_thr (mdl := m_X12_need v1 v2 v3 v4 v5 v6 v7) (j := 0) (k := 1) (σ1 := σ) (m := σ) (v := 0) (bb := 0) ?_ rfl (by decide) ?_ ⟨S, hI.thrown 1⟩
    · simp only [m_X11_need, c_isVersion hW hR, h1, obind_some, b2i_f, if_true]
    · simp only [m_X12_need, r_isVersion hW hM, h1, obind_some, b2i_f, if_true, r_needBad]
  | true =>
    obtain ⟨v, hv, rfl⟩ := (inN_t (by omega)).mp h1
    cases h2 : inN v2 6 with
    | false =>
      refine op_thr (mdl := m_X12_need (nI v) v2 v3 v4 v5 v6 v7) (j := 0) (k := 1) (σ1 := σ) (m := σ) (v := 0) (bb := 0) ?_ rfl (by decide) ?_ ⟨S, hI.thrown 1⟩
      · simp only [m_X11_need, c_isVersion hW hR, c_isPackage, h1, h2, obind_some, b2i_t, b2i_f, ne10, if_false, if_true]
      · simp only [m_X12_need, r_isVersion hW hM, r_isPackage, h1, h2, obind_some, b2i_t, b2i_f, ne10, if_false, if_true, r_needBad]
    | true =>
      obtain ⟨p, hp, rfl⟩ := (inN_t (by omega)).mp h2
      cases h3 : inN v3 (s_nr S) with
      | false =>
        refine op_thr (mdl := m_X12_need (nI v) (nI p) v3 v4 v5 v6 v7) (j := 0) (k := 1) (σ1 := σ) (m := σ) (v := 0) (bb := 0) ?_ rfl (by decide) ?_ ⟨S, hI.thrown 1⟩
        · simp only [m_X11_need, c_isVersion hW hR, c_isPackage, c_isRange hW hR, h1, h2, h3, obind_some, b2i_t, b2i_f, ne10, if_false, if_true]
        · simp only [m_X12_need, r_isVersion hW hM, r_isPackage, r_isRange hW hM, h1, h2, h3, obind_some, b2i_t, b2i_f, ne10, if_false, if_true, r_needBad]
      | true =>
        obtain ⟨r, hr, rfl⟩ := (inN_t (by omega)).mp h3
        cases h4 : inN v4 3 with
        | false =>
          refine op_thr (mdl := m_X12_need (nI v) (nI p) (nI r) v4 v5 v6 v7) (j := 0) (k := 1) (σ1 := σ) (m := σ) (v := 0) (bb := 0) ?_ rfl (by decide) ?_ ⟨S, hI.thrown 1⟩
          · simp only [m_X11_need, c_isVersion hW hR, c_isPackage, c_isRange hW hR, c_up 2 (by decide) (show (2 : Int32) = nI 2 from rfl), h1, h2, h3, h4, obind_some, b2i_t, b2i_f, ne10, if_false, if_true]
          · simp only [m_X12_need, r_isVersion hW hM, r_isPackage, r_isRange hW hM, r_inN (n := 2) (by decide) (show (2 : Int32) = nI 2 from rfl), h1, h2, h3, h4, obind_some, b2i_t, b2i_f, ne10, if_false, if_true, r_needBad]
        | true =>
          obtain ⟨kd, hkd, rfl⟩ := (inN_t (by omega)).mp h4
          have h5 : (v5 = -1 ∨ inN v5 3 = true) ∨ (¬ v5 = -1 ∧ inN v5 3 = false) := by
            by_cases e : v5 = -1
            · exact Or.inl (Or.inl e)
            · cases h : inN v5 3 with
              | true => exact Or.inl (Or.inr rfl)
              | false => exact Or.inr ⟨e, rfl⟩
          rcases h5 with h5 | ⟨h5, h5b⟩
          · have h5c : ∃ ft, ft ≤ 3 ∧ v5 = oi ft := by
              rcases h5 with h | h
              · exact ⟨0, by omega, h⟩
              · obtain ⟨k, hk, e⟩ := (inN_t (by decide)).mp h
                exact ⟨k + 1, by omega, e⟩
            obtain ⟨ft, hft, rfl⟩ := h5c
            have c57 : m_X11_need (nI v) (nI p) (nI r) (nI kd) (oi ft) v6 v7 σ = m_X11_need_57 (nI v) (nI p) (nI r) (nI kd) (oi ft) v6 v7 σ := by
              by_cases e : oi ft = -1
              · simp only [m_X11_need, c_isVersion hW hR, c_isPackage, c_isRange hW hR, c_up 2 (by decide) (show (2 : Int32) = nI 2 from rfl), h1, h2, h3, h4, obind_some, b2i_t, ne10, if_false, e, if_true]
              · have e2 : inN (oi ft) 3 = true := by
                  rcases h5 with h | h
                  · exact absurd h e
                  · exact h
                simp only [m_X11_need, c_isVersion hW hR, c_isPackage, c_isRange hW hR, c_up 2 (by decide) (show (2 : Int32) = nI 2 from rfl), h1, h2, h3, h4, obind_some, b2i_t, ne10, if_false, e, e2]
            have hM9 : ∀ σ9, RM S σ9 → m_X12_need (nI v) (nI p) (nI r) (nI kd) (oi ft) v6 v7 σ9 = m_X12_need_48 (nI v) (nI p) (nI r) (nI kd) (oi ft) v6 v7 1 σ9 := fun σ9 hM => by
              have e2 : (decide (oi ft = -1) || inN (oi ft) 3) = true := by
                rcases h5 with h | h
                · rw [decide_eq_true h, Bool.true_or]
                · rw [h, Bool.or_true]
              simp only [m_X12_need, r_isVersion hW hM, r_isPackage, r_isRange hW hM, r_inN (n := 2) (by decide) (show (2 : Int32) = nI 2 from rfl), h1, h2, h3, h4, obind_some, b2i_t, ne10, if_false, r_inF, e2]
            have hk5 := hW.nn (show v < 24 by omega)
            have c5 : m_X4_isFull (nI v) σ = some (if s_nn S v < 5 then 0 else 1, σ) := by
              unfold m_X4_isFull
              rw [x_get (by omega) (by decide), hR.nn (by omega), obind_s]
              by_cases h : s_nn S v < 5
              · rw [if_pos h, if_pos (show nI (s_nn S v) < 5 from nI_lt (b := 5) h (by decide))]
              · rw [if_neg h, if_neg (show ¬ nI (s_nn S v) < 5 from nI_nlt (b := 5) (by omega) (by omega))]
            have r95 : ∀ σ9, RM S σ9 → ald σ9 95 216 (9 * nI v + 8) = some (nI (s_nn S v)) := fun σ9 hM => by
              rw [mul_nI (y := 9) 9 rfl, add_nI (y := 8) 8 rfl, ald_nI (by omega) (by decide), hM.nn (by omega)]
            cases h6 : inN v6 8 with
            | false =>
              refine op_thr (mdl := m_X12_need (nI v) (nI p) (nI r) (nI kd) (oi ft) v6 v7) (j := 1) (k := 2) (σ1 := σ) (m := σ) (v := 0) (bb := 0) ?_ rfl (by decide) ?_ ⟨S, hI.thrown 2⟩
              · rw [c57]
                simp only [m_X11_need_57, c_up 7 (by decide) (show (7 : Int32) = nI 7 from rfl), h6, obind_some, b2i_f, if_true]
              · rw [hM9 σ hM]
                simp only [m_X12_need_48, m_X12_need_76, m_X12_need_77, m_X12_need_100, m_X12_need_132, r_inN (n := 7) (by decide) (show (7 : Int32) = nI 7 from rfl), h6, obind_some, b2i_f, if_true, ne10, if_false, r95 σ hM, r_wellK ne20]
            | true =>
              obtain ⟨pl, hpl, rfl⟩ := (inN_t (by omega)).mp h6
              cases h7 : inN v7 8 with
              | false =>
                refine op_thr (mdl := m_X12_need (nI v) (nI p) (nI r) (nI kd) (oi ft) (nI pl) v7) (j := 1) (k := 2) (σ1 := σ) (m := σ) (v := 0) (bb := 0) ?_ rfl (by decide) ?_ ⟨S, hI.thrown 2⟩
                · rw [c57]
                  simp only [m_X11_need_57, c_up 7 (by decide) (show (7 : Int32) = nI 7 from rfl), h6, h7, obind_some, b2i_t, b2i_f, if_true, ne10, if_false]
                · rw [hM9 σ hM]
                  simp only [m_X12_need_48, m_X12_need_76, m_X12_need_77, m_X12_need_100, m_X12_need_132, r_inN (n := 7) (by decide) (show (7 : Int32) = nI 7 from rfl), h6, h7, obind_some, b2i_t, b2i_f, if_true, ne10, if_false, r95 σ hM, r_wellK ne20]
              | true =>
                obtain ⟨fs, hfs, rfl⟩ := (inN_t (by omega)).mp h7
                by_cases h8 : s_nn S v < 5
                · obtain ⟨k, hk⟩ : ∃ k, k = s_nn S v := ⟨_, rfl⟩
                  obtain ⟨w, hw⟩ : ∃ w, w = 5 * v + k := ⟨_, rfl⟩
                  have hw120 : w < 120 := by omega
                  obtain ⟨T, hT⟩ : ∃ T : SP, T = upS (upS (upS (upS (upS (upS (upS S 11 w p) 12 w r) 13 w kd) 14 w ft) 15 w pl) 16 w fs) 9 v (k + 1) := ⟨_, rfl⟩
                  have G : gk [9, 11, 12, 13, 14, 15, 16] S T := by rw [hT]; exact ((((((gk.refl.u (by decide)).u (by decide)).u (by decide)).u (by decide)).u (by decide)).u (by decide)).u (by decide)
                  obtain ⟨MC, hMC⟩ : ∃ MC : Mem, MC = up (up (up (up (up (up (up σ 34 w (nI p)) 36 w (nI r)) 38 w (nI kd)) 40 w (oi ft)) 42 w (nI pl)) 44 w (nI fs)) 46 v (nI (k + 1)) := ⟨_, rfl⟩
                  have FC : fr [34, 36, 38, 40, 42, 44, 46] σ MC := by rw [hMC]; exact fr_u (fr_u (fr_u (fr_u (fr_u (fr_u (fr_u fr.refl (by decide)) (by decide)) (by decide)) (by decide)) (by decide)) (by decide)) (by decide)
                  have hMC9 : RM S MC := hM.fr FC (by decide) (by decide)
                  obtain ⟨K, hK⟩ : ∃ K : Mem, K = up (up (up (up (up (up (up MC 94 0 0) 97 (6 * w) (nI p)) 97 (6 * w + 1) (nI r)) 97 (6 * w + 2) (nI kd)) 97 (6 * w + 3) (oi ft)) 97 (6 * w + 4) (nI pl)) 97 (6 * w + 5) (nI fs) := ⟨_, rfl⟩
                  have FK : fr [94, 97] MC K := by rw [hK]; exact fr_u (fr_u (fr_u (fr_u (fr_u (fr_u (fr_u fr.refl (by decide)) (by decide)) (by decide)) (by decide)) (by decide)) (by decide)) (by decide)
                  obtain ⟨M, hM8⟩ : ∃ M : Mem, M = up (up K 95 (9 * v + 8) (nI (k + 1))) 94 31 0 := ⟨_, rfl⟩
                  have FM8 : fr [94, 95, 97] MC M := by rw [hM8]; exact fr_u (fr_u (FK.mono (by decide)) (by decide)) (by decide)
                  have FR : fr [34, 36, 38, 40, 42, 44, 46, 94, 95, 97] σ M := (FC.mono (by decide)).trans (FM8.mono (by decide))
                  have E94 : c94 [0, 31] σ M := by
                    have h1 : c94 [0, 31] σ MC := fun j _ => by rw [FC 94 (by decide)]
                    rw [hM8, hK]
                    exact ((((((((h1.u (by decide)).v (by decide)).v (by decide)).v (by decide)).v (by decide)).v (by decide)).v (by decide)).v (by decide)).u (by decide)
                  have k1 : s_own T = s_own S := G 1 (by decide)
                  have k2 : s_a T = s_a S := G 2 (by decide)
                  have k3 : s_b T = s_b S := G 3 (by decide)
                  have k4 : s_c T = s_c S := G 4 (by decide)
                  have k5 : s_pre T = s_pre S := G 5 (by decide)
                  have k6 : s_plc T = s_plc S := G 6 (by decide)
                  have k7 : s_ynk T = s_ynk S := G 7 (by decide)
                  have k8 : s_plat T = s_plat S := G 8 (by decide)
                  have g0 : s_nv T = s_nv S := by rw [s_nv, G 0 (by decide)]
                  have g17 : s_nr T = s_nr S := by rw [s_nr, G 17 (by decide)]
                  have y9 : ∀ u, s_nn T u = if u = v then k + 1 else s_nn S u := fun u => by
                    rw [hT]
                    show upS _ 9 v (k + 1) 9 u = _
                    by_cases e : u = v
                    · rw [if_pos e, e, upS_same]
                    · rw [if_neg e, upS_j _ _ _ e, upS_k _ _ _ (by decide), upS_k _ _ _ (by decide), upS_k _ _ _ (by decide), upS_k _ _ _ (by decide), upS_k _ _ _ (by decide), upS_k _ _ _ (by decide)]
                  have y11 : ∀ x, s_tgt T x = if x = w then p else s_tgt S x := fun x => by
                    rw [hT]
                    show upS _ 9 v (k + 1) 11 x = _
                    rw [upS_k _ _ _ (by decide), upS_k _ _ _ (by decide), upS_k _ _ _ (by decide), upS_k _ _ _ (by decide), upS_k _ _ _ (by decide), upS_k _ _ _ (by decide)]
                    by_cases e : x = w
                    · rw [if_pos e, e, upS_same]
                    · rw [if_neg e, upS_j _ _ _ e]
                  have y12 : ∀ x, s_nrg T x = if x = w then r else s_nrg S x := fun x => by
                    rw [hT]
                    show upS _ 9 v (k + 1) 12 x = _
                    rw [upS_k _ _ _ (by decide), upS_k _ _ _ (by decide), upS_k _ _ _ (by decide), upS_k _ _ _ (by decide), upS_k _ _ _ (by decide)]
                    by_cases e : x = w
                    · rw [if_pos e, e, upS_same]
                    · rw [if_neg e, upS_j _ _ _ e, upS_k _ _ _ (by decide)]
                  have y13 : ∀ x, s_nkd T x = if x = w then kd else s_nkd S x := fun x => by
                    rw [hT]
                    show upS _ 9 v (k + 1) 13 x = _
                    rw [upS_k _ _ _ (by decide), upS_k _ _ _ (by decide), upS_k _ _ _ (by decide), upS_k _ _ _ (by decide)]
                    by_cases e : x = w
                    · rw [if_pos e, e, upS_same]
                    · rw [if_neg e, upS_j _ _ _ e, upS_k _ _ _ (by decide), upS_k _ _ _ (by decide)]
                  have y14 : ∀ x, s_nft T x = if x = w then ft else s_nft S x := fun x => by
                    rw [hT]
                    show upS _ 9 v (k + 1) 14 x = _
                    rw [upS_k _ _ _ (by decide), upS_k _ _ _ (by decide), upS_k _ _ _ (by decide)]
                    by_cases e : x = w
                    · rw [if_pos e, e, upS_same]
                    · rw [if_neg e, upS_j _ _ _ e, upS_k _ _ _ (by decide), upS_k _ _ _ (by decide), upS_k _ _ _ (by decide)]
                  have y15 : ∀ x, s_npl T x = if x = w then pl else s_npl S x := fun x => by
                    rw [hT]
                    show upS _ 9 v (k + 1) 15 x = _
                    rw [upS_k _ _ _ (by decide), upS_k _ _ _ (by decide)]
                    by_cases e : x = w
                    · rw [if_pos e, e, upS_same]
                    · rw [if_neg e, upS_j _ _ _ e, upS_k _ _ _ (by decide), upS_k _ _ _ (by decide), upS_k _ _ _ (by decide), upS_k _ _ _ (by decide)]
                  have y16 : ∀ x, s_nfs T x = if x = w then fs else s_nfs S x := fun x => by
                    rw [hT]
                    show upS _ 9 v (k + 1) 16 x = _
                    rw [upS_k _ _ _ (by decide)]
                    by_cases e : x = w
                    · rw [if_pos e, e, upS_same]
                    · rw [if_neg e, upS_j _ _ _ e, upS_k _ _ _ (by decide), upS_k _ _ _ (by decide), upS_k _ _ _ (by decide), upS_k _ _ _ (by decide), upS_k _ _ _ (by decide)]
                  have z34 : ∀ x, M 34 x = if x = w then nI p else σ 34 x := fun x => by
                    rw [FM8 34 (by decide), hMC, up_pl _ _ (by decide), up_pl _ _ (by decide), up_pl _ _ (by decide), up_pl _ _ (by decide), up_pl _ _ (by decide), up_pl _ _ (by decide)]
                    by_cases e : x = w
                    · rw [if_pos e, e, up_same]
                    · rw [if_neg e, up_off _ _ (Or.inr e)]
                  have z36 : ∀ x, M 36 x = if x = w then nI r else σ 36 x := fun x => by
                    rw [FM8 36 (by decide), hMC, up_pl _ _ (by decide), up_pl _ _ (by decide), up_pl _ _ (by decide), up_pl _ _ (by decide), up_pl _ _ (by decide)]
                    by_cases e : x = w
                    · rw [if_pos e, e, up_same]
                    · rw [if_neg e, up_off _ _ (Or.inr e), up_pl _ _ (by decide)]
                  have z38 : ∀ x, M 38 x = if x = w then nI kd else σ 38 x := fun x => by
                    rw [FM8 38 (by decide), hMC, up_pl _ _ (by decide), up_pl _ _ (by decide), up_pl _ _ (by decide), up_pl _ _ (by decide)]
                    by_cases e : x = w
                    · rw [if_pos e, e, up_same]
                    · rw [if_neg e, up_off _ _ (Or.inr e), up_pl _ _ (by decide), up_pl _ _ (by decide)]
                  have z40 : ∀ x, M 40 x = if x = w then oi ft else σ 40 x := fun x => by
                    rw [FM8 40 (by decide), hMC, up_pl _ _ (by decide), up_pl _ _ (by decide), up_pl _ _ (by decide)]
                    by_cases e : x = w
                    · rw [if_pos e, e, up_same]
                    · rw [if_neg e, up_off _ _ (Or.inr e), up_pl _ _ (by decide), up_pl _ _ (by decide), up_pl _ _ (by decide)]
                  have z42 : ∀ x, M 42 x = if x = w then nI pl else σ 42 x := fun x => by
                    rw [FM8 42 (by decide), hMC, up_pl _ _ (by decide), up_pl _ _ (by decide)]
                    by_cases e : x = w
                    · rw [if_pos e, e, up_same]
                    · rw [if_neg e, up_off _ _ (Or.inr e), up_pl _ _ (by decide), up_pl _ _ (by decide), up_pl _ _ (by decide), up_pl _ _ (by decide)]
                  have z44 : ∀ x, M 44 x = if x = w then nI fs else σ 44 x := fun x => by
                    rw [FM8 44 (by decide), hMC, up_pl _ _ (by decide)]
                    by_cases e : x = w
                    · rw [if_pos e, e, up_same]
                    · rw [if_neg e, up_off _ _ (Or.inr e), up_pl _ _ (by decide), up_pl _ _ (by decide), up_pl _ _ (by decide), up_pl _ _ (by decide), up_pl _ _ (by decide)]
                  have z46 : ∀ u, M 46 u = if u = v then nI (k + 1) else σ 46 u := fun u => by
                    rw [FM8 46 (by decide), hMC]
                    by_cases e : u = v
                    · rw [if_pos e, e, up_same]
                    · rw [if_neg e, up_off _ _ (Or.inr e), up_pl _ _ (by decide), up_pl _ _ (by decide), up_pl _ _ (by decide), up_pl _ _ (by decide), up_pl _ _ (by decide), up_pl _ _ (by decide)]
                  have z95 : ∀ j, j ≠ 9 * v + 8 → M 95 j = σ 95 j := fun j hj => by
                    rw [hM8, up_pl _ _ (by decide), up_off _ _ (Or.inr hj), FK 95 (by decide), FC 95 (by decide)]
                  have z958 : M 95 (9 * v + 8) = nI (k + 1) := by rw [hM8, up_pl _ _ (by decide), up_same]
                  have z97 : M 97 = K 97 := by rw [hM8, up_pl _ _ (by decide), up_pl _ _ (by decide)]
                  have z97o : ∀ y, (y < 6 * w ∨ 6 * w + 6 ≤ y) → M 97 y = σ 97 y := fun y hy => by
                    rw [z97, hK, up_off _ _ (Or.inr (by omega)), up_off _ _ (Or.inr (by omega)), up_off _ _ (Or.inr (by omega)), up_off _ _ (Or.inr (by omega)), up_off _ _ (Or.inr (by omega)), up_off _ _ (Or.inr (by omega)), up_pl _ _ (by decide), FC 97 (by decide)]
                  have W : ∀ u j, u < s_nv S → j < s_nn T u → (5 * u + j = w ∧ u = v ∧ j = k) ∨ (5 * u + j ≠ w ∧ j < s_nn S u) := fun u j hu hj => by
                    rw [y9] at hj
                    by_cases e : u = v
                    · rw [if_pos e] at hj
                      subst e
                      by_cases e2 : j = k
                      · exact Or.inl ⟨by omega, rfl, e2⟩
                      · exact Or.inr ⟨by omega, by omega⟩
                    · rw [if_neg e] at hj
                      have := hW.nn (show u < 24 by omega)
                      exact Or.inr ⟨by omega, hj⟩
                  refine op_ok (mdl := m_X12_need (nI v) (nI p) (nI r) (nI kd) (oi ft) (nI pl) (nI fs)) (v := nI (k + 1)) (σ1 := MC) (m := M) ?_ ?_ ?_ (inv_mk (S := T) ⟨hW.1.x9 (G.on (by decide)) ?_ ?_, hW.2.1.S (G.on (by decide)), ?_, hW.2.2.2.1.S (G.on (by decide)), hW.2.2.2.2.S (G.on (by decide))⟩ ⟨hR.1.x9 (G.on (by decide)) (mk_fr FR (by decide)) (by rw [FR 2 (by decide)]) (by rw [FR 2 (by decide)]) (by rw [FR 2 (by decide)]) (by rw [FR 2 (by decide)]), hR.2.1.S (G.on (by decide)) (mk_fr FR (by decide)), ⟨?_, ?_⟩, hR.2.2.2.1.S (G.on (by decide)) (mk_fr FR (by decide)), hR.2.2.2.2.S (G.on (by decide)) (mk_fr FR (by decide))⟩ ⟨hM.1.x9 (G.on (by decide)) (mk_fr FR (by decide)) (E94 1 (by decide)) ?_ ?_, hM.2.1.S (G.on (by decide)) (mk_fr FR (by decide)) (E94.on (by decide)), ?_, hM.2.2.2.1.S (G.on (by decide)) (mk_fr FR (by decide)) (E94.on (by decide)), hM.2.2.2.2.S (G.on (by decide)) (mk_fr FR (by decide)) (E94.on (by decide))⟩ (hS.chg (G 37 (by decide)) (FR 93 (by decide)) (FR 105 (by decide)) (FR 112 (by decide))) ?_)
                  · have c46 : ∀ σ9 : Mem, m_X7_get 46 24 (nI v) σ9 = some (σ9 46 v, σ9) := fun σ9 => x_get (by omega) (by decide)
                    have i1 : ∀ σ9 : Mem, (fr [34, 36, 38, 40, 42, 44] σ σ9) → σ9 46 v = nI k := fun σ9 h => by rw [h 46 (by decide), hR.nn (by omega), hk]
                    rw [c57]
                    simp only [m_X11_need_57, c_up 7 (by decide) (show (7 : Int32) = nI 7 from rfl), h6, h7, obind_some, b2i_t, ne10, if_false, c5, h8, if_true]
                    unfold m_X4_add
                    rw [c_end hW hR hv, obind_s]
                    dsimp only
                    rw [show 5 * v + s_nn S v = w by omega]
                    rw [x_set hw120 (by decide), obind_s, x_set hw120 (by decide), obind_s, x_set hw120 (by decide), obind_s, x_set hw120 (by decide), obind_s, x_set hw120 (by decide), obind_s, x_set hw120 (by decide), obind_s, c46, obind_s]
                    dsimp only
                    rw [i1 _ (fr_u (fr_u (fr_u (fr_u (fr_u (fr_u fr.refl (by decide)) (by decide)) (by decide)) (by decide)) (by decide)) (by decide)), nI_1, x_set (show v < 24 by omega) (by decide), obind_s]
                    dsimp only
                    rw [← hMC, c46, obind_s]
                    dsimp only
                    have i2 : MC 46 v = nI (k + 1) := by rw [hMC, up_same]
                    rw [i2, obind_s]
                  · have a5 : ¬ nI (s_nn S v) = 5 := fun e => by
                      have := (nI_eq (b := 5) (by omega) (by decide)).mp e
                      omega
                    have ix : 6 * (5 * nI v + nI (s_nn S v)) = nI (6 * w) := by rw [mul_nI (y := 5) 5 rfl, nI_add, mul_nI (y := 6) 6 rfl, hw, hk]
                    rw [hM9 MC hMC9]
                    unfold m_X12_need_48
                    rw [r_inN (n := 7) (by decide) (show (7 : Int32) = nI 7 from rfl), h6, obind_s, if_neg (show ¬ b2i true = 0 by decide)]
                    dsimp only
                    rw [r_inN (n := 7) (by decide) (show (7 : Int32) = nI 7 from rfl), h7, obind_s, if_neg (show ¬ b2i true = 0 by decide)]
                    unfold m_X12_need_77
                    rw [if_neg ne10]
                    dsimp only
                    rw [r95 MC hMC9, obind_s]
                    unfold m_X12_need_100
                    rw [if_neg ne10, if_neg ne10, if_neg a5]
                    unfold m_X12_need_132
                    rw [r_well0, obind_s, if_neg ne10, obind_s]
                    dsimp only
                    rw [ix, add_nI (y := 1) 1 rfl, add_nI (y := 2) 2 rfl, add_nI (y := 3) 3 rfl, add_nI (y := 4) 4 rfl, add_nI (y := 5) 5 rfl]
                    rw [ast_nI (by omega) (by decide), obind_s, ast_nI (by omega) (by decide), obind_s, ast_nI (by omega) (by decide), obind_s, ast_nI (by omega) (by decide), obind_s, ast_nI (by omega) (by decide), obind_s, ast_nI (by omega) (by decide), obind_s]
                    rw [← hK]
                    have e95 : ald K 95 216 (9 * nI v + 8) = some (nI k) := by
                      rw [mul_nI (y := 9) 9 rfl, add_nI (y := 8) 8 rfl, ald_nI (by omega) (by decide), FK 95 (by decide), hMC9.nn (by omega), hk]
                    rw [e95, obind_s, nI_1, mul_nI (y := 9) 9 rfl, add_nI (y := 8) 8 rfl, ast_nI (by omega) (by decide), obind_s, obind_s, ← hM8, ← hk, nI_1]
                  · rw [hM8, hK, up_off _ _ (Or.inr (by decide)), up_pl _ _ (by decide), up_pl _ _ (by decide), up_pl _ _ (by decide), up_pl _ _ (by decide), up_pl _ _ (by decide), up_pl _ _ (by decide), up_pl _ _ (by decide), up_same]
                  · intro u hu
                    rw [y9, k7, k8]
                    have := hW.1.2.2.1 u hu
                    refine ⟨this.1, this.2.1, ?_⟩
                    split
                    · omega
                    · exact this.2.2
                  · intro u hu hu2
                    rw [g0] at hu
                    rw [y9, k7, k8, if_neg (by omega)]
                    exact hW.fresh hu hu2
                  · intro u j hu hj
                    rw [g0] at hu
                    rw [y11, y12, y13, y14, y15, y16, g17]
                    rcases W u j hu hj with ⟨e, -, -⟩ | ⟨e, hj2⟩
                    · rw [if_pos e, if_pos e, if_pos e, if_pos e, if_pos e, if_pos e]
                      exact ⟨hp, hr, by omega, by omega, by omega, by omega⟩
                    · rw [if_neg e, if_neg e, if_neg e, if_neg e, if_neg e, if_neg e]
                      exact hW.need hu hj2
                  · intro u hu
                    rw [y9, z46]
                    by_cases e : u = v
                    · rw [if_pos e, if_pos e]
                    · rw [if_neg e, if_neg e, hR.nn hu]
                  · intro u j hu hj
                    rw [g0] at hu
                    rw [y11, y12, y13, y14, y15, y16, z34, z36, z38, z40, z42, z44]
                    rcases W u j hu hj with ⟨e, -, -⟩ | ⟨e, hj2⟩
                    · simp only [if_pos e, and_self]
                    · simp only [if_neg e]
                      exact hR.need hu hj2
                  · intro u hu
                    rw [g0] at hu
                    rw [z95 _ (by omega), z95 _ (by omega), z95 _ (by omega), z95 _ (by omega), z95 _ (by omega), z95 _ (by omega), z95 _ (by omega), k1, k2, k3, k4, k5, k6, k8]
                    exact hM.ver hu
                  · intro u hu
                    rw [z95 _ (by omega), y9, k7]
                    refine ⟨hM.ynk hu, ?_⟩
                    by_cases e : u = v
                    · rw [if_pos e, e, z958]
                    · rw [if_neg e, z95 _ (by omega)]
                      exact hM.nn hu
                  · intro u j hu hj
                    rw [g0] at hu
                    rw [y11, y12, y13, y14, y15, y16]
                    rcases W u j hu hj with ⟨e, -, -⟩ | ⟨e, hj2⟩
                    · simp only [if_pos e]
                      rw [e, z97, hK]
                      refine ⟨?_, ?_, ?_, ?_, ?_, ?_⟩
                      · rw [up_off _ _ (Or.inr (by omega)), up_off _ _ (Or.inr (by omega)), up_off _ _ (Or.inr (by omega)), up_off _ _ (Or.inr (by omega)), up_off _ _ (Or.inr (by omega)), up_same]
                      · rw [up_off _ _ (Or.inr (by omega)), up_off _ _ (Or.inr (by omega)), up_off _ _ (Or.inr (by omega)), up_off _ _ (Or.inr (by omega)), up_same]
                      · rw [up_off _ _ (Or.inr (by omega)), up_off _ _ (Or.inr (by omega)), up_off _ _ (Or.inr (by omega)), up_same]
                      · rw [up_off _ _ (Or.inr (by omega)), up_off _ _ (Or.inr (by omega)), up_same]
                      · rw [up_off _ _ (Or.inr (by omega)), up_same]
                      · rw [up_same]
                    · simp only [if_neg e]
                      rw [z97o _ (by omega), z97o _ (by omega), z97o _ (by omega), z97o _ (by omega), z97o _ (by omega), z97o _ (by omega)]
                      exact hM.need hu hj2
                  · rw [hM8, up_same]
                · have h8b : s_nn S v = 5 := by omega
                  refine op_thr (mdl := m_X12_need (nI v) (nI p) (nI r) (nI kd) (oi ft) (nI pl) (nI fs)) (j := 2) (k := 3) (σ1 := σ) (m := σ) (v := 0) (bb := 0) ?_ rfl (by decide) ?_ ⟨S, hI.thrown 3⟩
                  · rw [c57]
                    simp only [m_X11_need_57, c_up 7 (by decide) (show (7 : Int32) = nI 7 from rfl), h6, h7, obind_some, b2i_t, ne10, if_false, c5, h8]
                  · rw [hM9 σ hM]
                    simp only [m_X12_need_48, m_X12_need_77, m_X12_need_100, m_X12_need_132, r_inN (n := 7) (by decide) (show (7 : Int32) = nI 7 from rfl), h6, h7, obind_some, b2i_t, ne10, if_false, r95 σ hM, h8b, show nI 5 = 5 from rfl, if_true, r_wellK ne30]
          · refine op_thr (mdl := m_X12_need (nI v) (nI p) (nI r) (nI kd) v5 v6 v7) (j := 0) (k := 1) (σ1 := σ) (m := σ) (v := 0) (bb := 0) ?_ rfl (by decide) ?_ ⟨S, hI.thrown 1⟩
            · simp only [m_X11_need, c_isVersion hW hR, c_isPackage, c_isRange hW hR, c_up 2 (by decide) (show (2 : Int32) = nI 2 from rfl), h1, h2, h3, h4, obind_some, b2i_t, b2i_f, ne10, if_false, if_true, h5, h5b]
            · simp only [m_X12_need, r_isVersion hW hM, r_isPackage, r_isRange hW hM, r_inN (n := 2) (by decide) (show (2 : Int32) = nI 2 from rfl), r_inF, h1, h2, h3, h4, decide_eq_false h5, h5b, Bool.or_false, obind_some, b2i_t, b2i_f, ne10, if_false, if_true, r_needBad]
end NEED
