/-! ===== calls that set one thing, 2 ===== -/
theorem op_setPlatforms : OP_setPlatforms Inv := by
  intro v1 v2 σ τ ⟨S, hI⟩
  obtain ⟨hW, hR, hM, hS, hC⟩ := id hI
  have h24 := hW.nv
  cases h1 : inN v1 (s_nv S) with
  | false =>
    refine op_thr (mdl := m_X12_setPlatforms v1 v2) (j := 0) (k := 1) (σ1 := σ) (m := σ) (v := 0) (bb := 0) ?_ rfl (by decide) ?_ ⟨S, hI.thrown 1⟩
    · simp only [m_X11_setPlatforms, c_isVersion hW hR, h1, obind_some, b2i_f, if_true]
    · simp only [m_X12_setPlatforms, m_X12_setPlatforms_28, r_isVersion hW hM, h1, obind_some, b2i_f, if_true, r_wellK ne10]
  | true =>
    obtain ⟨v, hv, rfl⟩ := (inN_t (by omega)).mp h1
    cases h2 : inN v2 8 with
    | false =>
      refine op_thr (mdl := m_X12_setPlatforms (nI v) v2) (j := 1) (k := 2) (σ1 := σ) (m := σ) (v := 0) (bb := 0) ?_ rfl (by decide) ?_ ⟨S, hI.thrown 2⟩
      · simp only [m_X11_setPlatforms, c_isVersion hW hR, c_up 7 (by decide) (show (7 : Int32) = nI 7 from rfl), h1, h2, obind_some, b2i_t, b2i_f, ne10, if_false, if_true]
      · simp only [m_X12_setPlatforms, m_X12_setPlatforms_28, r_isVersion hW hM, r_inN (n := 7) (by decide) (show (7 : Int32) = nI 7 from rfl), h1, h2, obind_some, b2i_t, b2i_f, ne10, if_false, if_true, r_wellK ne20]
    | true =>
      obtain ⟨x, hx, rfl⟩ := (inN_t (by omega)).mp h2
      have G : gk [8] S (upS S 8 v x) := gk.refl.u (by decide)
      have FR : fr [10, 94, 95] σ (up (up (up (up σ 10 v (nI x)) 94 0 0) 95 (9 * v + 7) (nI x)) 94 31 0) := fr_u (fr_u (fr_u (fr_u fr.refl (by decide)) (by decide)) (by decide)) (by decide)
      have E94 : c94 [0, 31] σ (up (up (up (up σ 10 v (nI x)) 94 0 0) 95 (9 * v + 7) (nI x)) 94 31 0) := (((c94.refl.v (by decide)).u (by decide)).v (by decide)).u (by decide)
      have e95 : ∀ j, j ≠ 9 * v + 7 → (up (up (up (up σ 10 v (nI x)) 94 0 0) 95 (9 * v + 7) (nI x)) 94 31 0) 95 j = σ 95 j := fun j hj => by
        rw [up_pl _ _ (by decide), up_off _ _ (Or.inr hj), up_pl _ _ (by decide), up_pl _ _ (by decide)]
      have ya : ∀ u, s_plat (upS S 8 v x) u = if u = v then x else s_plat S u := fun u => by
        by_cases e : u = v
        · subst e
          rw [if_pos rfl]
          exact upS_same _ _ _ _
        · rw [if_neg e]
          exact upS_j _ _ _ e
      have g0 : s_nv (upS S 8 v x) = s_nv S := rfl
      have g7 : s_ynk (upS S 8 v x) = s_ynk S := G 7 (by decide)
      have g9 : s_nn (upS S 8 v x) = s_nn S := G 9 (by decide)
      have r3 : 9 * nI v + 7 = nI (9 * v + 7) := by rw [mul_nI (y := 9) 9 rfl, add_nI (y := 7) 7 rfl]
      have r1 : ald (up (up σ 10 v (nI x)) 94 0 0) 95 216 (9 * nI v + 7) = some (nI (s_plat S v)) := by
        rw [r3, ald_nI (by omega) (by decide), up_pl _ _ (by decide), up_pl _ _ (by decide), (hM.ver hv).2.2.2.2.2.2]
      have r4 : ∀ (σ1 : Mem) (x : Int32), ast σ1 95 216 (9 * nI v + 7) x = some (up σ1 95 (9 * v + 7) x) := fun σ1 x => by rw [r3, ast_nI (by omega) (by decide)]
      refine op_ok (mdl := m_X12_setPlatforms (nI v) (nI x)) (v := nI (s_plat S v)) (σ1 := up σ 10 v (nI x)) (m := up (up (up (up σ 10 v (nI x)) 94 0 0) 95 (9 * v + 7) (nI x)) 94 31 0) ?_ ?_ ?_ (inv_mk (S := upS S 8 v x) ⟨hW.1.x8 (G.on (by decide)) ?_ ?_, hW.2.1.S (G.on (by decide)), hW.2.2.1.S (G.on (by decide)), hW.2.2.2.1.S (G.on (by decide)), hW.2.2.2.2.S (G.on (by decide))⟩ ⟨hR.1.x8 (G.on (by decide)) (mk_fr FR (by decide)) (by rw [FR 2 (by decide)]) (by rw [FR 2 (by decide)]) (by rw [FR 2 (by decide)]) (by rw [FR 2 (by decide)]) ?_, hR.2.1.S (G.on (by decide)) (mk_fr FR (by decide)), hR.2.2.1.S (G.on (by decide)) (mk_fr FR (by decide)), hR.2.2.2.1.S (G.on (by decide)) (mk_fr FR (by decide)), hR.2.2.2.2.S (G.on (by decide)) (mk_fr FR (by decide))⟩ ⟨hM.1.x8 (G.on (by decide)) (mk_fr FR (by decide)) (E94 1 (by decide)) ?_ ?_, hM.2.1.S (G.on (by decide)) (mk_fr FR (by decide)) (E94.on (by decide)), hM.2.2.1.S (G.on (by decide)) (mk_fr FR (by decide)), hM.2.2.2.1.S (G.on (by decide)) (mk_fr FR (by decide)) (E94.on (by decide)), hM.2.2.2.2.S (G.on (by decide)) (mk_fr FR (by decide)) (E94.on (by decide))⟩ (hS.chg (G 37 (by decide)) (FR 93 (by decide)) (FR 105 (by decide)) (FR 112 (by decide))) ?_)
      · simp only [m_X11_setPlatforms, c_isVersion hW hR, c_up 7 (by decide) (show (7 : Int32) = nI 7 from rfl), h1, h2, obind_some, b2i_t, ne10, if_false, x_exchange (σ := σ) (a := 10) (show v < 24 by omega) (show 24 < 2 ^ 31 by decide), hR.plat (show v < 24 by omega)]
      · have r6 : m_X12_isVersion (nI v) (up σ 10 v (nI x)) = some (1, up σ 10 v (nI x)) := by
          rw [r_isVersion hW (hM.fr (fr.up (l := [10]) (by simp)) (by decide) (by decide)), h1]
          rfl
        simp only [m_X12_setPlatforms, m_X12_setPlatforms_28, r6, r_inN (n := 7) (by decide) (show (7 : Int32) = nI 7 from rfl), h2, b2i_t, obind_some, ne10, if_false, r_well0, r1, r4]
      · rw [up_off _ _ (Or.inr (by decide)), up_pl _ _ (by decide), up_same]
      · intro u hu
        rw [ya u, g7, g9]
        have := hW.1.2.2.1 u hu
        refine ⟨this.1, ?_, this.2.2⟩
        split
        · omega
        · exact this.2.1
      · intro u hu hu2
        rw [g0] at hu
        rw [ya u, g7, g9, if_neg (by omega)]
        exact hW.fresh hu hu2
      · intro u hu
        rw [ya u, up_pl _ _ (by decide), up_pl _ _ (by decide), up_pl _ _ (by decide)]
        by_cases e : u = v
        · subst e
          rw [if_pos rfl, up_same]
        · rw [if_neg e, up_off _ _ (Or.inr e)]
          exact hR.plat hu
      · intro u hu
        rw [g0] at hu
        rw [ya u, e95 _ (by omega), e95 _ (by omega), e95 _ (by omega), e95 _ (by omega), e95 _ (by omega), e95 _ (by omega)]
        have h0 := hM.ver hu
        refine ⟨h0.1, h0.2.1, h0.2.2.1, h0.2.2.2.1, h0.2.2.2.2.1, h0.2.2.2.2.2.1, ?_⟩
        by_cases e : u = v
        · subst e
          rw [if_pos rfl, up_pl _ _ (by decide), up_same]
        · rw [if_neg e, e95 _ (by omega)]
          exact h0.2.2.2.2.2.2
      · intro u hu
        rw [e95 _ (by omega), e95 _ (by omega)]
        exact ⟨hM.ynk hu, hM.nn hu⟩
      · exact up_same _ _ _ _
theorem or_new {a g : Nat} : decide (a ||| 2 ^ g ≠ a) = !a.testBit g := by
  cases h : a.testBit g with
  | true =>
    rw [decide_eq_false]
    · rfl
    · intro h2
      refine h2 (Nat.eq_of_testBit_eq fun i => ?_)
      rw [Nat.testBit_or, Nat.testBit_two_pow]
      by_cases e : g = i
      · subst e
        simp [h]
      · simp [e]
  | false =>
    rw [decide_eq_true]
    · rfl
    · intro h2
      have : (a ||| 2 ^ g).testBit g = true := by
        rw [Nat.testBit_or, Nat.testBit_two_pow]
        simp
      rw [h2, h] at this
      cases this
theorem op_bring : OP_bring Inv := by
  intro v1 v2 v3 σ τ ⟨S, hI⟩
  obtain ⟨hW, hR, hM, hS, hC⟩ := id hI
  have h24 := hW.nv
  cases h1 : inN v1 (s_nv S) with
  | false =>
    refine op_thrZ (mdl := m_X12_bring v1 v2 v3) (j := 0) (k := 1) (σ1 := σ) (m := σ) (v := 0) (bb := 0) ?_ rfl (by decide) ?_ ⟨S, hI.thrown 1⟩
    · simp only [m_X11_bring, c_isVersion hW hR, h1, obind_some, b2i_f, if_true]
    · simp only [m_X12_bring, m_X12_bring_30, m_X12_bring_31, m_X12_bring_44, r_isVersion hW hM, h1, obind_some, b2i_f, if_true, r_wellK ne10]
  | true =>
    obtain ⟨v, hv, rfl⟩ := (inN_t (by omega)).mp h1
    cases h2 : inN v2 3 with
    | false =>
      refine op_thrZ (mdl := m_X12_bring (nI v) v2 v3) (j := 0) (k := 1) (σ1 := σ) (m := σ) (v := 0) (bb := 0) ?_ rfl (by decide) ?_ ⟨S, hI.thrown 1⟩
      · simp only [m_X11_bring, c_isVersion hW hR, c_up 2 (by decide) (show (2 : Int32) = nI 2 from rfl), h1, h2, obind_some, b2i_t, b2i_f, ne10, if_false, if_true]
      · simp only [m_X12_bring, m_X12_bring_30, m_X12_bring_31, m_X12_bring_44, r_isVersion hW hM, r_inN (n := 2) (by decide) (show (2 : Int32) = nI 2 from rfl), h1, h2, obind_some, b2i_t, b2i_f, ne10, if_false, if_true, r_wellK ne10]
    | true =>
      obtain ⟨f, hf, rfl⟩ := (inN_t (by omega)).mp h2
      cases h3 : inN v3 3 with
      | false =>
        refine op_thrZ (mdl := m_X12_bring (nI v) (nI f) v3) (j := 0) (k := 1) (σ1 := σ) (m := σ) (v := 0) (bb := 0) ?_ rfl (by decide) ?_ ⟨S, hI.thrown 1⟩
        · simp only [m_X11_bring, c_isVersion hW hR, c_up 2 (by decide) (show (2 : Int32) = nI 2 from rfl), h1, h2, h3, obind_some, b2i_t, b2i_f, ne10, if_false, if_true]
        · simp only [m_X12_bring, m_X12_bring_30, m_X12_bring_31, m_X12_bring_44, r_isVersion hW hM, r_inN (n := 2) (by decide) (show (2 : Int32) = nI 2 from rfl), h1, h2, h3, obind_some, b2i_t, b2i_f, ne10, if_false, if_true, r_wellK ne10]
      | true =>
        obtain ⟨g, hg, rfl⟩ := (inN_t (by omega)).mp h3
        have hb := hW.br (show 3 * v + f < 72 by omega)
        have hp2 : 2 ^ g < 2 ^ 3 := Nat.pow_lt_pow_right (by decide) hg
        have hor : s_br S (3 * v + f) ||| 2 ^ g < 2 ^ 3 := Nat.or_lt_two_pow (by omega) hp2
        have G : gk [10] S (upS S 10 (3 * v + f) (s_br S (3 * v + f) ||| 2 ^ g)) := gk.refl.u (by decide)
        have FR : fr [12, 94, 96] σ (up (up (up (up σ 12 (3 * v + f) (nI (s_br S (3 * v + f) ||| 2 ^ g))) 94 0 0) 96 (3 * v + f) (nI (s_br S (3 * v + f) ||| 2 ^ g))) 94 31 0) := fr_u (fr_u (fr_u (fr_u fr.refl (by decide)) (by decide)) (by decide)) (by decide)
        have E94 : c94 [0, 31] σ (up (up (up (up σ 12 (3 * v + f) (nI (s_br S (3 * v + f) ||| 2 ^ g))) 94 0 0) 96 (3 * v + f) (nI (s_br S (3 * v + f) ||| 2 ^ g))) 94 31 0) := (((c94.refl.v (by decide)).u (by decide)).v (by decide)).u (by decide)
        have ya : ∀ u, s_br (upS S 10 (3 * v + f) (s_br S (3 * v + f) ||| 2 ^ g)) u = if u = 3 * v + f then s_br S (3 * v + f) ||| 2 ^ g else s_br S u := fun u => by
          by_cases e : u = 3 * v + f
          · rw [if_pos e, e]
            exact upS_same _ _ _ _
          · rw [if_neg e]
            exact upS_j _ _ _ e
        have g0 : s_nv (upS S 10 (3 * v + f) (s_br S (3 * v + f) ||| 2 ^ g)) = s_nv S := rfl
        have i1 : nI v * 3 + nI f = nI (3 * v + f) := by rw [mulr_nI (y := 3) 3 rfl, nI_add]
        have i2 : 3 * nI v + nI f = nI (3 * v + f) := by rw [mul_nI (y := 3) 3 rfl, nI_add]
        have c1 : m_X7_merge 12 72 (nI (3 * v + f)) (nI (2 ^ g)) σ = some (b2i (!(s_br S (3 * v + f)).testBit g), up σ 12 (3 * v + f) (nI (s_br S (3 * v + f) ||| 2 ^ g))) := by
          rw [x_merge (show 3 * v + f < 72 by omega) (by decide) (hR.br (by omega)) (by omega) (by omega), or_new]
        have r1 : ald (up (up σ 12 (3 * v + f) (nI (s_br S (3 * v + f) ||| 2 ^ g))) 94 0 0) 96 72 (3 * nI v + nI f) = some (nI (s_br S (3 * v + f))) := by
          rw [i2, ald_nI (by omega) (by decide), up_pl _ _ (by decide), up_pl _ _ (by decide), hM.br (by omega)]
        have r4 : ∀ (σ1 : Mem) (x : Int32), ast σ1 96 72 (3 * nI v + nI f) x = some (up σ1 96 (3 * v + f) x) := fun σ1 x => by rw [i2, ast_nI (by omega) (by decide)]
        refine op_okZ (mdl := m_X12_bring (nI v) (nI f) (nI g)) (v := b2i (!(s_br S (3 * v + f)).testBit g)) (σ1 := up σ 12 (3 * v + f) (nI (s_br S (3 * v + f) ||| 2 ^ g))) (m := up (up (up (up σ 12 (3 * v + f) (nI (s_br S (3 * v + f) ||| 2 ^ g))) 94 0 0) 96 (3 * v + f) (nI (s_br S (3 * v + f) ||| 2 ^ g))) 94 31 0) ?_ ?_ ?_ (inv_mk (S := upS S 10 (3 * v + f) (s_br S (3 * v + f) ||| 2 ^ g)) ⟨hW.1.x10 (G.on (by decide)) ?_ ?_, hW.2.1.S (G.on (by decide)), hW.2.2.1.S (G.on (by decide)), hW.2.2.2.1.S (G.on (by decide)), hW.2.2.2.2.S (G.on (by decide))⟩ ⟨hR.1.x10 (G.on (by decide)) (mk_fr FR (by decide)) (by rw [FR 2 (by decide)]) (by rw [FR 2 (by decide)]) (by rw [FR 2 (by decide)]) (by rw [FR 2 (by decide)]) ?_, hR.2.1.S (G.on (by decide)) (mk_fr FR (by decide)), hR.2.2.1.S (G.on (by decide)) (mk_fr FR (by decide)), hR.2.2.2.1.S (G.on (by decide)) (mk_fr FR (by decide)), hR.2.2.2.2.S (G.on (by decide)) (mk_fr FR (by decide))⟩ ⟨hM.1.x10 (G.on (by decide)) (mk_fr FR (by decide)) (E94 1 (by decide)) ?_, hM.2.1.S (G.on (by decide)) (mk_fr FR (by decide)) (E94.on (by decide)), hM.2.2.1.S (G.on (by decide)) (mk_fr FR (by decide)), hM.2.2.2.1.S (G.on (by decide)) (mk_fr FR (by decide)) (E94.on (by decide)), hM.2.2.2.2.S (G.on (by decide)) (mk_fr FR (by decide)) (E94.on (by decide))⟩ (hS.chg (G 37 (by decide)) (FR 93 (by decide)) (FR 105 (by decide)) (FR 112 (by decide))) ?_)
        · simp only [m_X11_bring, c_isVersion hW hR, c_up 2 (by decide) (show (2 : Int32) = nI 2 from rfl), h1, h2, h3, obind_some, b2i_t, ne10, if_false, i1, one_shl (show g < 31 by omega), c1, zchk_b]
        · have r6 : m_X12_isVersion (nI v) (up σ 12 (3 * v + f) (nI (s_br S (3 * v + f) ||| 2 ^ g))) = some (1, up σ 12 (3 * v + f) (nI (s_br S (3 * v + f) ||| 2 ^ g))) := by
            rw [r_isVersion hW (hM.fr (fr.up (l := [12]) (by simp)) (by decide) (by decide)), h1]
            rfl
          simp only [m_X12_bring, m_X12_bring_31, m_X12_bring_44, m_X12_bring_75, r6, r_inN (n := 2) (by decide) (show (2 : Int32) = nI 2 from rfl), h2, h3, b2i_t, obind_some, ne10, if_false, r_well0, r1, r4, one_shl (show g < 31 by omega), nI_or, bit_iff (show s_br S (3 * v + f) < 2 ^ 31 by omega) (show g < 31 by omega)]
          cases (s_br S (3 * v + f)).testBit g <;> rfl
        · rw [up_off _ _ (Or.inr (by decide)), up_pl _ _ (by decide), up_same]
        · intro u hu
          rw [ya u]
          split
          · omega
          · exact hW.br hu
        · intro u hu hu2
          rw [g0] at hu2
          rw [ya u, if_neg (by omega)]
          exact hW.br0 hu hu2
        · intro u hu
          rw [ya u, up_pl _ _ (by decide), up_pl _ _ (by decide), up_pl _ _ (by decide)]
          by_cases e : u = 3 * v + f
          · rw [if_pos e, e, up_same]
          · rw [if_neg e, up_off _ _ (Or.inr e)]
            exact hR.br hu
        · intro u hu
          rw [ya u, up_pl _ _ (by decide)]
          by_cases e : u = 3 * v + f
          · rw [if_pos e, e, up_same]
          · rw [if_neg e, up_off _ _ (Or.inr e), up_pl _ _ (by decide), up_pl _ _ (by decide)]
            exact hM.br hu
        · exact up_same _ _ _ _
theorem op_advise : OP_advise Inv := by
  intro v1 v2 σ τ ⟨S, hI⟩
  obtain ⟨hW, hR, hM, hS, hC⟩ := id hI
  have h24 := hW.nv
  have h30 := hW.nr
  have h8 := hW.na
  cases h1 : inN v1 6 with
  | false =>
    refine op_thr (mdl := m_X12_advise v1 v2) (j := 0) (k := 1) (σ1 := σ) (m := σ) (v := 0) (bb := 0) ?_ rfl (by decide) ?_ ⟨S, hI.thrown 1⟩
    · simp only [m_X11_advise, c_isPackage, h1, obind_some, b2i_f, if_true]
    · simp only [m_X12_advise, m_X12_advise_34, r_isPackage, h1, obind_some, b2i_f, if_true, r_wellK ne10]
  | true =>
    obtain ⟨p, hp, rfl⟩ := (inN_t (by omega)).mp h1
    cases h2 : inN v2 (s_nr S) with
    | false =>
      refine op_thr (mdl := m_X12_advise (nI p) v2) (j := 0) (k := 1) (σ1 := σ) (m := σ) (v := 0) (bb := 0) ?_ rfl (by decide) ?_ ⟨S, hI.thrown 1⟩
      · simp only [m_X11_advise, c_isPackage, c_isRange hW hR, h1, h2, obind_some, b2i_t, b2i_f, ne10, if_false, if_true]
      · simp only [m_X12_advise, m_X12_advise_34, r_isPackage, r_isRange hW hM, h1, h2, obind_some, b2i_t, b2i_f, ne10, if_false, if_true, r_wellK ne10]
    | true =>
      obtain ⟨r, hr, rfl⟩ := (inN_t (by omega)).mp h2
      have c0 : σ 1 9 < 8 ↔ s_na S < 8 := by
        rw [hR.na]
        exact nI_ltI (b := 8) (by omega) (by decide)
      have r0 : σ 94 4 = 8 ↔ s_na S = 8 := by
        rw [hM.na]
        exact nI_eq (b := 8) (by omega) (by decide)
      by_cases h3 : s_na S < 8
      · have h38 : ¬ s_na S = 8 := by omega
        have G : gk [29, 30, 31] S (upS (upS (upS S 30 (s_na S) p) 31 (s_na S) r) 29 0 (s_na S + 1)) := ((gk.refl.u (by decide)).u (by decide)).u (by decide)
        have FR : fr [1, 59, 61, 94, 101] σ (up (up (up (up (up (up (up (up σ 59 (s_na S) (nI p)) 61 (s_na S) (nI r)) 1 9 (nI (s_na S + 1))) 94 0 0) 101 (2 * s_na S) (nI p)) 101 (2 * s_na S + 1) (nI r)) 94 4 (nI (s_na S + 1))) 94 31 0) := fr_u (fr_u (fr_u (fr_u (fr_u (fr_u (fr_u (fr_u fr.refl (by decide)) (by decide)) (by decide)) (by decide)) (by decide)) (by decide)) (by decide)) (by decide)
        have E94 : c94 [0, 4, 31] σ (up (up (up (up (up (up (up (up σ 59 (s_na S) (nI p)) 61 (s_na S) (nI r)) 1 9 (nI (s_na S + 1))) 94 0 0) 101 (2 * s_na S) (nI p)) 101 (2 * s_na S + 1) (nI r)) 94 4 (nI (s_na S + 1))) 94 31 0) := (((((((c94.refl.v (by decide)).v (by decide)).v (by decide)).u (by decide)).v (by decide)).v (by decide)).u (by decide)).u (by decide)
        have g17 : s_nr (upS (upS (upS S 30 (s_na S) p) 31 (s_na S) r) 29 0 (s_na S + 1)) = s_nr S := rfl
        have g29 : s_na (upS (upS (upS S 30 (s_na S) p) 31 (s_na S) r) 29 0 (s_na S + 1)) = s_na S + 1 := upS_same _ _ _ _
        have ya : ∀ i, i < s_na S + 1 → s_apk (upS (upS (upS S 30 (s_na S) p) 31 (s_na S) r) 29 0 (s_na S + 1)) i = if i = s_na S then p else s_apk S i := fun i hi => by
          show (upS (upS (upS S 30 (s_na S) p) 31 (s_na S) r) 29 0 (s_na S + 1)) 30 i = _
          rw [upS_k _ _ _ (by decide), upS_k _ _ _ (by decide)]
          by_cases e : i = s_na S
          · rw [if_pos e, e, upS_same]
          · rw [if_neg e, upS_j _ _ _ e]
        have yb : ∀ i, i < s_na S + 1 → s_arg (upS (upS (upS S 30 (s_na S) p) 31 (s_na S) r) 29 0 (s_na S + 1)) i = if i = s_na S then r else s_arg S i := fun i hi => by
          show (upS (upS (upS S 30 (s_na S) p) 31 (s_na S) r) 29 0 (s_na S + 1)) 31 i = _
          rw [upS_k _ _ _ (by decide)]
          by_cases e : i = s_na S
          · rw [if_pos e, e, upS_same]
          · rw [if_neg e, upS_j _ _ _ e, upS_k _ _ _ (by decide)]
        have f0 : (up (up σ 59 (s_na S) (nI p)) 61 (s_na S) (nI r)) 1 9 = nI (s_na S) := by rw [up_pl _ _ (by decide), up_pl _ _ (by decide), hR.na]
        have f1 : (up σ 59 (s_na S) (nI p)) 1 9 = nI (s_na S) := by rw [up_pl _ _ (by decide), hR.na]
        have f2 : (up (up (up σ 59 (s_na S) (nI p)) 61 (s_na S) (nI r)) 1 9 (nI (s_na S + 1))) 1 9 = nI (s_na S + 1) := up_same _ _ _ _
        have c1 : m_X10_warn (nI p) (nI r) σ = some (nI (s_na S + 1), up (up (up σ 59 (s_na S) (nI p)) 61 (s_na S) (nI r)) 1 9 (nI (s_na S + 1))) := by
          simp only [m_X10_warn, hR.na, f1, f0, f2, x_set (show s_na S < 8 by omega) (show 8 < 2 ^ 31 by decide), obind_some, nI_1]
        have k0 : (up (up (up (up σ 59 (s_na S) (nI p)) 61 (s_na S) (nI r)) 1 9 (nI (s_na S + 1))) 94 0 0) 94 4 = nI (s_na S) := by rw [up_off _ _ (Or.inr (by decide)), up_pl _ _ (by decide), up_pl _ _ (by decide), up_pl _ _ (by decide), hM.na]
        have k1 : (up (up (up (up (up σ 59 (s_na S) (nI p)) 61 (s_na S) (nI r)) 1 9 (nI (s_na S + 1))) 94 0 0) 101 (2 * s_na S) (nI p)) 94 4 = nI (s_na S) := by rw [up_pl _ _ (by decide), k0]
        have k2 : (up (up (up (up (up (up σ 59 (s_na S) (nI p)) 61 (s_na S) (nI r)) 1 9 (nI (s_na S + 1))) 94 0 0) 101 (2 * s_na S) (nI p)) 101 (2 * s_na S + 1) (nI r)) 94 4 = nI (s_na S) := by rw [up_pl _ _ (by decide), k1]
        have i2 : (2 : Int32) * nI (s_na S) = nI (2 * s_na S) := mul_nI 2 rfl _
        have e101 : ∀ j, j < 2 * s_na S → (up (up (up (up (up (up (up (up σ 59 (s_na S) (nI p)) 61 (s_na S) (nI r)) 1 9 (nI (s_na S + 1))) 94 0 0) 101 (2 * s_na S) (nI p)) 101 (2 * s_na S + 1) (nI r)) 94 4 (nI (s_na S + 1))) 94 31 0) 101 j = σ 101 j := fun j hj => by
          rw [up_pl _ _ (by decide), up_pl _ _ (by decide), up_off _ _ (Or.inr (by omega)), up_off _ _ (Or.inr (by omega)), up_pl _ _ (by decide), up_pl _ _ (by decide), up_pl _ _ (by decide), up_pl _ _ (by decide)]
        have hMC : RM S (up (up (up σ 59 (s_na S) (nI p)) 61 (s_na S) (nI r)) 1 9 (nI (s_na S + 1))) := hM.fr (l := [59, 61, 1]) (fr_u (fr_u (fr_u fr.refl (by decide)) (by decide)) (by decide)) (by decide) (by decide)
        have r0' : (up (up (up σ 59 (s_na S) (nI p)) 61 (s_na S) (nI r)) 1 9 (nI (s_na S + 1))) 94 4 = 8 ↔ s_na S = 8 := by
          rw [hMC.na]
          exact nI_eq (b := 8) (by omega) (by decide)
        refine op_ok (mdl := m_X12_advise (nI p) (nI r)) (v := nI (s_na S + 1)) (σ1 := up (up (up σ 59 (s_na S) (nI p)) 61 (s_na S) (nI r)) 1 9 (nI (s_na S + 1))) (m := up (up (up (up (up (up (up (up σ 59 (s_na S) (nI p)) 61 (s_na S) (nI r)) 1 9 (nI (s_na S + 1))) 94 0 0) 101 (2 * s_na S) (nI p)) 101 (2 * s_na S + 1) (nI r)) 94 4 (nI (s_na S + 1))) 94 31 0) ?_ ?_ ?_ (inv_mk (S := upS (upS (upS S 30 (s_na S) p) 31 (s_na S) r) 29 0 (s_na S + 1)) ⟨hW.1.S (G.on (by decide)), hW.2.1.S (G.on (by decide)), hW.2.2.1.S (G.on (by decide)), hW.2.2.2.1.S (G.on (by decide)), hW.2.2.2.2.x29 (G.on (by decide)) (by rw [g29]; omega) ?_⟩ ⟨hR.1.S (G.on (by decide)) (mk_fr FR (by decide)), hR.2.1.S (G.on (by decide)) (mk_fr FR (by decide)), hR.2.2.1.S (G.on (by decide)) (mk_fr FR (by decide)), hR.2.2.2.1.S (G.on (by decide)) (mk_fr FR (by decide)), hR.2.2.2.2.x29 (G.on (by decide)) (mk_fr FR (by decide)) ?_ (by rw [FR 66 (by decide)]) (by rw [FR 66 (by decide)]) ?_ ?_⟩ ⟨hM.1.S (G.on (by decide)) (mk_fr FR (by decide)) (E94.on (by decide)), hM.2.1.S (G.on (by decide)) (mk_fr FR (by decide)) (E94.on (by decide)), hM.2.2.1.S (G.on (by decide)) (mk_fr FR (by decide)), hM.2.2.2.1.S (G.on (by decide)) (mk_fr FR (by decide)) (E94.on (by decide)), hM.2.2.2.2.x29 (G.on (by decide)) (mk_fr FR (by decide)) (E94 5 (by decide)) (E94 6 (by decide)) (E94 7 (by decide)) ?_ ?_⟩ (hS.chg (G 37 (by decide)) (FR 93 (by decide)) (FR 105 (by decide)) (FR 112 (by decide))) ?_)
        · simp only [m_X11_advise, c_isPackage, c_isRange hW hR, h1, h2, obind_some, b2i_t, ne10, if_false, c0, h3, if_true, c1]
        · simp only [m_X12_advise, m_X12_advise_34, r_isPackage, r_isRange hW hMC, h1, h2, obind_some, b2i_t, ne10, if_false, r0', h38, r_well0, k0, k1, k2, i2, add_nI (y := 1) 1 rfl, ast_nI (show 2 * s_na S < 16 by omega) (show 16 < 2 ^ 31 by decide), ast_nI (show 2 * s_na S + 1 < 16 by omega) (show 16 < 2 ^ 31 by decide)]
          rw [up_off _ _ (Or.inr (by decide)), up_same]
        · rw [up_off _ _ (Or.inr (by decide)), up_off _ _ (Or.inr (by decide)), up_pl _ _ (by decide), up_pl _ _ (by decide), up_same]
        · intro i hi
          rw [g29] at hi
          rw [ya i hi, yb i hi, g17]
          by_cases e : i = s_na S
          · rw [if_pos e, if_pos e]
            exact ⟨hp, hr⟩
          · rw [if_neg e, if_neg e]
            exact hW.adv (by omega)
        · rw [up_pl _ _ (by decide), up_pl _ _ (by decide), up_pl _ _ (by decide), up_pl _ _ (by decide), up_pl _ _ (by decide), up_off _ _ (Or.inr (by decide)), up_pl _ _ (by decide), up_pl _ _ (by decide)]
        · rw [g29, up_pl _ _ (by decide), up_pl _ _ (by decide), up_pl _ _ (by decide), up_pl _ _ (by decide), up_pl _ _ (by decide), up_same]
        · intro i hi
          rw [g29] at hi
          rw [ya i hi, yb i hi]
          by_cases e : i = s_na S
          · rw [if_pos e, if_pos e, e]
            refine ⟨?_, ?_⟩
            · rw [up_pl _ _ (by decide), up_pl _ _ (by decide), up_pl _ _ (by decide), up_pl _ _ (by decide), up_pl _ _ (by decide), up_pl _ _ (by decide), up_pl _ _ (by decide), up_same]
            · rw [up_pl _ _ (by decide), up_pl _ _ (by decide), up_pl _ _ (by decide), up_pl _ _ (by decide), up_pl _ _ (by decide), up_pl _ _ (by decide), up_same]
          · rw [if_neg e, if_neg e, ← (hR.adv (show i < s_na S by omega)).1, ← (hR.adv (show i < s_na S by omega)).2]
            refine ⟨?_, ?_⟩
            · rw [up_pl _ _ (by decide), up_pl _ _ (by decide), up_pl _ _ (by decide), up_pl _ _ (by decide), up_pl _ _ (by decide), up_pl _ _ (by decide), up_pl _ _ (by decide), up_off _ _ (Or.inr e)]
            · rw [up_pl _ _ (by decide), up_pl _ _ (by decide), up_pl _ _ (by decide), up_pl _ _ (by decide), up_pl _ _ (by decide), up_pl _ _ (by decide), up_off _ _ (Or.inr e), up_pl _ _ (by decide)]
        · rw [g29, up_off _ _ (Or.inr (by decide)), up_same]
        · intro i hi
          rw [g29] at hi
          rw [ya i hi, yb i hi]
          by_cases e : i = s_na S
          · rw [if_pos e, if_pos e, e]
            refine ⟨?_, ?_⟩
            · rw [up_pl _ _ (by decide), up_pl _ _ (by decide), up_off _ _ (Or.inr (by omega)), up_same]
            · rw [up_pl _ _ (by decide), up_pl _ _ (by decide), up_same]
          · rw [if_neg e, if_neg e, e101 _ (by omega), e101 _ (by omega)]
            exact hM.adv (by omega)
        · exact up_same _ _ _ _
      · have h38 : s_na S = 8 := by omega
        refine op_thr (mdl := m_X12_advise (nI p) (nI r)) (j := 2) (k := 2) (σ1 := σ) (m := σ) (v := 0) (bb := 0) ?_ rfl (by decide) ?_ ⟨S, hI.thrown 2⟩
        · simp only [m_X11_advise, c_isPackage, c_isRange hW hR, h1, h2, obind_some, b2i_t, ne10, if_false, c0, h3]
        · simp only [m_X12_advise, m_X12_advise_34, r_isPackage, r_isRange hW hM, h1, h2, obind_some, b2i_t, ne10, if_false, r0, h38, if_true, r_wellK ne20]

