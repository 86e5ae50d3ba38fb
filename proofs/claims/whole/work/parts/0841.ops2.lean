/-! ===== calls that set one thing ===== -/
theorem op_setPlatform : OP_setPlatform Inv := by
  intro v1 σ τ ⟨S, hI⟩
  obtain ⟨hW, hR, hM, hS, hC⟩ := id hI
  have h24 := hW.nv
  cases h1 : inN v1 3 with
  | false =>
    refine op_thr (mdl := m_X12_setPlatform v1) (j := 0) (k := 1) (σ1 := σ) (m := σ) (v := 0) (bb := 0) ?_ rfl (by decide) ?_ ⟨S, hI.thrown 1⟩
    · simp only [m_X11_setPlatform, c_up 2 (by decide) (show (2 : Int32) = nI 2 from rfl), h1, obind_some, b2i_f, if_true]
    · simp only [m_X12_setPlatform, m_X12_setPlatform_15, r_inN (n := 2) (by decide) (show (2 : Int32) = nI 2 from rfl), h1, obind_some, b2i_f, if_true, r_wellK ne10]
  | true =>
    obtain ⟨k, hk, rfl⟩ := (inN_t (by omega)).mp h1
    have G : gk [34] S (upS S 34 0 k) := gk.refl.u (by decide)
    have FR : fr [1, 94] σ (up (up (up (up σ 1 10 (nI k)) 94 0 0) 94 5 (nI k)) 94 31 0) := fr_u (fr_u (fr_u (fr_u fr.refl (by decide)) (by decide)) (by decide)) (by decide)
    have E94 : c94 [0, 5, 31] σ (up (up (up (up σ 1 10 (nI k)) 94 0 0) 94 5 (nI k)) 94 31 0) := (((c94.refl.v (by decide)).u (by decide)).u (by decide)).u (by decide)
    have e19 : (up (up (up (up σ 1 10 (nI k)) 94 0 0) 94 5 (nI k)) 94 31 0) 1 9 = σ 1 9 := by
      rw [up_pl _ _ (by decide), up_pl _ _ (by decide), up_pl _ _ (by decide), up_off _ _ (Or.inr (by decide))]
    have h5 : s_plt (upS S 34 0 k) = k := upS_same _ _ _ _
    have e5 : (up (up σ 1 10 (nI k)) 94 0 0) 94 5 = nI (s_plt S) := by rw [up_off _ _ (Or.inr (by decide)), up_pl _ _ (by decide), hM.plt]
    refine op_ok (mdl := m_X12_setPlatform (nI k)) (v := nI (s_plt S)) (σ1 := up σ 1 10 (nI k)) (m := up (up (up (up σ 1 10 (nI k)) 94 0 0) 94 5 (nI k)) 94 31 0) ?_ ?_ ?_ (inv_mk (S := upS S 34 0 k) ⟨hW.1.S (G.on (by decide)), hW.2.1.S (G.on (by decide)), hW.2.2.1.S (G.on (by decide)), hW.2.2.2.1.S (G.on (by decide)), hW.2.2.2.2.x34 (G.on (by decide)) (by rw [h5]; omega)⟩ ⟨hR.1.S (G.on (by decide)) (mk_fr FR (by decide)), hR.2.1.S (G.on (by decide)) (mk_fr FR (by decide)), hR.2.2.1.S (G.on (by decide)) (mk_fr FR (by decide)), hR.2.2.2.1.S (G.on (by decide)) (mk_fr FR (by decide)), hR.2.2.2.2.x34 (G.on (by decide)) (mk_fr FR (by decide)) e19 (by rw [FR 66 (by decide)]) (by rw [FR 66 (by decide)]) ?_⟩ ⟨hM.1.S (G.on (by decide)) (mk_fr FR (by decide)) (E94.on (by decide)), hM.2.1.S (G.on (by decide)) (mk_fr FR (by decide)) (E94.on (by decide)), hM.2.2.1.S (G.on (by decide)) (mk_fr FR (by decide)), hM.2.2.2.1.S (G.on (by decide)) (mk_fr FR (by decide)) (E94.on (by decide)), hM.2.2.2.2.x34 (G.on (by decide)) (mk_fr FR (by decide)) (E94 4 (by decide)) (E94 6 (by decide)) (E94 7 (by decide)) ?_⟩ (hS.chg (G 37 (by decide)) (FR 93 (by decide)) (FR 105 (by decide)) (FR 112 (by decide))) ?_)
    · simp only [m_X11_setPlatform, c_up 2 (by decide) (show (2 : Int32) = nI 2 from rfl), h1, obind_some, b2i_t, ne10, if_false, hR.plt]
    · simp only [m_X12_setPlatform, m_X12_setPlatform_15, r_inN (n := 2) (by decide) (show (2 : Int32) = nI 2 from rfl), h1, obind_some, b2i_t, ne10, if_false, r_well0, e5]
    · rw [up_off _ _ (Or.inr (by decide)), up_off _ _ (Or.inr (by decide)), up_same]
    · rw [h5, up_pl _ _ (by decide), up_pl _ _ (by decide), up_pl _ _ (by decide), up_same]
    · rw [h5, up_off _ _ (Or.inr (by decide)), up_same]
    · exact up_same _ _ _ _
theorem op_unlock : OP_unlock Inv := by
  intro v1 σ τ ⟨S, hI⟩
  obtain ⟨hW, hR, hM, hS, hC⟩ := id hI
  have h24 := hW.nv
  cases h1 : inN v1 6 with
  | false =>
    refine op_thr (mdl := m_X12_unlock v1) (j := 0) (k := 1) (σ1 := σ) (m := σ) (v := 0) (bb := 0) ?_ rfl (by decide) ?_ ⟨S, hI.thrown 1⟩
    · simp only [m_X11_unlock, c_isPackage, h1, obind_some, b2i_f, if_true]
    · simp only [m_X12_unlock, m_X12_unlock_13, r_isPackage, h1, obind_some, b2i_f, if_true, r_wellK ne10]
  | true =>
    obtain ⟨p, hp, rfl⟩ := (inN_t (by omega)).mp h1
    have G : gk [33] S (upS S 33 p 0) := gk.refl.u (by decide)
    have FR : fr [57, 94, 103] σ (up (up (up (up σ 57 p (-1)) 94 0 0) 103 p (-1)) 94 31 0) := fr_u (fr_u (fr_u (fr_u fr.refl (by decide)) (by decide)) (by decide)) (by decide)
    have E94 : c94 [0, 31] σ (up (up (up (up σ 57 p (-1)) 94 0 0) 103 p (-1)) 94 31 0) := (((c94.refl.v (by decide)).u (by decide)).v (by decide)).u (by decide)
    have e5 : ald (up (up σ 57 p (-1)) 94 0 0) 103 6 (nI p) = some (oi (s_lock S p)) := by rw [ald_nI hp (by decide), up_pl _ _ (by decide), up_pl _ _ (by decide), (hM.pkg hp).2.1]
    have lk : ∀ q, s_lock (upS S 33 p 0) q = if q = p then 0 else s_lock S q := fun q => by
      by_cases e : q = p
      · subst e
        rw [if_pos rfl]
        exact upS_same _ _ _ _
      · rw [if_neg e]
        exact upS_j _ _ _ e
    refine op_ok (mdl := m_X12_unlock (nI p)) (v := oi (s_lock S p)) (σ1 := up σ 57 p (-1)) (m := up (up (up (up σ 57 p (-1)) 94 0 0) 103 p (-1)) 94 31 0) ?_ ?_ ?_ (inv_mk (S := upS S 33 p 0) ⟨hW.1.S (G.on (by decide)), hW.2.1.S (G.on (by decide)), hW.2.2.1.S (G.on (by decide)), hW.2.2.2.1.S (G.on (by decide)), hW.2.2.2.2.x33 (G.on (by decide)) ?_⟩ ⟨hR.1.S (G.on (by decide)) (mk_fr FR (by decide)), hR.2.1.S (G.on (by decide)) (mk_fr FR (by decide)), hR.2.2.1.S (G.on (by decide)) (mk_fr FR (by decide)), hR.2.2.2.1.S (G.on (by decide)) (mk_fr FR (by decide)), hR.2.2.2.2.x33 (G.on (by decide)) (mk_fr FR (by decide)) (by rw [FR 1 (by decide)]) (by rw [FR 1 (by decide)]) (by rw [FR 66 (by decide)]) (by rw [FR 66 (by decide)]) ?_⟩ ⟨hM.1.S (G.on (by decide)) (mk_fr FR (by decide)) (E94.on (by decide)), hM.2.1.S (G.on (by decide)) (mk_fr FR (by decide)) (E94.on (by decide)), hM.2.2.1.S (G.on (by decide)) (mk_fr FR (by decide)), hM.2.2.2.1.S (G.on (by decide)) (mk_fr FR (by decide)) (E94.on (by decide)), hM.2.2.2.2.x33 (G.on (by decide)) (mk_fr FR (by decide)) (E94 4 (by decide)) (E94 5 (by decide)) (E94 6 (by decide)) (E94 7 (by decide)) ?_⟩ (hS.chg (G 37 (by decide)) (FR 93 (by decide)) (FR 105 (by decide)) (FR 112 (by decide))) ?_)
    · simp only [m_X11_unlock, c_isPackage, h1, obind_some, b2i_t, ne10, if_false, x_exchange hp (show 6 < 2 ^ 31 by decide), (hR.pkg hp).2.2]
    · simp only [m_X12_unlock, m_X12_unlock_13, r_isPackage, h1, obind_some, b2i_t, ne10, if_false, r_well0, e5, ast_nI hp (show 6 < 2 ^ 31 by decide)]
    · rw [up_off _ _ (Or.inr (by decide)), up_pl _ _ (by decide), up_same]
    · intro q hq
      have g0 : s_nv (upS S 33 p 0) = s_nv S := rfl
      have g1 : s_own (upS S 33 p 0) = s_own S := G 1 (by decide)
      rw [lk q, g0, g1]
      by_cases e : q = p
      · rw [if_pos e]
        exact ⟨Nat.zero_le _, fun h => absurd rfl h⟩
      · rw [if_neg e]
        exact hW.lock hq
    · intro q hq
      have h0 := hR.pkg hq
      have g32 : s_rep (upS S 33 p 0) = s_rep S := G 32 (by decide)
      rw [lk q, g32, s_heir_S (G 32 (by decide)), FR 63 (by decide), FR 65 (by decide)]
      refine ⟨h0.1, h0.2.1, ?_⟩
      rw [up_pl _ _ (by decide), up_pl _ _ (by decide), up_pl _ _ (by decide)]
      by_cases e : q = p
      · subst e
        rw [if_pos rfl, up_same]
        rfl
      · rw [if_neg e, up_off _ _ (Or.inr e)]
        exact h0.2.2
    · intro q hq
      have h0 := hM.pkg hq
      have g32 : s_rep (upS S 33 p 0) = s_rep S := G 32 (by decide)
      have g37 : s_dsk (upS S 33 p 0) = s_dsk S := G 37 (by decide)
      rw [lk q, g32, g37, FR 102 (by decide), FR 104 (by decide)]
      refine ⟨h0.1, ?_, h0.2.2⟩
      rw [up_pl _ _ (by decide)]
      by_cases e : q = p
      · subst e
        rw [if_pos rfl, up_same]
        rfl
      · rw [if_neg e, up_off _ _ (Or.inr e), up_pl _ _ (by decide), up_pl _ _ (by decide)]
        exact h0.2.1
    · exact up_same _ _ _ _
theorem op_spoil : OP_spoil Inv := by
  intro v1 σ τ ⟨S, hI⟩
  obtain ⟨hW, hR, hM, hS, hC⟩ := id hI
  have h24 := hW.nv
  cases h1 : inN v1 6 with
  | false =>
    refine op_thr (mdl := m_X12_spoil v1) (j := 0) (k := 1) (σ1 := σ) (m := σ) (v := 0) (bb := 0) ?_ rfl (by decide) ?_ ⟨S, hI.thrown 1⟩
    · simp only [m_X11_spoil, c_isPackage, h1, obind_some, b2i_f, if_true]
    · simp only [m_X12_spoil, m_X12_spoil_27, r_isPackage, h1, obind_some, b2i_f, if_true, r_wellK ne10]
  | true =>
    obtain ⟨p, hp, rfl⟩ := (inN_t (by omega)).mp h1
    have hd := hW.dsk hp
    have e1 : m_X7_get 91 6 (nI p) σ = some (oi (s_dsk S p), σ) := by rw [x_get hp (by decide), hR.dsk hp]
    have e2 : m_X7_get 93 6 (nI p) σ = some (σ 93 p, σ) := x_get hp (by decide)
    have e3 : ald σ 104 6 (nI p) = some (oi (s_dsk S p)) := by rw [ald_nI hp (by decide), (hM.pkg hp).2.2]
    by_cases h0 : s_dsk S p = 0
    · refine op_thr (mdl := m_X12_spoil (nI p)) (j := 2) (k := 2) (σ1 := σ) (m := σ) (v := 0) (bb := 0) ?_ rfl (by decide) ?_ ⟨S, hI.thrown 2⟩
      · simp only [m_X11_spoil, c_isPackage, h1, obind_some, b2i_t, ne10, if_false, e1, h0, show oi 0 = -1 from rfl, if_true]
      · simp only [m_X12_spoil, m_X12_spoil_27, r_isPackage, h1, obind_some, b2i_t, ne10, if_false, e3, h0, show oi 0 = -1 from rfl, if_true, r_wellK ne20]
    · have G : gk [] S S := gk.refl
      have e4 : (up (up σ 93 p (σ 93 p + 1)) 94 0 0) 105 p = σ 93 p := by rw [up_pl _ _ (by decide), up_pl _ _ (by decide), ← hS.1 p hp h0]
      have e5 : ald (up (up σ 93 p (σ 93 p + 1)) 94 0 0) 105 6 (nI p) = some (σ 93 p) := by rw [ald_nI hp (by decide), e4]
      have e6 : ald (up (up (up σ 93 p (σ 93 p + 1)) 94 0 0) 105 p (σ 93 p + 1)) 105 6 (nI p) = some (σ 93 p + 1) := by rw [ald_nI hp (by decide), up_same]
      have e7 : ald (up σ 93 p (σ 93 p + 1)) 104 6 (nI p) = some (oi (s_dsk S p)) := by rw [ald_nI hp (by decide), up_pl _ _ (by decide), (hM.pkg hp).2.2]
      have FR : fr [93, 94, 105] σ (up (up (up σ 93 p (σ 93 p + 1)) 94 0 0) 105 p (σ 93 p + 1)) := fr_u (fr_u (fr_u fr.refl (by decide)) (by decide)) (by decide)
      have E94 : c94 [0] σ (up (up (up σ 93 p (σ 93 p + 1)) 94 0 0) 105 p (σ 93 p + 1)) := ((c94.refl.v (by decide)).u (by decide)).v (by decide)
      refine op_ok (mdl := m_X12_spoil (nI p)) (v := σ 93 p + 1) (σ1 := up σ 93 p (σ 93 p + 1)) (m := up (up (up σ 93 p (σ 93 p + 1)) 94 0 0) 105 p (σ 93 p + 1)) ?_ ?_ ?_ ⟨S, hW, ⟨hR.1.S (G.on (by decide)) (mk_fr FR (by decide)), hR.2.1.S (G.on (by decide)) (mk_fr FR (by decide)), hR.2.2.1.S (G.on (by decide)) (mk_fr FR (by decide)), hR.2.2.2.1.S (G.on (by decide)) (mk_fr FR (by decide)), hR.2.2.2.2.S (G.on (by decide)) (mk_fr FR (by decide))⟩, ⟨hM.1.S (G.on (by decide)) (mk_fr FR (by decide)) (E94.on (by decide)), hM.2.1.S (G.on (by decide)) (mk_fr FR (by decide)) (E94.on (by decide)), hM.2.2.1.S (G.on (by decide)) (mk_fr FR (by decide)), hM.2.2.2.1.S (G.on (by decide)) (mk_fr FR (by decide)) (E94.on (by decide)), hM.2.2.2.2.S (G.on (by decide)) (mk_fr FR (by decide)) (E94.on (by decide))⟩, ?_, hC.congr (E94 30 (by decide)) (E94 31 (by decide)) (FR 112 (by decide)) (FR 113 (by decide))⟩
      · simp only [m_X11_spoil, c_isPackage, h1, obind_some, b2i_t, ne10, if_false, e1, e2, oi_m1 (show s_dsk S p < 2 ^ 31 by omega), h0, x_set hp (show 6 < 2 ^ 31 by decide)]
      · simp only [m_X12_spoil, m_X12_spoil_27, r_isPackage, h1, obind_some, b2i_t, ne10, if_false, e7, oi_m1 (show s_dsk S p < 2 ^ 31 by omega), h0, r_well0, e5, e6, ast_nI hp (show 6 < 2 ^ 31 by decide)]
      · rw [up_pl _ _ (by decide), up_same]
      · refine ⟨?_, hS.2.congr (FR 112 (by decide))⟩
        intro q hq hdq
        by_cases e : q = p
        · subst e
          rw [up_pl _ _ (by decide), up_pl _ _ (by decide), up_same, up_same]
        · rw [up_pl _ _ (by decide), up_pl _ _ (by decide), up_off _ _ (Or.inr e), up_off _ _ (Or.inr e), up_pl _ _ (by decide), up_pl _ _ (by decide)]
          exact hS.1 q hq hdq
theorem flip_bits {S : SP} {v : Nat} (hv : v < 24) (h1 : s_ynk S v ≤ 1) : nI (setB 24 fun u => s_ynk S u == 1) ^^^ nI (2 ^ v) = nI (setB 24 fun u => (upS S 7 v (1 - s_ynk S v)) 7 u == 1) := by
  rw [nI_xor]
  congr 1
  apply Nat.eq_of_testBit_eq
  intro u
  rw [Nat.testBit_xor, setB_bit, setB_bit, Nat.testBit_two_pow]
  by_cases e : v = u
  · subst e
    rw [upS_same]
    have : s_ynk S v = 0 ∨ s_ynk S v = 1 := by omega
    rcases this with h | h <;> simp [h, hv]
  · rw [upS_j _ _ _ (fun h => e h.symm)]
    simp [e]
theorem op_yank : OP_yank Inv := by
  intro v1 σ τ ⟨S, hI⟩
  obtain ⟨hW, hR, hM, hS, hC⟩ := id hI
  have h24 := hW.nv
  cases h1 : inN v1 (s_nv S) with
  | false =>
    refine op_thrZ (mdl := m_X12_yank v1) (j := 0) (k := 1) (σ1 := σ) (m := σ) (v := 0) (bb := 0) ?_ rfl (by decide) ?_ ⟨S, hI.thrown 1⟩
    · simp only [m_X11_yank, c_isVersion hW hR, h1, obind_some, b2i_f, if_true]
    · simp only [m_X12_yank, m_X12_yank_14, r_isVersion hW hM, h1, obind_some, b2i_f, if_true, r_wellK ne10]
  | true =>
    obtain ⟨v, hv, rfl⟩ := (inN_t (by omega)).mp h1
    have hy := hW.ynk (show v < 24 by omega)
    have G : gk [7] S (upS S 7 v (1 - s_ynk S v)) := gk.refl.u (by decide)
    have FR : fr [2, 94, 95] σ (up (up (up (up σ 2 7 (nI (setB 24 fun u => (upS S 7 v (1 - s_ynk S v)) 7 u == 1))) 94 0 0) 95 (9 * v + 6) (nI (1 - s_ynk S v))) 94 31 0) := fr_u (fr_u (fr_u (fr_u fr.refl (by decide)) (by decide)) (by decide)) (by decide)
    have E94 : c94 [0, 31] σ (up (up (up (up σ 2 7 (nI (setB 24 fun u => (upS S 7 v (1 - s_ynk S v)) 7 u == 1))) 94 0 0) 95 (9 * v + 6) (nI (1 - s_ynk S v))) 94 31 0) := (((c94.refl.v (by decide)).u (by decide)).v (by decide)).u (by decide)
    have e2 : ∀ j, j ≠ 7 → (up (up (up (up σ 2 7 (nI (setB 24 fun u => (upS S 7 v (1 - s_ynk S v)) 7 u == 1))) 94 0 0) 95 (9 * v + 6) (nI (1 - s_ynk S v))) 94 31 0) 2 j = σ 2 j := fun j hj => by
      rw [up_pl _ _ (by decide), up_pl _ _ (by decide), up_pl _ _ (by decide), up_off _ _ (Or.inr hj)]
    have e95 : ∀ j, j ≠ 9 * v + 6 → (up (up (up (up σ 2 7 (nI (setB 24 fun u => (upS S 7 v (1 - s_ynk S v)) 7 u == 1))) 94 0 0) 95 (9 * v + 6) (nI (1 - s_ynk S v))) 94 31 0) 95 j = σ 95 j := fun j hj => by
      rw [up_pl _ _ (by decide), up_off _ _ (Or.inr hj), up_pl _ _ (by decide), up_pl _ _ (by decide)]
    have ya : ∀ u, s_ynk (upS S 7 v (1 - s_ynk S v)) u = if u = v then 1 - s_ynk S v else s_ynk S u := fun u => by
      by_cases e : u = v
      · subst e
        rw [if_pos rfl]
        exact upS_same _ _ _ _
      · rw [if_neg e]
        exact upS_j _ _ _ e
    have g0 : s_nv (upS S 7 v (1 - s_ynk S v)) = s_nv S := rfl
    have g8 : s_plat (upS S 7 v (1 - s_ynk S v)) = s_plat S := G 8 (by decide)
    have g9 : s_nn (upS S 7 v (1 - s_ynk S v)) = s_nn S := G 9 (by decide)
    have c1 : m_X9_toggleYanked (nI v) σ = some (b2i (1 - s_ynk S v == 1), up σ 2 7 (nI (setB 24 fun u => (upS S 7 v (1 - s_ynk S v)) 7 u == 1))) := by
      unfold m_X9_toggleYanked m_X9_isYanked
      rw [obind_some, hR.ynk, one_shl (show v < 31 by omega), flip_bits (by omega) hy, up_same, x_isIn (setB_small _ (by omega)) (by omega), setB_bit, upS_same]
      simp only [obind_some, zchk_b]
      simp [show v < 24 by omega, zchk_b, obind_some]
    have r1 : ald (up (up σ 2 7 (nI (setB 24 fun u => (upS S 7 v (1 - s_ynk S v)) 7 u == 1))) 94 0 0) 95 216 (9 * nI v + 6) = some (nI (s_ynk S v)) := by
      rw [mul_nI (y := 9) 9 rfl, add_nI (y := 6) 6 rfl, ald_nI (by omega) (by decide), up_pl _ _ (by decide), up_pl _ _ (by decide), hM.ynk (by omega)]
    have r2 : (1 : Int32) - nI (s_ynk S v) = nI (1 - s_ynk S v) := pk_sub (a := 1) hy
    have r3 : 9 * nI v + 6 = nI (9 * v + 6) := by rw [mul_nI (y := 9) 9 rfl, add_nI (y := 6) 6 rfl]
    have r4 : ∀ (σ1 : Mem) (x : Int32), ast σ1 95 216 (9 * nI v + 6) x = some (up σ1 95 (9 * v + 6) x) := fun σ1 x => by rw [r3, ast_nI (by omega) (by decide)]
    have r5 : ald (up (up (up (up σ 2 7 (nI (setB 24 fun u => (upS S 7 v (1 - s_ynk S v)) 7 u == 1))) 94 0 0) 95 (9 * v + 6) (nI (1 - s_ynk S v))) 94 31 0) 95 216 (9 * nI v + 6) = some (nI (1 - s_ynk S v)) := by rw [r3, ald_nI (by omega) (by decide), up_pl _ _ (by decide), up_same]
    refine op_okZ (mdl := m_X12_yank (nI v)) (v := b2i (1 - s_ynk S v == 1)) (σ1 := up σ 2 7 (nI (setB 24 fun u => (upS S 7 v (1 - s_ynk S v)) 7 u == 1))) (m := up (up (up (up σ 2 7 (nI (setB 24 fun u => (upS S 7 v (1 - s_ynk S v)) 7 u == 1))) 94 0 0) 95 (9 * v + 6) (nI (1 - s_ynk S v))) 94 31 0) ?_ ?_ ?_ (inv_mk (S := upS S 7 v (1 - s_ynk S v)) ⟨hW.1.x7 (G.on (by decide)) ?_ ?_, hW.2.1.S (G.on (by decide)), hW.2.2.1.S (G.on (by decide)), hW.2.2.2.1.S (G.on (by decide)), hW.2.2.2.2.S (G.on (by decide))⟩ ⟨hR.1.x7 (G.on (by decide)) (mk_fr FR (by decide)) (e2 8 (by decide)) (e2 9 (by decide)) (e2 10 (by decide)) ?_, hR.2.1.S (G.on (by decide)) (mk_fr FR (by decide)), hR.2.2.1.S (G.on (by decide)) (mk_fr FR (by decide)), hR.2.2.2.1.S (G.on (by decide)) (mk_fr FR (by decide)), hR.2.2.2.2.S (G.on (by decide)) (mk_fr FR (by decide))⟩ ⟨hM.1.x7 (G.on (by decide)) (mk_fr FR (by decide)) (E94 1 (by decide)) ?_ ?_, hM.2.1.S (G.on (by decide)) (mk_fr FR (by decide)) (E94.on (by decide)), hM.2.2.1.S (G.on (by decide)) (mk_fr FR (by decide)), hM.2.2.2.1.S (G.on (by decide)) (mk_fr FR (by decide)) (E94.on (by decide)), hM.2.2.2.2.S (G.on (by decide)) (mk_fr FR (by decide)) (E94.on (by decide))⟩ (hS.chg (G 37 (by decide)) (FR 93 (by decide)) (FR 105 (by decide)) (FR 112 (by decide))) ?_)
    · simp only [m_X11_yank, c_isVersion hW hR, h1, obind_some, b2i_t, ne10, if_false, c1, zchk_b]
    · have r6 : m_X12_isVersion (nI v) (up σ 2 7 (nI (setB 24 fun u => (upS S 7 v (1 - s_ynk S v)) 7 u == 1))) = some (1, up σ 2 7 (nI (setB 24 fun u => (upS S 7 v (1 - s_ynk S v)) 7 u == 1))) := by
        rw [r_isVersion hW (hM.fr (fr.up (l := [2]) (by simp)) (by decide) (by decide)), h1]
        rfl
      simp only [m_X12_yank, m_X12_yank_14, r6, obind_some, ne10, if_false, r_well0, r1, r2, r4, r5, nI_o (show 1 - s_ynk S v < 2 ^ 31 by omega)]
      by_cases e : 1 - s_ynk S v = 1
      · rw [if_pos e, e]
        rfl
      · rw [if_neg e, show (1 - s_ynk S v == 1) = false from by simpa using e]
        rfl
    · rw [up_off _ _ (Or.inr (by decide)), up_pl _ _ (by decide), up_same]
    · intro u hu
      rw [ya u, g8, g9]
      have := hW.1.2.2.1 u hu
      refine ⟨?_, this.2⟩
      split
      · omega
      · exact this.1
    · intro u hu hu2
      rw [g0] at hu
      rw [ya u, g8, g9, if_neg (by omega)]
      exact hW.fresh hu hu2
    · rw [up_pl _ _ (by decide), up_pl _ _ (by decide), up_pl _ _ (by decide), up_same]
    · intro u hu
      rw [g0] at hu
      rw [e95 _ (by omega), e95 _ (by omega), e95 _ (by omega), e95 _ (by omega), e95 _ (by omega), e95 _ (by omega), e95 _ (by omega)]
      exact hM.ver hu
    · intro u hu
      rw [ya u, g9, e95 (9 * u + 8) (by omega)]
      refine ⟨?_, hM.nn hu⟩
      by_cases e : u = v
      · subst e
        rw [if_pos rfl, up_pl _ _ (by decide), up_same]
      · rw [if_neg e, e95 _ (by omega)]
        exact hM.ynk hu
    · exact up_same _ _ _ _
