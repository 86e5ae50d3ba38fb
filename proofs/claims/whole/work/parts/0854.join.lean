/-! ===== range, join: the calls ===== -/
section JOIN
variable {S : SP} {σ : Mem}
theorem r_rangeBad {v1 v2 v3 v4 v5 : Int32} (h1 : inN v1 8 = false) : m_X12_range v1 v2 v3 v4 v5 σ = some (0, up σ 94 0 1) := by
  have n3 : ¬ v1 = 3 := fun e => by
    rw [e] at h1
    revert h1
    decide
  have n6 : ¬ v1 = 6 := fun e => by
    rw [e] at h1
    revert h1
    decide
  have n7 : ¬ v1 = 7 := fun e => by
    rw [e] at h1
    revert h1
    decide
  have h131 : ∀ s0, m_X12_range_131 v1 v2 v3 v4 v5 s0 σ = some (0, up σ 94 0 1) := fun s0 => by
    unfold m_X12_range_131
    rw [r_inN (n := 7) (by decide) (show (7 : Int32) = nI 7 from rfl), h1, obind_s, if_pos (show b2i false = 0 from rfl)]
    unfold m_X12_range_171
    rw [r_wellK ne10, obind_s, if_pos rfl]
  have h130 : m_X12_range_130 v1 v2 v3 v4 v5 σ = some (0, up σ 94 0 1) := h131 0
  unfold m_X12_range
  rw [if_neg n3]
  unfold m_X12_range_10
  rw [if_neg ne10, if_neg n6]
  unfold m_X12_range_28
  rw [if_neg ne10, if_neg n7]
  unfold m_X12_range_46
  rw [if_neg ne10]
  unfold m_X12_range_61
  rw [r_inN (n := 9) (by decide) (show (9 : Int32) = nI 9 from rfl), obind_s]
  cases inN v2 10 with
  | false =>
    rw [if_pos (show b2i false = 0 from rfl)]
    exact h130
  | true =>
    rw [if_neg (show ¬ b2i true = 0 by decide), if_neg ne10]
    unfold m_X12_range_80
    dsimp only
    rw [r_inN (n := 9) (by decide) (show (9 : Int32) = nI 9 from rfl), obind_s]
    cases inN v3 10 with
    | false =>
      rw [if_pos (show b2i false = 0 from rfl)]
      exact h130
    | true =>
      rw [if_neg (show ¬ b2i true = 0 by decide), if_neg ne10]
      unfold m_X12_range_100
      dsimp only
      rw [r_inN (n := 9) (by decide) (show (9 : Int32) = nI 9 from rfl), obind_s]
      cases inN v4 10 with
      | false =>
        rw [if_pos (show b2i false = 0 from rfl)]
        exact h130
      | true =>
        rw [if_neg (show ¬ b2i true = 0 by decide), if_neg ne10]
        unfold m_X12_range_120
        dsimp only
        rw [r_inN (n := 9) (by decide) (show (9 : Int32) = nI 9 from rfl), obind_s]
        cases inN v5 10 with
        | false =>
          rw [if_pos (show b2i false = 0 from rfl)]
          exact h130
        | true =>
          rw [if_neg (show ¬ b2i true = 0 by decide)]
          exact h131 1
theorem fromK_lt {k a b c p : Nat} (ha : a ≤ 9) (hb : b ≤ 9) (hc : c ≤ 9) (hp : p ≤ 9) : fromK k a b c p < 65536 := by
  unfold fromK
  split
  · omega
  · exact rk4_lt (by omega) (by omega) (by omega) hp
theorem endK_lt {k a b c p : Nat} (ha : a ≤ 9) (hb : b ≤ 9) (hc : c ≤ 9) (hp : p ≤ 9) : endK k a b c p ≤ 65536 := by
  have h1 : rk4 a b c p < 65536 := rk4_lt (by omega) (by omega) (by omega) hp
  have h2 : rk4 (a + 1) 0 0 0 < 65536 := rk4_lt (by omega) (by omega) (by omega) (by omega)
  have h3 : rk4 0 (b + 1) 0 0 < 65536 := rk4_lt (by omega) (by omega) (by omega) (by omega)
  have h4 : rk4 0 0 (c + 1) 0 < 65536 := rk4_lt (by omega) (by omega) (by omega) (by omega)
  have h5 : rk4 a (b + 1) 0 0 < 65536 := rk4_lt (by omega) (by omega) (by omega) (by omega)
  unfold endK
  repeat' split
  all_goals omega
theorem triK_lt {a b c p : Nat} (ha : a ≤ 9) (hb : b ≤ 9) (hc : c ≤ 9) : triK a b c p < 65536 := by
  unfold triK
  split <;> omega
theorem c_163 {k a b c p : Nat} {x : Int32} (hk : k < 8) (ha : a ≤ 9) (hb : b ≤ 9) (hc : c ≤ 9) (hp : p ≤ 9) : m_X11_range_163 (nI k) (nI a) (nI b) (nI c) (nI p) (nI (rk4 a b c p)) x σ = obind (m_X6_add x (nI (endK k a b c p)) (oi (triK a b c p)) σ) fun x1 => some ((0, x1.1), x1.2) := by
  have hlt : rk4 a b c p < 65536 := rk4_lt (by omega) (by omega) (by omega) hp
  unfold m_X11_range_163
  rw [c_endOf hk ha hb hc hp, obind_s]
  by_cases h0 : p = 0
  · rw [if_pos (show nI p = 0 by rw [h0]; rfl)]
    have ht : triK a b c p = 0 := if_pos h0
    rw [ht]
    rfl
  · rw [if_neg (show ¬ nI p = 0 from fun e => h0 ((nI_z (by omega)).mp e))]
    have ht : oi (triK a b c p) = nI (rk4 a b c p / 16) := by
      unfold triK rk4
      rw [if_neg h0, if_neg h0, oi_s]
      congr 1
      omega
    unfold m_X11_triple
    dsimp only
    rw [nI_sr4 (by omega), obind_s, ht]
    rfl
theorem c_add {nr fr0 en tri : Nat} (hW : WF S) (hR : RC S σ) (hnr : nr = s_nr S) (hn : nr < 30) (b1 : fr0 < 2 ^ 20) (b2 : en < 2 ^ 20) (b3 : tri < 2 ^ 20) : ∃ M, m_X6_add (nI fr0) (nI en) (oi tri) σ = some (nI nr, M) ∧ fr [17, 21, 23, 25, 31] σ M ∧ M 17 7 = nI (nr + 1) ∧ (∀ q, q ∈ [19, 21, 23, 25, 27, 29, 31] → ∀ j, j ≠ nr → M q j = σ q j) ∧ M 31 nr = nI (setB (s_nv S) fun v => rchK fr0 en tri (s_rank S v)) ∧ M 21 nr = nI fr0 ∧ M 23 nr = nI en ∧ M 25 nr = oi tri := by
  have h24 := hW.nv
  obtain ⟨m, hm⟩ : ∃ m : Mem, m = up (up (up σ 21 nr (nI fr0)) 23 nr (nI en)) 25 nr (oi tri) := ⟨_, rfl⟩
  have F : fr [21, 23, 25] σ m := by rw [hm]; exact fr_u (fr_u (fr_u fr.refl (by decide)) (by decide)) (by decide)
  have m21 : ∀ j, m 21 j = (up σ 21 nr (nI fr0)) 21 j := fun j => by rw [hm, up_pl _ _ (by decide), up_pl _ _ (by decide)]
  have m23 : ∀ j, m 23 j = (up (up σ 21 nr (nI fr0)) 23 nr (nI en)) 23 j := fun j => by rw [hm, up_pl _ _ (by decide)]
  have h17 : σ 17 7 = nI nr := by rw [hnr]; exact hR.nr
  obtain ⟨M, q1, q2, q3, q4, q5⟩ := c_add39 (σ := m) (nv := s_nv S) (nr := nr) (fr0 := fr0) (en := en) (tri := tri) (rk := s_rank S) h24 hn (by rw [F 2 (by decide)]; exact hR.nv) (fun v hv => by rw [F 6 (by decide)]; exact hR.rank hv) (by rw [F 17 (by decide)]; exact h17) (by rw [m21, up_same]) (by rw [m23, up_same]) (by rw [hm, up_same]) (by rw [F 31 (by decide)]; exact (hR.rfree (by omega) hn).1) b1 b2 b3 (fun v hv => by have := hW.rank hv; omega)
  refine ⟨M, ?_, (F.mono (by decide)).trans (q2.mono (by decide)), q3, fun q hq j hj => ?_, q5, ?_, ?_, ?_⟩
  · unfold m_X6_add
    rw [h17, obind_s, x_set hn (by decide), obind_s]
    dsimp only
    rw [x_set hn (by decide), obind_s]
    dsimp only
    rw [x_set hn (by decide), obind_s]
    dsimp only
    rw [← hm]
    exact q1
  · simp at hq
    rcases hq with rfl | rfl | rfl | rfl | rfl | rfl | rfl
    · rw [q2 19 (by decide), F 19 (by decide)]
    · rw [q2 21 (by decide), m21, up_off _ _ (Or.inr hj)]
    · rw [q2 23 (by decide), m23, up_off _ _ (Or.inr hj), up_pl _ _ (by decide)]
    · rw [q2 25 (by decide), hm, up_off _ _ (Or.inr hj), up_pl _ _ (by decide), up_pl _ _ (by decide)]
    · rw [q2 27 (by decide), F 27 (by decide)]
    · rw [q2 29 (by decide), F 29 (by decide)]
    · rw [q4 j hj, F 31 (by decide)]
  · rw [q2 21 (by decide), m21, up_same]
  · rw [q2 23 (by decide), m23, up_same]
  · rw [q2 25 (by decide), hm, up_same]
theorem op_range : OP_range Inv := by
  intro v1 v2 v3 v4 v5 σ τ ⟨S, hI⟩
  obtain ⟨hW, hR, hM, hS, hC⟩ := id hI
  have h24 := hW.nv
  have h30 := hW.nr
  cases h1 : inN v1 8 with
  | false =>
    refine op_thr (mdl := m_X12_range v1 v2 v3 v4 v5) (j := 0) (k := 1) (σ1 := σ) (m := σ) (v := 0) (bb := 0) ?_ rfl (by decide) (r_rangeBad h1) ⟨S, hI.thrown 1⟩
    unfold m_X11_range
    rw [c_up 7 (by decide) (show (7 : Int32) = nI 7 from rfl), h1, obind_s, if_pos (show b2i false = 0 from rfl)]
  | true =>
    obtain ⟨k, hk, rfl⟩ := (inN_t (by omega)).mp h1
    have ch := c_rangeHead (v2 := v2) (v3 := v3) (v4 := v4) (v5 := v5) hk h30 hR.nr
    have rh : ∀ σ9, RM S σ9 → _ := fun σ9 (h9 : RM S σ9) => r_rangeHead (v2 := v2) (v3 := v3) (v4 := v4) (v5 := v5) hk h9.nr h30
    have two : ∀ σ9, m_X12_range_171 (nI k) v2 v3 v4 v5 2 σ9 = some (0, up σ9 94 0 2) := fun σ9 => by
      unfold m_X12_range_171
      rw [r_wellK ne20, obind_s, if_pos rfl]
    have bad : m_X11_range (nI k) v2 v3 v4 v5 σ = some ((2, 0), σ) → m_X12_range (nI k) v2 v3 v4 v5 σ = m_X12_range_171 (nI k) v2 v3 v4 v5 2 σ → ∃ (k1 : Int32) (τ' : Nat → Int64) (σ1 : Mem) (bb : Int32) (m2 m3 : Mem), w_range (nI k) v2 v3 v4 v5 σ τ = some ((k1, τ'), σ1) ∧ m_X12_range (nI k) v2 v3 v4 v5 σ1 = some (bb, m2) ∧ m_X12_thrown m2 = some (k1, m3) ∧ (k1 = 0 → τ' 0 = bb.toInt64) ∧ Inv m3 := fun g1 g2 => op_thr (mdl := m_X12_range (nI k) v2 v3 v4 v5) (j := 1) (k := 2) (σ1 := σ) (m := σ) (v := 0) (bb := 0) g1 rfl (by decide) (by rw [g2, two]) ⟨S, hI.thrown 2⟩
    have rh0 := rh σ hM
    cases g2 : inN v2 (dA k + 1) with
    | false => exact bad (by rw [ch, if_pos g2]) (by rw [rh0, if_pos g2])
    | true =>
      have t2 : ¬ inN v2 (dA k + 1) = false := by rw [g2]; decide
      rw [if_neg t2] at ch rh0
      cases g3 : inN v3 (dB k + 1) with
      | false => exact bad (by rw [ch, if_pos g3]) (by rw [rh0, if_pos g3])
      | true =>
        have t3 : ¬ inN v3 (dB k + 1) = false := by rw [g3]; decide
        rw [if_neg t3] at ch rh0
        cases g4 : inN v4 (dC k + 1) with
        | false => exact bad (by rw [ch, if_pos g4]) (by rw [rh0, if_pos g4])
        | true =>
          have t4 : ¬ inN v4 (dC k + 1) = false := by rw [g4]; decide
          rw [if_neg t4] at ch rh0
          cases g5 : inN v5 (dC k + 1) with
          | false => exact bad (by rw [ch, if_pos g5]) (by rw [rh0, if_pos g5])
          | true =>
            have t5 : ¬ inN v5 (dC k + 1) = false := by rw [g5]; decide
            rw [if_neg t5] at ch rh0
            have dA9 : dA k ≤ 9 := by unfold dA; split <;> omega
            have dB9 : dB k ≤ 9 := by unfold dB; split <;> omega
            have dC9 : dC k ≤ 9 := by unfold dC; split <;> omega
            obtain ⟨a, ha, rfl⟩ := (inN_t (by omega)).mp g2
            obtain ⟨b, hb, rfl⟩ := (inN_t (by omega)).mp g3
            obtain ⟨c, hc, rfl⟩ := (inN_t (by omega)).mp g4
            obtain ⟨p, hp, rfl⟩ := (inN_t (by omega)).mp g5
            by_cases hn : s_nr S < 30
            · rw [if_pos hn] at ch
              have hlow : a ≤ 9 ∧ b ≤ 9 ∧ c ≤ 9 ∧ p ≤ 9 ∧ (k = 3 ∨ k = 6 ∨ k = 7 → p = 0) ∧ (k = 6 → b = 0) ∧ (k = 6 ∨ k = 7 → c = 0) := by
                refine ⟨by omega, by omega, by omega, by omega, fun h => ?_, fun h => ?_, fun h => ?_⟩
                · have : dC k = 0 := if_pos h
                  omega
                · have : dB k = 0 := if_pos (Or.inr h)
                  omega
                · have : dC k = 0 := if_pos (Or.inr h)
                  omega
              obtain ⟨l1, l2, l3, l4, l5, l6, l7⟩ := hlow
              have hF := fromK_lt (k := k) l1 l2 l3 l4
              have hE := endK_lt (k := k) l1 l2 l3 l4
              have hT := triK_lt (p := p) l1 l2 l3
              obtain ⟨MC, q1, q2, q3, q4, q5, q6, q7, q8⟩ := c_add (fr0 := fromK k a b c p) (en := endK k a b c p) (tri := triK a b c p) hW hR rfl hn (by omega) (by omega) (by omega)
              have hMC := hM.fr q2 (by decide) (by decide)
              obtain ⟨σb, hσb⟩ : ∃ σb : Mem, σb = up MC 94 0 0 := ⟨_, rfl⟩
              have hMb : RM S σb := by
                rw [hσb]
                exact hMC.congr (fun k hk => up_pl _ _ (fun e => by subst e; revert hk; decide)) (fun j hj => up_off _ _ (Or.inr (fun e => by subst e; revert hj; decide)))
              obtain ⟨M, r1, r2, r3, r4, r5, r6, r7, r8⟩ := r_addRange (σ := σb) (S := S) (nr := s_nr S) (k := k) (a := a) (b := b) (c := c) (p := p) (inn := fun v => s_reach k a b c p (s_a S v) (s_b S v) (s_c S v) (s_pre S v)) hMb.1 h24 hn hMb.nr (fun M' f1 f2 f3 f4 v hv => r_isInLow hW.1 f2 hn hv hk l1 l2 l3 l4 f3)
              have Fb : fr [17, 21, 23, 25, 31, 94] σ σb := by rw [hσb]; exact fr_u (q2.mono (by decide)) (by decide)
              have Eb : c94 [0] σ σb := by
                have h : c94 [0] σ MC := fun j _ => by rw [q2 94 (by decide)]
                rw [hσb]
                exact h.u (by decide)
              have FR : fr [17, 19, 21, 23, 25, 27, 29, 31, 94, 98, 99] σ M := (Fb.mono (by decide)).trans (r2.mono (by decide))
              have E94 : c94 [0, 2] σ M := fun j hj => by
                rw [r3 j (fun h => hj (by rw [List.mem_singleton] at h; rw [h]; decide)), Eb j (fun h => hj (by rw [List.mem_singleton] at h; rw [h]; decide))]
              have mb : ∀ q, q ≠ 94 → q ≠ 98 → q ≠ 99 → M q = MC q := fun q w1 w2 w3 => by
                rw [r2 q (by simp; omega), hσb, up_pl _ _ w1]
              have key : Inv M := addR_inv (inn := fun v => s_reach k a b c p (s_a S v) (s_b S v) (s_c S v) (s_pre S v)) (k := k) (a := a) (b := b) (c := c) (p := p) hI hn (by omega) (fun _ => ⟨l1, l2, l3, l4, l5, l6, l7⟩) (fun h => by omega) (fun v hv => by
                  unfold innR
                  rw [if_neg (show ¬ k = 8 by omega), if_neg (show ¬ k = 9 by omega)]) FR E94 (by rw [mb 17 (by decide) (by decide) (by decide)]; exact q3) (fun q hq j hj => by
                  rw [mb q (by revert hq; simp; omega) (by revert hq; simp; omega) (by revert hq; simp; omega)]
                  exact q4 q hq j hj) (by
                  rw [mb 31 (by decide) (by decide) (by decide), q5]
                  congr 1
                  refine setB_congr fun v hv => ?_
                  obtain ⟨w1, w2, w3, w4, -⟩ := hW.abc hv
                  exact reach_eq hk l1 l2 l3 l4 w1 w2 w3 w4 l5 l6 l7) (fun _ => by
                  obtain ⟨-, u1, u2, u3⟩ := hR.rfree (Nat.le_refl _) hn
                  rw [mb 19 (by decide) (by decide) (by decide), mb 27 (by decide) (by decide) (by decide), mb 29 (by decide) (by decide) (by decide), mb 21 (by decide) (by decide) (by decide), mb 23 (by decide) (by decide) (by decide), mb 25 (by decide) (by decide) (by decide), q2 19 (by decide), q2 27 (by decide), q2 29 (by decide)]
                  exact ⟨u1, u2, u3, q6, q7, q8⟩) (fun h => by omega) r4 (fun j hj => by rw [r5 j hj, hσb, up_pl _ _ (by decide), q2 98 (by decide)]) r6 (fun j hj => by rw [r7 j hj, hσb, up_pl _ _ (by decide), q2 99 (by decide)]) r8
              refine op_ok (mdl := m_X12_range (nI k) (nI a) (nI b) (nI c) (nI p)) (v := nI (s_nr S)) (σ1 := MC) (m := M) ?_ ?_ ?_ key
              · rw [ch]
                unfold rgK
                rw [c_rankOf (by omega) (by omega) (by omega) l4, obind_s]
                dsimp only
                have fin : ∀ x : Int32, x = nI (fromK k a b c p) → m_X11_range_163 (nI k) (nI a) (nI b) (nI c) (nI p) (nI (rk4 a b c p)) x σ = some ((0, nI (s_nr S)), MC) := fun x hx => by
                  rw [c_163 hk l1 l2 l3 l4, hx, q1, obind_s]
                have e2 : nI k = 2 ↔ k = 2 := nI_eq (b := 2) (by omega) (by decide)
                have e3 : nI k = 3 ↔ k = 3 := nI_eq (b := 3) (by omega) (by decide)
                by_cases w2 : k = 2
                · rw [if_pos (e2.mpr w2)]
                  exact fin 0 (by unfold fromK; rw [if_pos (Or.inl w2)]; rfl)
                · rw [if_neg (fun e => w2 (e2.mp e))]
                  by_cases w3 : k = 3
                  · rw [if_pos (e3.mpr w3)]
                    exact fin 0 (by unfold fromK; rw [if_pos (Or.inr w3)]; rfl)
                  · rw [if_neg (fun e => w3 (e3.mp e))]
                    exact fin _ (by unfold fromK; rw [if_neg (show ¬ (k = 2 ∨ k = 3) by omega)])
              · rw [rh MC hMC, if_neg t2, if_neg t3, if_neg t4, if_neg t5, if_neg (show ¬ s_nr S = 30 by omega)]
                unfold m_X12_range_171
                rw [r_well0, obind_s, if_neg ne10]
                dsimp only
                rw [← hσb, r1, obind_s]
              · rw [r3 0 (by decide), hσb, up_same]
            · rw [if_neg hn] at ch
              refine op_thr (mdl := m_X12_range (nI k) (nI a) (nI b) (nI c) (nI p)) (j := 2) (k := 3) (σ1 := σ) (m := σ) (v := 0) (bb := 0) ch rfl (by decide) ?_ ⟨S, hI.thrown 3⟩
              rw [rh0, if_pos (show s_nr S = 30 by omega)]
              unfold m_X12_range_171
              rw [r_wellK ne30, obind_s, if_pos rfl]
/-! join -/
theorem r_in89 {x : Int32} : m_X12_in x 8 9 σ = some (b2i (decide (x = 8 ∨ x = 9)), σ) := by
  unfold m_X12_in
  by_cases h1 : x < 8
  · have : ¬ (x = 8 ∨ x = 9) := by
      rintro (e | e) <;> (rw [e] at h1; revert h1; decide)
    rw [if_pos h1, decide_eq_false this]
    rfl
  · by_cases h2 : (9 : Int32) < x
    · have : ¬ (x = 8 ∨ x = 9) := by
        rintro (e | e) <;> (rw [e] at h2; revert h2; decide)
      rw [if_neg h1, if_pos h2, decide_eq_false this]
      rfl
    · have : x = 8 ∨ x = 9 := by
        rw [Int32.lt_iff_toInt_lt, show (8 : Int32).toInt = 8 from by decide] at h1
        rw [Int32.lt_iff_toInt_lt, show (9 : Int32).toInt = 9 from by decide] at h2
        by_cases h3 : x.toInt = 8
        · exact Or.inl (Int32.toInt_inj.mp (by rw [h3]; decide))
        · exact Or.inr (Int32.toInt_inj.mp (by rw [show x.toInt = 9 by omega]; decide))
      rw [if_neg h1, if_neg h2, decide_eq_true this]
      rfl
theorem setB_and (n : Nat) (f g : Nat → Bool) : setB n f &&& setB n g = setB n fun v => f v && g v := by
  apply Nat.eq_of_testBit_eq
  intro i
  rw [Nat.testBit_and, setB_bit, setB_bit, setB_bit]
  cases decide (i < n) <;> simp
theorem setB_or (n : Nat) (f g : Nat → Bool) : setB n f ||| setB n g = setB n fun v => f v || g v := by
  apply Nat.eq_of_testBit_eq
  intro i
  rw [Nat.testBit_or, setB_bit, setB_bit, setB_bit]
  cases decide (i < n) <;> simp
theorem has_b (hW : WF S) {r v : Nat} (hr : r < s_nr S) (hv : v < s_nv S) : nI (s_has S (24 * r + v)) = b2i (s_has S (24 * r + v) == 1) := by
  have h1 := hW.has1 hr hv
  rcases (show s_has S (24 * r + v) = 0 ∨ s_has S (24 * r + v) = 1 by omega) with e | e <;> rw [e] <;> rfl
theorem op_join : OP_join Inv := by
  intro v1 v2 v3 σ τ ⟨S, hI⟩
  obtain ⟨hW, hR, hM, hS, hC⟩ := id hI
  have h24 := hW.nv
  have h30 := hW.nr
  have bad : m_X11_join v1 v2 v3 σ = some ((1, 0), σ) → m_X12_join v1 v2 v3 σ = m_X12_join_58 v1 v2 v3 1 σ → ∃ (k1 : Int32) (τ' : Nat → Int64) (σ1 : Mem) (bb : Int32) (m2 m3 : Mem), w_join v1 v2 v3 σ τ = some ((k1, τ'), σ1) ∧ m_X12_join v1 v2 v3 σ1 = some (bb, m2) ∧ m_X12_thrown m2 = some (k1, m3) ∧ (k1 = 0 → τ' 0 = bb.toInt64) ∧ Inv m3 := fun g1 g2 => op_thr (mdl := m_X12_join v1 v2 v3) (j := 0) (k := 1) (σ1 := σ) (m := σ) (v := 0) (bb := 0) g1 rfl (by decide) (by
    rw [g2]
    unfold m_X12_join_58
    rw [r_wellK ne10, obind_s, if_pos rfl]) ⟨S, hI.thrown 1⟩
  have b31 : m_X12_join_31 v1 v2 v3 σ = m_X12_join_58 v1 v2 v3 1 σ := by
    unfold m_X12_join_31 m_X12_join_32
    rw [if_pos rfl]
  by_cases hk : v1 = 8 ∨ v1 = 9
  · have ch : m_X11_join v1 v2 v3 σ = m_X11_join_12 v1 v2 v3 σ := by
      unfold m_X11_join
      by_cases e : v1 = 8
      · rw [if_pos e]
      · rw [if_neg e, if_pos (hk.resolve_left e)]
    obtain ⟨k, hk2, rfl⟩ : ∃ k, (k = 8 ∨ k = 9) ∧ v1 = nI k := by
      rcases hk with h | h
      · exact ⟨8, Or.inl rfl, h⟩
      · exact ⟨9, Or.inr rfl, h⟩
    have rh : ∀ σ9, m_X12_join (nI k) v2 v3 σ9 = obind (m_X12_isRange v2 σ9) fun x2 => if x2.1 = 0 then m_X12_join_31 (nI k) v2 v3 x2.2 else obind (m_X12_isRange v3 x2.2) fun x3 => if x3.1 = 0 then m_X12_join_31 (nI k) v2 v3 x3.2 else m_X12_join_32 (nI k) v2 v3 1 x3.2 := fun σ9 => by
      unfold m_X12_join
      rw [r_in89, decide_eq_true hk, obind_s, if_neg (show ¬ b2i true = 0 by decide)]
    cases h2 : inN v2 (s_nr S) with
    | false =>
      refine bad ?_ ?_
      · rw [ch]
        unfold m_X11_join_12
        rw [c_isRange hW hR, h2, obind_s, if_pos (show b2i false = 0 from rfl)]
      · rw [rh, r_isRange hW hM, h2, obind_s, if_pos (show b2i false = 0 from rfl)]
        exact b31
    | true =>
      obtain ⟨a, ha, rfl⟩ := (inN_t (by omega)).mp h2
      cases h3 : inN v3 (s_nr S) with
      | false =>
        refine bad ?_ ?_
        · rw [ch]
          unfold m_X11_join_12
          rw [c_isRange hW hR, h2, obind_s, if_neg (show ¬ b2i true = 0 by decide)]
          dsimp only
          rw [c_isRange hW hR, h3, obind_s, if_pos (show b2i false = 0 from rfl)]
        · rw [rh, r_isRange hW hM, h2, obind_s, if_neg (show ¬ b2i true = 0 by decide)]
          dsimp only
          rw [r_isRange hW hM, h3, obind_s, if_pos (show b2i false = 0 from rfl)]
          exact b31
      | true =>
        obtain ⟨b, hb, rfl⟩ := (inN_t (by omega)).mp h3
        have ch2 : m_X11_join (nI k) (nI a) (nI b) σ = if s_nr S < 30 then obind (m_X6_addJoined (nI k) (nI a) (nI b) σ) fun x4 => some ((0, x4.1), x4.2) else some ((3, 0), σ) := by
          rw [ch]
          unfold m_X11_join_12
          rw [c_isRange hW hR, h2, obind_s, if_neg (show ¬ b2i true = 0 by decide)]
          dsimp only
          rw [c_isRange hW hR, h3, obind_s, if_neg (show ¬ b2i true = 0 by decide)]
          unfold m_X6_isFull
          dsimp only
          have e17 : σ 17 7 < 30 ↔ s_nr S < 30 := by
            rw [hR.nr]
            exact nI_ltI (b := 30) (by omega) (by decide)
          by_cases h : s_nr S < 30
          · rw [if_pos (e17.mpr h), if_pos h, obind_s, if_pos rfl]
          · rw [if_neg (fun e => h (e17.mp e)), if_neg h, obind_s, if_neg (show ¬ (1 : Int32) = 0 from ne10)]
        have rh2 : ∀ σ9, RM S σ9 → m_X12_join (nI k) (nI a) (nI b) σ9 = if s_nr S = 30 then m_X12_join_58 (nI k) (nI a) (nI b) 2 σ9 else m_X12_join_58 (nI k) (nI a) (nI b) 0 σ9 := fun σ9 h9 => by
          rw [rh, r_isRange hW h9, h2, obind_s, if_neg (show ¬ b2i true = 0 by decide)]
          dsimp only
          rw [r_isRange hW h9, h3, obind_s, if_neg (show ¬ b2i true = 0 by decide)]
          unfold m_X12_join_32
          rw [if_neg ne10]
          have e30 : σ9 94 2 = 30 ↔ s_nr S = 30 := by
            rw [h9.nr]
            exact nI_eq (b := 30) (by omega) (by decide)
          by_cases h : s_nr S = 30
          · rw [if_pos (show (b2i true, σ9).2 94 2 = 30 from e30.mpr h), if_pos h]
          · rw [if_neg (show ¬ (b2i true, σ9).2 94 2 = 30 from fun e => h (e30.mp e)), if_neg h]
        by_cases hn : s_nr S < 30
        · rw [if_pos hn] at ch2
          obtain ⟨nr, hnr⟩ : ∃ nr, nr = s_nr S := ⟨_, rfl⟩
          obtain ⟨inn, hinn⟩ : ∃ inn : Nat → Bool, inn = fun v => if k = 8 then s_has S (24 * a + v) == 1 && s_has S (24 * b + v) == 1 else s_has S (24 * a + v) == 1 || s_has S (24 * b + v) == 1 := ⟨_, rfl⟩
          obtain ⟨m3, hm3⟩ : ∃ m3 : Mem, m3 = up (up (up σ 19 nr (nI k)) 27 nr (nI a)) 29 nr (nI b) := ⟨_, rfl⟩
          obtain ⟨MC, hMC⟩ : ∃ MC : Mem, MC = up (up m3 31 nr (nI (setB (s_nv S) inn))) 17 7 (nI (nr + 1)) := ⟨_, rfl⟩
          have F3 : fr [19, 27, 29] σ m3 := by rw [hm3]; exact fr_u (fr_u (fr_u fr.refl (by decide)) (by decide)) (by decide)
          have FC : fr [17, 19, 27, 29, 31] σ MC := by rw [hMC]; exact fr_u (fr_u (F3.mono (by decide)) (by decide)) (by decide)
          have hMM := hM.fr FC (by decide) (by decide)
          have h17 : σ 17 7 = nI nr := by rw [hnr]; exact hR.nr
          have hn2 : nr < 30 := by omega
          have cadd : m_X6_addJoined (nI k) (nI a) (nI b) σ = some (nI nr, MC) := by
            have fin : ∀ x : Int32, x = nI (setB (s_nv S) inn) → m_X6_addJoined_81 (nI nr) (nI nr) x m3 = some (nI nr, MC) := fun x hx => by
              unfold m_X6_addJoined_81
              rw [hx, x_set hn2 (by decide), obind_s]
              dsimp only
              rw [up_pl _ _ (by decide), F3 17 (by decide), h17, nI_1, obind_s, ← hMC]
            unfold m_X6_addJoined
            rw [h17, obind_s, x_set hn2 (by decide), obind_s]
            dsimp only
            rw [x_set hn2 (by decide), obind_s]
            dsimp only
            rw [x_set hn2 (by decide), obind_s]
            dsimp only
            rw [← hm3, x_get (show a < 30 by omega) (by decide), F3 31 (by decide), hR.held ha, obind_s]
            dsimp only
            rw [x_get (show b < 30 by omega) (by decide), F3 31 (by decide), hR.held hb, obind_s]
            rcases hk2 with rfl | rfl
            · rw [if_pos (show nI 8 = 8 from rfl)]
              refine fin _ ?_
              rw [nI_and, setB_and, hinn]
              rfl
            · rw [if_neg (show ¬ nI 9 = 8 by decide)]
              refine fin _ ?_
              rw [nI_or, setB_or, hinn]
              rfl
          obtain ⟨σb, hσb⟩ : ∃ σb : Mem, σb = up MC 94 0 0 := ⟨_, rfl⟩
          have hMb : RM S σb := by
            rw [hσb]
            exact hMM.congr (fun k hk => up_pl _ _ (fun e => by subst e; revert hk; decide)) (fun j hj => up_off _ _ (Or.inr (fun e => by subst e; revert hj; decide)))
          obtain ⟨M, r1, r2, r3, r4, r5, r6, r7, r8⟩ := r_addRange (σ := σb) (S := S) (nr := nr) (k := k) (a := a) (b := b) (c := 0) (p := 0) (inn := inn) hMb.1 h24 hn2 (by rw [hnr]; exact hMb.nr) (fun M' f1 f2 f3 f4 v hv => by
            have := r_isInHigh (ga := s_has S (24 * a + v) == 1) (gb := s_has S (24 * b + v) == 1) hn2 (show v < 24 by omega) hk2 (by omega) (by omega) f3 (by rw [f4 _ (by omega), hMb.has ha hv, has_b hW ha hv]) (by rw [f4 _ (by omega), hMb.has hb hv, has_b hW hb hv])
            rw [this, hinn])
          have Fb : fr [17, 19, 27, 29, 31, 94] σ σb := by rw [hσb]; exact fr_u (FC.mono (by decide)) (by decide)
          have Eb : c94 [0] σ σb := by
            have h : c94 [0] σ MC := fun j _ => by rw [FC 94 (by decide)]
            rw [hσb]
            exact h.u (by decide)
          have FR : fr [17, 19, 21, 23, 25, 27, 29, 31, 94, 98, 99] σ M := (Fb.mono (by decide)).trans (r2.mono (by decide))
          have E94 : c94 [0, 2] σ M := fun j hj => by
            rw [r3 j (fun h => hj (by rw [List.mem_singleton] at h; rw [h]; decide)), Eb j (fun h => hj (by rw [List.mem_singleton] at h; rw [h]; decide))]
          have mb : ∀ q, q ≠ 94 → q ≠ 98 → q ≠ 99 → M q = MC q := fun q w1 w2 w3 => by
            rw [r2 q (by simp; omega), hσb, up_pl _ _ w1]
          have c31 : ∀ j, MC 31 j = (up m3 31 nr (nI (setB (s_nv S) inn))) 31 j := fun j => by rw [hMC, up_pl _ _ (by decide)]
          have c3 : ∀ q, q ≠ 17 → q ≠ 31 → MC q = m3 q := fun q w1 w2 => by rw [hMC, up_pl _ _ w1, up_pl _ _ w2]
          have d19 : ∀ j, m3 19 j = (up σ 19 nr (nI k)) 19 j := fun j => by rw [hm3, up_pl _ _ (by decide), up_pl _ _ (by decide)]
          have d27 : ∀ j, m3 27 j = (up (up σ 19 nr (nI k)) 27 nr (nI a)) 27 j := fun j => by rw [hm3, up_pl _ _ (by decide)]
          have key : Inv M := by
            subst hnr
            refine addR_inv (inn := inn) (k := k) (a := a) (b := b) (c := 0) (p := 0) hI hn (by omega) (fun h => by omega) (fun _ => ⟨ha, hb⟩) (fun v hv => ?_) FR E94 ?_ (fun q hq j hj => ?_) ?_ (fun h => by omega) (fun _ => ⟨?_, ?_, ?_⟩) r4 (fun j hj => by rw [r5 j hj, hσb, up_pl _ _ (by decide), FC 98 (by decide)]) r6 (fun j hj => by rw [r7 j hj, hσb, up_pl _ _ (by decide), FC 99 (by decide)]) r8
            · rw [hinn]
              unfold innR
              rcases hk2 with rfl | rfl <;> rfl
            · rw [mb 17 (by decide) (by decide) (by decide), hMC, up_same]
            · rw [mb q (by revert hq; simp; omega) (by revert hq; simp; omega) (by revert hq; simp; omega)]
              simp at hq
              rcases hq with rfl | rfl | rfl | rfl | rfl | rfl | rfl
              · rw [c3 19 (by decide) (by decide), d19, up_off _ _ (Or.inr hj)]
              · rw [FC 21 (by decide)]
              · rw [FC 23 (by decide)]
              · rw [FC 25 (by decide)]
              · rw [c3 27 (by decide) (by decide), d27, up_off _ _ (Or.inr hj), up_pl _ _ (by decide)]
              · rw [c3 29 (by decide) (by decide), hm3, up_off _ _ (Or.inr hj), up_pl _ _ (by decide), up_pl _ _ (by decide)]
              · rw [c31, up_off _ _ (Or.inr hj), F3 31 (by decide)]
            · rw [mb 31 (by decide) (by decide) (by decide), c31, up_same]
            · rw [mb 19 (by decide) (by decide) (by decide), c3 19 (by decide) (by decide), d19, up_same]
            · rw [mb 27 (by decide) (by decide) (by decide), c3 27 (by decide) (by decide), d27, up_same]
            · rw [mb 29 (by decide) (by decide) (by decide), c3 29 (by decide) (by decide), hm3, up_same]
          refine op_ok (mdl := m_X12_join (nI k) (nI a) (nI b)) (v := nI nr) (σ1 := MC) (m := M) ?_ ?_ ?_ key
          · rw [ch2, cadd, obind_s]
          · rw [rh2 MC hMM, if_neg (show ¬ s_nr S = 30 by omega)]
            unfold m_X12_join_58
            rw [r_well0, obind_s, if_neg ne10]
            dsimp only
            rw [← hσb, show m_X12_addRange (nI k) (nI a) (nI b) 0 0 σb = some (nI nr, M) from r1, obind_s]
          · rw [r3 0 (by decide), hσb, up_same]
        · rw [if_neg hn] at ch2
          refine op_thr (mdl := m_X12_join (nI k) (nI a) (nI b)) (j := 2) (k := 2) (σ1 := σ) (m := σ) (v := 0) (bb := 0) ch2 rfl (by decide) ?_ ⟨S, hI.thrown 2⟩
          rw [rh2 σ hM, if_pos (show s_nr S = 30 by omega)]
          unfold m_X12_join_58
          rw [r_wellK ne20, obind_s, if_pos rfl]
  · refine bad ?_ ?_
    · unfold m_X11_join
      rw [if_neg (fun e => hk (Or.inl e)), if_neg (fun e => hk (Or.inr e))]
    · unfold m_X12_join
      rw [r_in89, decide_eq_false hk, obind_s, if_pos (show b2i false = 0 from rfl)]
      exact b31
end JOIN
