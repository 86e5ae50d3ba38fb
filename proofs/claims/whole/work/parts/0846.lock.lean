/-! ===== solve, lock, install, pending ===== -/
section INST
variable {S : SP} {σ : Mem}
def stK (S : SP) (k : Nat) (f : Nat → Nat) : SP := fun k' => if k' = k then f else S k'
theorem stK_same {k : Nat} {f : Nat → Nat} : stK S k f k = f := if_pos rfl
theorem stK_k {k k' : Nat} {f : Nat → Nat} (h : k' ≠ k) : stK S k f k' = S k' := if_neg h
theorem gk_st {K : List Nat} {k : Nat} {f : Nat → Nat} (h : k ∈ K) : gk K S (stK S k f) := fun j hj => stK_k (fun e => hj (e ▸ h))
theorem find_ref0 (hW : WF S) (hM : RM S σ) (hC : Cache S σ) (hB : RB σ) : ∃ (σ2 : Mem) (n : Nat) (c : Nat → Nat), m_X12_find σ = some (0, σ2) ∧ frR σ σ2 ∧ σ2 94 31 = 1 ∧ FoundOK S σ2 ∧ RB σ2 ∧ σ2 94 30 = nI n ∧ n ≤ 15625 ∧ NSol S (s_dems S (s_wsp S)) n ∧ (n ≠ 0 → IsBest S (s_dems S (s_wsp S)) c ∧ ∀ p, p < 6 → σ2 112 p = oi (c p) ∧ σ2 113 p = nI (onv S (s_dems S (s_wsp S)) c p)) := by
  obtain ⟨σ2, h1, h2, h3, h4, h5⟩ := r_find hW hM hC hB
  obtain ⟨n, g1, g2, g3, g4⟩ := id h4
  by_cases h0 : n = 0
  · exact ⟨σ2, n, fun _ => 0, h1, h2, h3, h4, h5, g3, g2, g1, fun h => absurd h0 h⟩
  · obtain ⟨c, k1, k2⟩ := g4 h0
    exact ⟨σ2, n, c, h1, h2, h3, h4, h5, g3, g2, g1, fun _ => ⟨k1, k2⟩⟩
theorem cntR_neg (n : Nat) (f : Nat → Bool) : cntR n f + cntR n (fun i => !f i) = n := by
  induction n with
  | zero => rfl
  | succ n ih =>
    have h1 : cntR (n + 1) f = cntR n f + (if f n = true then 1 else 0) := rfl
    have h2 : cntR (n + 1) (fun i => !f i) = cntR n (fun i => !f i) + (if (!f n) = true then 1 else 0) := rfl
    rw [h1, h2]
    cases hf : f n with
    | false =>
      rw [if_neg (by decide), if_pos (show (!false) = true from rfl)]
      omega
    | true =>
      rw [if_pos rfl, if_neg (by decide)]
      omega
theorem nI_1b {x : Nat} (b : Bool) : (if b = true then nI x + 1 else nI x) = nI (x + (if b = true then 1 else 0)) := by
  cases b with
  | false => rfl
  | true => exact nI_1 x
theorem x_count {a : Nat} {c : Nat → Nat} (hc : ∀ p, p < 6 → σ a p = oi (c p)) (hn : ∀ p, p < 6 → c p < 2 ^ 31) : m_X7_count a 6 (-1) σ = some (nI (cntR 6 fun p => c p == 0), σ) := by
  have key := up_fu (n := 6) (P := fun i f => m_X7_count_4 a 6 f (-1) (nI (cntR i fun p => c p == 0)) (nI i) σ = some (nI (cntR 6 fun p => c p == 0), σ)) (by decide) (fun f => by
      rw [m_X7_count_4]
      rw [if_pos (show Int32.ofNat 6 ≤ nI 6 by decide)]) (fun i f hi ih => by
      rw [m_X7_count_4]
      rw [if_neg (show ¬ Int32.ofNat 6 ≤ nI i from nI_ge (b := 6) hi (by decide)), ald_nI hi (by decide), hc i hi, obind_some, nI_1 i]
      by_cases h0 : c i = 0
      · have e : cntR (i + 1) (fun p => c p == 0) = cntR i (fun p => c p == 0) + 1 := by
          show cntR i _ + (if (c i == 0) = true then 1 else 0) = _
          rw [if_pos (by rw [h0]; rfl)]
        rw [if_pos ((oi_m1 (hn i hi)).mpr h0), nI_1, ← e]
        exact ih
      · have e : cntR (i + 1) (fun p => c p == 0) = cntR i (fun p => c p == 0) := by
          show cntR i _ + (if (c i == 0) = true then 1 else 0) = _
          rw [if_neg (by simp [h0])]
          rfl
        rw [if_neg (fun h => h0 ((oi_m1 (hn i hi)).mp h)), ← e]
        exact ih) 0 (Nat.zero_le _)
  exact key
theorem r_cnt {n : Nat} {c : Nat → Nat} (h30 : σ 94 30 = 0 ↔ n = 0) (hn0 : n ≠ 0) (hc : ∀ p, p < 6 → σ 112 p = oi (c p)) (hn : ∀ p, p < 6 → c p < 2 ^ 31) : m_X12_solve_58 FU 0 0 σ = some (nI (cntR 6 fun p => !(c p == 0)), σ) := by
  have key := up_fu (n := 6) (P := fun i f => m_X12_solve_58 f (nI (cntR i fun p => !(c p == 0))) (nI i) σ = some (nI (cntR 6 fun p => !(c p == 0)), σ)) (by decide) (fun f => by
      rw [m_X12_solve_58]
      rw [if_pos (show (6 : Int32) ≤ nI 6 by decide), if_neg (fun e => hn0 (h30.mp e))]) (fun i f hi ih => by
      rw [m_X12_solve_58]
      rw [if_neg (show ¬ (6 : Int32) ≤ nI i from nI_ge (b := 6) hi (by decide)), ald_nI hi (by decide), hc i hi, obind_some]
      unfold m_X12_solve_82
      rw [obind_s, obind_s, nI_1 i]
      by_cases h0 : c i = 0
      · have e : cntR (i + 1) (fun p => !(c p == 0)) = cntR i (fun p => !(c p == 0)) := by
          show cntR i _ + (if (!(c i == 0)) = true then 1 else 0) = _
          rw [if_neg (by simp [h0])]
          rfl
        rw [if_pos ((oi_m1 (hn i hi)).mpr h0)]
        rw [e] at ih
        rw [show nI (cntR i fun p => !(c p == 0)) + 0 = nI (cntR i fun p => !(c p == 0)) from nI_add _ 0]
        exact ih
      · have e : cntR (i + 1) (fun p => !(c p == 0)) = cntR i (fun p => !(c p == 0)) + 1 := by
          show cntR i _ + (if (!(c i == 0)) = true then 1 else 0) = _
          rw [if_pos (by simp [h0])]
        rw [if_neg (fun h => h0 ((oi_m1 (hn i hi)).mp h))]
        rw [e] at ih
        rw [nI_1]
        exact ih) 0 (Nat.zero_le _)
  exact key
theorem r_cnt0 (h30 : σ 94 30 = 0) : m_X12_solve_58 FU 0 0 σ = some (-1, σ) := by
  have key := up_fu (n := 6) (P := fun i f => ∀ x, m_X12_solve_58 f x (nI i) σ = some (-1, σ)) (by decide) (fun f x => by
      rw [m_X12_solve_58]
      rw [if_pos (show (6 : Int32) ≤ nI 6 by decide), if_pos h30]) (fun i f hi ih x => by
      rw [m_X12_solve_58]
      rw [if_neg (show ¬ (6 : Int32) ≤ nI i from nI_ge (b := 6) hi (by decide)), ald_nI hi (by decide), obind_some]
      unfold m_X12_solve_82
      rw [obind_s, obind_s, nI_1 i, ih, ih]
      split <;> rfl) 0 (Nat.zero_le _)
  exact key 0
theorem op_solve : OP_solve Inv := by
  intro v1 v2 σ τ ⟨S, hI⟩
  obtain ⟨hW, hR, hM, hS, hC⟩ := id hI
  have h24 := hW.nv
  cases h1 : inN v1 8 with
  | false =>
    refine op_thr (mdl := m_X12_solve v1 v2) (j := 1) (k := 1) (σ1 := σ) (m := σ) (v := 0) (bb := 0) ?_ rfl (by decide) ?_ ⟨S, hI.thrown 1⟩
    · simp only [m_X11_solve, c_up 7 (by decide) (show (7 : Int32) = nI 7 from rfl), h1, obind_some, b2i_f, if_true]
    · simp only [m_X12_solve, m_X12_solve_25, m_X12_solve_26, r_inN (n := 7) (by decide) (show (7 : Int32) = nI 7 from rfl), h1, obind_some, b2i_f, if_true, r_wellK ne10]
  | true =>
    obtain ⟨ws, hws, rfl⟩ := (inN_t (by omega)).mp h1
    cases h2 : inN v2 64 with
    | false =>
      refine op_thr (mdl := m_X12_solve (nI ws) v2) (j := 1) (k := 1) (σ1 := σ) (m := σ) (v := 0) (bb := 0) ?_ rfl (by decide) ?_ ⟨S, hI.thrown 1⟩
      · simp only [m_X11_solve, c_up 7 (by decide) (show (7 : Int32) = nI 7 from rfl), c_up 63 (by decide) (show (63 : Int32) = nI 63 from rfl), h1, h2, obind_some, b2i_t, b2i_f, ne10, if_false, if_true]
      · simp only [m_X12_solve, m_X12_solve_25, m_X12_solve_26, r_inN (n := 7) (by decide) (show (7 : Int32) = nI 7 from rfl), r_inN (n := 63) (by decide) (show (63 : Int32) = nI 63 from rfl), h1, h2, obind_some, b2i_t, b2i_f, ne10, if_false, if_true, r_wellK ne10]
    | true =>
      obtain ⟨nw, hnw, rfl⟩ := (inN_t (by omega)).mp h2
      obtain ⟨T, hT⟩ : ∃ T : SP, T = upS (upS S 35 0 ws) 36 0 nw := ⟨_, rfl⟩
      have G : gk [35, 36] S T := by rw [hT]; exact (gk.refl.u (by decide)).u (by decide)
      have t35 : s_wsp T = ws := by rw [hT]; show (upS (upS S 35 0 ws) 36 0 nw) 35 0 = _; rw [upS_k _ _ _ (by decide), upS_same]
      have t36 : s_upd T = nw := by rw [hT]; exact upS_same _ _ _ _
      obtain ⟨σa, hσa⟩ : ∃ σa : Mem, σa = up (up σ 66 1 (nI ws)) 66 2 (nI nw) := ⟨_, rfl⟩
      have Fa : fr [66] σ σa := by rw [hσa]; exact fr_u (fr_u fr.refl (by decide)) (by decide)
      have a1 : σa 66 1 = nI (s_wsp T) := by rw [hσa, t35, up_off _ _ (Or.inr (by decide)), up_same]
      have a2 : σa 66 2 = nI (s_upd T) := by rw [hσa, t36, up_same]
      have hWT : WF T := ⟨hW.1.S (G.on (by decide)), hW.2.1.S (G.on (by decide)), hW.2.2.1.S (G.on (by decide)), hW.2.2.2.1.S (G.on (by decide)), hW.2.2.2.2.x35 (G.on (by decide)) (by rw [t35]; omega) (by rw [t36]; omega)⟩
      have hRa : RC T σa := ⟨hR.1.S (G.on (by decide)) (mk_fr Fa (by decide)), hR.2.1.S (G.on (by decide)) (mk_fr Fa (by decide)), hR.2.2.1.S (G.on (by decide)) (mk_fr Fa (by decide)), hR.2.2.2.1.S (G.on (by decide)) (mk_fr Fa (by decide)), hR.2.2.2.2.x35 (G.on (by decide)) (mk_fr Fa (by decide)) (by rw [Fa 1 (by decide)]) (by rw [Fa 1 (by decide)]) a1 a2⟩
      obtain ⟨σ1, b, f1, f2, f3, f4, f5⟩ := c_findBest hWT hRa
      obtain ⟨σm, hσm⟩ : ∃ σm : Mem, σm = up (up (up (up σ1 94 0 0) 94 6 (nI ws)) 94 7 (nI nw)) 94 31 0 := ⟨_, rfl⟩
      have Fm : fr (94 :: clS) σa σm := by
        rw [hσm]
        exact fr_u (fr_u (fr_u (fr_u (f2.mono (fun k hk => List.mem_cons_of_mem _ hk)) (by decide)) (by decide)) (by decide)) (by decide)
      have FR : fr (66 :: 94 :: clS) σ σm := (Fa.mono (by decide)).trans (Fm.mono (fun k hk => List.mem_cons_of_mem _ hk))
      have e94 : σ1 94 = σ 94 := by rw [f2 94 (by decide), Fa 94 (by decide)]
      have E94 : c94 [0, 6, 7, 31] σ σm := by
        have : c94 [0, 6, 7, 31] σ σ1 := fun j _ => by rw [e94]
        rw [hσm]
        exact (((this.u (by decide)).u (by decide)).u (by decide)).u (by decide)
      have hIm : InvS T σm := ⟨hWT, hRa.fr Fm (by decide), ⟨hM.1.S (G.on (by decide)) (mk_fr FR (by decide)) (E94.on (by decide)), hM.2.1.S (G.on (by decide)) (mk_fr FR (by decide)) (E94.on (by decide)), hM.2.2.1.S (G.on (by decide)) (mk_fr FR (by decide)), hM.2.2.2.1.S (G.on (by decide)) (mk_fr FR (by decide)) (E94.on (by decide)), hM.2.2.2.2.x35 (G.on (by decide)) (mk_fr FR (by decide)) (E94 4 (by decide)) (E94 5 (by decide)) (by rw [hσm, t35, up_off _ _ (Or.inr (by decide)), up_off _ _ (Or.inr (by decide)), up_same]) (by rw [hσm, t36, up_off _ _ (Or.inr (by decide)), up_same])⟩, hS.chg (G 37 (by decide)) (FR 93 (by decide)) (FR 105 (by decide)) (FR 112 (by decide)), Or.inl (by rw [hσm, up_same])⟩
      obtain ⟨σ2, n, c', b1, b2, b3, b4, b5, b6, b7⟩ := find_ref hIm
      have h0 : σ2 94 0 = 0 := by rw [b3.2 0 (by decide), hσm, up_off _ _ (Or.inr (by decide)), up_off _ _ (Or.inr (by decide)), up_off _ _ (Or.inr (by decide)), up_same]
      have n0 : σ2 94 30 = 0 ↔ n = 0 := by rw [b4]; exact nI_z (by omega)
      have mh : m_X12_solve (nI ws) (nI nw) σ1 = m_X12_solve_58 FU 0 0 σ2 := by
        unfold m_X12_solve m_X12_solve_26
        rw [r_inN (n := 7) (by decide) (show (7 : Int32) = nI 7 from rfl), h1, obind_s, if_neg (show ¬ b2i true = 0 by decide), r_inN (n := 63) (by decide) (show (63 : Int32) = nI 63 from rfl), h2, obind_s, if_neg (show ¬ b2i true = 0 by decide), r_well0, obind_s, if_neg ne10, obind_s, obind_s, obind_s]
        dsimp only
        rw [← hσm, b1, obind_s]
      have ch : m_X11_solve (nI ws) (nI nw) σ = if b2i b = 0 then some ((0, -1), σ1) else obind (m_X7_count 69 6 (-1) σ1) fun x6 => some ((0, 6 - x6.1), x6.2) := by
        unfold m_X11_solve
        rw [c_up 7 (by decide) (show (7 : Int32) = nI 7 from rfl), h1, obind_s, if_neg (show ¬ b2i true = 0 by decide), c_up 63 (by decide) (show (63 : Int32) = nI 63 from rfl), h2, obind_s, if_neg (show ¬ b2i true = 0 by decide), obind_s, obind_s]
        dsimp only
        rw [← hσa, f1, obind_s]
      obtain ⟨c, f6⟩ : ∃ c : Nat → Nat, b = true → IsBest T (s_dems T (s_wsp T)) c ∧ ∀ p, p < 6 → σ1 69 p = oi (c p) := by
        cases hb : b with
        | false => exact ⟨fun _ => 0, fun h => by cases h⟩
        | true =>
          obtain ⟨c, g⟩ := f5 hb
          exact ⟨c, fun _ => g⟩
      rcases agree hWT f6 f4 b6 b7 with ⟨hb, hn, k1, k2, k3, k4⟩ | ⟨hb, hn⟩
      · have hn31 : ∀ p, p < 6 → c p < 2 ^ 31 := fun p hp => by
          have := k2 p hp
          have := hWT.nv
          omega
        have hneg := cntR_neg 6 fun p => c p == 0
        refine op_ok (mdl := m_X12_solve (nI ws) (nI nw)) (v := nI (cntR 6 fun p => !(c p == 0))) (σ1 := σ1) (m := σ2) ?_ ?_ h0 ⟨T, b2⟩
        · rw [ch, hb, if_neg (show ¬ b2i true = 0 by decide), x_count k3 hn31, obind_s]
          have e : (6 : Int32) - nI (cntR 6 fun p => c p == 0) = nI (cntR 6 fun p => !(c p == 0)) := by
            rw [show (6 : Int32) = nI 6 from rfl, pk_sub (by omega)]
            congr 1
            omega
          dsimp only
          rw [e]
        · rw [mh]
          exact r_cnt n0 hn (fun p hp => (k4 p hp).1) hn31
      · refine op_ok (mdl := m_X12_solve (nI ws) (nI nw)) (v := -1) (σ1 := σ1) (m := σ2) ?_ ?_ h0 ⟨T, b2⟩
        · rw [ch, hb, if_pos (show b2i false = 0 from rfl)]
        · rw [mh]
          exact r_cnt0 (n0.mpr hn)
/-! lock -/
theorem c_lock_loop (hW : WF S) {c : Nat → Nat} (hc : ∀ p, p < 6 → σ 69 p = oi (c p)) (hn : ∀ p, p < 6 → c p ≤ s_nv S) (hl : ∀ p, p < 6 → σ 57 p = oi (s_lock S p)) : ∃ σ', m_X11_lock_25 FU 0 0 σ = some ((0, nI (cntR 6 fun p => !(s_lock S p == c p))), σ') ∧ fr [57] σ σ' ∧ ∀ p, p < 6 → σ' 57 p = oi (c p) := by
  have h24 := hW.nv
  have key := up_fu (n := 6) (P := fun i f => ∀ σ1 : Mem, fr [57] σ σ1 → (∀ p, p < i → σ1 57 p = oi (c p)) → (∀ p, i ≤ p → p < 6 → σ1 57 p = oi (s_lock S p)) → ∃ σ', m_X11_lock_25 f (nI (cntR i fun p => !(s_lock S p == c p))) (nI i) σ1 = some ((0, nI (cntR 6 fun p => !(s_lock S p == c p))), σ') ∧ fr [57] σ σ' ∧ ∀ p, p < 6 → σ' 57 p = oi (c p)) (by decide) (fun f σ1 hf h h' => by
      refine ⟨σ1, ?_, hf, h⟩
      rw [m_X11_lock_25]
      rw [if_pos (show (6 : Int32) ≤ nI 6 by decide)]) (fun i f hi ih σ1 hf h h' => by
      obtain ⟨σ', q1, q2, q3⟩ := ih (up σ1 57 i (oi (c i))) (hf.trans (fr.up (by simp))) (fun p hp => by
        by_cases e : p = i
        · rw [e, up_same]
        · rw [up_off _ _ (Or.inr e)]
          exact h p (by omega)) (fun p hp hp6 => by
        rw [up_off _ _ (Or.inr (by omega))]
        exact h' p (by omega) hp6)
      refine ⟨σ', ?_, q2, q3⟩
      have hll := (hW.lock hi).1
      have hcl := hn i hi
      have e1 : m_X7_get 69 6 (nI i) σ1 = some (oi (c i), σ1) := by rw [x_get hi (by decide), hf 69 (by decide), hc i hi]
      have e2 : m_X7_exchange 57 6 (nI i) (oi (c i)) σ1 = some (oi (s_lock S i), up σ1 57 i (oi (c i))) := by rw [x_exchange hi (by decide), h' i (Nat.le_refl _) hi]
      rw [← q1, m_X11_lock_25]
      rw [if_neg (show ¬ (6 : Int32) ≤ nI i from nI_ge (b := 6) hi (by decide)), e1, obind_some]
      dsimp only
      rw [e2, obind_some, nI_1 i]
      by_cases h0 : s_lock S i = c i
      · have e : cntR (i + 1) (fun p => !(s_lock S p == c p)) = cntR i (fun p => !(s_lock S p == c p)) := by
          show cntR i _ + (if (!(s_lock S i == c i)) = true then 1 else 0) = _
          rw [if_neg (by simp [h0])]
          rfl
        rw [e, if_pos (show oi (s_lock S i) = oi (c i) by rw [h0])]
      · have e : cntR (i + 1) (fun p => !(s_lock S p == c p)) = cntR i (fun p => !(s_lock S p == c p)) + 1 := by
          show cntR i _ + (if (!(s_lock S i == c i)) = true then 1 else 0) = _
          rw [if_pos (by simp [h0])]
        rw [e, if_neg (fun h => h0 ((oi_inj (by omega) (by omega)).mp h)), nI_1]) 0 (Nat.zero_le _) σ fr.refl (fun p hp => by omega) (fun p _ hp => hl p hp)
  exact key
theorem r_lock_loop (hW : WF S) {c : Nat → Nat} (hc : ∀ p, p < 6 → σ 112 p = oi (c p)) (hn : ∀ p, p < 6 → c p ≤ s_nv S) (hl : ∀ p, p < 6 → σ 103 p = oi (s_lock S p)) : ∃ σ', m_X12_lock_29 FU 0 0 σ = some (nI (cntR 6 fun p => !(s_lock S p == c p)), up σ' 94 31 0) ∧ fr [103] σ σ' ∧ ∀ p, p < 6 → σ' 103 p = oi (c p) := by
  have h24 := hW.nv
  have key := up_fu (n := 6) (P := fun i f => ∀ σ1 : Mem, fr [103] σ σ1 → (∀ p, p < i → σ1 103 p = oi (c p)) → (∀ p, i ≤ p → p < 6 → σ1 103 p = oi (s_lock S p)) → ∃ σ', m_X12_lock_29 f (nI (cntR i fun p => !(s_lock S p == c p))) (nI i) σ1 = some (nI (cntR 6 fun p => !(s_lock S p == c p)), up σ' 94 31 0) ∧ fr [103] σ σ' ∧ ∀ p, p < 6 → σ' 103 p = oi (c p)) (by decide) (fun f σ1 hf h h' => by
      refine ⟨σ1, ?_, hf, h⟩
      rw [m_X12_lock_29]
      rw [if_pos (show (6 : Int32) ≤ nI 6 by decide), obind_some]) (fun i f hi ih σ1 hf h h' => by
      obtain ⟨σ', q1, q2, q3⟩ := ih (up σ1 103 i (oi (c i))) (hf.trans (fr.up (by simp))) (fun p hp => by
        by_cases e : p = i
        · rw [e, up_same]
        · rw [up_off _ _ (Or.inr e)]
          exact h p (by omega)) (fun p hp hp6 => by
        rw [up_off _ _ (Or.inr (by omega))]
        exact h' p (by omega) hp6)
      refine ⟨σ', ?_, q2, q3⟩
      have hll := (hW.lock hi).1
      have hcl := hn i hi
      have e1 : ald σ1 112 6 (nI i) = some (oi (c i)) := by rw [ald_nI hi (by decide), hf 112 (by decide), hc i hi]
      have e2 : ald σ1 103 6 (nI i) = some (oi (s_lock S i)) := by rw [ald_nI hi (by decide), h' i (Nat.le_refl _) hi]
      rw [← q1, m_X12_lock_29]
      rw [if_neg (show ¬ (6 : Int32) ≤ nI i from nI_ge (b := 6) hi (by decide)), e2, obind_some, e1, obind_some]
      by_cases h0 : s_lock S i = c i
      · have e : cntR (i + 1) (fun p => !(s_lock S p == c p)) = cntR i (fun p => !(s_lock S p == c p)) := by
          show cntR i _ + (if (!(s_lock S i == c i)) = true then 1 else 0) = _
          rw [if_neg (by simp [h0])]
          rfl
        rw [e, if_pos (show oi (s_lock S i) = oi (c i) by rw [h0])]
        unfold m_X12_lock_56
        rw [obind_s, e1, obind_s, ast_nI hi (by decide), obind_s, nI_1 i]
        rw [show nI (cntR i fun p => !(s_lock S p == c p)) + 0 = nI (cntR i fun p => !(s_lock S p == c p)) from nI_add _ 0]
      · have e : cntR (i + 1) (fun p => !(s_lock S p == c p)) = cntR i (fun p => !(s_lock S p == c p)) + 1 := by
          show cntR i _ + (if (!(s_lock S i == c i)) = true then 1 else 0) = _
          rw [if_pos (by simp [h0])]
        rw [e, if_neg (fun h => h0 ((oi_inj (by omega) (by omega)).mp h))]
        unfold m_X12_lock_56
        rw [obind_s, e1, obind_s, ast_nI hi (by decide), obind_s, nI_1 i, nI_1]) 0 (Nat.zero_le _) σ fr.refl (fun p hp => by omega) (fun p _ hp => hl p hp)
  exact key
def lkS : List Nat := [57, 67, 69, 71, 73, 75, 78, 80, 94, 103, 106, 107, 108, 109, 110, 111, 112, 113]
theorem op_lock : OP_lock Inv := by
  intro σ τ ⟨S, hI⟩
  obtain ⟨hW, hR, hM, hS, hC⟩ := id hI
  have h24 := hW.nv
  obtain ⟨σ1, b, c, a1, a2, a3, a4, a5, a6⟩ := find_cls hI
  have ch : m_X11_lock σ = if b2i b = 0 then some ((3, 0), σ1) else m_X11_lock_25 FU 0 0 σ1 := by
    unfold m_X11_lock
    rw [a1, obind_s]
  cases hb : b with
  | false =>
    obtain ⟨σ2, n, c', b1, b2, b3, b4, b5, b6, b7⟩ := find_ref a2
    have hn : σ2 94 30 = 0 := by
      rw [b4]
      exact (nI_z (by omega)).mpr ((b6.zero hW).mpr (a6 hb))
    refine op_thr (mdl := m_X12_lock) (j := 2) (k := 1) (σ1 := σ1) (m := σ2) (v := 0) (bb := 0) ?_ rfl (by decide) ?_ ⟨S, b2.thrown 1⟩
    · rw [ch, hb, if_pos (show b2i false = 0 from rfl)]
    · unfold m_X12_lock m_X12_lock_17
      rw [b1, obind_s]
      dsimp only
      rw [if_pos hn, r_wellK ne10, obind_s, if_pos rfl]
  | true =>
    obtain ⟨g1, g2⟩ := a5 hb
    have hcn : ∀ p, p < 6 → c p ≤ s_nv S := fun p hp => by
      rcases g1.1.1 p hp with h | h
      · omega
      · have := h.1
        omega
    obtain ⟨σ3, q1, q2, q3⟩ := c_lock_loop hW g2 hcn (fun p hp => (a2.2.1.pkg hp).2.2)
    obtain ⟨-, hR1, hM1, hS1, hC1⟩ := id a2
    have hM3 := hM1.fr q2 (by decide) (by decide)
    have e94 : σ3 94 = σ1 94 := q2 94 (by decide)
    have hC3 : Cache S σ3 := hC1.congr (by rw [e94]) (by rw [e94]) (q2 112 (by decide)) (q2 113 (by decide))
    obtain ⟨σ2, n, c', b1, b2, b3, b4, b5, b6, b7, b8, b9⟩ := find_ref0 hW hM3 hC3 (hS1.2.congr (q2 112 (by decide)))
    rcases agree hW a5 a6 b8 b9 with ⟨-, hn, k1, k2, k3, k4⟩ | ⟨hb2, -⟩
    · have n0 : ¬ σ2 94 30 = 0 := fun e => hn ((nI_z (by omega)).mp (b6 ▸ e))
      have hM2 : RM S (up σ2 94 0 0) := (hM3.frR b2).congr (fun k hk => up_pl _ _ (fun e => by subst e; revert hk; decide)) (fun j hj => up_off _ _ (Or.inr (fun e => by subst e; revert hj; decide)))
      obtain ⟨σ4, r1, r2, r3⟩ := r_lock_loop (σ := up σ2 94 0 0) hW (fun p hp => by rw [up_pl _ _ (by decide)]; exact (k4 p hp).1) k2 (fun p hp => (hM2.pkg hp).2.1)
      obtain ⟨T, hT⟩ : ∃ T : SP, T = stK S 33 c := ⟨_, rfl⟩
      have G : gk [33] S T := by rw [hT]; exact gk_st (by decide)
      have t33 : s_lock T = c := by rw [hT]; exact stK_same
      obtain ⟨m, hm⟩ : ∃ m : Mem, m = up σ4 94 31 0 := ⟨_, rfl⟩
      have F3 : fr lkS σ σ3 := (a3.mono (by decide)).trans (q2.mono (by decide))
      have F2 : fr lkS σ σ2 := F3.trans (fun k hk => b2.1 k (fun h => hk (by revert h; unfold rfS lkS; simp; omega)))
      have FR : fr lkS σ m := by
        rw [hm]
        exact fr_u ((fr_u F2 (by decide)).trans (r2.mono (by decide))) (by decide)
      have z94 : σ1 94 = σ 94 := a3 94 (by decide)
      have E94 : c94 [0, 25, 26, 29, 30, 31] σ m := by
        have h1 : c94 [0, 25, 26, 29, 30, 31] σ σ2 := fun j hj => by
          rw [b2.2 j (fun h => hj (by revert h; unfold rfN; simp; omega)), e94, z94]
        rw [hm]
        exact ((h1.u (by decide)).w r2 (by decide)).u (by decide)
      have k57 : ∀ p, p < 6 → m 57 p = oi (c p) := fun p hp => by
        rw [hm, up_pl _ _ (by decide), r2 57 (by decide), up_pl _ _ (by decide), b2.1 57 (by decide)]
        exact q3 p hp
      have k103 : ∀ p, p < 6 → m 103 p = oi (c p) := fun p hp => by
        rw [hm, up_pl _ _ (by decide)]
        exact r3 p hp
      have hRB : RB m := b5.congr (by rw [hm, up_pl _ _ (by decide), r2 112 (by decide), up_pl _ _ (by decide)])
      refine op_ok (mdl := m_X12_lock) (v := nI (cntR 6 fun p => !(s_lock S p == c p))) (σ1 := σ3) (m := m) ?_ ?_ ?_ (inv_mk (S := T) ⟨hW.1.S (G.on (by decide)), hW.2.1.S (G.on (by decide)), hW.2.2.1.S (G.on (by decide)), hW.2.2.2.1.S (G.on (by decide)), hW.2.2.2.2.x33 (G.on (by decide)) ?_⟩ ⟨hR.1.S (G.on (by decide)) (mk_fr FR (by decide)), hR.2.1.S (G.on (by decide)) (mk_fr FR (by decide)), hR.2.2.1.S (G.on (by decide)) (mk_fr FR (by decide)), hR.2.2.2.1.S (G.on (by decide)) (mk_fr FR (by decide)), hR.2.2.2.2.x33 (G.on (by decide)) (mk_fr FR (by decide)) (by rw [FR 1 (by decide)]) (by rw [FR 1 (by decide)]) (by rw [FR 66 (by decide)]) (by rw [FR 66 (by decide)]) ?_⟩ ⟨hM.1.S (G.on (by decide)) (mk_fr FR (by decide)) (E94.on (by decide)), hM.2.1.S (G.on (by decide)) (mk_fr FR (by decide)) (E94.on (by decide)), hM.2.2.1.S (G.on (by decide)) (mk_fr FR (by decide)), hM.2.2.2.1.S (G.on (by decide)) (mk_fr FR (by decide)) (E94.on (by decide)), hM.2.2.2.2.x33 (G.on (by decide)) (mk_fr FR (by decide)) (E94 4 (by decide)) (E94 5 (by decide)) (E94 6 (by decide)) (E94 7 (by decide)) ?_⟩ ⟨fun p hp hd => ?_, hRB⟩ (by rw [hm, up_same]))
      · rw [ch, hb, if_neg (show ¬ b2i true = 0 by decide)]
        exact q1
      · unfold m_X12_lock m_X12_lock_17
        rw [b1, obind_s]
        dsimp only
        rw [if_neg n0, r_well0, obind_s, if_neg ne10, hm]
        exact r1
      · rw [hm, up_off _ _ (Or.inr (by decide)), r2 94 (by decide), up_same]
      · intro p hp
        rw [t33, show s_nv T = s_nv S from by rw [s_nv, G 0 (by decide)], show s_own T = s_own S from G 1 (by decide)]
        refine ⟨k2 p hp, fun h0 => ?_⟩
        rcases k1.1 p hp with h | h
        · exact absurd h h0
        · exact h.2.1
      · intro p hp
        obtain ⟨u1, u2, u3⟩ := hR.pkg hp
        rw [t33, show s_rep T = s_rep S from G 32 (by decide), s_heir_S (G 32 (by decide)), FR 63 (by decide), FR 65 (by decide)]
        exact ⟨u1, u2, k57 p hp⟩
      · intro p hp
        obtain ⟨u1, u2, u3⟩ := hM.pkg hp
        rw [t33, show s_rep T = s_rep S from G 32 (by decide), show s_dsk T = s_dsk S from G 37 (by decide), FR 102 (by decide), FR 104 (by decide)]
        exact ⟨u1, k103 p hp, u3⟩
      · have hd2 : s_dsk S p ≠ 0 := by
          rw [← show s_dsk T = s_dsk S from G 37 (by decide)]
          exact hd
        rw [FR 93 (by decide), FR 105 (by decide)]
        exact hS.1 p hp hd2
    · rw [hb] at hb2
      cases hb2
end INST
