/-! ===== the reference: the whole test ===== -/
section RSOL3
variable {S : SP} {D : Nat} {c F : Nat → Nat} {Z : Nat → Bool} {σ : Mem}
theorem r_clear (hR : RM S σ) (h25 : σ 94 25 = nI D) (hc : ∀ p, p < 6 → σ 106 p = oi (c p)) (hn : ∀ p, p < 6 → c p ≤ s_nv S) : ∃ σ', m_X12_areDemandsRight σ = m_X12_areDemandsRight_30 FU 0 σ' ∧ fr [107, 108] σ σ' ∧ MH S D c (fun _ => 0) (fun _ => false) σ' := by
  have key := up_fu (n := 6) (P := fun i f => ∀ σ : Mem, (∀ p, p < i → σ 107 p = 0 ∧ σ 108 p = 0) → ∃ σ', m_X12_areDemandsRight_2 f (nI i) σ = m_X12_areDemandsRight_30 FU 0 σ' ∧ fr [107, 108] σ σ' ∧ ∀ p, p < 6 → σ' 107 p = 0 ∧ σ' 108 p = 0) (by decide) (fun f σ h => by
      refine ⟨σ, ?_, fr.refl, h⟩
      unfold m_X12_areDemandsRight_2
      rw [if_pos (show (6 : Int32) ≤ nI 6 by decide)]) (fun i f hi ih σ h => by
      obtain ⟨σ', q1, q2, q3⟩ := ih (up (up σ 107 i 0) 108 i 0) (fun p hp => by
        by_cases e : p = i
        · subst e
          exact ⟨by rw [up_pl _ _ (by decide), up_same], up_same _ _ _ _⟩
        · rw [up_pl _ _ (by decide), up_off _ _ (Or.inr e), up_off _ _ (Or.inr e), up_pl _ _ (by decide)]
          exact h p (by omega))
      refine ⟨σ', ?_, ((fr.up (by simp)).trans (fr.up (by simp))).trans q2, q3⟩
      rw [m_X12_areDemandsRight_2]
      rw [if_neg (show ¬ (6 : Int32) ≤ nI i from nI_ge (b := 6) hi (by decide)), ast_nI hi (by decide), obind_some, zchk_0, obind_some, ast_nI hi (by decide), obind_some, nI_1]
      exact q1) 0 (Nat.zero_le _) σ (fun p hp => by omega)
  obtain ⟨σ', q1, q2, q3⟩ := key
  refine ⟨σ', q1, q2, hR.fr q2 (by decide) (by decide), ?_, fun p hp => ?_, fun p hp => (q3 p hp).1, fun p hp => (show 0 < 8 by decide), hn, fun p hp => (q3 p hp).2⟩
  · rw [q2 94 (by decide)]
    exact h25
  · rw [q2 106 (by decide)]
    exact hc p hp
theorem r_dems (hW : WF S) (hD : D < 64) : ∀ i, i ≤ s_nd S → ∀ (σ : Mem) (F : Nat → Nat) (Z : Nat → Bool), MH S D c F Z σ → (∀ T, Cl S D c T → bitsIn F T) → (∀ Q : Nat → Prop, ClP S D c Q → ∀ q, Z q = true → Q q) → (∀ d, d < i → D.testBit d = true → (c (s_heir S (s_dtg S d)) ≠ 0 ∧ s_has S (24 * s_drg S d + (c (s_heir S (s_dtg S d)) - 1)) = 1) ∧ (∀ f, f < 3 → (s_dfs S d).testBit f = true → (F (s_heir S (s_dtg S d))).testBit f = true) ∧ Z (s_heir S (s_dtg S d)) = true) → ∃ σ' b, m_X12_areDemandsRight_30 FU (nI i) σ = some (b2i b, σ') ∧ fr [107, 108] σ σ' ∧ (b = true ↔ DemOK S D c) ∧ (b = true → ∃ F' Z', MH S D c F' Z' σ' ∧ (∀ T, Cl S D c T → bitsIn F' T) ∧ (∀ Q : Nat → Prop, ClP S D c Q → ∀ q, Z' q = true → Q q) ∧ ∀ d, d < s_nd S → D.testBit d = true → (∀ f, f < 3 → (s_dfs S d).testBit f = true → (F' (s_heir S (s_dtg S d))).testBit f = true) ∧ Z' (s_heir S (s_dtg S d)) = true) := by
  have h6 := hW.nd
  have h24 := hW.nv
  refine up_fu (n := s_nd S) (P := fun i f => ∀ (σ : Mem) (F : Nat → Nat) (Z : Nat → Bool), MH S D c F Z σ → (∀ T, Cl S D c T → bitsIn F T) → (∀ Q : Nat → Prop, ClP S D c Q → ∀ q, Z q = true → Q q) → (∀ d, d < i → D.testBit d = true → (c (s_heir S (s_dtg S d)) ≠ 0 ∧ s_has S (24 * s_drg S d + (c (s_heir S (s_dtg S d)) - 1)) = 1) ∧ (∀ f, f < 3 → (s_dfs S d).testBit f = true → (F (s_heir S (s_dtg S d))).testBit f = true) ∧ Z (s_heir S (s_dtg S d)) = true) → ∃ σ' b, m_X12_areDemandsRight_30 f (nI i) σ = some (b2i b, σ') ∧ fr [107, 108] σ σ' ∧ (b = true ↔ DemOK S D c) ∧ (b = true → ∃ F' Z', MH S D c F' Z' σ' ∧ (∀ T, Cl S D c T → bitsIn F' T) ∧ (∀ Q : Nat → Prop, ClP S D c Q → ∀ q, Z' q = true → Q q) ∧ ∀ d, d < s_nd S → D.testBit d = true → (∀ f, f < 3 → (s_dfs S d).testBit f = true → (F' (s_heir S (s_dtg S d))).testBit f = true) ∧ Z' (s_heir S (s_dtg S d)) = true)) (by omega) (fun f σ F Z h hF hZ hd => ?_) (fun i f hi ih σ F Z h hF hZ hd => ?_)
  · refine ⟨σ, true, ?_, fr.refl, ⟨fun _ d hd1 hb => (hd d hd1 hb).1, fun _ => rfl⟩, fun _ => ⟨F, Z, h, hF, hZ, fun d hd1 hb => (hd d hd1 hb).2⟩⟩
    unfold m_X12_areDemandsRight_30
    rw [h.1.nd, if_pos (nI_le (Nat.le_refl _) (by omega))]
    rfl
  · have wd := hW.dem hi
    have wh := s_heir_lt hW wd.2.1
    obtain ⟨d0, d1, d2, d3⟩ := r_dem hW h.1 hi
    have hcl := h.2.2.2.2.2.1 _ wh
    have hFt := h.2.2.2.2.1 _ wh
    have hx : s_dfs S i < 8 := by omega
    cases hb : D.testBit i with
    | false =>
      obtain ⟨σ', b, q1, q2, q3, q4⟩ := ih σ F Z h hF hZ (fun d hd1 hb1 => by
        by_cases e : d = i
        · subst e
          rw [hb] at hb1
          cases hb1
        · exact hd d (by omega) hb1)
      refine ⟨σ', b, ?_, q2, q3, q4⟩
      rw [m_X12_areDemandsRight_30]
      rw [h.1.nd, if_neg (nI_ge hi (by omega)), h.2.1, if_neg (fun e => by have := (bit_iff (show D < 2 ^ 31 by omega) (show i < 31 by omega)).mp e; rw [hb] at this; cases this), nI_1]
      exact q1
    | true =>
      have hbr := (bit_iff (show D < 2 ^ 31 by omega) (show i < 31 by omega)).mpr hb
      by_cases h0 : c (s_heir S (s_dtg S i)) = 0
      · refine ⟨σ, false, ?_, fr.refl, ⟨fun h2 => (by cases h2), fun h2 => absurd h0 (h2 i hi hb).1⟩, fun h2 => by cases h2⟩
        rw [m_X12_areDemandsRight_30]
        rw [h.1.nd, if_neg (nI_ge hi (by omega)), h.2.1, if_pos hbr, d1, obind_some, r_standsFor hW h.1 wd.2.1, obind_some, h.pick wh, obind_some, h0, if_pos (show oi 0 = -1 from rfl)]
        rfl
      · obtain ⟨v, hv⟩ : ∃ v, c (s_heir S (s_dtg S i)) = v + 1 := ⟨c (s_heir S (s_dtg S i)) - 1, by omega⟩
        have hvn : v < s_nv S := by omega
        cases hh : (s_has S (24 * s_drg S i + v) == 1) with
        | false =>
          refine ⟨σ, false, ?_, fr.refl, ⟨fun h2 => (by cases h2), fun h2 => ?_⟩, fun h2 => by cases h2⟩
          · rw [m_X12_areDemandsRight_30]
            rw [h.1.nd, if_neg (nI_ge hi (by omega)), h.2.1, if_pos hbr, d1, obind_some, r_standsFor hW h.1 wd.2.1, obind_some, h.pick wh, obind_some, hv, oi_s, if_neg (nI_nm1 (by omega)), d2, obind_some, obind_some, r_has hW h.1 wd.2.2.1 hvn, obind_some, if_pos ((has_0 hW wd.2.2.1 hvn).mpr hh)]
            rfl
          · have := (h2 i hi hb).2
            rw [hv, Nat.add_sub_cancel] at this
            rw [this] at hh
            cases hh
        | true =>
          have hst : SpS S D c F (mgF F (s_heir S (s_dtg S i)) (s_dfs S i)) _ := SpS.mg wh hFt hx (fun T hT _ f hf hb2 => hT.1 i hi hb f hf hb2)
          obtain ⟨σ', b, q1, q2, q3, q4⟩ := ih _ _ (ztF Z (s_heir S (s_dtg S i))) ((h.mg wh hx).setz wh) (fun T hT => hst.1 T hT (hF T hT)) (fun Q hQ q hq => by
            rcases ztF_t.mp hq with e | e
            · rw [e]
              exact hQ.1 i hi hb
            · exact hZ Q hQ q e) (fun d hd1 hb1 => by
            by_cases e : d = i
            · subst e
              refine ⟨⟨h0, ?_⟩, fun f hf hb2 => ?_, ztF_t.mpr (Or.inl rfl)⟩
              · rw [hv, Nat.add_sub_cancel]
                simpa using hh
              · rw [mgF_bit]
                simp [hb2]
            · obtain ⟨x1, x2, x3⟩ := hd d (by omega) hb1
              refine ⟨x1, fun f hf hb2 => ?_, ztF_t.mpr (Or.inr x3)⟩
              rw [mgF_bit, x2 f hf hb2, Bool.true_or])
          refine ⟨σ', b, ?_, ((fr.up (by simp)).trans (fr.up (by simp))).trans q2, q3, q4⟩
          rw [m_X12_areDemandsRight_30]
          rw [h.1.nd, if_neg (nI_ge hi (by omega)), h.2.1, if_pos hbr, d1, obind_some, r_standsFor hW h.1 wd.2.1, obind_some, h.pick wh, obind_some, hv, oi_s, if_neg (nI_nm1 (by omega)), d2, obind_some, obind_some, r_has hW h.1 wd.2.2.1 hvn, obind_some, if_neg (fun e => by have := (has_0 hW wd.2.2.1 hvn).mp e; rw [hh] at this; cases this), h.on wh, obind_some, d3, obind_some, nI_or, ast_nI wh (by decide), obind_some, zchk_1, obind_some, ast_nI wh (by decide), obind_some, nI_1]
          exact q1
theorem onv_of {p : Nat} (hp : p < 6) (h0 : c p ≠ 0) (hOn : OnZ S D c F) (hF : F p < 8) : F p = onv S D c p := by
  unfold onv
  rw [if_neg h0]
  refine bits_eq (k := 3) hF (setB_lt _ _) (fun j hj => ?_)
  rw [setB_bit, decide_eq_true hj, Bool.true_and]
  by_cases h : On S D c p j
  · rw [(hOn p hp h0 j hj).mp h]
    exact (@decide_eq_true _ (Classical.propDecidable _) h).symm
  · cases hb : (F p).testBit j with
    | true => exact absurd ((hOn p hp h0 j hj).mpr hb) h
    | false => exact (@decide_eq_false _ (Classical.propDecidable _) h).symm
theorem r_isSolution (hW : WF S) (hD : D < 64) (hR : RM S σ) (h25 : σ 94 25 = nI D) (hc : ∀ p, p < 6 → σ 106 p = oi (c p)) (hcd : ∀ p, p < 6 → Cand S p (c p)) : ∃ σ' b, m_X12_isSolution σ = some (b2i b, σ') ∧ fr [107, 108] σ σ' ∧ (b = true ↔ SolF S D c) ∧ (b = true → ∀ p, p < 6 → c p ≠ 0 → σ' 107 p = nI (onv S D c p)) := by
  have h24 := hW.nv
  have hn : ∀ p, p < 6 → c p ≤ s_nv S := fun p hp => by
    rcases hcd p hp with h | h
    · omega
    · omega
  obtain ⟨σ0, z1, z2, z3⟩ := r_clear hR h25 hc hn
  obtain ⟨σ1, b1, a1, a2, a3, a4⟩ := r_dems hW hD 0 (Nat.zero_le _) σ0 _ _ z3 (fun T _ q _ f _ hb => by simp at hb) (fun Q _ q hq => by cases hq) (fun d hd => by omega)
  have a1 : m_X12_areDemandsRight σ = some (b2i b1, σ1) := z1.trans a1
  unfold m_X12_isSolution
  rw [a1, obind_s]
  cases hb1 : b1 with
  | false =>
    refine ⟨σ1, false, by rw [if_pos (show b2i false = 0 from rfl)]; rfl, z2.trans a2, ⟨fun h => (by cases h), fun h => ?_⟩, fun h => by cases h⟩
    have := a3.mpr h.2.1
    rw [hb1] at this
    cases this
  | true =>
    obtain ⟨F, Z, c1, c2, c3, c4⟩ := a4 hb1
    have d1 := a3.mp hb1
    obtain ⟨σ2, F2, e1, e2, e3, e4, e5, e6⟩ := r_ton_rounds (D := D) hW 19 0 FU (by omega) (by rw [FU_eq]; omega) σ1 F c1 (Nat.zero_le _)
    have hOn : OnZ S D c F2 := fun p hp h0 f hf => On_of hW (Z := fun q => c q ≠ 0) (fun p hp h0 => by have := hn p hp; omega) (fun _ _ h => h) (fun T hT => e4 T hT (c2 T hT)) (fun d hd2 hb f hf hb2 _ => e5 _ f ((c4 d hd2 hb).1 f hf hb2)) (fun p hp h0 => (e6 p hp h0).1) (fun p hp h0 => (e6 p hp h0).2) hp h0 hf
    rw [if_neg (show ¬ b2i true = 0 by decide), e1, r_needs hW e2]
    cases g2 : s_stand S F2 c 5 with
    | false =>
      rw [if_neg (by decide)]
      refine ⟨σ2, false, rfl, (z2.trans a2).trans e3, ⟨fun h => (by cases h), fun h => ?_⟩, fun h => by cases h⟩
      have := (s_stand_iffZ hW hOn hn).mpr h.2.2.1
      rw [g2] at this
      cases this
    | true =>
      have d2 := (s_stand_iffZ hW hOn hn).mp g2
      obtain ⟨σ3, Z3, f1, f2, f3, f4, f5, f6⟩ := r_pul_rounds hW hOn 7 0 FU (by omega) (by rw [FU_eq]; omega) σ2 Z e2 (Nat.zero_le _)
      rw [if_pos rfl, f1, r_allPulled f2 (fun p hp => by have := hn p hp; omega)]
      have hpul : ∀ p, p < 6 → c p ≠ 0 → (Z3 p = true ↔ Pul S D c p) := by
        intro p hp h0
        constructor
        · intro h Q hQ
          exact f4 Q hQ (fun q hq => c3 Q hQ q hq) p h
        · intro h
          refine h (fun q => c q ≠ 0 → Z3 q = true) ⟨fun d hd hb _ => f5 _ (c4 d hd hb).2, fun q hq hcq hzq k hk hcn h2 hct => ?_⟩ h0
          exact f6 q hq hcq (hzq hcq) k hk ((cnt_iffZ hOn hq hcq (hW.need (by have := hn q hq; omega) hk).2.2.2.1).mp hcn) h2 hct
      refine ⟨σ3, _, rfl, ((z2.trans a2).trans e3).trans (f3.mono (by simp)), ⟨fun h => ?_, fun h => ?_⟩, fun _ p hp h0 => ?_⟩
      · rw [Bool.not_eq_true', anyR_f] at h
        refine ⟨hcd, d1, d2, fun p hp h0 => (hpul p hp h0).mp ?_⟩
        have := h p hp
        cases hz : Z3 p with
        | true => rfl
        | false =>
          rw [hz] at this
          simp [h0] at this
      · rw [Bool.not_eq_true', anyR_f]
        intro p hp
        by_cases h0 : c p = 0
        · simp [h0]
        · rw [(hpul p hp h0).mpr (h.2.2.2 p hp h0)]
          simp
      · rw [f3 107 (by decide), e2.2.2.2.1 p hp, onv_of hp h0 hOn (e2.2.2.2.2.1 p hp)]
end RSOL3
