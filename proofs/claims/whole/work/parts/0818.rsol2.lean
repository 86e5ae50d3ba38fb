/-! ===== the reference: needs, pulling, and the whole test ===== -/
def OnZ (S : SP) (D : Nat) (c F : Nat → Nat) : Prop := ∀ p, p < 6 → c p ≠ 0 → ∀ f, f < 3 → (On S D c p f ↔ (F p).testBit f = true)
theorem cnt_iffZ {S : SP} {D p w : Nat} {c F : Nat → Nat} (h : OnZ S D c F) (hp : p < 6) (h0 : c p ≠ 0) (h3 : s_nft S w ≤ 3) : CntT S (On S D c) p w ↔ s_counts S w (F p) = true := by
  unfold s_counts CntT
  rw [Bool.and_eq_true, Bool.or_eq_true]
  constructor
  · rintro ⟨a, b⟩
    refine ⟨a, ?_⟩
    rcases b with b | b
    · exact Or.inl (by simpa using b)
    · by_cases h1 : s_nft S w = 0
      · exact Or.inl (by simpa using h1)
      · exact Or.inr ((h p hp h0 _ (by omega)).mp b)
  · rintro ⟨a, b⟩
    refine ⟨a, ?_⟩
    rcases b with b | b
    · exact Or.inl (by simpa using b)
    · by_cases h1 : s_nft S w = 0
      · exact Or.inl h1
      · exact Or.inr ((h p hp h0 _ (by omega)).mpr b)
def SpZ (S : SP) (D : Nat) (c : Nat → Nat) (Z Z' : Nat → Bool) (g : Bool) : Prop := (∀ Q : Nat → Prop, ClP S D c Q → (∀ q, Z q = true → Q q) → ∀ q, Z' q = true → Q q) ∧ (g = false → Z' = Z) ∧ (g = true → cntR 6 Z < cntR 6 Z') ∧ ∀ q, Z q = true → Z' q = true
section RSOL2
variable {S : SP} {D : Nat} {c F : Nat → Nat} {Z : Nat → Bool} {σ : Mem}
theorem SpZ.refl : SpZ S D c Z Z false := ⟨fun Q _ h => h, ⟨fun _ => rfl, ⟨fun h => absurd h (by decide), fun q h => h⟩⟩⟩
theorem SpZ.trans {Z' Z'' : Nat → Bool} {g g' : Bool} (h : SpZ S D c Z Z' g) (h' : SpZ S D c Z' Z'' g') : SpZ S D c Z Z'' (g || g') := by
  obtain ⟨a1, a2, a3, a4⟩ := h
  obtain ⟨b1, b2, b3, b4⟩ := h'
  refine ⟨fun T hT hF => b1 T hT (a1 T hT hF), fun h => ?_, fun h => ?_, fun q h => b4 q (a4 q h)⟩
  · rw [Bool.or_eq_false_iff] at h
    rw [b2 h.2, a2 h.1]
  · cases hg : g with
    | true =>
      cases hg' : g' with
      | true => exact Nat.lt_trans (a3 hg) (b3 hg')
      | false =>
        rw [b2 hg']
        exact a3 hg
    | false =>
      rw [hg, Bool.false_or] at h
      rw [← a2 hg]
      exact b3 h
theorem ztF_t {t q : Nat} : ztF Z t q = true ↔ q = t ∨ Z q = true := by
  unfold ztF
  simp
theorem SpZ.set {t : Nat} (ht : t < 6) (hZ : Z t = false) (h : ∀ Q : Nat → Prop, ClP S D c Q → (∀ q, Z q = true → Q q) → Q t) : SpZ S D c Z (ztF Z t) true := by
  refine ⟨fun Q hQ hZ2 q hq => ?_, fun h2 => (by cases h2), fun _ => ?_, fun q hq => ztF_t.mpr (Or.inr hq)⟩
  · rcases ztF_t.mp hq with e | e
    · rw [e]
      exact h Q hQ hZ2
    · exact hZ2 q e
  · exact cntR_lt (fun i _ hi => ztF_t.mpr (Or.inr hi)) ht hZ (ztF_t.mpr (Or.inl rfl))
theorem s_stand_iffZ (hW : WF S) (hF : OnZ S D c F) (hc : ∀ p, p < 6 → c p ≤ s_nv S) : s_stand S F c 5 = true ↔ NeedOK S D c := by
  unfold s_stand NeedOK
  rw [Bool.not_eq_true', anyR_f]
  constructor
  · intro h p hp h0 k hk hcn
    have hv : c p - 1 < s_nv S := by have := hc p hp; omega
    have wn := hW.need hv hk
    have wh := s_heir_lt hW wn.1
    have h1 := h p hp
    unfold s_hold at h1
    rw [Bool.not_eq_false', Bool.or_eq_true, Bool.not_eq_true', anyR_f] at h1
    rcases h1 with h1 | h1
    · exact absurd (by simpa using h1) h0
    · have h2 := h1 k hk
      rw [(cnt_iffZ hF hp h0 wn.2.2.2.1).mp hcn, decide_eq_true (show s_heir S (s_tgt S (5 * (c p - 1) + k)) ≤ 5 by omega)] at h2
      exact s_serv_iff.mp (by simpa using h2)
  · intro h p hp
    unfold s_hold
    rw [Bool.not_eq_false', Bool.or_eq_true, Bool.not_eq_true', anyR_f]
    by_cases h0 : c p = 0
    · exact Or.inl (by simpa using h0)
    · refine Or.inr fun k hk => ?_
      have hv : c p - 1 < s_nv S := by have := hc p hp; omega
      have wn := hW.need hv hk
      cases hcn : s_counts S (5 * (c p - 1) + k) (F p) with
      | false => simp
      | true =>
        have := s_serv_iff.mpr (h p hp h0 k hk ((cnt_iffZ hF hp h0 wn.2.2.2.1).mpr hcn))
        rw [this]
        simp
theorem r_serv (hW : WF S) (h : MH S D c F Z σ) {v k : Nat} (hv : v < s_nv S) (hk : k < s_nn S v) {α : Type} {A B : α} {x : Nat} (hx : x ≤ s_nv S) : (if oi x = -1 then obind (ald σ 97 720 (6 * (5 * nI v + nI k) + 2)) fun x9 => if x9 = 1 then some A else some B else obind (ald σ 97 720 (6 * (5 * nI v + nI k) + 1)) fun x7 => obind (ald σ 99 720 (24 * x7 + oi x)) fun x8 => if x8 = 0 then some B else some A) = some (if s_serv S (5 * v + k) x = true then A else B) := by
  have h24 := hW.nv
  have wn := hW.need hv hk
  obtain ⟨n0, n1, n2, n3, n4, n5⟩ := r_need hW h.1 hv hk
  unfold s_serv
  rw [n1, n2]
  simp only [obind_some, oi_m1 (show x < 2 ^ 31 by omega), nI_o (show s_nkd S (5 * v + k) < 2 ^ 31 by omega)]
  by_cases h0 : x = 0
  · rw [if_pos h0]
    by_cases h1 : s_nkd S (5 * v + k) = 1 <;> simp [h0, h1]
  · rw [if_neg h0]
    obtain ⟨u, rfl⟩ : ∃ u, x = u + 1 := ⟨x - 1, by omega⟩
    rw [oi_s, r_has hW h.1 wn.2.1 (show u < s_nv S by omega)]
    simp only [obind_some, has_0 hW wn.2.1 (show u < s_nv S by omega)]
    cases hh : (s_has S (24 * s_nrg S (5 * v + k) + u) == 1) <;> simp [hh]
theorem r_areNeedsRight (hW : WF S) (h : MH S D c F Z σ) {p v : Nat} (hp : p < 6) (hcp : c p = v + 1) : m_X12_areNeedsRight (nI p) σ = some (b2i (s_hold S F c 5 p), σ) := by
  have hv : v < s_nv S := by have := h.2.2.2.2.2.1 p hp; omega
  have h24 := hW.nv
  have h5 := hW.nn (show v < 24 by omega)
  have hF := h.2.2.2.2.1 p hp
  obtain ⟨-, -, -, -, -, -, -, -, e8⟩ := r_rd hW.1 h.1.1 hv
  have e0 : s_hold S F c 5 p = !anyR (s_nn S v) fun k => s_counts S (5 * v + k) (F p) && !s_serv S (5 * v + k) (c (s_heir S (s_tgt S (5 * v + k)))) := by
    unfold s_hold
    rw [hcp, Nat.add_sub_cancel, show (v + 1 == 0) = false from by simp, Bool.false_or]
    congr 1
    refine anyR_congr fun k hk => ?_
    have := s_heir_lt hW (hW.need hv hk).1
    rw [decide_eq_true (show s_heir S (s_tgt S (5 * v + k)) ≤ 5 by omega), Bool.true_and]
  unfold m_X12_areNeedsRight
  rw [h.pick hp, obind_s, hcp, oi_s, e0]
  refine up_fu (n := s_nn S v) (P := fun i f => anyR i (fun k => s_counts S (5 * v + k) (F p) && !s_serv S (5 * v + k) (c (s_heir S (s_tgt S (5 * v + k))))) = false → m_X12_areNeedsRight_9 f (nI p) (nI v) (nI i) σ = some (b2i (!anyR (s_nn S v) fun k => s_counts S (5 * v + k) (F p) && !s_serv S (5 * v + k) (c (s_heir S (s_tgt S (5 * v + k))))), σ)) (by omega) (fun f hh => ?_) (fun i f hi ih hh => ?_) 0 (Nat.zero_le _) rfl
  · unfold m_X12_areNeedsRight_9
    rw [e8, obind_some, if_pos (nI_le (Nat.le_refl _) (by omega)), hh]
    rfl
  · obtain ⟨n0, n1, n2, n3, n4, n5⟩ := r_need hW h.1 hv hi
    have wn := hW.need hv hi
    have wh := s_heir_lt hW wn.1
    have hcl := h.2.2.2.2.2.1 _ wh
    have e5 := r_counts hW h.1 hv hi hp (h.2.2.2.1 p hp) (show F p < 2 ^ 31 by omega)
    have e4 := r_standsFor hW h.1 wn.1
    rw [anyR_s, hh, Bool.false_or] at ih
    unfold m_X12_areNeedsRight_9
    rw [e8, obind_some, if_neg (nI_ge hi (by omega)), obind_some, n0, obind_some, e4, obind_some, h.pick wh, obind_some, e5, obind_some, nI_1]
    cases g2 : s_counts S (5 * v + i) (F p) with
    | false =>
      rw [if_pos (show b2i false = 0 from rfl)]
      exact ih (by simp [g2])
    | true =>
      rw [if_neg (show ¬ b2i true = 0 by decide)]
      have hs := r_serv hW h hv hi (α := Bool) (A := true) (B := false) hcl
      unfold s_serv at ih ⊢
      simp only [n1, n2, obind_some, oi_m1 (show c (s_heir S (s_tgt S (5 * v + i))) < 2 ^ 31 by omega), nI_o (show s_nkd S (5 * v + i) < 2 ^ 31 by omega)]
      by_cases h0 : c (s_heir S (s_tgt S (5 * v + i))) = 0
      · rw [if_pos h0]
        by_cases h1 : s_nkd S (5 * v + i) = 1
        · rw [if_pos h1]
          exact ih (by simp [h0, h1])
        · rw [if_neg h1, anyR_t.mpr ⟨i, hi, by simp [g2, h0, h1]⟩]
          rfl
      · rw [if_neg h0]
        obtain ⟨u, hu⟩ : ∃ u, c (s_heir S (s_tgt S (5 * v + i))) = u + 1 := ⟨c (s_heir S (s_tgt S (5 * v + i))) - 1, by omega⟩
        rw [hu, oi_s, r_has hW h.1 wn.2.1 (show u < s_nv S by omega), obind_some]
        cases hh2 : (s_has S (24 * s_nrg S (5 * v + i) + u) == 1) with
        | true =>
          rw [if_neg (fun e => by have := (has_0 hW wn.2.1 (show u < s_nv S by omega)).mp e; rw [hh2] at this; cases this)]
          exact ih (by simp [hu, hh2])
        | false =>
          rw [if_pos ((has_0 hW wn.2.1 (show u < s_nv S by omega)).mpr hh2), anyR_t.mpr ⟨i, hi, by simp [g2, hu, hh2]⟩]
          rfl
theorem r_needs (hW : WF S) (h : MH S D c F Z σ) : m_X12_isSolution_64 FU 0 σ = if s_stand S F c 5 = true then m_X12_isSolution_98 FU 1 σ else some (0, σ) := by
  have h24 := hW.nv
  unfold s_stand
  refine up_fu (n := 6) (P := fun i f => anyR i (fun p => !s_hold S F c 5 p) = false → m_X12_isSolution_64 f (nI i) σ = if (!anyR (5 + 1) fun p => !s_hold S F c 5 p) = true then m_X12_isSolution_98 FU 1 σ else some (0, σ)) (by decide) (fun f hh => ?_) (fun i f hi ih hh => ?_) 0 (Nat.zero_le _) rfl
  · unfold m_X12_isSolution_64
    rw [if_pos (show (6 : Int32) ≤ nI 6 by decide), hh, if_pos (show (!false) = true from rfl)]
  · have hcl := h.2.2.2.2.2.1 i hi
    rw [anyR_s, hh, Bool.false_or] at ih
    unfold m_X12_isSolution_64
    rw [if_neg (show ¬ (6 : Int32) ≤ nI i from nI_ge (b := 6) hi (by decide)), h.pick hi, obind_s, nI_1]
    by_cases h0 : c i = 0
    · rw [h0, if_pos (show oi 0 = -1 from rfl)]
      exact ih (by unfold s_hold; simp [h0])
    · obtain ⟨v, hv⟩ : ∃ v, c i = v + 1 := ⟨c i - 1, by omega⟩
      rw [hv, oi_s, if_neg (nI_nm1 (by omega)), r_areNeedsRight hW h hi hv, obind_s]
      cases g : s_hold S F c 5 i with
      | true =>
        rw [if_neg (show ¬ b2i true = 0 by decide)]
        exact ih (by simp [g])
      | false =>
        rw [if_pos (show b2i false = 0 from rfl), anyR_t.mpr ⟨i, hi, by simp [g]⟩, if_neg (by decide)]
/-! pulling -/
theorem r_pull (hW : WF S) (hOn : OnZ S D c F) {p v : Nat} (hp : p < 6) (hcp : c p = v + 1) (hv : v < s_nv S) : ∀ i, i ≤ s_nn S v → ∀ (σ : Mem) (Z : Nat → Bool) (g0 : Bool), MH S D c F Z σ → Z p = true → ∃ σ' Z' g', m_X12_pull_12 FU (nI p) (b2i g0) (nI v) (nI i) σ = some (b2i (g0 || g'), σ') ∧ MH S D c F Z' σ' ∧ fr [108] σ σ' ∧ SpZ S D c Z Z' g' ∧ (g' = false → ∀ k, i ≤ k → k < s_nn S v → s_counts S (5 * v + k) (F p) = true → s_nkd S (5 * v + k) ≠ 2 → c (s_heir S (s_tgt S (5 * v + k))) ≠ 0 → Z (s_heir S (s_tgt S (5 * v + k))) = true) := by
  have h24 := hW.nv
  have h5 := hW.nn (show v < 24 by omega)
  refine up_fu (n := s_nn S v) (P := fun i f => ∀ (σ : Mem) (Z : Nat → Bool) (g0 : Bool), MH S D c F Z σ → Z p = true → ∃ σ' Z' g', m_X12_pull_12 f (nI p) (b2i g0) (nI v) (nI i) σ = some (b2i (g0 || g'), σ') ∧ MH S D c F Z' σ' ∧ fr [108] σ σ' ∧ SpZ S D c Z Z' g' ∧ (g' = false → ∀ k, i ≤ k → k < s_nn S v → s_counts S (5 * v + k) (F p) = true → s_nkd S (5 * v + k) ≠ 2 → c (s_heir S (s_tgt S (5 * v + k))) ≠ 0 → Z (s_heir S (s_tgt S (5 * v + k))) = true)) (by omega) (fun f σ Z g0 h hzp => ?_) (fun i f hi ih σ Z g0 h hzp => ?_)
  · refine ⟨σ, Z, false, ?_, h, fr.refl, SpZ.refl, fun _ k h1 h2 => absurd h2 (by omega)⟩
    obtain ⟨-, -, -, -, -, -, -, -, e8⟩ := r_rd hW.1 h.1.1 hv
    unfold m_X12_pull_12
    rw [e8, obind_some, if_pos (nI_le (Nat.le_refl _) (by omega)), zchk_b, Bool.or_false]
    rfl
  · obtain ⟨-, -, -, -, -, -, -, -, e8⟩ := r_rd hW.1 h.1.1 hv
    obtain ⟨n0, n1, n2, n3, n4, n5⟩ := r_need hW h.1 hv hi
    have wn := hW.need hv hi
    have wh := s_heir_lt hW wn.1
    have hF := h.2.2.2.2.1 p hp
    have hcl := h.2.2.2.2.2.1 _ wh
    have e5 := r_counts hW h.1 hv hi hp (h.2.2.2.1 p hp) (show F p < 2 ^ 31 by omega)
    have e4 := r_standsFor hW h.1 wn.1
    have skip : (s_counts S (5 * v + i) (F p) = true → s_nkd S (5 * v + i) ≠ 2 → c (s_heir S (s_tgt S (5 * v + i))) ≠ 0 → Z (s_heir S (s_tgt S (5 * v + i))) = true) → m_X12_pull_12 (f + 1) (nI p) (b2i g0) (nI v) (nI i) σ = m_X12_pull_12 f (nI p) (b2i g0) (nI v) (nI (i + 1)) σ → ∃ σ' Z' g', m_X12_pull_12 (f + 1) (nI p) (b2i g0) (nI v) (nI i) σ = some (b2i (g0 || g'), σ') ∧ MH S D c F Z' σ' ∧ fr [108] σ σ' ∧ SpZ S D c Z Z' g' ∧ (g' = false → ∀ k, i ≤ k → k < s_nn S v → s_counts S (5 * v + k) (F p) = true → s_nkd S (5 * v + k) ≠ 2 → c (s_heir S (s_tgt S (5 * v + k))) ≠ 0 → Z (s_heir S (s_tgt S (5 * v + k))) = true) := by
      intro hs he
      obtain ⟨σ', Z', g', q1, q2, q3, q4, q5⟩ := ih σ Z g0 h hzp
      refine ⟨σ', Z', g', by rw [he, q1], q2, q3, q4, fun hg k h1 h2 h3 h4 h6 => ?_⟩
      by_cases e : k = i
      · subst e
        exact hs h3 h4 h6
      · exact q5 hg k (by omega) h2 h3 h4 h6
    have un : m_X12_pull_12 (f + 1) (nI p) (b2i g0) (nI v) (nI i) σ = if s_counts S (5 * v + i) (F p) = false then m_X12_pull_12 f (nI p) (b2i g0) (nI v) (nI (i + 1)) σ else if s_nkd S (5 * v + i) = 2 then m_X12_pull_12 f (nI p) (b2i g0) (nI v) (nI (i + 1)) σ else if c (s_heir S (s_tgt S (5 * v + i))) = 0 then m_X12_pull_12 f (nI p) (b2i g0) (nI v) (nI (i + 1)) σ else if Z (s_heir S (s_tgt S (5 * v + i))) = false then m_X12_pull_12 f (nI p) 1 (nI v) (nI (i + 1)) (up σ 108 (s_heir S (s_tgt S (5 * v + i))) 1) else m_X12_pull_12 f (nI p) (b2i g0) (nI v) (nI (i + 1)) σ := by
      rw [m_X12_pull_12]
      rw [e8, obind_some, if_neg (nI_ge hi (by omega)), obind_some]
      simp only [n0, n2, e4, e5, h.pick wh, h.pul wh, zchk_1, obind_some, ast_nI wh (show 6 < 2 ^ 31 by decide), b2i_0, nI_1, oi_m1 (show c (s_heir S (s_tgt S (5 * v + i))) < 2 ^ 31 by omega), nI_w (show s_nkd S (5 * v + i) < 2 ^ 31 by omega)]
    cases hcn : s_counts S (5 * v + i) (F p) with
    | false => exact skip (fun hb => by rw [hcn] at hb; cases hb) (by rw [un, hcn, if_pos rfl])
    | true =>
      by_cases h2 : s_nkd S (5 * v + i) = 2
      · exact skip (fun _ h3 => absurd h2 h3) (by rw [un, hcn, if_neg (by decide), if_pos h2])
      · by_cases h0 : c (s_heir S (s_tgt S (5 * v + i))) = 0
        · exact skip (fun _ _ h3 => absurd h0 h3) (by rw [un, hcn, if_neg (by decide), if_neg h2, if_pos h0])
        · cases hz : Z (s_heir S (s_tgt S (5 * v + i))) with
          | true => exact skip (fun _ _ _ => hz) (by rw [un, hcn, if_neg (by decide), if_neg h2, if_neg h0, hz, if_neg (by decide)])
          | false =>
            have hst : SpZ S D c Z (ztF Z (s_heir S (s_tgt S (5 * v + i)))) true := by
              refine SpZ.set wh hz (fun Q hQ hZQ => ?_)
              have := hQ.2 p hp (by omega) (hZQ p hzp) i (by rw [hcp]; exact hi)
              rw [hcp, Nat.add_sub_cancel] at this
              exact this ((cnt_iffZ hOn hp (by omega) wn.2.2.2.1).mpr hcn) h2
            obtain ⟨σ', Z', g', q1, q2, q3, q4, q5⟩ := ih _ _ true (h.setz wh) (ztF_t.mpr (Or.inr hzp))
            refine ⟨σ', Z', true || g', ?_, q2, (fr.up (by simp)).trans q3, hst.trans q4, fun hg => by cases hg⟩
            rw [un, hcn, if_neg (by decide), if_neg h2, if_neg h0, hz, if_pos rfl]
            refine q1.trans ?_
            cases g0 <;> rfl
theorem r_pul_round (hW : WF S) (hOn : OnZ S D c F) {f98 : Int32 → Mem → Option (Int32 × Mem)} : ∀ i, i ≤ 6 → ∀ (σ : Mem) (Z : Nat → Bool) (g0 : Bool), MH S D c F Z σ → ∃ σ' Z' g', m_X12_isSolution_106 f98 FU (b2i g0) (nI i) σ = f98 (b2i (g0 || g')) σ' ∧ MH S D c F Z' σ' ∧ fr [108] σ σ' ∧ SpZ S D c Z Z' g' ∧ (g' = false → ∀ p, i ≤ p → p < 6 → c p ≠ 0 → Z p = true → ∀ k, k < s_nn S (c p - 1) → s_counts S (5 * (c p - 1) + k) (F p) = true → s_nkd S (5 * (c p - 1) + k) ≠ 2 → c (s_heir S (s_tgt S (5 * (c p - 1) + k))) ≠ 0 → Z (s_heir S (s_tgt S (5 * (c p - 1) + k))) = true) := by
  refine up_fu (n := 6) (P := fun i f => ∀ (σ : Mem) (Z : Nat → Bool) (g0 : Bool), MH S D c F Z σ → ∃ σ' Z' g', m_X12_isSolution_106 f98 f (b2i g0) (nI i) σ = f98 (b2i (g0 || g')) σ' ∧ MH S D c F Z' σ' ∧ fr [108] σ σ' ∧ SpZ S D c Z Z' g' ∧ (g' = false → ∀ p, i ≤ p → p < 6 → c p ≠ 0 → Z p = true → ∀ k, k < s_nn S (c p - 1) → s_counts S (5 * (c p - 1) + k) (F p) = true → s_nkd S (5 * (c p - 1) + k) ≠ 2 → c (s_heir S (s_tgt S (5 * (c p - 1) + k))) ≠ 0 → Z (s_heir S (s_tgt S (5 * (c p - 1) + k))) = true)) (by decide) (fun f σ Z g0 h => ?_) (fun i f hi ih σ Z g0 h => ?_)
  · refine ⟨σ, Z, false, ?_, h, fr.refl, SpZ.refl, fun _ p h1 h2 => absurd h2 (by omega)⟩
    unfold m_X12_isSolution_106
    rw [if_pos (show (6 : Int32) ≤ nI 6 by decide), Bool.or_false]
  · have hcl := h.2.2.2.2.2.1 i hi
    have h24 := hW.nv
    have skip : (c i ≠ 0 → Z i = true → False) → m_X12_isSolution_106 f98 (f + 1) (b2i g0) (nI i) σ = m_X12_isSolution_139 f98 (m_X12_isSolution_106 f98 f) (b2i g0) (nI i) σ → ∃ σ' Z' g', m_X12_isSolution_106 f98 (f + 1) (b2i g0) (nI i) σ = f98 (b2i (g0 || g')) σ' ∧ MH S D c F Z' σ' ∧ fr [108] σ σ' ∧ SpZ S D c Z Z' g' ∧ (g' = false → ∀ p, i ≤ p → p < 6 → c p ≠ 0 → Z p = true → ∀ k, k < s_nn S (c p - 1) → s_counts S (5 * (c p - 1) + k) (F p) = true → s_nkd S (5 * (c p - 1) + k) ≠ 2 → c (s_heir S (s_tgt S (5 * (c p - 1) + k))) ≠ 0 → Z (s_heir S (s_tgt S (5 * (c p - 1) + k))) = true) := by
      intro hs he
      obtain ⟨σ', Z', g', q1, q2, q3, q4, q5⟩ := ih σ Z g0 h
      refine ⟨σ', Z', g', ?_, q2, q3, q4, fun hg p h1 h2 h3 h4 => ?_⟩
      · rw [he]
        unfold m_X12_isSolution_139 m_X12_isSolution_148
        rw [nI_1, ← q1]
        cases g0 <;> rfl
      · by_cases e : p = i
        · subst e
          exact absurd h4 (fun h5 => hs h3 h5)
        · exact q5 hg p (by omega) h2 h3 h4
    by_cases h0 : c i = 0
    · refine skip (fun h1 => absurd h0 h1) ?_
      rw [m_X12_isSolution_106]
      rw [if_neg (show ¬ (6 : Int32) ≤ nI i from nI_ge (b := 6) hi (by decide)), h.pick hi, obind_some, h0, if_pos (show oi 0 = -1 from rfl)]
    · obtain ⟨v, hv⟩ : ∃ v, c i = v + 1 := ⟨c i - 1, by omega⟩
      cases hz : Z i with
      | false =>
        refine skip (fun _ h1 => by rw [hz] at h1; cases h1) ?_
        rw [m_X12_isSolution_106]
        rw [if_neg (show ¬ (6 : Int32) ≤ nI i from nI_ge (b := 6) hi (by decide)), h.pick hi, obind_some, hv, oi_s, if_neg (nI_nm1 (by omega)), h.pul hi, obind_some, hz, if_pos (show b2i false = 0 from rfl)]
      | true =>
        obtain ⟨σ1, Z1, g1, a1, a2, a3, a4, a5⟩ := r_pull hW hOn hi hv (by omega) 0 (Nat.zero_le _) σ Z false h hz
        obtain ⟨σ', Z', g', q1, q2, q3, q4, q5⟩ := ih σ1 Z1 (g0 || g1) a2
        refine ⟨σ', Z', g1 || g', ?_, q2, a3.trans q3, a4.trans q4, fun hg p h1 h2 h3 h4 => ?_⟩
        · have a1 : m_X12_pull (nI i) σ = some (b2i g1, σ1) := by
            unfold m_X12_pull
            rw [h.pick hi, obind_s, hv, oi_s]
            rw [Bool.false_or] at a1
            exact a1
          rw [m_X12_isSolution_106]
          rw [if_neg (show ¬ (6 : Int32) ≤ nI i from nI_ge (b := 6) hi (by decide)), h.pick hi, obind_some, hv, oi_s, if_neg (nI_nm1 (by omega)), h.pul hi, obind_some, hz, if_neg (show ¬ b2i true = 0 by decide), a1, obind_some]
          unfold m_X12_isSolution_139 m_X12_isSolution_148
          rw [nI_1, ← Bool.or_assoc, ← q1]
          cases g0 <;> cases g1 <;> rfl
        · rw [Bool.or_eq_false_iff] at hg
          have hid := a4.2.1 hg.1
          rw [hid] at q5
          by_cases e : p = i
          · subst e
            intro k hk
            rw [hv, Nat.add_sub_cancel] at hk ⊢
            exact a5 hg.1 k (Nat.zero_le _) hk
          · exact q5 hg.2 p (by omega) h2 h3 h4
theorem r_pul_rounds (hW : WF S) (hOn : OnZ S D c F) : ∀ (k r f : Nat), r + k = 7 → k < f → ∀ (σ : Mem) (Z : Nat → Bool), MH S D c F Z σ → r ≤ cntR 6 Z → ∃ σ' Z', m_X12_isSolution_98 f 1 σ = m_X12_isSolution_160 FU 0 σ' ∧ MH S D c F Z' σ' ∧ fr [108] σ σ' ∧ (∀ Q : Nat → Prop, ClP S D c Q → (∀ q, Z q = true → Q q) → ∀ q, Z' q = true → Q q) ∧ (∀ q, Z q = true → Z' q = true) ∧ ∀ p, p < 6 → c p ≠ 0 → Z' p = true → ∀ k, k < s_nn S (c p - 1) → s_counts S (5 * (c p - 1) + k) (F p) = true → s_nkd S (5 * (c p - 1) + k) ≠ 2 → c (s_heir S (s_tgt S (5 * (c p - 1) + k))) ≠ 0 → Z' (s_heir S (s_tgt S (5 * (c p - 1) + k))) = true := by
  refine up_ind2 (n := 7) (P := fun r f => ∀ (σ : Mem) (Z : Nat → Bool), MH S D c F Z σ → r ≤ cntR 6 Z → ∃ σ' Z', m_X12_isSolution_98 f 1 σ = m_X12_isSolution_160 FU 0 σ' ∧ MH S D c F Z' σ' ∧ fr [108] σ σ' ∧ (∀ Q : Nat → Prop, ClP S D c Q → (∀ q, Z q = true → Q q) → ∀ q, Z' q = true → Q q) ∧ (∀ q, Z q = true → Z' q = true) ∧ ∀ p, p < 6 → c p ≠ 0 → Z' p = true → ∀ k, k < s_nn S (c p - 1) → s_counts S (5 * (c p - 1) + k) (F p) = true → s_nkd S (5 * (c p - 1) + k) ≠ 2 → c (s_heir S (s_tgt S (5 * (c p - 1) + k))) ≠ 0 → Z' (s_heir S (s_tgt S (5 * (c p - 1) + k))) = true) (fun f σ Z h hw => ?_) (fun r f hr hf ih σ Z h hw => ?_)
  · have := cntR_le 6 Z
    omega
  · obtain ⟨σ1, Z1, g1, a1, a2, a3, a4, a5⟩ := r_pul_round hW hOn (f98 := m_X12_isSolution_98 f) 0 (by decide) σ Z false h
    have e : m_X12_isSolution_98 (f + 1) 1 σ = m_X12_isSolution_98 f (b2i g1) σ1 := by
      rw [m_X12_isSolution_98]
      rw [if_neg (by decide)]
      rw [Bool.false_or] at a1
      exact a1
    cases hg : g1 with
    | true =>
      rw [hg] at e
      obtain ⟨σ', Z', q1, q2, q3, q4, q5, q6⟩ := ih σ1 Z1 a2 (by have := a4.2.2.1 hg; omega)
      exact ⟨σ', Z', by rw [e]; exact q1, q2, a3.trans q3, fun T hT hF => q4 T hT (a4.1 T hT hF), fun q hb => q5 q (a4.2.2.2 q hb), q6⟩
    | false =>
      rw [hg] at e
      obtain ⟨g, rfl⟩ : ∃ g, f = g + 1 := ⟨f - 1, by omega⟩
      have hid := a4.2.1 hg
      refine ⟨σ1, Z1, ?_, a2, a3, a4.1, a4.2.2.2, fun p hp hc hzp => ?_⟩
      · rw [e, m_X12_isSolution_98]
        rw [if_pos (show b2i false = 0 from rfl)]
      · rw [hid] at hzp ⊢
        exact a5 hg p (Nat.zero_le _) hp hc hzp
theorem r_allPulled (h : MH S D c F Z σ) (hn : ∀ p, p < 6 → c p < 2 ^ 31) : m_X12_isSolution_160 FU 0 σ = some (b2i (!anyR 6 fun p => c p != 0 && !Z p), σ) := by
  refine up_fu (n := 6) (P := fun i f => anyR i (fun p => c p != 0 && !Z p) = false → m_X12_isSolution_160 f (nI i) σ = some (b2i (!anyR 6 fun p => c p != 0 && !Z p), σ)) (by decide) (fun f hh => ?_) (fun i f hi ih hh => ?_) 0 (Nat.zero_le _) rfl
  · unfold m_X12_isSolution_160
    rw [if_pos (show (6 : Int32) ≤ nI 6 by decide), hh]
    rfl
  · rw [anyR_s, hh, Bool.false_or] at ih
    unfold m_X12_isSolution_160
    rw [if_neg (show ¬ (6 : Int32) ≤ nI i from nI_ge (b := 6) hi (by decide)), h.pick hi]
    simp only [obind_some, b2i_0, nI_1, oi_m1 (hn i hi), h.pul hi]
    by_cases g1 : c i = 0
    · rw [if_pos g1]
      exact ih (by simp [g1])
    · rw [if_neg g1]
      cases g2 : Z i with
      | true =>
        rw [if_neg (by simp)]
        exact ih (by simp [g2])
      | false =>
        rw [if_pos rfl, anyR_t.mpr ⟨i, hi, by simp [g1, g2]⟩]
        rfl
end RSOL2
