/-! ===== the reference: is a choice a solution ===== -/
theorem RM.fr {l : List Nat} {S : SP} {σ σ' : Mem} (hR : RM S σ) (h : fr l σ σ') (hl : ∀ k ∈ mData, k ∉ l) (h94 : 94 ∉ l) : RM S σ' := hR.congr (fun k hk => h k (hl k hk)) (fun j _ => by rw [h 94 h94])
def MH (S : SP) (D : Nat) (c F : Nat → Nat) (Z : Nat → Bool) (σ : Mem) : Prop := RM S σ ∧ σ 94 25 = nI D ∧ (∀ p, p < 6 → σ 106 p = oi (c p)) ∧ (∀ p, p < 6 → σ 107 p = nI (F p)) ∧ (∀ p, p < 6 → F p < 8) ∧ (∀ p, p < 6 → c p ≤ s_nv S) ∧ ∀ p, p < 6 → σ 108 p = b2i (Z p)
def ztF (Z : Nat → Bool) (t : Nat) : Nat → Bool := fun p => decide (p = t) || Z p
section RSOL
variable {S : SP} {D : Nat} {c F : Nat → Nat} {Z : Nat → Bool} {σ : Mem}
theorem MH.RM (h : MH S D c F Z σ) : RM S σ := h.1
theorem MH.pick (h : MH S D c F Z σ) {p : Nat} (hp : p < 6) : ald σ 106 6 (nI p) = some (oi (c p)) := by rw [ald_nI hp (by decide), h.2.2.1 p hp]
theorem MH.on (h : MH S D c F Z σ) {p : Nat} (hp : p < 6) : ald σ 107 6 (nI p) = some (nI (F p)) := by rw [ald_nI hp (by decide), h.2.2.2.1 p hp]
theorem MH.pul (h : MH S D c F Z σ) {p : Nat} (hp : p < 6) : ald σ 108 6 (nI p) = some (b2i (Z p)) := by rw [ald_nI hp (by decide), h.2.2.2.2.2.2 p hp]
theorem MH.mg (h : MH S D c F Z σ) {t x : Nat} (ht : t < 6) (hx : x < 8) : MH S D c (mgF F t x) Z (up σ 107 t (nI (F t ||| x))) := by
  obtain ⟨h1, h2, h3, h4, h5, h6, h7⟩ := h
  refine ⟨h1.fr (fr.up (l := [107]) (by simp)) (by decide) (by decide), ?_, fun p hp => ?_, fun p hp => ?_, fun p hp => ?_, h6, fun p hp => ?_⟩
  · rw [up_pl _ _ (by decide)]
    exact h2
  · rw [up_pl _ _ (by decide)]
    exact h3 p hp
  · by_cases e : p = t
    · subst e
      rw [up_same, mg_same]
    · rw [up_off _ _ (Or.inr e), mg_off e]
      exact h4 p hp
  · unfold mgF
    split
    · exact Nat.or_lt_two_pow (n := 3) (h5 p hp) hx
    · exact h5 p hp
  · rw [up_pl _ _ (by decide)]
    exact h7 p hp
theorem MH.setz (h : MH S D c F Z σ) {t : Nat} (ht : t < 6) : MH S D c F (ztF Z t) (up σ 108 t 1) := by
  obtain ⟨h1, h2, h3, h4, h5, h6, h7⟩ := h
  refine ⟨h1.fr (fr.up (l := [108]) (by simp)) (by decide) (by decide), ?_, fun p hp => ?_, fun p hp => ?_, h5, h6, fun p hp => ?_⟩
  · rw [up_pl _ _ (by decide)]
    exact h2
  · rw [up_pl _ _ (by decide)]
    exact h3 p hp
  · rw [up_pl _ _ (by decide)]
    exact h4 p hp
  · by_cases e : p = t
    · subst e
      rw [up_same]
      simp [b2i, ztF]
    · rw [up_off _ _ (Or.inr e)]
      rw [h7 p hp]
      simp [b2i, e, ztF]

/-! turning on -/
theorem r_spread12 (hW : WF S) {p v : Nat} (hp : p < 6) (hcp : c p = v + 1) (hv : v < s_nv S) : ∀ i, i ≤ 3 → ∀ (σ : Mem) (F : Nat → Nat) (g0 : Bool), MH S D c F Z σ → ∃ σ' F' g', m_X12_spread_12 FU (nI p) (nI v) (b2i g0) (nI i) σ = m_X12_spread_98 FU (nI p) (nI v) (b2i (g0 || g')) 0 σ' ∧ MH S D c F' Z σ' ∧ fr [107, 108] σ σ' ∧ SpS S D c F F' g' ∧ (g' = false → ∀ f, i ≤ f → f < 3 → (F p).testBit f = true → ∀ g, g < 3 → (s_br S (3 * v + f)).testBit g = true → (F p).testBit g = true) := by
  have h24 := hW.nv
  refine up_fu (n := 3) (P := fun i f => ∀ (σ : Mem) (F : Nat → Nat) (g0 : Bool), MH S D c F Z σ → ∃ σ' F' g', m_X12_spread_12 f (nI p) (nI v) (b2i g0) (nI i) σ = m_X12_spread_98 FU (nI p) (nI v) (b2i (g0 || g')) 0 σ' ∧ MH S D c F' Z σ' ∧ fr [107, 108] σ σ' ∧ SpS S D c F F' g' ∧ (g' = false → ∀ f, i ≤ f → f < 3 → (F p).testBit f = true → ∀ g, g < 3 → (s_br S (3 * v + f)).testBit g = true → (F p).testBit g = true)) (by decide) (fun f σ F g0 h => ?_) (fun i f hi ih σ F g0 h => ?_)
  · refine ⟨σ, F, false, ?_, h, fr.refl, SpS.refl, fun _ f h1 h2 => absurd h2 (by omega)⟩
    unfold m_X12_spread_12
    rw [if_pos (show (3 : Int32) ≤ nI 3 by decide), Bool.or_false]
  · have hF := h.2.2.2.2.1 p hp
    have hb := hW.br (show 3 * v + i < 72 by omega)
    have e2 : ald σ 96 72 (3 * nI v + nI i) = some (nI (s_br S (3 * v + i))) := by rw [mul_nI (y := 3) 3 rfl, nI_add, ald_nI (by omega) (by decide), h.1.br (by omega)]
    have go : ∀ x, x < 8 → (∀ T, Cl S D c T → bitsIn F T → ∀ f, f < 3 → x.testBit f = true → T p f) → (F p ||| x = F p → (F p).testBit i = true → ∀ g, g < 3 → (s_br S (3 * v + i)).testBit g = true → (F p).testBit g = true) → m_X12_spread_12 (f + 1) (nI p) (nI v) (b2i g0) (nI i) σ = m_X12_spread_48 (m_X12_spread_12 f) (nI p) (nI v) (b2i g0) (nI i) (nI x) σ → ∃ σ' F' g', m_X12_spread_12 (f + 1) (nI p) (nI v) (b2i g0) (nI i) σ = m_X12_spread_98 FU (nI p) (nI v) (b2i (g0 || g')) 0 σ' ∧ MH S D c F' Z σ' ∧ fr [107, 108] σ σ' ∧ SpS S D c F F' g' ∧ (g' = false → ∀ f, i ≤ f → f < 3 → (F p).testBit f = true → ∀ g, g < 3 → (s_br S (3 * v + f)).testBit g = true → (F p).testBit g = true) := by
      intro x hx hs hc he
      have hst : SpS S D c F (mgF F p x) (decide (F p ||| x ≠ F p)) := SpS.mg hp hF hx hs
      obtain ⟨σ', F', g', q1, q2, q3, q4, q5⟩ := ih _ _ (g0 || decide (F p ||| x ≠ F p)) (h.mg hp hx)
      have hor : F p ||| x < 8 := Nat.or_lt_two_pow (n := 3) hF hx
      refine ⟨σ', F', _, ?_, q2, (fr.up (by simp)).trans q3, hst.trans q4, fun hg j h1 h2 h3 g hg3 h4 => ?_⟩
      · rw [he, ← Bool.or_assoc, ← q1]
        unfold m_X12_spread_48 m_X12_spread_77
        simp only [h.on hp, obind_some, nI_or, ast_nI hp (show 6 < 2 ^ 31 by decide), b2i_0, nI_1, nI_eq (show F p ||| x < 2 ^ 31 by omega) (show F p < 2 ^ 31 by omega)]
        cases g0 with
        | true => simp [b2i]
        | false =>
          by_cases e : F p ||| x = F p <;> simp [e, b2i]
      · rw [Bool.or_eq_false_iff] at hg
        have hid := hst.2.1 hg.1
        rw [hid] at q5
        by_cases e : j = i
        · subst e
          exact hc (by simpa using hg.1) h3 g hg3 h4
        · exact q5 hg.2 j (by omega) h2 h3 g hg3 h4
    cases hbit : (F p).testBit i with
    | true =>
      refine go (s_br S (3 * v + i)) (by omega) (fun T hT hFT f hf hb2 => ?_) (fun he _ g hg hb2 => or_bit he hb2) ?_
      · have := hT.2.1 p hp (by omega) i hi (hFT p hp i hi hbit) f hf
        rw [hcp, Nat.add_sub_cancel] at this
        exact this hb2
      · rw [m_X12_spread_12]
        simp only [h.on hp, obind_some, e2, bit_iff (show F p < 2 ^ 31 by omega) (show i < 31 by omega), hbit, if_true]
        rw [if_neg (show ¬ (3 : Int32) ≤ nI i from nI_ge (b := 3) hi (by decide))]
    | false =>
      refine go 0 (by omega) (fun T hT hFT f hf hb2 => by simp at hb2) (fun he h2 => by rw [hbit] at h2; cases h2) ?_
      rw [m_X12_spread_12]
      simp only [h.on hp, obind_some, e2, bit_iff (show F p < 2 ^ 31 by omega) (show i < 31 by omega), hbit, Bool.false_eq_true, if_false]
      rw [if_neg (show ¬ (3 : Int32) ≤ nI i from nI_ge (b := 3) hi (by decide))]
      rfl
theorem r_spread98 (hW : WF S) {p v : Nat} (hp : p < 6) (hcp : c p = v + 1) (hv : v < s_nv S) : ∀ i, i ≤ s_nn S v → ∀ (σ : Mem) (F : Nat → Nat) (g0 : Bool), MH S D c F Z σ → ∃ σ' F' g', m_X12_spread_98 FU (nI p) (nI v) (b2i g0) (nI i) σ = some (b2i (g0 || g'), σ') ∧ MH S D c F' Z σ' ∧ fr [107, 108] σ σ' ∧ SpS S D c F F' g' ∧ (g' = false → ∀ k, i ≤ k → k < s_nn S v → s_counts S (5 * v + k) (F p) = true → ∀ f, f < 3 → (s_nfs S (5 * v + k)).testBit f = true → c (s_heir S (s_tgt S (5 * v + k))) ≠ 0 → (F (s_heir S (s_tgt S (5 * v + k)))).testBit f = true) := by
  have h24 := hW.nv
  have h5 := hW.nn (show v < 24 by omega)
  refine up_fu (n := s_nn S v) (P := fun i f => ∀ (σ : Mem) (F : Nat → Nat) (g0 : Bool), MH S D c F Z σ → ∃ σ' F' g', m_X12_spread_98 f (nI p) (nI v) (b2i g0) (nI i) σ = some (b2i (g0 || g'), σ') ∧ MH S D c F' Z σ' ∧ fr [107, 108] σ σ' ∧ SpS S D c F F' g' ∧ (g' = false → ∀ k, i ≤ k → k < s_nn S v → s_counts S (5 * v + k) (F p) = true → ∀ f, f < 3 → (s_nfs S (5 * v + k)).testBit f = true → c (s_heir S (s_tgt S (5 * v + k))) ≠ 0 → (F (s_heir S (s_tgt S (5 * v + k)))).testBit f = true)) (by omega) (fun f σ F g0 h => ?_) (fun i f hi ih σ F g0 h => ?_)
  · refine ⟨σ, F, false, ?_, h, fr.refl, SpS.refl, fun _ k h1 h2 => absurd h2 (by omega)⟩
    obtain ⟨-, -, -, -, -, -, -, -, e8⟩ := r_rd hW.1 h.1.1 hv
    unfold m_X12_spread_98
    rw [e8, obind_some, if_pos (nI_le (Nat.le_refl _) (by omega)), zchk_b, Bool.or_false]
    rfl
  · obtain ⟨-, -, -, -, -, -, -, -, e8⟩ := r_rd hW.1 h.1.1 hv
    obtain ⟨n0, n1, n2, n3, n4, n5⟩ := r_need hW h.1 hv hi
    have wn := hW.need hv hi
    have wh := s_heir_lt hW wn.1
    have hF := h.2.2.2.2.1
    have hx : s_nfs S (5 * v + i) < 8 := by omega
    have hor : F (s_heir S (s_tgt S (5 * v + i))) ||| s_nfs S (5 * v + i) < 8 := Nat.or_lt_two_pow (n := 3) (hF _ wh) hx
    have hcl := h.2.2.2.2.2.1 _ wh
    have e5 := r_counts hW h.1 hv hi hp (h.2.2.2.1 p hp) (show F p < 2 ^ 31 by have := hF p hp; omega)
    have e4 := r_standsFor hW h.1 wn.1
    have skip : (s_counts S (5 * v + i) (F p) = true → c (s_heir S (s_tgt S (5 * v + i))) = 0) → m_X12_spread_98 (f + 1) (nI p) (nI v) (b2i g0) (nI i) σ = m_X12_spread_98 f (nI p) (nI v) (b2i g0) (nI (i + 1)) σ → ∃ σ' F' g', m_X12_spread_98 (f + 1) (nI p) (nI v) (b2i g0) (nI i) σ = some (b2i (g0 || g'), σ') ∧ MH S D c F' Z σ' ∧ fr [107, 108] σ σ' ∧ SpS S D c F F' g' ∧ (g' = false → ∀ k, i ≤ k → k < s_nn S v → s_counts S (5 * v + k) (F p) = true → ∀ f, f < 3 → (s_nfs S (5 * v + k)).testBit f = true → c (s_heir S (s_tgt S (5 * v + k))) ≠ 0 → (F (s_heir S (s_tgt S (5 * v + k)))).testBit f = true) := by
      intro hs he
      obtain ⟨σ', F', g', q1, q2, q3, q4, q5⟩ := ih σ F g0 h
      refine ⟨σ', F', g', by rw [he, q1], q2, q3, q4, fun hg k h1 h2 h3 f hf h4 h6 => ?_⟩
      by_cases e : k = i
      · subst e
        exact absurd (hs h3) h6
      · exact q5 hg k (by omega) h2 h3 f hf h4 h6
    have un : m_X12_spread_98 (f + 1) (nI p) (nI v) (b2i g0) (nI i) σ = if s_counts S (5 * v + i) (F p) = false then m_X12_spread_98 f (nI p) (nI v) (b2i g0) (nI (i + 1)) σ else if c (s_heir S (s_tgt S (5 * v + i))) = 0 then m_X12_spread_98 f (nI p) (nI v) (b2i g0) (nI (i + 1)) σ else m_X12_spread_98 f (nI p) (nI v) (b2i (g0 || decide (F (s_heir S (s_tgt S (5 * v + i))) ||| s_nfs S (5 * v + i) ≠ F (s_heir S (s_tgt S (5 * v + i)))))) (nI (i + 1)) (up σ 107 (s_heir S (s_tgt S (5 * v + i))) (nI (F (s_heir S (s_tgt S (5 * v + i))) ||| s_nfs S (5 * v + i)))) := by
      rw [m_X12_spread_98]
      unfold m_X12_spread_196
      rw [e8, obind_some, if_neg (nI_ge hi (by omega)), obind_some]
      simp only [n0, n5, e4, e5, h.pick wh, h.on wh, obind_some, nI_or, ast_nI wh (show 6 < 2 ^ 31 by decide), b2i_0, nI_1, oi_m1 (show c (s_heir S (s_tgt S (5 * v + i))) < 2 ^ 31 by omega), nI_eq (show F (s_heir S (s_tgt S (5 * v + i))) ||| s_nfs S (5 * v + i) < 2 ^ 31 by omega) (show F (s_heir S (s_tgt S (5 * v + i))) < 2 ^ 31 by have := hF _ wh; omega)]
      cases g0 with
      | true => simp [b2i]
      | false =>
        by_cases e : F (s_heir S (s_tgt S (5 * v + i))) ||| s_nfs S (5 * v + i) = F (s_heir S (s_tgt S (5 * v + i))) <;> simp [e, b2i]
    cases hcn : s_counts S (5 * v + i) (F p) with
    | false => exact skip (fun hb => by rw [hcn] at hb; cases hb) (by rw [un, hcn, if_pos rfl])
    | true =>
      by_cases h0 : c (s_heir S (s_tgt S (5 * v + i))) = 0
      · exact skip (fun _ => h0) (by rw [un, hcn, if_neg (by decide), if_pos h0])
      · have hst : SpS S D c F (mgF F (s_heir S (s_tgt S (5 * v + i))) (s_nfs S (5 * v + i))) (decide (F (s_heir S (s_tgt S (5 * v + i))) ||| s_nfs S (5 * v + i) ≠ F (s_heir S (s_tgt S (5 * v + i))))) := by
          refine SpS.mg wh (hF _ wh) hx (fun T hT hFT f hf hb => ?_)
          have := hT.2.2 p hp (by omega) i (by rw [hcp]; exact hi)
          rw [hcp, Nat.add_sub_cancel] at this
          exact this (s_counts_T hp wn.2.2.2.1 hcn hFT) f hf hb
        obtain ⟨σ', F', g', q1, q2, q3, q4, q5⟩ := ih _ _ (g0 || decide (F (s_heir S (s_tgt S (5 * v + i))) ||| s_nfs S (5 * v + i) ≠ F (s_heir S (s_tgt S (5 * v + i))))) (h.mg wh hx)
        refine ⟨σ', F', _, ?_, q2, (fr.up (by simp)).trans q3, hst.trans q4, fun hg k h1 h2 h3 f hf h4 h6 => ?_⟩
        · rw [un, hcn, if_neg (by decide), if_neg h0, q1, Bool.or_assoc]
        · rw [Bool.or_eq_false_iff] at hg
          have hid := hst.2.1 hg.1
          rw [hid] at q5
          by_cases e : k = i
          · subst e
            have : F (s_heir S (s_tgt S (5 * v + k))) ||| s_nfs S (5 * v + k) = F (s_heir S (s_tgt S (5 * v + k))) := by simpa using hg.1
            exact or_bit this h4
          · exact q5 hg.2 k (by omega) h2 h3 f hf h4 h6
theorem r_spread (hW : WF S) {p v : Nat} (hp : p < 6) (hcp : c p = v + 1) (h : MH S D c F Z σ) : ∃ σ' F' g, m_X12_spread (nI p) σ = some (b2i g, σ') ∧ MH S D c F' Z σ' ∧ fr [107, 108] σ σ' ∧ SpS S D c F F' g ∧ (g = false → ClB S F p v ∧ ClN S F (fun q => c q ≠ 0) p v) := by
  have hv : v < s_nv S := by have := h.2.2.2.2.2.1 p hp; omega
  obtain ⟨σ1, F1, g1, a1, a2, a3, a4, a5⟩ := r_spread12 (D := D) hW hp hcp hv 0 (by decide) σ F false h
  obtain ⟨σ2, F2, g2, b1, b2, b3, b4, b5⟩ := r_spread98 (D := D) hW hp hcp hv 0 (Nat.zero_le _) σ1 F1 (false || g1) a2
  refine ⟨σ2, F2, _, ?_, b2, a3.trans b3, a4.trans b4, fun hg => ?_⟩
  · unfold m_X12_spread
    rw [h.pick hp, obind_s, hcp, oi_s]
    rw [Bool.false_or] at b1
    exact a1.trans b1
  · rw [Bool.or_eq_false_iff] at hg
    have hid := a4.2.1 hg.1
    rw [hid] at b5
    exact ⟨fun f hf hb g hg3 hbr => a5 hg.1 f (Nat.zero_le _) hf hb g hg3 hbr, fun k hk hcn f hf hb hz => b5 hg.2 k (Nat.zero_le _) hk hcn f hf hb hz⟩
theorem r_ton_round (hW : WF S) {f11 : Int32 → Mem → Option (Int32 × Mem)} : ∀ i, i ≤ 6 → ∀ (σ : Mem) (F : Nat → Nat) (g0 : Bool), MH S D c F Z σ → ∃ σ' F' g', m_X12_isSolution_19 f11 FU (b2i g0) (nI i) σ = f11 (b2i (g0 || g')) σ' ∧ MH S D c F' Z σ' ∧ fr [107, 108] σ σ' ∧ SpS S D c F F' g' ∧ (g' = false → ∀ p, i ≤ p → p < 6 → c p ≠ 0 → ClB S F p (c p - 1) ∧ ClN S F (fun q => c q ≠ 0) p (c p - 1)) := by
  refine up_fu (n := 6) (P := fun i f => ∀ (σ : Mem) (F : Nat → Nat) (g0 : Bool), MH S D c F Z σ → ∃ σ' F' g', m_X12_isSolution_19 f11 f (b2i g0) (nI i) σ = f11 (b2i (g0 || g')) σ' ∧ MH S D c F' Z σ' ∧ fr [107, 108] σ σ' ∧ SpS S D c F F' g' ∧ (g' = false → ∀ p, i ≤ p → p < 6 → c p ≠ 0 → ClB S F p (c p - 1) ∧ ClN S F (fun q => c q ≠ 0) p (c p - 1))) (by decide) (fun f σ F g0 h => ?_) (fun i f hi ih σ F g0 h => ?_)
  · refine ⟨σ, F, false, ?_, h, fr.refl, SpS.refl, fun _ p h1 h2 => absurd h2 (by omega)⟩
    unfold m_X12_isSolution_19
    rw [if_pos (show (6 : Int32) ≤ nI 6 by decide), Bool.or_false]
  · have hcl := h.2.2.2.2.2.1 i hi
    have h24 := hW.nv
    by_cases h0 : c i = 0
    · obtain ⟨σ', F', g', q1, q2, q3, q4, q5⟩ := ih σ F g0 h
      refine ⟨σ', F', g', ?_, q2, q3, q4, fun hg p h1 h2 h3 => ?_⟩
      · rw [m_X12_isSolution_19]
        rw [if_neg (show ¬ (6 : Int32) ≤ nI i from nI_ge (b := 6) hi (by decide)), h.pick hi, obind_some, h0, if_pos (show oi 0 = -1 from rfl)]
        unfold m_X12_isSolution_43 m_X12_isSolution_52
        rw [nI_1]
        cases g0
        · rw [if_pos (show b2i false = 0 from rfl)]
          exact q1
        · rw [if_neg (show ¬ b2i true = 0 by decide)]
          exact q1
      · by_cases e : p = i
        · subst e
          exact absurd h0 h3
        · exact q5 hg p (by omega) h2 h3
    · obtain ⟨v, hv⟩ : ∃ v, c i = v + 1 := ⟨c i - 1, by omega⟩
      obtain ⟨σ1, F1, g1, a1, a2, a3, a4, a5⟩ := r_spread hW hi hv h
      obtain ⟨σ', F', g', q1, q2, q3, q4, q5⟩ := ih σ1 F1 (g0 || g1) a2
      refine ⟨σ', F', g1 || g', ?_, q2, a3.trans q3, a4.trans q4, fun hg p h1 h2 h3 => ?_⟩
      · rw [m_X12_isSolution_19]
        rw [if_neg (show ¬ (6 : Int32) ≤ nI i from nI_ge (b := 6) hi (by decide)), h.pick hi, obind_some, hv, oi_s, if_neg (nI_nm1 (by omega)), a1, obind_some]
        unfold m_X12_isSolution_43 m_X12_isSolution_52
        rw [nI_1, ← Bool.or_assoc, ← q1]
        cases g0 <;> cases g1 <;> rfl
      · rw [Bool.or_eq_false_iff] at hg
        have hid := a4.2.1 hg.1
        rw [hid] at q5
        by_cases e : p = i
        · subst e
          rw [hv, Nat.add_sub_cancel]
          exact a5 hg.1
        · exact q5 hg.2 p (by omega) h2 h3
/-- when no round grows any more, the needs are looked at -/
theorem r_ton_rounds (hW : WF S) : ∀ (k r f : Nat), r + k = 19 → k < f → ∀ (σ : Mem) (F : Nat → Nat), MH S D c F Z σ → r ≤ wt6 F → ∃ σ' F', m_X12_isSolution_11 f 1 σ = m_X12_isSolution_64 FU 0 σ' ∧ MH S D c F' Z σ' ∧ fr [107, 108] σ σ' ∧ (∀ T, Cl S D c T → bitsIn F T → bitsIn F' T) ∧ (∀ q f, (F q).testBit f = true → (F' q).testBit f = true) ∧ ∀ p, p < 6 → c p ≠ 0 → ClB S F' p (c p - 1) ∧ ClN S F' (fun q => c q ≠ 0) p (c p - 1) := by
  refine up_ind2 (n := 19) (P := fun r f => ∀ (σ : Mem) (F : Nat → Nat), MH S D c F Z σ → r ≤ wt6 F → ∃ σ' F', m_X12_isSolution_11 f 1 σ = m_X12_isSolution_64 FU 0 σ' ∧ MH S D c F' Z σ' ∧ fr [107, 108] σ σ' ∧ (∀ T, Cl S D c T → bitsIn F T → bitsIn F' T) ∧ (∀ q f, (F q).testBit f = true → (F' q).testBit f = true) ∧ ∀ p, p < 6 → c p ≠ 0 → ClB S F' p (c p - 1) ∧ ClN S F' (fun q => c q ≠ 0) p (c p - 1)) (fun f σ F h hw => ?_) (fun r f hr hf ih σ F h hw => ?_)
  · have := wt6_le F
    omega
  · obtain ⟨σ1, F1, g1, a1, a2, a3, a4, a5⟩ := r_ton_round (D := D) hW (f11 := m_X12_isSolution_11 f) 0 (by decide) σ F false h
    have e : m_X12_isSolution_11 (f + 1) 1 σ = m_X12_isSolution_11 f (b2i g1) σ1 := by
      rw [m_X12_isSolution_11]
      rw [if_neg (by decide)]
      rw [Bool.false_or] at a1
      exact a1
    cases hg : g1 with
    | true =>
      rw [hg] at e
      obtain ⟨σ', F', q1, q2, q3, q4, q5, q6⟩ := ih σ1 F1 a2 (by have := a4.2.2.1 hg; omega)
      exact ⟨σ', F', by rw [e]; exact q1, q2, a3.trans q3, fun T hT hF => q4 T hT (a4.1 T hT hF), fun q f hb => q5 q f (a4.2.2.2 q f hb), q6⟩
    | false =>
      rw [hg] at e
      obtain ⟨g, rfl⟩ : ∃ g, f = g + 1 := ⟨f - 1, by omega⟩
      have hid := a4.2.1 hg
      refine ⟨σ1, F1, ?_, a2, a3, a4.1, a4.2.2.2, fun p hp hc => ?_⟩
      · rw [e, m_X12_isSolution_11]
        rw [if_pos (show b2i false = 0 from rfl)]
      · rw [hid]
        exact a5 hg p (Nat.zero_le _) hp hc
end RSOL
