/-! ===== the reference: to the next choice ===== -/
theorem oi_p1 (x : Nat) : oi x + 1 = nI x := by
  rcases Nat.eq_zero_or_pos x with h | h
  · rw [h]
    decide
  · obtain ⟨k, rfl⟩ : ∃ k, x = k + 1 := ⟨x - 1, by omega⟩
    rw [oi_s, nI_1]
theorem nI_m1 (a : Nat) : nI a + (-1) = oi a := by
  rcases Nat.eq_zero_or_pos a with h | h
  · rw [h]
    decide
  · obtain ⟨k, rfl⟩ : ∃ k, a = k + 1 := ⟨a - 1, by omega⟩
    rw [pk_m1, oi_s]
theorem r_in3 {σ : Mem} {a lo hi : Nat} (h1 : a < 2 ^ 31) (h2 : lo < 2 ^ 31) (h3 : hi < 2 ^ 31) : m_X12_in (nI a) (nI lo) (nI hi) σ = some (b2i (decide (lo ≤ a ∧ a ≤ hi)), σ) := by
  unfold m_X12_in
  simp only [nI_ltI h1 h2, nI_ltI h3 h1]
  by_cases g1 : a < lo
  · rw [if_pos g1]
    simp [b2i, show ¬ lo ≤ a by omega]
  · rw [if_neg g1]
    by_cases g2 : hi < a
    · rw [if_pos g2]
      simp [b2i, show ¬ a ≤ hi by omega]
    · rw [if_neg g2]
      simp [b2i, show lo ≤ a by omega, show a ≤ hi by omega]
def Brk (S : SP) (c : Nat → Nat) (p hi : Nat) : Prop := c p ≠ 0 ∧ ∃ k, k < s_nn S (c p - 1) ∧ s_nft S (5 * (c p - 1) + k) = 0 ∧ (s_npl S (5 * (c p - 1) + k)).testBit (s_plt S) = true ∧ s_heir S (s_tgt S (5 * (c p - 1) + k)) ≤ hi ∧ s_serv S (5 * (c p - 1) + k) (c (s_heir S (s_tgt S (5 * (c p - 1) + k)))) = false
section GOON
variable {S : SP} {D w P : Nat} {O : Nat → List Nat} {c t : Nat → Nat} {σ : Mem}
theorem r_isBroken (hW : WF S) (hR : RM S σ) {p lo hi : Nat} (hhi : hi < 6) (hlo : lo < 6) (hp : p ≤ hi) (hc : ∀ q, q ≤ hi → σ 106 q = oi (c q)) (hn : ∀ q, c q ≤ s_nv S) : ∃ b, m_X12_isBroken (nI p) (nI lo) (nI hi) σ = some (b2i b, σ) ∧ (b = true → Brk S c p hi) := by
  have h24 := hW.nv
  have hpt := hW.plt
  unfold m_X12_isBroken
  rw [ald_nI (show p < 6 by omega) (by decide), obind_s, hc p hp]
  by_cases h0 : c p = 0
  · obtain ⟨g, hg⟩ : ∃ g, FU = g + 1 := ⟨3999999, rfl⟩
    refine ⟨false, ?_, fun h => by cases h⟩
    rw [h0, hg, m_X12_isBroken_11]
    rw [if_pos (show oi 0 = -1 from rfl)]
    rfl
  · obtain ⟨v, hv⟩ : ∃ v, c p = v + 1 := ⟨c p - 1, by omega⟩
    have hvn : v < s_nv S := by have := hn p; omega
    have h5 := hW.nn (show v < 24 by omega)
    obtain ⟨-, -, -, -, -, -, -, -, e8⟩ := r_rd hW.1 hR.1 hvn
    unfold Brk
    rw [hv, oi_s, Nat.add_sub_cancel]
    refine up_fu (n := s_nn S v) (P := fun i f => ∃ b, m_X12_isBroken_11 f (nI lo) (nI hi) (nI v) (nI i) σ = some (b2i b, σ) ∧ (b = true → v + 1 ≠ 0 ∧ ∃ k, k < s_nn S v ∧ s_nft S (5 * v + k) = 0 ∧ (s_npl S (5 * v + k)).testBit (s_plt S) = true ∧ s_heir S (s_tgt S (5 * v + k)) ≤ hi ∧ s_serv S (5 * v + k) (c (s_heir S (s_tgt S (5 * v + k)))) = false)) (by omega) (fun f => ?_) (fun i f hi2 ih => ?_) 0 (Nat.zero_le _)
    · refine ⟨false, ?_, fun h => by cases h⟩
      rw [m_X12_isBroken_11]
      rw [if_neg (nI_nm1 (by omega)), e8, obind_some, if_pos (nI_le (Nat.le_refl _) (by omega))]
      rfl
    · obtain ⟨b0, i1, i2⟩ := ih
      obtain ⟨n0, n1, n2, n3, n4, n5⟩ := r_need hW hR hvn hi2
      have wn := hW.need hvn hi2
      have wh := s_heir_lt hW wn.1
      have hct := hn (s_heir S (s_tgt S (5 * v + i)))
      by_cases g1 : lo ≤ s_heir S (s_tgt S (5 * v + i)) ∧ s_heir S (s_tgt S (5 * v + i)) ≤ hi
      · have e8' : ald σ 106 6 (nI (s_heir S (s_tgt S (5 * v + i)))) = some (oi (c (s_heir S (s_tgt S (5 * v + i))))) := by rw [ald_nI wh (by decide), hc _ g1.2]
        have un : m_X12_isBroken_11 (f + 1) (nI lo) (nI hi) (nI v) (nI i) σ = if s_nft S (5 * v + i) = 0 then (if (s_npl S (5 * v + i)).testBit (s_plt S) = true then (if s_serv S (5 * v + i) (c (s_heir S (s_tgt S (5 * v + i)))) = true then m_X12_isBroken_11 f (nI lo) (nI hi) (nI v) (nI (i + 1)) σ else some (1, σ)) else m_X12_isBroken_11 f (nI lo) (nI hi) (nI v) (nI (i + 1)) σ) else m_X12_isBroken_11 f (nI lo) (nI hi) (nI v) (nI (i + 1)) σ := by
          rw [m_X12_isBroken_11]
          rw [if_neg (nI_nm1 (by omega)), e8, obind_some, if_neg (nI_ge hi2 (by omega)), obind_some, n0, obind_some, r_standsFor hW hR wn.1, obind_some, r_in3 (by omega) (by omega) (by omega), obind_some, decide_eq_true g1, if_neg (show ¬ b2i true = 0 by decide)]
          simp only [n3, n4, n2, n1, e8', obind_some, hR.plt, bit_iff (show s_npl S (5 * v + i) < 2 ^ 31 by omega) (show s_plt S < 31 by omega), oi_m1 (show s_nft S (5 * v + i) < 2 ^ 31 by omega), oi_m1 (show c (s_heir S (s_tgt S (5 * v + i))) < 2 ^ 31 by omega), nI_o (show s_nkd S (5 * v + i) < 2 ^ 31 by omega), nI_1]
          by_cases h1 : s_nft S (5 * v + i) = 0
          · rw [if_pos h1, if_pos h1]
            by_cases h2 : (s_npl S (5 * v + i)).testBit (s_plt S) = true
            · rw [if_pos h2, if_pos h2]
              unfold s_serv
              by_cases h3 : c (s_heir S (s_tgt S (5 * v + i))) = 0
              · rw [if_pos h3, if_pos h3]
                by_cases h4 : s_nkd S (5 * v + i) = 1 <;> simp [h4]
              · rw [if_neg h3, if_neg h3]
                obtain ⟨u, hu⟩ : ∃ u, c (s_heir S (s_tgt S (5 * v + i))) = u + 1 := ⟨c (s_heir S (s_tgt S (5 * v + i))) - 1, by omega⟩
                rw [hu, oi_s, r_has hW hR wn.2.1 (show u < s_nv S by omega)]
                simp only [obind_some, has_0 hW wn.2.1 (show u < s_nv S by omega), Nat.add_sub_cancel]
                cases hh : (s_has S (24 * s_nrg S (5 * v + i) + u) == 1) <;> simp
            · rw [if_neg h2, if_neg h2]
          · rw [if_neg h1, if_neg h1]
        by_cases h1 : s_nft S (5 * v + i) = 0
        · by_cases h2 : (s_npl S (5 * v + i)).testBit (s_plt S) = true
          · cases h3 : s_serv S (5 * v + i) (c (s_heir S (s_tgt S (5 * v + i)))) with
            | true => exact ⟨b0, by rw [un, if_pos h1, if_pos h2, h3, if_pos rfl, i1], i2⟩
            | false =>
              refine ⟨true, by rw [un, if_pos h1, if_pos h2, h3, if_neg (by decide)]; rfl, fun _ => ⟨by omega, i, hi2, h1, h2, g1.2, h3⟩⟩
          · exact ⟨b0, by rw [un, if_pos h1, if_neg h2, i1], i2⟩
        · exact ⟨b0, by rw [un, if_neg h1, i1], i2⟩
      · refine ⟨b0, ?_, i2⟩
        rw [m_X12_isBroken_11]
        rw [if_neg (nI_nm1 (by omega)), e8, obind_some, if_neg (nI_ge hi2 (by omega)), obind_some, n0, obind_some, r_standsFor hW hR wn.1, obind_some, r_in3 (by omega) (by omega) (by omega), obind_some, decide_eq_false g1, if_pos (show b2i false = 0 from rfl), nI_1]
        exact i1
theorem r_fits (hW : WF S) (hR : RM S σ) {a : Nat} (ha : a < 6) (hc : ∀ q, q ≤ a → σ 106 q = oi (c q)) (hn : ∀ q, c q ≤ s_nv S) : ∃ b, m_X12_fitsSoFar (nI a) σ = some (b2i b, σ) ∧ (b = false → ∃ p, p ≤ a ∧ Brk S c p a) := by
  obtain ⟨b1, e1, e2⟩ := r_isBroken (lo := 0) hW hR ha (by decide) (Nat.le_refl a) hc hn
  have key : ∀ i, i ≤ a → ∀ g : Bool, (g = false → ∃ p, p ≤ a ∧ Brk S c p a) → ∃ b, m_X12_fitsSoFar_18 FU (nI a) (b2i g) (nI i) σ = some (b2i b, σ) ∧ (b = false → ∃ p, p ≤ a ∧ Brk S c p a) := by
    refine up_fu (n := a) (P := fun i f => ∀ g : Bool, (g = false → ∃ p, p ≤ a ∧ Brk S c p a) → ∃ b, m_X12_fitsSoFar_18 f (nI a) (b2i g) (nI i) σ = some (b2i b, σ) ∧ (b = false → ∃ p, p ≤ a ∧ Brk S c p a)) (by omega) (fun f g hg => ?_) (fun i f hi ih g hg => ?_)
    · refine ⟨g, ?_, hg⟩
      rw [m_X12_fitsSoFar_18]
      rw [if_pos (nI_le (Nat.le_refl _) (by omega)), zchk_b]
      rfl
    · cases hgb : g with
      | false =>
        refine ⟨false, ?_, fun _ => hg hgb⟩
        rw [m_X12_fitsSoFar_18]
        rw [if_neg (nI_ge hi (by omega)), if_pos (show b2i false = 0 from rfl), zchk_b]
        rfl
      | true =>
        obtain ⟨b2, f1, f2⟩ := r_isBroken (lo := a) hW hR ha ha (show i ≤ a by omega) hc hn
        obtain ⟨b, r1, r2⟩ := ih (!b2) (fun h => ⟨i, by omega, f2 (by simpa using h)⟩)
        refine ⟨b, ?_, r2⟩
        rw [m_X12_fitsSoFar_18]
        rw [if_neg (nI_ge hi (by omega)), if_neg (show ¬ b2i true = 0 by decide), f1, obind_some]
        unfold m_X12_fitsSoFar_42
        rw [nI_1, ← r1]
        cases b2 <;> rfl
  obtain ⟨b, q1, q2⟩ := key 0 (Nat.zero_le _) (!b1) (fun h => ⟨a, Nat.le_refl _, e2 (by simpa using h)⟩)
  refine ⟨b, ?_, q2⟩
  unfold m_X12_fitsSoFar
  have e1 : m_X12_isBroken (nI a) 0 (nI a) σ = some (b2i b1, σ) := e1
  rw [e1, obind_s, ← q1]
  cases b1 <;> rfl
theorem cut_brk {a p : Nat} {l : List Nat} (ha : a < 6) (hp : p ≤ a) (hb : Brk S c p a) (h : ∀ q, q ≤ a → chL l q = c q) : ¬ SolF S D (chL l) := by
  intro hg
  obtain ⟨h0, k, hk, h1, h2, h3, h4⟩ := hb
  have e := h p hp
  have := hg.2.2.1 p (by omega) (by rw [e]; exact h0) k (by rw [e]; exact hk) (by rw [e]; exact ⟨h2, Or.inl h1⟩)
  rw [e] at this
  have := s_serv_iff.mpr this
  rw [h _ h3, h4] at this
  cases this
def MS (S : SP) (D : Nat) (O : Nat → List Nat) (a : Nat) (c t : Nat → Nat) (σ : Mem) : Prop := RM S σ ∧ σ 94 25 = nI D ∧ (∀ q, q < 6 → OffM σ q (O q)) ∧ (∀ q, q < 6 → q < a → σ 111 q = oi (t q)) ∧ (∀ q, q < 6 → q + 1 < a → σ 106 q = oi (c q)) ∧ ∀ q, c q ≤ s_nv S ∧ (6 ≤ q → c q = 0)
theorem MS.frm {a : Nat} {l : List Nat} {σ' : Mem} (h : MS S D O a c t σ) (hf : fr l σ σ') (h2 : ∀ k ∈ [94, 95, 96, 97, 98, 99, 100, 101, 102, 103, 104, 105, 106, 109, 110, 111], k ∉ l) : MS S D O a c t σ' := by
  obtain ⟨g1, g2, g3, g4, g5, g6⟩ := h
  refine ⟨g1.fr hf (fun k hk => h2 k (by revert hk; unfold mData; simp; omega)) (h2 94 (by simp)), ?_, fun q hq => ⟨(g3 q hq).1.congr fun i _ => ?_, ?_⟩, fun q hq hq2 => ?_, fun q hq hq2 => ?_, g6⟩
  · rw [hf 94 (h2 94 (by simp))]
    exact g2
  · rw [hf 109 (h2 109 (by simp))]
  · rw [hf 110 (h2 110 (by simp))]
    exact (g3 q hq).2
  · rw [hf 111 (h2 111 (by simp))]
    exact g4 q hq hq2
  · rw [hf 106 (h2 106 (by simp))]
    exact g5 q hq hq2
theorem r_goOn_loop (hW : WF S) (hO : ∀ p, p < 6 → OSpM S D w P p (O p)) : ∀ (f a : Nat) (c t : Nat → Nat) (σ : Mem), MS S D O a c t σ → a ≤ 6 → (∀ q, q < a → t q < 2 ^ 30) → muU O t a < f → ∃ σ' b, m_X12_goOn_21 f (oi a) σ = some (b2i b, σ') ∧ fr [106, 111] σ σ' ∧ (b = false → ∀ l, l ∈ remU O c t a → ¬ SolF S D (chL l)) ∧ (b = true → ∃ pre l R' t', remU O c t a = pre ++ l :: R' ∧ (∀ x, x ∈ pre → ¬ SolF S D (chL x)) ∧ MS S D O 6 (chL l) t' σ' ∧ (∀ p, p < 6 → σ' 106 p = oi (chL l p)) ∧ (∀ q, q < 6 → t' q < 2 ^ 30) ∧ remU O (chL l) t' 6 = R' ∧ muU O t' 6 < muU O t a) := by
  have h24 := hW.nv
  intro f
  induction f with
  | zero => intro a c t σ _ _ _ h; omega
  | succ f ih =>
    intro a c t σ h ha ht hf
    obtain ⟨g1, g2, g3, g4, g5, g6⟩ := h
    rcases Nat.eq_zero_or_pos a with h0 | h0
    · subst h0
      refine ⟨σ, false, ?_, fr.refl, fun _ l hl => (by cases hl), fun h => (by cases h)⟩
      rw [m_X12_goOn_21]
      rw [if_pos (show oi 0 < 0 by decide)]
      rfl
    · obtain ⟨a, rfl⟩ : ∃ k, a = k + 1 := ⟨a - 1, by omega⟩
      have ha6 : a < 6 := by omega
      have hO5 := (hO a ha6).1
      have hlt : ¬ oi (a + 1) < 0 := by
        rw [oi_s]
        exact nI_pos (by omega)
      have hta := ht a (by omega)
      have e1 : ald σ 111 6 (nI a) = some (oi (t a)) := by rw [ald_nI ha6 (by decide), g4 a ha6 (by omega)]
      have e2 : ald (up σ 111 a (nI (t a))) 111 6 (nI a) = some (nI (t a)) := by rw [ald_nI ha6 (by decide), up_same]
      have e3 : ald (up σ 111 a (nI (t a))) 110 6 (nI a) = some (nI (O a).length) := by rw [ald_nI ha6 (by decide), up_pl _ _ (by decide), (g3 a ha6).2]
      have head : m_X12_goOn_21 (f + 1) (oi (a + 1)) σ = (if t a < (O a).length then obind (ald (up σ 111 a (nI (t a))) 109 30 ((5 * nI a) + nI (t a))) fun x6 => obind (ast (up σ 111 a (nI (t a))) 106 6 (nI a) x6) fun m7 => obind (m_X12_fitsSoFar (nI a) m7) fun x8 => if x8.1 = 0 then m_X12_goOn_21 f (nI a) x8.2 else if nI a = 5 then some (1, x8.2) else obind (ast x8.2 111 6 (nI a + 1) (-1)) fun m9 => m_X12_goOn_21 f (nI a + 1) m9 else m_X12_goOn_21 f (nI a + (-1)) (up σ 111 a (nI (t a)))) := by
        rw [m_X12_goOn_21]
        rw [if_neg hlt, oi_s, e1, obind_some, oi_p1, ast_nI ha6 (by decide), obind_some, e2, obind_some, e3, obind_some, obind_some]
        simp only [nI_ltI (show t a < 2 ^ 31 by omega) (show (O a).length < 2 ^ 31 by omega)]
      rcases Nat.lt_or_ge (t a) (O a).length with hl | hl
      · have hx : (O a)[t a]? = some ((O a)[t a]) := List.getElem?_eq_getElem hl
        obtain ⟨x, hxe⟩ : ∃ x, (O a)[t a] = x := ⟨_, rfl⟩
        rw [hxe] at hx
        have hxm : x ∈ O a := by rw [← hxe]; exact List.getElem_mem hl
        have hxc := ((hO a ha6).2.2 x).mp hxm
        have hxn : x ≤ s_nv S := by
          rcases hxc.1 with h1 | h1
          · omega
          · omega
        have e6 : ald (up σ 111 a (nI (t a))) 109 30 ((5 * nI a) + nI (t a)) = some (oi x) := by
          rw [mul_nI (y := 5) 5 rfl, nI_add, ald_nI (by omega) (by decide), up_pl _ _ (by decide), (g3 a ha6).1 _ hl]
          simp only [List.getD, hx, Option.getD_some]
        rw [if_pos hl, e6, obind_some, ast_nI ha6 (by decide), obind_some] at head
        have hR := remU_pick (c := c) hx
        have hmu := muU_pick hl
        have hRc : remU O c (sN t a (t a + 1)) (a + 1) = remU O (sN c a x) (sN t a (t a + 1)) (a + 1) := remU_congr (a + 1) (fun _ _ => rfl) (fun q hq => (sN_off (by omega)).symm)
        rw [hRc] at hR
        have ht1 : ∀ q, q < a + 1 → sN t a (t a + 1) q < 2 ^ 30 := fun q hq => by
          by_cases e : q = a
          · subst e
            rw [sN_same]
            omega
          · rw [sN_off e]
            exact ht q (by omega)
        have fr1 : fr [106, 111] σ (up (up σ 111 a (nI (t a))) 106 a (oi x)) := (fr.up (by simp)).trans (fr.up (by simp))
        have h106 : ∀ q, q ≤ a → (up (up σ 111 a (nI (t a))) 106 a (oi x)) 106 q = oi (sN c a x q) := fun q hq => by
          by_cases e : q = a
          · subst e
            rw [up_same, sN_same]
          · rw [up_off _ _ (Or.inr e), up_pl _ _ (by decide), sN_off e]
            exact g5 q (by omega) (by omega)
        have h111 : ∀ q, q < 6 → q < a + 1 → (up (up σ 111 a (nI (t a))) 106 a (oi x)) 111 q = oi (sN t a (t a + 1) q) := fun q hq hq2 => by
          rw [up_pl _ _ (by decide)]
          by_cases e : q = a
          · subst e
            rw [up_same, sN_same, oi_s]
          · rw [up_off _ _ (Or.inr e), sN_off e]
            exact g4 q hq hq2
        have hcn : ∀ q, sN c a x q ≤ s_nv S ∧ (6 ≤ q → sN c a x q = 0) := fun q => by
          by_cases e : q = a
          · subst e
            rw [sN_same]
            exact ⟨hxn, fun h => by omega⟩
          · rw [sN_off e]
            exact g6 q
        have hR1 : RM S (up (up σ 111 a (nI (t a))) 106 a (oi x)) := g1.fr fr1 (by decide) (by decide)
        have hOff : ∀ q, q < 6 → OffM (up (up σ 111 a (nI (t a))) 106 a (oi x)) q (O q) := fun q hq => ⟨(g3 q hq).1.congr fun i _ => by rw [up_pl _ _ (by decide), up_pl _ _ (by decide)], by rw [up_pl _ _ (by decide), up_pl _ _ (by decide)]; exact (g3 q hq).2⟩
        have h25 : (up (up σ 111 a (nI (t a))) 106 a (oi x)) 94 25 = nI D := by rw [up_pl _ _ (by decide), up_pl _ _ (by decide)]; exact g2
        have hM1 : MS S D O (a + 1) (sN c a x) (sN t a (t a + 1)) (up (up σ 111 a (nI (t a))) 106 a (oi x)) := ⟨hR1, h25, hOff, h111, fun q hq hq2 => h106 q (by omega), hcn⟩
        obtain ⟨b0, f1, f2⟩ := r_fits hW hR1 ha6 h106 (fun q => (hcn q).1)
        rw [f1, obind_some] at head
        cases hb0 : b0 with
        | false =>
          rw [hb0, if_pos (show b2i false = 0 from rfl)] at head
          obtain ⟨p, hp, hbr⟩ := f2 hb0
          obtain ⟨σ', b, q1, q2, q3, q4⟩ := ih (a + 1) _ _ _ hM1 ha ht1 (by omega)
          rw [oi_s] at q1
          have hng : ∀ l, l ∈ subL O (5 - a) (preL c a ++ [x]) → ¬ SolF S D (chL l) := fun l hl => cut_brk ha6 hp hbr (subL_pre ha6 hl)
          refine ⟨σ', b, by rw [head]; exact q1, fr1.trans q2, fun hb l hl => ?_, fun hb => ?_⟩
          · rw [hR, List.mem_append] at hl
            rcases hl with hl | hl
            · exact hng l hl
            · exact q3 hb l hl
          · obtain ⟨pre, l, R', t', r1, r2, r3, r4, r5, r6, r7⟩ := q4 hb
            refine ⟨subL O (5 - a) (preL c a ++ [x]) ++ pre, l, R', t', by rw [hR, r1, List.append_assoc], fun y hy => ?_, r3, r4, r5, r6, by omega⟩
            rw [List.mem_append] at hy
            rcases hy with hy | hy
            · exact hng y hy
            · exact r2 y hy
        | true =>
          rw [hb0, if_neg (show ¬ b2i true = 0 by decide)] at head
          rcases Nat.lt_or_ge a 5 with h5 | h5
          · rw [if_neg (fun e => by have := (nI_eq (b := 5) (show a < 2 ^ 31 by omega) (by decide)).mp e; omega), nI_1, ast_nI (show a + 1 < 6 by omega) (by decide), obind_some] at head
            have hR2 : remU O c t (a + 1) = remU O (sN c a x) (sN (sN t a (t a + 1)) (a + 1) 0) (a + 2) := by
              rw [hR, ← hRc, remU_adv h5]
            have hmu2 := muU_adv (O := O) (t := sN t a (t a + 1)) h5 (hO (a + 1) (by omega)).1
            have hM2 : MS S D O (a + 2) (sN c a x) (sN (sN t a (t a + 1)) (a + 1) 0) (up (up (up σ 111 a (nI (t a))) 106 a (oi x)) 111 (a + 1) (-1)) := by
              refine ⟨hR1.fr (fr.up (l := [111]) (by simp)) (by decide) (by decide), by rw [up_pl _ _ (by decide)]; exact h25, fun q hq => ⟨(hOff q hq).1.congr fun i _ => by rw [up_pl _ _ (by decide)], by rw [up_pl _ _ (by decide)]; exact (hOff q hq).2⟩, fun q hq hq2 => ?_, fun q hq hq2 => by rw [up_pl _ _ (by decide)]; exact h106 q (by omega), hcn⟩
              by_cases e : q = a + 1
              · subst e
                rw [up_same, sN_same]
                rfl
              · rw [up_off _ _ (Or.inr e), sN_off e]
                exact h111 q hq (by omega)
            obtain ⟨σ', b, q1, q2, q3, q4⟩ := ih (a + 2) _ _ _ hM2 (by omega) (fun q hq => by
              by_cases e : q = a + 1
              · subst e
                rw [sN_same]
                decide
              · rw [sN_off e]
                exact ht1 q (by omega)) (by omega)
            rw [oi_s] at q1
            refine ⟨σ', b, by rw [head]; exact q1, (fr1.trans (fr.up (by simp))).trans q2, fun hb l hl => q3 hb l (by rw [← hR2]; exact hl), fun hb => ?_⟩
            obtain ⟨pre, l, R', t', r1, r2, r3, r4, r5, r6, r7⟩ := q4 hb
            exact ⟨pre, l, R', t', by rw [hR2, r1], r2, r3, r4, r5, r6, by omega⟩
          · have h5 : a = 5 := by omega
            subst h5
            rw [if_pos (show nI 5 = 5 from rfl)] at head
            have hfun : chL (preL (sN c 5 x) 6) = sN c 5 x := by
              funext p
              rcases Nat.lt_or_ge p 6 with h6 | h6
              · exact chL_pre h6
              · rw [(hcn p).2 h6]
                unfold chL
                simp only [List.getD]
                rw [List.getElem?_eq_none (by rw [preL_len]; exact h6)]
                rfl
            refine ⟨_, true, head, fr1, fun hb => (by cases hb), fun _ => ⟨[], preL (sN c 5 x) 6, remU O (sN c 5 x) (sN t 5 (t 5 + 1)) (5 + 1), sN t 5 (t 5 + 1), ?_, fun y hy => (by cases hy), ?_, fun p hp => ?_, ht1, by rw [hfun], (by have h6 : muU O (sN t 5 (t 5 + 1)) 6 = muU O (sN t 5 (t 5 + 1)) (5 + 1) := rfl; omega)⟩⟩
            · rw [hR, remU_leaf]
              rfl
            · rw [hfun]
              exact hM1
            · rw [hfun]
              exact h106 p (by omega)
      · rw [if_neg (by omega), nI_m1] at head
        have hR := remU_back (c := c) hl
        have hmu := muU_back (O := O) (t := t) (a := a)
        have hM2 : MS S D O a c t (up σ 111 a (nI (t a))) := by
          refine ⟨g1.fr (fr.up (l := [111]) (by simp)) (by decide) (by decide), by rw [up_pl _ _ (by decide)]; exact g2, fun q hq => ⟨(g3 q hq).1.congr fun i _ => by rw [up_pl _ _ (by decide)], by rw [up_pl _ _ (by decide)]; exact (g3 q hq).2⟩, fun q hq hq2 => ?_, fun q hq hq2 => by rw [up_pl _ _ (by decide)]; exact g5 q hq (by omega), g6⟩
          rw [up_off _ _ (Or.inr (by omega))]
          exact g4 q hq (by omega)
        obtain ⟨σ', b, q1, q2, q3, q4⟩ := ih a c t _ hM2 (by omega) (fun q hq => ht q (by omega)) (by omega)
        refine ⟨σ', b, by rw [head]; exact q1, (fr.up (by simp)).trans q2, fun hb l hl2 => q3 hb l (by rw [← hR]; exact hl2), fun hb => ?_⟩
        obtain ⟨pre, l, R', t', r1, r2, r3, r4, r5, r6, r7⟩ := q4 hb
        exact ⟨pre, l, R', t', by rw [hR, r1], r2, r3, r4, r5, r6, by omega⟩
end GOON
