/-! ===== the reference: all solutions, and the best one ===== -/
section FIND
variable {S : SP} {D w P : Nat} {O : Nat → List Nat} {c t : Nat → Nat} {σ : Mem} {R : List (List Nat)}
def PullIn (S : SP) (D P : Nat) : Prop := ∀ c : Nat → Nat, (∀ p, p < 6 → Cand S p (c p)) → ∀ p, Pul S D c p → P.testBit p = true
theorem sol_inM (hP : PullIn S D P) (hO : ∀ p, p < 6 → OSpM S D w P p (O p)) (hs : SolF S D c) (hw : w ≠ 0 → c (s_own S (w - 1)) = w) : preL c 6 ∈ subL O 6 [] := by
  refine subL_all.mpr ⟨preL_len _ _, fun p hp => ?_⟩
  rw [chL_pre hp, (hO p hp).2.2]
  refine ⟨hs.1 p hp, DemOK_dmd hs.2.1 p, fun h => ?_, fun h => hP c hs.1 p (hs.2.2.2 p hp h)⟩
  unfold isW at h
  rw [Bool.and_eq_true] at h
  have h1 : w ≠ 0 := by simpa using h.1
  have h2 : s_own S (w - 1) = p := by simpa using h.2
  rw [← h2]
  exact hw h1
theorem in_wantM (hO : ∀ p, p < 6 → OSpM S D w P p (O p)) {l : List Nat} (hl : l ∈ subL O 6 []) (hw : w ≠ 0) (hp : s_own S (w - 1) < 6) : chL l (s_own S (w - 1)) = w := by
  have := ((hO _ hp).2.2 _).mp ((subL_all.mp hl).2 _ hp)
  refine this.2.2.1 ?_
  unfold isW
  simp [hw]
theorem in_cand (hO : ∀ p, p < 6 → OSpM S D w P p (O p)) {l : List Nat} (hl : l ∈ subL O 6 []) : ∀ p, p < 6 → Cand S p (chL l p) := fun p hp => (((hO p hp).2.2 _).mp ((subL_all.mp hl).2 p hp)).1
theorem NSol_ofM (hW : WF S) (hP : PullIn S D P) (hO : ∀ p, p < 6 → OSpM S D 0 P p (O p)) : NSol S D (fltP (fun l => SolF S D (chL l)) (subL O 6 [])).length := by
  refine ⟨_, ?_, fun x => ?_, rfl⟩
  · refine List.Pairwise.filter _ (List.Pairwise.imp ?_ (subL_pw (R := fun _ x y => s_wR S y < s_wR S x) (fun p hp => (hO p hp).2.1) 6 [] rfl))
    intro a b h e
    obtain ⟨p, hp, -, h2⟩ := h
    rw [e] at h2
    exact Nat.lt_irrefl _ h2
  · rw [fltP_mem]
    constructor
    · rintro ⟨h1, h2⟩
      exact ⟨(subL_all.mp h1).1, h2⟩
    · rintro ⟨h1, h2⟩
      have hin := sol_inM hP hO h2 (fun h => absurd rfl h)
      refine ⟨?_, h2⟩
      have : preL (chL x) 6 = x := by
        apply List.ext_getElem
        · rw [preL_len, h1]
        · intro i h3 h4
          have h5 : (preL (chL x) 6).getD i 0 = x.getD i 0 := preL_get (chL x) (a := 6) (p := i) (by rw [preL_len] at h3; exact h3)
          simp only [List.getD] at h5
          rw [List.getElem?_eq_getElem h3, List.getElem?_eq_getElem h4] at h5
          exact h5
      rw [this] at hin
      exact hin
def MT (S : SP) (D : Nat) (O : Nat → List Nat) (R : List (List Nat)) (μ : Nat) (σ : Mem) : Prop := ∃ a c t, MS S D O a c t σ ∧ a ≤ 6 ∧ (∀ q, q < a → t q < 2 ^ 30) ∧ remU O c t a = R ∧ muU O t a = μ ∧ a = 6
theorem r_goOn (hW : WF S) (hO : ∀ p, p < 6 → OSpM S D w P p (O p)) {a : Nat} (h : MS S D O a c t σ) (ha : a ≤ 6) (ht : ∀ q, q < a → t q < 2 ^ 30) (hmu : muU O t a ≤ 23436) : ∃ σ' b, m_X12_goOn_21 FU (oi a) σ = some (b2i b, σ') ∧ fr [106, 111] σ σ' ∧ (b = false → ∀ l, l ∈ remU O c t a → ¬ SolF S D (chL l)) ∧ (b = true → ∃ pre l R' μ', remU O c t a = pre ++ l :: R' ∧ (∀ x, x ∈ pre → ¬ SolF S D (chL x)) ∧ MT S D O R' μ' σ' ∧ (∀ p, p < 6 → σ' 106 p = oi (chL l p)) ∧ μ' < muU O t a) := by
  obtain ⟨σ', b, q1, q2, q3, q4⟩ := r_goOn_loop hW hO FU a c t σ h ha ht (by rw [FU_eq]; omega)
  refine ⟨σ', b, q1, q2, q3, fun hb => ?_⟩
  obtain ⟨pre, l, R', t', r1, r2, r3, r4, r5, r6, r7⟩ := q4 hb
  exact ⟨pre, l, R', _, r1, r2, ⟨6, _, t', r3, Nat.le_refl _, r5, r6, rfl, rfl⟩, r4, r7⟩
theorem MT.RM {μ : Nat} (h : MT S D O R μ σ) : RM S σ := by
  obtain ⟨a, c, t, h, -⟩ := h
  exact h.1
theorem MT.frm {μ : Nat} {l : List Nat} {σ' : Mem} (h : MT S D O R μ σ) (hf : fr l σ σ') (h2 : ∀ k ∈ [94, 95, 96, 97, 98, 99, 100, 101, 102, 103, 104, 105, 106, 109, 110, 111], k ∉ l) : MT S D O R μ σ' := by
  obtain ⟨a, c, t, h, h3⟩ := h
  exact ⟨a, c, t, h.frm hf h2, h3⟩
/-- the reference's own numbers may change -/
theorem MT.num {μ : Nat} {j : Nat} {x : Int32} (h : MT S D O R μ σ) (hj : j ∉ [1, 2, 3, 4, 5, 6, 7, 25]) : MT S D O R μ (up σ 94 j x) := by
  obtain ⟨a, c, t, ⟨g1, g2, g3, g4, g5, g6⟩, h3⟩ := h
  simp only [List.mem_cons, List.not_mem_nil, or_false, not_or] at hj
  refine ⟨a, c, t, ⟨g1.congr (fun k hk => up_pl _ _ (fun e => by subst e; revert hk; decide)) (fun i hi => up_off _ _ (Or.inr (fun e => by subst e; unfold mInts at hi; simp at hi; omega))), ?_, fun q hq => ⟨(g3 q hq).1.congr fun i _ => by rw [up_pl _ _ (by decide)], by rw [up_pl _ _ (by decide)]; exact (g3 q hq).2⟩, fun q hq hq2 => by rw [up_pl _ _ (by decide)]; exact g4 q hq hq2, fun q hq hq2 => by rw [up_pl _ _ (by decide)]; exact g5 q hq hq2, g6⟩, h3⟩
  rw [up_off _ _ (Or.inr (by omega))]
  exact g2
theorem r_goOn0 (hW : WF S) (hO : ∀ p, p < 6 → OSpM S D w P p (O p)) {μ : Nat} (h : MT S D O R μ σ) (hmu : μ ≤ 23436) : ∃ σ' b, m_X12_goOn 0 σ = some (b2i b, σ') ∧ fr [106, 111] σ σ' ∧ (b = false → ∀ l, l ∈ R → ¬ SolF S D (chL l)) ∧ (b = true → ∃ pre l R' μ', R = pre ++ l :: R' ∧ (∀ x, x ∈ pre → ¬ SolF S D (chL x)) ∧ MT S D O R' μ' σ' ∧ (∀ p, p < 6 → σ' 106 p = oi (chL l p)) ∧ μ' < μ) := by
  obtain ⟨a, c, t, h1, h2, h3, h4, h5, h6⟩ := h
  subst h6
  obtain ⟨σ', b, q1, q2, q3, q4⟩ := r_goOn hW hO h1 h2 h3 (by omega)
  rw [h4, h5] at q4
  rw [h4] at q3
  refine ⟨σ', b, ?_, q2, q3, q4⟩
  unfold m_X12_goOn m_X12_goOn_9
  rw [if_pos rfl, if_pos rfl]
  exact q1
theorem r_goOn1 (hW : WF S) (hR : RM S σ) (h25 : σ 94 25 = nI D) (hO : ∀ p, p < 6 → OffM σ p (O p) ∧ OSpM S D w P p (O p)) : ∃ σ' b, m_X12_goOn 1 σ = some (b2i b, σ') ∧ fr [106, 111] σ σ' ∧ (b = false → ∀ l, l ∈ subL O 6 [] → ¬ SolF S D (chL l)) ∧ (b = true → ∃ pre l R' μ', subL O 6 [] = pre ++ l :: R' ∧ (∀ x, x ∈ pre → ¬ SolF S D (chL x)) ∧ MT S D O R' μ' σ' ∧ (∀ p, p < 6 → σ' 106 p = oi (chL l p)) ∧ μ' < 23436) := by
  have hM : MS S D O 1 (fun _ => 0) (sN (fun _ => 0) 0 0) (up σ 111 0 (-1)) := by
    refine ⟨hR.fr (fr.up (l := [111]) (by simp)) (by decide) (by decide), by rw [up_pl _ _ (by decide)]; exact h25, fun q hq => ⟨(hO q hq).1.1.congr fun i _ => by rw [up_pl _ _ (by decide)], by rw [up_pl _ _ (by decide)]; exact (hO q hq).1.2⟩, fun q hq hq2 => ?_, fun q hq hq2 => absurd hq2 (by omega), fun q => ⟨Nat.zero_le _, fun _ => rfl⟩⟩
    rw [show q = 0 by omega, up_same, sN_same]
    rfl
  have hst := muU_start (O := O) (t := fun _ => 0) (hO 0 (by decide)).2.1
  obtain ⟨σ', b, q1, q2, q3, q4⟩ := r_goOn hW (fun p hp => (hO p hp).2) hM (by decide) (fun q hq => by rw [show q = 0 by omega, sN_same]; decide) hst
  rw [remU_start] at q3 q4
  refine ⟨σ', b, ?_, (fr.up (by simp)).trans q2, q3, fun hb => ?_⟩
  · unfold m_X12_goOn m_X12_goOn_9
    rw [if_neg (by decide), if_neg (by decide), show (0 : Int32) = nI 0 from rfl, ast_nI (by decide) (by decide), obind_s]
    exact q1
  · obtain ⟨pre, l, R', μ', r1, r2, r3, r4, r5⟩ := q4 hb
    exact ⟨pre, l, R', μ', r1, r2, r3, r4, by omega⟩
/-! changes and wishes -/
theorem r_isKept (hW : WF S) (hR : RM S σ) {p : Nat} (hp : p < 6) : m_X12_isKept (nI p) σ = some (b2i (s_kept S p), σ) := by
  have h24 := hW.nv
  have hl := (hW.lock hp).1
  have hu := hW.upd
  unfold m_X12_isKept s_kept
  rw [ald_nI hp (by decide), obind_some, (hR.pkg hp).2.1, hR.upd]
  simp only [oi_m1 (show s_lock S p < 2 ^ 31 by omega), bit0_iff (show s_upd S < 2 ^ 31 by omega) (show p < 31 by omega)]
  by_cases h0 : s_lock S p = 0
  · simp [h0, b2i]
  · rw [if_neg h0]
    cases h : (s_upd S).testBit p <;> simp [h0, b2i]
theorem r_changes (hW : WF S) (hR : RM S σ) (hc : ∀ p, p < 6 → σ 106 p = oi (c p)) (hn : ∀ p, p < 6 → c p < 2 ^ 31) : m_X12_changes σ = some (nI (s_chg S c), σ) := by
  have h24 := hW.nv
  unfold s_chg
  refine up_fu (n := 6) (P := fun i f => m_X12_changes_4 f (nI (cntR i fun p => s_kept S p && c p != s_lock S p)) (nI i) σ = some (nI (cntR 6 fun p => s_kept S p && c p != s_lock S p), σ)) (by decide) (fun f => ?_) (fun i f hi ih => ?_) 0 (Nat.zero_le _)
  · rw [m_X12_changes_4]
    rw [if_pos (show (6 : Int32) ≤ nI 6 by decide)]
  · have hl := (hW.lock hi).1
    have e1 : ald σ 106 6 (nI i) = some (oi (c i)) := by rw [ald_nI hi (by decide), hc i hi]
    have e2 : ald σ 103 6 (nI i) = some (oi (s_lock S i)) := by rw [ald_nI hi (by decide), (hR.pkg hi).2.1]
    rw [m_X12_changes_4]
    unfold m_X12_changes_38 m_X12_changes_39
    rw [if_neg (show ¬ (6 : Int32) ≤ nI i from nI_ge (b := 6) hi (by decide)), r_isKept hW hR hi]
    simp only [e1, e2, obind_some, b2i_0, nI_1, oi_inj (hn i hi) (show s_lock S i < 2 ^ 31 by omega)]
    cases h1 : s_kept S i with
    | false =>
      rw [if_pos rfl, show ∀ x : Int32, x + 0 = x from fun x => by simp]
      simpa [cntR, h1] using ih
    | true =>
      rw [if_neg (by decide)]
      by_cases h2 : c i = s_lock S i
      · rw [if_pos h2, show ∀ x : Int32, x + 0 = x from fun x => by simp]
        simpa [cntR, h1, h2] using ih
      · rw [if_neg h2]
        simpa [cntR, h1, h2] using ih
theorem r_isWished (hW : WF S) (hR : RM S σ) {p x y : Nat} (hp : p < 6) (hx : Cand S p x) (hy : Cand S p y) (hne : x ≠ y) : m_X12_isWished (nI p) (oi x) (oi y) σ = some (b2i (decide (s_worth S p y < s_worth S p x)), σ) := by
  have h24 := hW.nv
  have hl := (hW.lock hp).1
  have cn : ∀ {z : Nat}, Cand S p z → z < 2 ^ 31 := fun h => by
    rcases h with h | h
    · omega
    · omega
  have lx := cn hx
  have ly := cn hy
  have e1 : ald σ 103 6 (nI p) = some (oi (s_lock S p)) := by rw [ald_nI hp (by decide), (hR.pkg hp).2.1]
  have e57 : (¬ (s_kept S p = true ∧ x = s_lock S p)) → (¬ (s_kept S p = true ∧ y = s_lock S p)) → m_X12_isWished_57 (oi x) (oi y) σ = some (b2i (decide (s_worth S p y < s_worth S p x)), σ) := by
    intro k1 k2
    unfold m_X12_isWished_57 s_worth
    rw [if_neg k1, if_neg k2]
    simp only [oi_m1 lx, oi_m1 ly]
    by_cases h0 : y = 0
    · rw [if_pos h0, if_pos h0, if_neg (by omega), decide_eq_true (by omega)]
      rfl
    · rw [if_neg h0, if_neg h0]
      by_cases h1 : x = 0
      · rw [if_pos h1, if_pos h1, decide_eq_false (by omega)]
        rfl
      · rw [if_neg h1, if_neg h1]
        have hxv : x - 1 < s_nv S := by
          rcases hx with h | h
          · exact absurd h h1
          · exact h.1
        have hyv : y - 1 < s_nv S := by
          rcases hy with h | h
          · exact absurd h h0
          · exact h.1
        obtain ⟨z, f1, f2, f3, f4⟩ := r_compared hW.1 hR.1 hxv hyv
        have ex : oi x = nI (x - 1) := by unfold oi; rw [if_neg h1]
        have ey : oi y = nI (y - 1) := by unfold oi; rw [if_neg h0]
        rw [ex, ey, f1, obind_some]
        have hle : z ≤ 0 ↔ ¬ s_rank S (y - 1) < s_rank S (x - 1) := by
          rw [← f3, Int32.le_iff_toInt_le, Int32.lt_iff_toInt_lt]
          omega
        by_cases h2 : s_rank S (y - 1) < s_rank S (x - 1)
        · rw [if_neg (fun h => hle.mp h h2), decide_eq_true (by omega)]
          rfl
        · rw [if_pos (hle.mpr h2), decide_eq_false (by omega)]
          rfl
  unfold m_X12_isWished m_X12_isWished_23 m_X12_isWished_38
  simp only [r_isKept hW hR hp, e1, obind_some, b2i_0, oi_inj lx (show s_lock S p < 2 ^ 31 by omega), oi_inj ly (show s_lock S p < 2 ^ 31 by omega), if_true, show ¬ (1 : Int32) = 0 by decide, show ¬ (0 : Int32) = 1 by decide, if_false]
  cases hk : s_kept S p with
  | false =>
    rw [if_pos rfl]
    exact e57 (fun h => by rw [hk] at h; cases h.1) (fun h => by rw [hk] at h; cases h.1)
  | true =>
    rw [if_neg (by decide)]
    have hlk := (s_kept_t.mp hk).1
    by_cases h1 : x = s_lock S p
    · have h2 : ¬ y = s_lock S p := fun h => hne (h1.trans h.symm)
      rw [if_pos h1, if_neg h2, if_pos h1]
      have w1 : s_worth S p x = 65537 := by
        unfold s_worth
        rw [if_neg (by omega), if_pos ⟨hk, h1⟩]
      have w2 : s_worth S p y < 65537 := by
        unfold s_worth
        rw [if_neg (show ¬ (s_kept S p = true ∧ y = s_lock S p) from fun h => h2 h.2)]
        split
        · omega
        · have : y - 1 < s_nv S := by
            rcases hy with h | h
            · omega
            · exact h.1
          have := hW.rank this
          omega
      rw [decide_eq_true (by omega)]
      rfl
    · rw [if_neg h1]
      by_cases h2 : y = s_lock S p
      · rw [if_pos h2, if_neg h1]
        have w1 : s_worth S p y = 65537 := by
          unfold s_worth
          rw [if_neg (by omega), if_pos ⟨hk, h2⟩]
        have w2 : s_worth S p x < 65537 := by
          unfold s_worth
          rw [if_neg (show ¬ (s_kept S p = true ∧ x = s_lock S p) from fun h => h1 h.2)]
          split
          · omega
          · have : x - 1 < s_nv S := by
              rcases hx with h | h
              · omega
              · exact h.1
            have := hW.rank this
            omega
        rw [decide_eq_false (by omega)]
        rfl
      · rw [if_neg h2]
        exact e57 (fun h => h1 h.2) (fun h => h2 h.2)
theorem r_goesAhead (hW : WF S) (hR : RM S σ) {b : Nat → Nat} {n : Nat} (hn : n < 2 ^ 31) (h30 : σ 94 30 = nI n) (hc : ∀ p, p < 6 → σ 106 p = oi (c p)) (hcc : ∀ p, p < 6 → Cand S p (c p)) (hb : n ≠ 0 → (∀ p, p < 6 → σ 112 p = oi (b p)) ∧ (∀ p, p < 6 → Cand S p (b p)) ∧ σ 94 29 = nI (s_chg S b)) : ∃ g, m_X12_goesAhead σ = some (b2i g, σ) ∧ (n = 0 → g = true) ∧ (n ≠ 0 → (g = true → Ahead S c b) ∧ (g = false → (∀ p, p < 6 → c p = b p) ∨ Ahead S b c)) := by
  have h24 := hW.nv
  have cn : ∀ {p z : Nat}, Cand S p z → z < 2 ^ 31 := fun h => by
    rcases h with h | h
    · omega
    · omega
  have e1 := r_changes hW hR hc (fun p hp => cn (hcc p hp))
  have l1 := chg_le (S := S) c
  by_cases h0 : n = 0
  · refine ⟨true, ?_, fun _ => rfl, fun h => absurd h0 h⟩
    unfold m_X12_goesAhead m_X12_goesAhead_20
    rw [e1, obind_s]
    dsimp only
    rw [if_pos (by rw [h30, h0]; rfl), if_pos (by rw [h30, h0]; rfl)]
    rfl
  · obtain ⟨b1, b2, b3⟩ := hb h0
    have l2 := chg_le (S := S) b
    have hz : ¬ σ 94 30 = 0 := by
      rw [h30]
      exact fun e => h0 ((nI_z hn).mp e)
    have un : m_X12_goesAhead σ = if s_chg S c = s_chg S b then m_X12_goesAhead_43 FU 0 σ else if s_chg S b ≤ s_chg S c then some (0, σ) else some (1, σ) := by
      unfold m_X12_goesAhead m_X12_goesAhead_20
      rw [e1, obind_s]
      dsimp only
      rw [if_neg hz, if_neg hz]
      simp only [b3, nI_eq (show s_chg S c < 2 ^ 31 by omega) (show s_chg S b < 2 ^ 31 by omega), nI_leI (show s_chg S b < 2 ^ 31 by omega) (show s_chg S c < 2 ^ 31 by omega)]
    by_cases h1 : s_chg S c = s_chg S b
    · have key := up_fu (n := 6) (P := fun i f => (∀ q, q < i → c q = b q) → ∃ g, m_X12_goesAhead_43 f (nI i) σ = some (b2i g, σ) ∧ (g = true → ∃ p, p < 6 ∧ (∀ q, q < p → c q = b q) ∧ s_worth S p (b p) < s_worth S p (c p)) ∧ (g = false → (∀ p, p < 6 → c p = b p) ∨ ∃ p, p < 6 ∧ (∀ q, q < p → b q = c q) ∧ s_worth S p (c p) < s_worth S p (b p))) (by decide) (fun f h => by
          refine ⟨false, ?_, fun h2 => (by cases h2), fun _ => Or.inl h⟩
          rw [m_X12_goesAhead_43]
          rw [if_pos (show (6 : Int32) ≤ nI 6 by decide)]
          rfl) (fun i f hi ih h => by
          have f1 : ald σ 106 6 (nI i) = some (oi (c i)) := by rw [ald_nI hi (by decide), hc i hi]
          have f2 : ald σ 112 6 (nI i) = some (oi (b i)) := by rw [ald_nI hi (by decide), b1 i hi]
          by_cases e : c i = b i
          · obtain ⟨g, q1, q2, q3⟩ := ih (fun q hq => by
              by_cases e2 : q = i
              · rw [e2]
                exact e
              · exact h q (by omega))
            refine ⟨g, ?_, q2, q3⟩
            rw [m_X12_goesAhead_43]
            rw [if_neg (show ¬ (6 : Int32) ≤ nI i from nI_ge (b := 6) hi (by decide)), f1, obind_some, f2, obind_some, if_pos (by rw [e]), nI_1]
            exact q1
          · refine ⟨decide (s_worth S i (b i) < s_worth S i (c i)), ?_, fun hg => ⟨i, hi, h, of_decide_eq_true hg⟩, fun hg => Or.inr ⟨i, hi, fun q hq => (h q hq).symm, ?_⟩⟩
            · rw [m_X12_goesAhead_43]
              rw [if_neg (show ¬ (6 : Int32) ≤ nI i from nI_ge (b := 6) hi (by decide)), f1, obind_some, f2, obind_some, if_neg (fun e2 => e ((oi_inj (cn (hcc i hi)) (cn (b2 i hi))).mp e2)), obind_some, obind_some, r_isWished hW hR hi (hcc i hi) (b2 i hi) e, obind_some, zchk_b]
              rfl
            · have h3 := of_decide_eq_false hg
              have h4 : s_worth S i (c i) ≠ s_worth S i (b i) := fun h5 => e (worth_inj hW (hcc i hi) (b2 i hi) h5)
              omega) 0 (Nat.zero_le _) (fun q hq => by omega)
      obtain ⟨g, q1, q2, q3⟩ := key
      refine ⟨g, by rw [un, if_pos h1]; exact q1, fun h => absurd h h0, fun _ => ⟨fun hg => Or.inr ⟨h1, q2 hg⟩, fun hg => ?_⟩⟩
      rcases q3 hg with h | h
      · exact Or.inl h
      · exact Or.inr (Or.inr ⟨h1.symm, h⟩)
    · by_cases h2 : s_chg S b ≤ s_chg S c
      · exact ⟨false, by rw [un, if_neg h1, if_pos h2]; rfl, fun h => absurd h h0, fun _ => ⟨fun h3 => (by cases h3), fun _ => Or.inr (Or.inl (by omega))⟩⟩
      · exact ⟨true, by rw [un, if_neg h1, if_neg h2]; rfl, fun h => absurd h h0, fun _ => ⟨fun _ => Or.inl (by omega), fun h3 => (by cases h3)⟩⟩
end FIND
