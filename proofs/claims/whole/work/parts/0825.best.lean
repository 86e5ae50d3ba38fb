/-! ===== what only looks at the six packages ===== -/
section CONGR
variable {S : SP} {D : Nat} {c c' : Nat → Nat}
theorem Cl.congr (h : ∀ p, p < 6 → c p = c' p) {T : Nat → Nat → Prop} (hT : Cl S D c T) : Cl S D c' T := by
  refine ⟨hT.1, fun q hq h0 => ?_, fun q hq h0 => ?_⟩
  · rw [← h q hq] at h0 ⊢
    exact hT.2.1 q hq h0
  · rw [← h q hq] at h0 ⊢
    exact hT.2.2 q hq h0
theorem On.congr (h : ∀ p, p < 6 → c p = c' p) : On S D c = On S D c' := by
  funext p f
  refine propext ⟨fun ho T hT => ho T (hT.congr fun p hp => (h p hp).symm), fun ho T hT => ho T (hT.congr h)⟩
theorem ClP.congr (h : ∀ p, p < 6 → c p = c' p) {Q : Nat → Prop} (hQ : ClP S D c Q) : ClP S D c' Q := by
  refine ⟨hQ.1, fun q hq h0 => ?_⟩
  rw [← h q hq] at h0 ⊢
  rw [← On.congr h]
  exact hQ.2 q hq h0
theorem SolF.congr (hW : WF S) (h : ∀ p, p < 6 → c p = c' p) (hs : SolF S D c) : SolF S D c' := by
  obtain ⟨h1, h2, h3, h4⟩ := hs
  refine ⟨fun p hp => by rw [← h p hp]; exact h1 p hp, fun d hd hb => ?_, fun p hp h0 k hk hcn => ?_, fun p hp h0 Q hQ => ?_⟩
  · have wh := s_heir_lt hW (hW.dem hd).2.1
    rw [← h _ wh]
    exact h2 d hd hb
  · rw [← h p hp] at h0 hk hcn ⊢
    have hv : c p - 1 < s_nv S := by
      rcases h1 p hp with g | g
      · exact absurd g h0
      · exact g.1
    have wh := s_heir_lt hW (hW.need hv hk).1
    have := h3 p hp h0 k hk (by rw [On.congr h]; exact hcn)
    unfold Served at this ⊢
    rw [← h _ wh]
    exact this
  · rw [← h p hp] at h0
    exact h4 p hp h0 Q (hQ.congr fun p hp => (h p hp).symm)
theorem s_chg.congr (h : ∀ p, p < 6 → c p = c' p) : s_chg S c = s_chg S c' := cntR_congr fun i hi => by rw [h i hi]
theorem onv.congr (h : ∀ p, p < 6 → c p = c' p) {p : Nat} (hp : p < 6) : onv S D c p = onv S D c' p := by
  unfold onv
  rw [h p hp, On.congr h]
theorem Ahead.congr {d d' : Nat → Nat} (h : ∀ p, p < 6 → c p = c' p) (h' : ∀ p, p < 6 → d p = d' p) (ha : Ahead S c d) : Ahead S c' d' := by
  unfold Ahead at *
  rw [← s_chg.congr h, ← s_chg.congr h']
  rcases ha with ha | ⟨ha, p, hp, h1, h2⟩
  · exact Or.inl ha
  · refine Or.inr ⟨ha, p, hp, fun q hq => ?_, ?_⟩
    · rw [← h q (by omega), ← h' q (by omega)]
      exact h1 q hq
    · rw [← h p hp, ← h' p hp]
      exact h2
theorem IsBest.congr (hW : WF S) (h : ∀ p, p < 6 → c p = c' p) (hb : IsBest S D c) : IsBest S D c' := by
  refine ⟨hb.1.congr hW h, fun d hd hne => ?_⟩
  refine (hb.2 d hd ?_).congr h (fun p _ => rfl)
  obtain ⟨p, hp, hne⟩ := hne
  exact ⟨p, hp, by rw [h p hp]; exact hne⟩
/-- there is one best choice -/
theorem Ahead.asym (h : Ahead S c c') (h' : Ahead S c' c) : False := by
  rcases h with h | ⟨h, p, hp, h1, h2⟩
  · rcases h' with h' | ⟨h', -⟩
    · omega
    · omega
  · rcases h' with h' | ⟨h', q, hq, g1, g2⟩
    · omega
    · rcases Nat.lt_trichotomy p q with e | e | e
      · have := g1 p e
        rw [this] at h2
        exact Nat.lt_irrefl _ h2
      · subst e
        omega
      · have := h1 q e
        rw [this] at g2
        exact Nat.lt_irrefl _ g2
theorem IsBest.uni (h : IsBest S D c) (h' : IsBest S D c') : ∀ p, p < 6 → c p = c' p := by
  intro p hp
  by_cases e : c p = c' p
  · exact e
  · have a := h.2 c' h'.1 ⟨p, hp, fun e2 => e e2.symm⟩
    have b := h'.2 c h.1 ⟨p, hp, e⟩
    exact (a.asym b).elim
theorem sol_none : SolF S 0 (fun _ => 0) := ⟨fun _ _ => Or.inl rfl, fun d _ hb => by simp at hb, fun p _ h => absurd rfl h, fun p _ h => absurd rfl h⟩
theorem chg_le (c : Nat → Nat) : s_chg S c < 7 := Nat.lt_succ_of_le (cntR_le 6 _)
end CONGR
section LST
variable {S : SP} {D w : Nat} {O : Nat → List Nat}
theorem good7 {l : List Nat} : GoodM S D 7 l ↔ SolF S D (chL l) := ⟨fun h => h.1, fun h => ⟨h, chg_le _⟩⟩
/-- a solution is among what is offered -/
theorem sol_in (hW : WF S) (hO : ∀ p, p < 6 → OSp S D w p (O p)) {c : Nat → Nat} (hs : SolF S D c) (hw : w ≠ 0 → c (s_own S (w - 1)) = w) : preL c 6 ∈ subL O 6 [] := by
  refine subL_all.mpr ⟨preL_len _ _, fun p hp => ?_⟩
  rw [chL_pre hp, (hO p hp).2.2]
  refine ⟨hs.1 p hp, DemOK_dmd hs.2.1 p, fun h => ?_, fun h => rch_pul hW hs.1 (hs.2.2.2 p hp h)⟩
  unfold isW at h
  rw [Bool.and_eq_true] at h
  have h1 : w ≠ 0 := by simpa using h.1
  have h2 : s_own S (w - 1) = p := by simpa using h.2
  rw [← h2]
  exact hw h1
theorem in_want (hO : ∀ p, p < 6 → OSp S D w p (O p)) {l : List Nat} (hl : l ∈ subL O 6 []) (hw : w ≠ 0) (hp : s_own S (w - 1) < 6) : chL l (s_own S (w - 1)) = w := by
  have := ((hO _ hp).2.2 _).mp ((subL_all.mp hl).2 _ hp)
  refine this.2.2.1 ?_
  unfold isW
  simp [hw]
theorem sub_pw (hO : ∀ p, p < 6 → OSp S D w p (O p)) : (subL O 6 []).Pairwise (LexL fun p x y => s_worth S p y < s_worth S p x) := subL_pw (fun p hp => (hO p hp).2.1) 6 [] rfl
/-- the best one of a list in order -/
theorem best_of (hW : WF S) (hO : ∀ p, p < 6 → OSp S D 0 p (O p)) {P1 P2 : List (List Nat)} {b : List Nat} (hR : subL O 6 [] = P1 ++ b :: P2) (hb : SolF S D (chL b)) (h1 : ∀ x, x ∈ P1 → SolF S D (chL x) → s_chg S (chL b) < s_chg S (chL x)) (h2 : ∀ x, x ∈ P2 → SolF S D (chL x) → s_chg S (chL b) ≤ s_chg S (chL x)) : IsBest S D (chL b) := by
  refine ⟨hb, fun c' hs hne => ?_⟩
  have hin := sol_in hW hO hs (fun h => absurd rfl h)
  have hcg : ∀ p, p < 6 → chL (preL c' 6) p = c' p := fun p hp => chL_pre hp
  have hs2 : SolF S D (chL (preL c' 6)) := hs.congr hW fun p hp => (hcg p hp).symm
  refine Ahead.congr (fun _ _ => rfl) hcg ?_
  rw [hR, List.mem_append, List.mem_cons] at hin
  rcases hin with hin | hin | hin
  · exact Or.inl (h1 _ hin hs2)
  · obtain ⟨p, hp, hne⟩ := hne
    rw [← hcg p hp, hin] at hne
    exact absurd rfl hne
  · have h3 := h2 _ hin hs2
    rcases Nat.lt_or_ge (s_chg S (chL b)) (s_chg S (chL (preL c' 6))) with h4 | h4
    · exact Or.inl h4
    · refine Or.inr ⟨by omega, ?_⟩
      have hpw := sub_pw hO
      rw [hR, List.pairwise_append] at hpw
      have := hpw.2.1
      rw [List.pairwise_cons] at this
      exact this.1 _ hin
end LST
/-! ===== the class: the best solution ===== -/
def SS (S : SP) (D M : Nat) (O : Nat → List Nat) (R : List (List Nat)) (σ : Mem) : Prop := ∃ a c t, CS S D M O a c t σ ∧ a ≤ 6 ∧ (∀ q, q < a → t q < 2 ^ 30) ∧ remU O c t a = R ∧ muU O t a ≤ 23436
section BEST
variable {S : SP} {D M w : Nat} {O : Nat → List Nat} {R : List (List Nat)} {σ : Mem}
theorem SS.RC (h : SS S D M O R σ) : RC S σ := by
  obtain ⟨a, c, t, h, -⟩ := h
  exact h.1
theorem SS.dem (h : SS S D M O R σ) : σ 67 7 = nI D := by
  obtain ⟨a, c, t, h, -⟩ := h
  exact h.2.1
theorem SS.frm {l : List Nat} {σ' : Mem} (h : SS S D M O R σ) (hf : fr l σ σ') (h1 : ∀ k ∈ cData, k ∉ l) (h2 : ∀ k ∈ [67, 71, 73, 75, 78], k ∉ l) : SS S D M O R σ' := by
  obtain ⟨a, c, t, h, h3⟩ := h
  exact ⟨a, c, t, h.frm hf h1 h2, h3⟩
theorem SS.setM {M' : Nat} (h : SS S D M O R σ) : SS S D M' O R (up σ 67 8 (oi M')) := by
  obtain ⟨a, c, t, ⟨g1, g2, g3, g4, g5, g6, g7, g8⟩, h3⟩ := h
  refine ⟨a, c, t, ⟨g1.fr (fr.up (l := [67]) (by simp)) (by decide), ?_, up_same _ _ _ _, ?_, fun q hq => ⟨(g5 q hq).1.congr fun i _ => ?_, ?_⟩, fun q hq hq2 => ?_, fun q hq => ?_, g8⟩, h3⟩
  · rw [up_off _ _ (Or.inr (by decide))]
    exact g2
  · rw [up_off _ _ (Or.inr (by decide))]
    exact g4
  · rw [up_pl _ _ (by decide)]
  · rw [up_pl _ _ (by decide)]
    exact (g5 q hq).2
  · rw [up_pl _ _ (by decide)]
    exact g6 q hq hq2
  · rw [up_pl _ _ (by decide)]
    exact g7 q hq
theorem c_begin2 (hW : WF S) (hR : RC S σ) (hD : D < 64) (hw : w ≤ s_nv S) : ∃ σ' O, m_X8_begin (nI D) (oi w) σ = some (0, σ') ∧ fr clS σ σ' ∧ SS S D 7 O (subL O 6 []) σ' ∧ ∀ p, p < 6 → OSp S D w p (O p) := by
  obtain ⟨σ', O, q1, q2, q3, q4⟩ := c_begin hW hR hD hw
  refine ⟨σ', O, q1, q2, ⟨1, fun _ => 0, _, q3, by decide, fun q hq => ?_, remU_start, muU_start (q4 0 (by decide)).1⟩, q4⟩
  rw [show q = 0 by omega, sN_same]
  decide
theorem c_next (hW : WF S) (hD : D < 64) (hM : M ≤ 7) (hO : ∀ p, p < 6 → OSp S D w p (O p)) (h : SS S D M O R σ) (hsub : ∀ l, l ∈ R → l ∈ subL O 6 []) : ∃ σ' b, m_X8_next σ = some (b2i b, σ') ∧ fr [67, 75, 78, 80] σ σ' ∧ σ' 67 7 = nI D ∧ (b = false → ∀ l, l ∈ R → ¬ GoodM S D M l) ∧ (b = true → ∃ pre l R', R = pre ++ l :: R' ∧ (∀ x, x ∈ pre → ¬ GoodM S D M x) ∧ GoodM S D M l ∧ SS S D M O R' σ' ∧ ∀ p, p < 6 → σ' 78 p = oi (chL l p)) := by
  obtain ⟨a, c, t, h1, h2, h3, h4, h5⟩ := h
  obtain ⟨σ', b, q1, q2, q5, q3, q4⟩ := c_next_loop hW hD hM hO FU a c t σ 0 h1 h2 h3 (fun l hl => (subL_all.mp (hsub l (by rw [← h4]; exact hl))).2) (by rw [FU_eq]; omega) (by omega)
  refine ⟨σ', b, q1, q2, q5, fun hb l hl => q3 hb l (by rw [h4]; exact hl), fun hb => ?_⟩
  obtain ⟨pre, l, R', t', r1, r2, r3, r4, r5, r6, r7⟩ := q4 hb
  exact ⟨pre, l, R', by rw [← h4, r1], r2, r3, ⟨6, _, t', r4, Nat.le_refl _, r5, r6, by omega⟩, r4.2.2.2.2.2.2.1⟩
theorem x_copy {a a1 : Nat} (h : a1 ≠ a) : ∃ σ', m_X7_copy a 6 a1 6 σ = some (0, σ') ∧ fr [a] σ σ' ∧ ∀ j, j < 6 → σ' a j = σ a1 j := by
  refine up_fu (n := 6) (P := fun i f => ∀ σ1 : Mem, fr [a] σ σ1 → (∀ j, j < i → σ1 a j = σ a1 j) → ∃ σ', m_X7_copy_2 a 6 a1 6 f (nI i) σ1 = some (0, σ') ∧ fr [a] σ σ' ∧ ∀ j, j < 6 → σ' a j = σ a1 j) (by decide) (fun f σ1 hf h1 => ?_) (fun i f hi ih σ1 hf h1 => ?_) 0 (Nat.zero_le _) σ fr.refl (fun j hj => by omega)
  · refine ⟨σ1, ?_, hf, h1⟩
    rw [m_X7_copy_2]
    rw [if_pos (show Int32.ofNat 6 ≤ nI 6 by decide)]
  · obtain ⟨σ', q1, q2, q3⟩ := ih (up σ1 a i (σ1 a1 i)) (hf.trans (fr.up (by simp))) (fun j hj => by
      by_cases e : j = i
      · subst e
        rw [up_same, hf a1 (by simp [h])]
      · rw [up_off _ _ (Or.inr e)]
        exact h1 j (by omega))
    refine ⟨σ', ?_, q2, q3⟩
    rw [m_X7_copy_2]
    rw [if_neg (show ¬ Int32.ofNat 6 ≤ nI i from nI_ge (b := 6) hi (by decide)), x_get hi (by decide), obind_some, ast_nI hi (by decide), obind_some, nI_1]
    exact q1
theorem c_findBest_loop (hW : WF S) (hD : D < 64) (hO : ∀ p, p < 6 → OSp S D 0 p (O p)) : ∀ i, i ≤ 7 → ∀ (σ : Mem) (P R : List (List Nat)) (M : Nat) (fd : Bool), SS S D M O R σ → subL O 6 [] = P ++ R → (fd = false → M = 7 ∧ i = 0 ∧ ∀ x, x ∈ P → ¬ SolF S D (chL x)) → (fd = true → M + i ≤ 7 ∧ ∃ P1 b P2, P = P1 ++ b :: P2 ∧ (∀ p, p < 6 → σ 69 p = oi (chL b p)) ∧ SolF S D (chL b) ∧ s_chg S (chL b) = M ∧ (∀ x, x ∈ P1 → SolF S D (chL x) → M < s_chg S (chL x)) ∧ ∀ x, x ∈ P2 → SolF S D (chL x) → M ≤ s_chg S (chL x)) → ∃ σ' b, m_X8_findBest_24 FU (b2i fd) (nI i) σ = some (b2i b, σ') ∧ fr clS σ σ' ∧ σ' 67 7 = nI D ∧ (b = false → ∀ c, ¬ SolF S D c) ∧ (b = true → ∃ c, IsBest S D c ∧ ∀ p, p < 6 → σ' 69 p = oi (c p)) := by
  have h24 := hW.nv
  have fin : ∀ (σ : Mem) (P R : List (List Nat)) (M : Nat), subL O 6 [] = P ++ R → (∃ P1 b P2, P = P1 ++ b :: P2 ∧ (∀ p, p < 6 → σ 69 p = oi (chL b p)) ∧ SolF S D (chL b) ∧ s_chg S (chL b) = M ∧ (∀ x, x ∈ P1 → SolF S D (chL x) → M < s_chg S (chL x)) ∧ ∀ x, x ∈ P2 → SolF S D (chL x) → M ≤ s_chg S (chL x)) → (∀ x, x ∈ R → SolF S D (chL x) → M ≤ s_chg S (chL x)) → ∃ c, IsBest S D c ∧ ∀ p, p < 6 → σ 69 p = oi (c p) := by
    intro σ P R M hR h hRn
    obtain ⟨P1, b, P2, e1, e2, e3, e4, e5, e6⟩ := h
    refine ⟨chL b, best_of hW hO (P1 := P1) (P2 := P2 ++ R) (by rw [hR, e1]; simp) e3 (fun x hx hs => by rw [e4]; exact e5 x hx hs) (fun x hx hs => ?_), e2⟩
    rw [e4]
    rw [List.mem_append] at hx
    rcases hx with hx | hx
    · exact e6 x hx hs
    · exact hRn x hx hs
  refine up_fu (n := 7) (P := fun i f => ∀ (σ : Mem) (P R : List (List Nat)) (M : Nat) (fd : Bool), SS S D M O R σ → subL O 6 [] = P ++ R → (fd = false → M = 7 ∧ i = 0 ∧ ∀ x, x ∈ P → ¬ SolF S D (chL x)) → (fd = true → M + i ≤ 7 ∧ ∃ P1 b P2, P = P1 ++ b :: P2 ∧ (∀ p, p < 6 → σ 69 p = oi (chL b p)) ∧ SolF S D (chL b) ∧ s_chg S (chL b) = M ∧ (∀ x, x ∈ P1 → SolF S D (chL x) → M < s_chg S (chL x)) ∧ ∀ x, x ∈ P2 → SolF S D (chL x) → M ≤ s_chg S (chL x)) → ∃ σ' b, m_X8_findBest_24 f (b2i fd) (nI i) σ = some (b2i b, σ') ∧ fr clS σ σ' ∧ σ' 67 7 = nI D ∧ (b = false → ∀ c, ¬ SolF S D c) ∧ (b = true → ∃ c, IsBest S D c ∧ ∀ p, p < 6 → σ' 69 p = oi (c p))) (by decide) (fun f σ P R M fd h hR hf ht => ?_) (fun i f hi ih σ P R M fd h hR hf ht => ?_)
  · refine ⟨σ, fd, ?_, fr.refl, h.dem, fun hfd => ?_, fun hfd => ?_⟩
    · rw [m_X8_findBest_24]
      rw [if_pos (show (6 : Int32) < nI 7 by decide), zchk_b]
      rfl
    · have := (hf hfd).2.1
      omega
    · obtain ⟨hm, hb⟩ := ht hfd
      exact fin σ P R M hR hb (fun x _ _ => by omega)
  · have hM : M ≤ 7 := by
      cases hfd : fd with
      | false => have := (hf hfd).1; omega
      | true => have := (ht hfd).1; omega
    obtain ⟨σ1, b, q1, q2, q5, q3, q4⟩ := c_next hW hD hM hO h (fun l hl => by rw [hR]; exact List.mem_append_right _ hl)
    have hlt : ¬ (6 : Int32) < nI i := fun e => by
      have := (nI_ltI (a := 6) (by decide) (show i < 2 ^ 31 by omega)).mp e
      omega
    have hcl : fr clS σ σ1 := q2.mono (by decide)
    cases hb : b with
    | false =>
      rw [hb] at q1
      refine ⟨σ1, fd, ?_, hcl, ?_, fun hfd c hs => ?_, fun hfd => ?_⟩
      · rw [m_X8_findBest_24]
        rw [if_neg hlt, q1, obind_some, if_pos (show b2i false = 0 from rfl), zchk_b]
        rfl
      · exact q5
      · obtain ⟨h7, -, hP⟩ := hf hfd
        have hin := sol_in hW hO hs (fun h => absurd rfl h)
        have hs2 : SolF S D (chL (preL c 6)) := hs.congr hW fun p hp => (chL_pre hp).symm
        rw [hR, List.mem_append] at hin
        rcases hin with hin | hin
        · exact hP _ hin hs2
        · refine q3 hb _ hin ?_
          rw [h7]
          exact good7.mpr hs2
      · obtain ⟨hm, P1, bb, P2, e1, e2, e3, e4, e5, e6⟩ := ht hfd
        refine fin σ1 P R M hR ⟨P1, bb, P2, e1, fun p hp => ?_, e3, e4, e5, e6⟩ (fun x hx hs => ?_)
        · rw [q2 69 (by decide)]
          exact e2 p hp
        · rcases Nat.lt_or_ge (s_chg S (chL x)) M with h1 | h1
          · exact absurd ⟨hs, h1⟩ (q3 hb x hx)
          · exact h1
    | true =>
      rw [hb] at q1
      obtain ⟨pre, l, R', r1, r2, r3, r4, r5⟩ := q4 hb
      obtain ⟨σ2, c1, c2, c3⟩ := x_copy (σ := σ1) (a := 69) (a1 := 78) (by decide)
      have h69 : ∀ p, p < 6 → σ2 69 p = oi (chL l p) := fun p hp => by rw [c3 p hp, r5 p hp]
      have h2 := r4.frm c2 (by decide) (by decide)
      have hln : ∀ p, p < 6 → chL l p ≤ s_nv S := fun p hp => by
        rcases r3.1.1 p hp with g | g
        · omega
        · omega
      have hch := c_changes hW h2.RC (show 5 < 6 by decide) h69 (fun p hp => by have := hln p hp; omega)
      have hch : m_X5_changes 69 6 5 σ2 = some (nI (s_chg S (chL l)), σ2) := hch
      have h3 := h2.setM (M' := s_chg S (chL l))
      have hx1 : ∀ x, x ∈ P ++ pre → SolF S D (chL x) → s_chg S (chL l) < s_chg S (chL x) := by
        intro x hx hs
        rw [List.mem_append] at hx
        rcases hx with hx | hx
        · cases hfd : fd with
          | false => exact absurd hs ((hf hfd).2.2 x hx)
          | true =>
            obtain ⟨hm, P1, bb, P2, e1, e2, e3, e4, e5, e6⟩ := ht hfd
            have hlM := r3.2
            rw [e1, List.mem_append, List.mem_cons] at hx
            rcases hx with hx | hx | hx
            · have := e5 x hx hs
              omega
            · rw [hx, e4]
              exact hlM
            · have := e6 x hx hs
              omega
        · have hng := r2 x hx
          rcases Nat.lt_or_ge (s_chg S (chL x)) M with h1 | h1
          · exact absurd ⟨hs, h1⟩ hng
          · have := r3.2
            omega
      have hMi : s_chg S (chL l) + (i + 1) ≤ 7 := by
        have h1 := r3.2
        cases hfd : fd with
        | false =>
          obtain ⟨g1, g2, -⟩ := hf hfd
          omega
        | true =>
          have := (ht hfd).1
          omega
      have h693 : ∀ p, p < 6 → (up σ2 67 8 (oi (s_chg S (chL l)))) 69 p = oi (chL l p) := fun p hp => by
        rw [up_pl _ _ (by decide)]
        exact h69 p hp
      obtain ⟨σ3, b3, s1, s2, s3, s4, s5⟩ := ih _ (P ++ pre ++ [l]) R' (s_chg S (chL l)) true h3 (by rw [hR, r1]; simp) (fun h => by cases h) (fun _ => ⟨hMi, P ++ pre, l, [], rfl, h693, r3.1, rfl, hx1, fun x hx => by cases hx⟩)
      refine ⟨σ3, b3, ?_, ((hcl.trans (c2.mono (by decide))).trans (fr.up (by decide))).trans s2, s3, s4, s5⟩
      have e1 : nI (s_chg S (chL l)) - 1 = oi (s_chg S (chL l)) := by
        rcases Nat.eq_zero_or_pos (s_chg S (chL l)) with h1 | h1
        · rw [h1]
          decide
        · obtain ⟨k, hk⟩ : ∃ k, s_chg S (chL l) = k + 1 := ⟨s_chg S (chL l) - 1, by omega⟩
          rw [hk, nI_pred, oi_s]
      rw [m_X8_findBest_24]
      rw [if_neg hlt, q1, obind_some, if_neg (show ¬ b2i true = 0 by decide), c1, obind_some, hch, obind_some, obind_some, nI_1]
      dsimp only
      rw [e1]
      exact s1
theorem c_findBest (hW : WF S) (hR : RC S σ) : ∃ σ' b, m_X8_findBest σ = some (b2i b, σ') ∧ fr clS σ σ' ∧ σ' 67 7 = nI (s_dems S (s_wsp S)) ∧ (b = false → ∀ c, ¬ SolF S (s_dems S (s_wsp S)) c) ∧ (b = true → ∃ c, IsBest S (s_dems S (s_wsp S)) c ∧ ∀ p, p < 6 → σ' 69 p = oi (c p)) := by
  have hD := s_dems_lt hW (s_wsp S)
  obtain ⟨σ1, O, q1, q2, q3, q4⟩ := c_begin2 hW hR hD (Nat.zero_le (s_nv S))
  obtain ⟨σ2, a1, a2, a3⟩ := c_fill (σ := σ1) (a := 69) (n := 6) (x := -1) (by decide)
  obtain ⟨σ3, b, b1, b2, b3, b4, b5⟩ := c_findBest_loop hW hD q4 0 (Nat.zero_le _) σ2 [] (subL O 6 []) 7 false (q3.frm a2 (by decide) (by decide)) rfl (fun _ => ⟨rfl, rfl, fun x hx => by cases hx⟩) (fun h => by cases h)
  refine ⟨σ3, b, ?_, (q2.trans (a2.mono (by decide))).trans b2, b3, b4, b5⟩
  unfold m_X8_findBest
  rw [c_demands hW hR, obind_s]
  dsimp only
  rw [oi_0] at q1
  rw [q1, obind_s, a1, obind_s]
  exact b1
/-- the features of the best solution -/
theorem c_bestFeatures (hW : WF S) (hR : RC S σ) (hD : D < 64) (h67 : σ 67 7 = nI D) {c : Nat → Nat} (hc : ∀ p, p < 6 → σ 69 p = oi (c p)) (hn : ∀ p, p < 6 → c p ≤ s_nv S) {p : Nat} (hp : p < 6) (h0 : c p ≠ 0) : ∃ σ', m_X8_bestFeatures (nI p) σ = some (nI (onv S D c p), σ') ∧ fr clS σ σ' := by
  obtain ⟨σ1, a1, a2, a3⟩ := x_copy (σ := σ) (a := 78) (a1 := 69) (by decide)
  obtain ⟨σ2, F, b1, b2, b3, b4⟩ := c_turnOn (oa := 80) hW hD (hR.fr a2 (by decide)) (show (78 : Nat) ≠ 80 by decide) (by decide) (c := c) (fun p hp => by rw [a3 p hp, hc p hp]) hn
  refine ⟨σ2, ?_, (a2.mono (by decide)).trans (b3.mono (by decide))⟩
  unfold m_X8_bestFeatures
  rw [a1, obind_some]
  dsimp only
  rw [a2 67 (by decide), h67, b1, obind_some, b2.on hp, obind_some]
  dsimp only
  rw [← onv_of hp h0 (fun q hq _ f hf => b4 q hq f hf) (b2.2.2.2.2.2.1 p hp)]
/-- is there a solution at all, with a wanted version -/
theorem c_solvable (hW : WF S) (hR : RC S σ) (hD : D < 64) (hw : w ≤ s_nv S) : ∃ σ1 σ' b, m_X8_begin (nI D) (oi w) σ = some (0, σ1) ∧ m_X8_next σ1 = some (b2i b, σ') ∧ fr clS σ σ' ∧ (b = true ↔ ∃ c, SolF S D c ∧ (w ≠ 0 → c (s_own S (w - 1)) = w)) := by
  obtain ⟨σ1, O, q1, q2, q3, q4⟩ := c_begin2 hW hR hD hw
  obtain ⟨σ2, b, r1, r2, r5, r3, r4⟩ := c_next hW hD (Nat.le_refl 7) q4 q3 (fun l hl => hl)
  refine ⟨σ1, σ2, b, q1, r1, q2.trans (r2.mono (by decide)), ⟨fun hb => ?_, fun ⟨c, hs, hcw⟩ => ?_⟩⟩
  · obtain ⟨pre, l, R', s1, s2, s3, s4, s5⟩ := r4 hb
    refine ⟨chL l, s3.1, fun h0 => in_want q4 (by rw [s1]; simp) h0 ?_⟩
    exact hW.own (by omega)
  · cases hb : b with
    | true => rfl
    | false =>
      have hin := sol_in hW q4 hs hcw
      exact absurd (good7.mpr (hs.congr hW fun p hp => (chL_pre hp).symm)) (r3 hb _ hin)
theorem c_isSolvable (hW : WF S) (hR : RC S σ) (hD : D < 64) : ∃ σ' b, m_X8_isSolvable (nI D) σ = some (b2i b, σ') ∧ fr clS σ σ' ∧ (b = true ↔ ∃ c, SolF S D c) := by
  obtain ⟨σ1, σ2, b, q1, q2, q3, q4⟩ := c_solvable hW hR hD (Nat.zero_le (s_nv S))
  refine ⟨σ2, b, ?_, q3, q4.trans ⟨fun ⟨c, hs, _⟩ => ⟨c, hs⟩, fun ⟨c, hs⟩ => ⟨c, hs, fun h => absurd rfl h⟩⟩⟩
  unfold m_X8_isSolvable
  rw [oi_0] at q1
  rw [q1, obind_s, q2, obind_s, zchk_b, obind_s]
theorem c_count_loop (hW : WF S) (hD : D < 64) (hO : ∀ p, p < 6 → OSp S D 0 p (O p)) : ∀ i, i ≤ 1000 → ∀ (σ : Mem) (R : List (List Nat)), SS S D 7 O R σ → (∀ l, l ∈ R → l ∈ subL O 6 []) → ∃ σ', m_X11_solutions_17 FU (nI i) σ = some (nI (min 1000 (i + (fltP (fun l => SolF S D (chL l)) R).length)), σ') ∧ fr clS σ σ' := by
  refine up_fu (n := 1000) (P := fun i f => ∀ (σ : Mem) (R : List (List Nat)), SS S D 7 O R σ → (∀ l, l ∈ R → l ∈ subL O 6 []) → ∃ σ', m_X11_solutions_17 f (nI i) σ = some (nI (min 1000 (i + (fltP (fun l => SolF S D (chL l)) R).length)), σ') ∧ fr clS σ σ') (by decide) (fun f σ R h hs => ?_) (fun i f hi ih σ R h hs => ?_)
  · refine ⟨σ, ?_, fr.refl⟩
    rw [m_X11_solutions_17]
    rw [if_pos (show (1000 : Int32) ≤ nI 1000 by decide), Nat.min_eq_left (by omega)]
  · obtain ⟨σ1, b, q1, q2, q5, q3, q4⟩ := c_next hW hD (Nat.le_refl 7) hO h hs
    have hcl : fr clS σ σ1 := q2.mono (by decide)
    cases hb : b with
    | false =>
      rw [hb] at q1
      refine ⟨σ1, ?_, hcl⟩
      rw [m_X11_solutions_17]
      rw [if_neg (show ¬ (1000 : Int32) ≤ nI i from nI_ge (b := 1000) hi (by decide)), q1, obind_some, if_pos (show b2i false = 0 from rfl), fltP_none (fun l hl hg => q3 hb l hl (good7.mpr hg))]
      simp only [List.length_nil, Nat.add_zero]
      rw [Nat.min_eq_right (by omega)]
    | true =>
      rw [hb] at q1
      obtain ⟨pre, l, R', r1, r2, r3, r4, r5⟩ := q4 hb
      obtain ⟨σ2, s1, s2⟩ := ih σ1 R' r4 (fun x hx => hs x (by rw [r1]; simp [hx]))
      refine ⟨σ2, ?_, hcl.trans s2⟩
      rw [m_X11_solutions_17]
      rw [if_neg (show ¬ (1000 : Int32) ≤ nI i from nI_ge (b := 1000) hi (by decide)), q1, obind_some, if_neg (show ¬ b2i true = 0 by decide), nI_1]
      rw [r1, fltP_app, fltP_none (fun x hx hg => r2 x hx (good7.mpr hg)), fltP_cons r3.1, List.nil_append, List.length_cons]
      refine s1.trans ?_
      rw [show i + 1 + (fltP (fun l => SolF S D (chL l)) R').length = i + ((fltP (fun l => SolF S D (chL l)) R').length + 1) by omega]
theorem LexL_ne {l l' : List Nat} (h : LexL (fun p x y => s_worth S p y < s_worth S p x) l l') : l ≠ l' := by
  intro e
  obtain ⟨p, hp, -, h2⟩ := h
  rw [e] at h2
  exact Nat.lt_irrefl _ h2
theorem NSol_of (hW : WF S) (hO : ∀ p, p < 6 → OSp S D 0 p (O p)) : NSol S D (fltP (fun l => SolF S D (chL l)) (subL O 6 [])).length := by
  refine ⟨_, ?_, fun x => ?_, rfl⟩
  · refine List.Pairwise.filter _ ((sub_pw hO).imp ?_)
    intro a b h
    exact LexL_ne h
  · rw [fltP_mem]
    constructor
    · rintro ⟨h1, h2⟩
      exact ⟨(subL_all.mp h1).1, h2⟩
    · rintro ⟨h1, h2⟩
      have hin := sol_in hW hO h2 (fun h => absurd rfl h)
      refine ⟨?_, h2⟩
      have : preL (chL x) 6 = x := by
        apply List.ext_getElem
        · rw [preL_len, h1]
        · intro i h3 h4
          have h5 : (preL (chL x) 6).getD i 0 = x.getD i 0 := preL_get (chL x) (a := 6) (p := i) (by rw [preL_len] at h3; exact h3)
          simp only [List.getD] at h5
          rw [List.getElem?_eq_getElem h3, List.getElem?_eq_getElem h4] at h5
          exact h5
      rw [this] at hin
      exact hin
theorem c_solutions (hW : WF S) (hR : RC S σ) {n : Nat} (hn : NSol S (s_dems S (s_wsp S)) n) : ∃ σ', m_X11_solutions σ = some (nI (min 1000 n), σ') ∧ fr clS σ σ' := by
  have hD := s_dems_lt hW (s_wsp S)
  obtain ⟨σ1, O, q1, q2, q3, q4⟩ := c_begin2 hW hR hD (Nat.zero_le (s_nv S))
  obtain ⟨σ2, s1, s2⟩ := c_count_loop hW hD q4 0 (Nat.zero_le _) σ1 _ q3 (fun l hl => hl)
  rw [Nat.zero_add, (NSol_of hW q4).uni hn] at s1
  refine ⟨σ2, ?_, q2.trans s2⟩
  unfold m_X11_solutions
  rw [c_demands hW hR, obind_s]
  dsimp only
  rw [oi_0] at q1
  rw [q1, obind_s]
  exact s1
end BEST
