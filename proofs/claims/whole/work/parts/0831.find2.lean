/-! ===== the reference: find and isSolvable ===== -/
def rfS : List Nat := [106, 107, 108, 109, 110, 111, 112, 113]
def rfN : List Nat := [25, 26, 29, 30, 31]
/-- what the reference's search writes -/
def frR (σ σ' : Mem) : Prop := (∀ k, k ∉ (94 :: rfS) → σ' k = σ k) ∧ ∀ j, j ∉ rfN → σ' 94 j = σ 94 j
theorem frR.refl {σ : Mem} : frR σ σ := ⟨fun _ _ => rfl, fun _ _ => rfl⟩
theorem frR.trans {σ σ' σ'' : Mem} (h : frR σ σ') (h' : frR σ' σ'') : frR σ σ'' := ⟨fun k hk => (h'.1 k hk).trans (h.1 k hk), fun j hj => (h'.2 j hj).trans (h.2 j hj)⟩
theorem frR.of {l : List Nat} {σ σ' : Mem} (h : fr l σ σ') (hl : ∀ k ∈ l, k ∈ rfS) : frR σ σ' := ⟨fun k hk => h k (fun h2 => hk (List.mem_cons_of_mem _ (hl k h2))), fun j _ => by rw [h 94 (fun h2 => absurd (hl 94 h2) (by decide))]⟩
theorem frR.num {σ : Mem} {j : Nat} {x : Int32} (h : j ∈ rfN) : frR σ (up σ 94 j x) := ⟨fun k hk => up_pl _ _ (fun e => hk (by rw [e]; simp)), fun i hi => up_off _ _ (Or.inr (fun e => hi (e ▸ h)))⟩
theorem RM.frR {S : SP} {σ σ' : Mem} (hR : RM S σ) (h : frR σ σ') : RM S σ' := hR.congr (fun k hk => h.1 k (by revert hk; unfold mData rfS; simp; omega)) (fun j hj => h.2 j (by revert hj; unfold mInts rfN; simp; omega))
theorem RC.frR {S : SP} {σ σ' : Mem} (hR : RC S σ) (h : frR σ σ') : RC S σ' := hR.congr fun k hk => h.1 k (by revert hk; unfold cData rfS; simp; omega)
section FIND2
variable {S : SP} {D w P : Nat} {O : Nat → List Nat} {σ : Mem} {R : List (List Nat)}
/-- what is known of the best one so far -/
def FB (S : SP) (D n : Nat) (Pr : List (List Nat)) (σ : Mem) : Prop := n = (fltP (fun l => SolF S D (chL l)) Pr).length ∧ σ 94 30 = nI n ∧ (n ≠ 0 → ∃ b : Nat → Nat, (∀ p, p < 6 → σ 112 p = oi (b p) ∧ σ 113 p = nI (onv S D b p)) ∧ SolF S D b ∧ σ 94 29 = nI (s_chg S b) ∧ ∀ x, x ∈ Pr → SolF S D (chL x) → (∀ p, p < 6 → chL x p = b p) ∨ Ahead S b (chL x)) ∧ RB σ
theorem FB.frm {n : Nat} {Pr : List (List Nat)} {l : List Nat} {σ' : Mem} (h : FB S D n Pr σ) (hf : fr l σ σ') (h1 : 94 ∉ l) (h2 : 112 ∉ l) (h3 : 113 ∉ l) : FB S D n Pr σ' := by
  unfold FB RB at *
  rw [hf 94 h1, hf 112 h2, hf 113 h3]
  exact h
theorem FB.pre {n : Nat} {Pr Q : List (List Nat)} (h : FB S D n Pr σ) (hq : ∀ x, x ∈ Q → ¬ SolF S D (chL x)) : FB S D n (Pr ++ Q) σ := by
  obtain ⟨h1, h2, h3, h4⟩ := h
  refine ⟨by rw [fltP_app, fltP_none hq, List.append_nil]; exact h1, h2, fun h0 => ?_, h4⟩
  obtain ⟨b, g1, g2, g3, g4⟩ := h3 h0
  refine ⟨b, g1, g2, g3, fun x hx hs => ?_⟩
  rw [List.mem_append] at hx
  rcases hx with hx | hx
  · exact g4 x hx hs
  · exact absurd hs (hq x hx)
/-- taking over a choice as the best one -/
theorem r_take (hW : WF S) {c : Nat → Nat} {f40 : Int32 → Mem → Option (Int32 × Mem)} (hc : ∀ p, p < 6 → σ 106 p = oi (c p)) (hn : ∀ p, p < 6 → c p < 2 ^ 31) (h107 : ∀ p, p < 6 → c p ≠ 0 → σ 107 p = nI (onv S D c p)) : ∃ σ', m_X12_find_68 f40 FU 0 σ = m_X12_find_118 f40 σ' ∧ fr [112, 113] σ σ' ∧ ∀ p, p < 6 → σ' 112 p = oi (c p) ∧ σ' 113 p = nI (onv S D c p) := by
  refine up_fu (n := 6) (P := fun i f => ∀ σ1 : Mem, fr [112, 113] σ σ1 → (∀ p, p < i → σ1 112 p = oi (c p) ∧ σ1 113 p = nI (onv S D c p)) → ∃ σ', m_X12_find_68 f40 f (nI i) σ1 = m_X12_find_118 f40 σ' ∧ fr [112, 113] σ σ' ∧ ∀ p, p < 6 → σ' 112 p = oi (c p) ∧ σ' 113 p = nI (onv S D c p)) (by decide) (fun f σ1 hf h => ?_) (fun i f hi ih σ1 hf h => ?_) 0 (Nat.zero_le _) σ fr.refl (fun p hp => by omega)
  · refine ⟨σ1, ?_, hf, h⟩
    rw [m_X12_find_68]
    rw [if_pos (show (6 : Int32) ≤ nI 6 by decide)]
  · have e1 : ald σ1 106 6 (nI i) = some (oi (c i)) := by rw [ald_nI hi (by decide), hf 106 (by decide), hc i hi]
    have e2 : ald (up σ1 112 i (oi (c i))) 106 6 (nI i) = some (oi (c i)) := by rw [ald_nI hi (by decide), up_pl _ _ (by decide), hf 106 (by decide), hc i hi]
    have go : ∀ y, y = nI (onv S D c i) → m_X12_find_68 f40 (f + 1) (nI i) σ1 = m_X12_find_111 f40 (m_X12_find_68 f40 f) (nI i) (nI i) y (up σ1 112 i (oi (c i))) → ∃ σ', m_X12_find_68 f40 (f + 1) (nI i) σ1 = m_X12_find_118 f40 σ' ∧ fr [112, 113] σ σ' ∧ ∀ p, p < 6 → σ' 112 p = oi (c p) ∧ σ' 113 p = nI (onv S D c p) := by
      intro y hy he
      obtain ⟨σ', q1, q2, q3⟩ := ih (up (up σ1 112 i (oi (c i))) 113 i y) (hf.trans ((fr.up (by simp)).trans (fr.up (by simp)))) (fun p hp => by
        by_cases e : p = i
        · subst e
          exact ⟨by rw [up_pl _ _ (by decide), up_same], by rw [up_same, hy]⟩
        · rw [up_pl _ _ (by decide), up_off _ _ (Or.inr e), up_off _ _ (Or.inr e), up_pl _ _ (by decide)]
          exact h p (by omega))
      refine ⟨σ', ?_, q2, q3⟩
      rw [he]
      unfold m_X12_find_111
      rw [ast_nI hi (by decide), obind_some, nI_1]
      exact q1
    by_cases h0 : c i = 0
    · refine go 0 (by unfold onv; rw [if_pos h0]; rfl) ?_
      rw [m_X12_find_68]
      rw [if_neg (show ¬ (6 : Int32) ≤ nI i from nI_ge (b := 6) hi (by decide)), e1, obind_some, ast_nI hi (by decide), obind_some, e2, obind_some, h0, if_pos (show oi 0 = -1 from rfl)]
    · have e3 : ald (up σ1 112 i (oi (c i))) 107 6 (nI i) = some (nI (onv S D c i)) := by rw [ald_nI hi (by decide), up_pl _ _ (by decide), hf 107 (by decide), h107 i hi h0]
      refine go _ rfl ?_
      rw [m_X12_find_68]
      rw [if_neg (show ¬ (6 : Int32) ≤ nI i from nI_ge (b := 6) hi (by decide)), e1, obind_some, ast_nI hi (by decide), obind_some, e2, obind_some, if_neg (fun e => h0 ((oi_m1 (hn i hi)).mp e)), e3, obind_some]
theorem r_find_loop (hW : WF S) (hD : D < 64) (hP : PullIn S D P) (hO : ∀ p, p < 6 → OSpM S D 0 P p (O p)) (hlen : (subL O 6 []).length ≤ 15625) : ∀ (f : Nat) (σ : Mem) (Pr R : List (List Nat)) (l : List Nat) (n μ : Nat), subL O 6 [] = Pr ++ l :: R → MT S D O R μ σ → μ ≤ 23436 → μ + 2 ≤ f → (∀ p, p < 6 → σ 106 p = oi (chL l p)) → FB S D n Pr σ → ∃ σ' n', m_X12_find_40 f 1 σ = some (0, σ') ∧ frR σ σ' ∧ σ' 94 31 = 1 ∧ FB S D n' (subL O 6 []) σ' := by
  intro f
  induction f with
  | zero => intro σ Pr R l n μ _ _ _ h; omega
  | succ f ih =>
    intro σ Pr R l n μ hR hM hμ hf hc hB
    have h24 := hW.nv
    have hlm : l ∈ subL O 6 [] := by rw [hR]; simp
    have hcd := in_cand hO hlm
    have hn31 : ∀ p, p < 6 → chL l p < 2 ^ 31 := fun p hp => by
      rcases hcd p hp with h | h
      · omega
      · omega
    have hnle : n ≤ 15625 := by
      rw [hB.1]
      refine Nat.le_trans (List.length_filter_le _ _) ?_
      rw [hR] at hlen
      rw [List.length_append] at hlen
      omega
    have h25 : σ 94 25 = nI D := by
      obtain ⟨a, c, t, h1, -⟩ := hM
      exact h1.2.1
    obtain ⟨σ1, sl, q1, q2, q3, q4⟩ := r_isSolution hW hD hM.RM h25 hc hcd
    have hM1 := hM.frm q2 (by decide)
    have hB1 := hB.frm q2 (by decide) (by decide) (by decide)
    have hf1 : frR σ σ1 := frR.of q2 (by decide)
    -- to the next choice
    have next : ∀ (σ2 : Mem) (n2 : Nat), frR σ σ2 → MT S D O R μ σ2 → FB S D n2 (Pr ++ [l]) σ2 → m_X12_find_40 (f + 1) 1 σ = m_X12_find_128 (m_X12_find_40 f) σ2 → ∃ σ' n', m_X12_find_40 (f + 1) 1 σ = some (0, σ') ∧ frR σ σ' ∧ σ' 94 31 = 1 ∧ FB S D n' (subL O 6 []) σ' := by
      intro σ2 n2 hf2 hM2 hB2 he
      obtain ⟨σ3, b, r1, r2, r3, r4⟩ := r_goOn0 hW hO hM2 hμ
      have hB3 := hB2.frm r2 (by decide) (by decide) (by decide)
      unfold m_X12_find_128 at he
      rw [r1, obind_some] at he
      cases hb : b with
      | false =>
        obtain ⟨g, rfl⟩ : ∃ g, f = g + 1 := ⟨f - 1, by omega⟩
        refine ⟨up σ3 94 31 1, n2, ?_, (hf2.trans (frR.of r2 (by decide))).trans (frR.num (by decide)), up_same _ _ _ _, ?_⟩
        · rw [he, hb, m_X12_find_40]
          rw [if_pos (show b2i false = 0 from rfl), obind_some]
        · have := hB3.pre (r3 hb)
          rw [show Pr ++ [l] ++ R = subL O 6 [] by rw [hR]; simp] at this
          unfold FB RB at this ⊢
          rw [up_off _ _ (Or.inr (by decide)), up_off _ _ (Or.inr (by decide)), up_pl _ _ (by decide), up_pl _ _ (by decide)]
          exact this
      | true =>
        obtain ⟨pre, l', R', μ', s1, s2, s3, s4, s5⟩ := r4 hb
        obtain ⟨σ4, n4, t1, t2, t3, t4⟩ := ih σ3 (Pr ++ [l] ++ pre) R' l' n2 μ' (by rw [hR, s1]; simp) s3 (by omega) (by omega) s4 (hB3.pre s2)
        exact ⟨σ4, n4, by rw [he, hb]; exact t1, (hf2.trans (frR.of r2 (by decide))).trans t2, t3, t4⟩
    cases hsl : sl with
    | false =>
      refine next σ1 n hf1 hM1 (hB1.pre (fun x hx hs => ?_)) ?_
      · rw [List.mem_singleton] at hx
        rw [hx] at hs
        have := q3.mpr hs
        rw [hsl] at this
        cases this
      · rw [m_X12_find_40]
        rw [if_neg (by decide), q1, obind_some, hsl, if_pos (show b2i false = 0 from rfl)]
    | true =>
      have hsol := q3.mp hsl
      have hc1 : ∀ p, p < 6 → σ1 106 p = oi (chL l p) := fun p hp => by rw [q2 106 (by decide)]; exact hc p hp
      obtain ⟨hB1a, hB1b, hB1c, hB1d⟩ := hB1
      have hcount : (fltP (fun l => SolF S D (chL l)) (Pr ++ [l])).length = n + 1 := by
        rw [fltP_app, fltP_cons hsol, fltP_none (R := []) (fun l hl => by cases hl), List.length_append, ← hB1a]
        rfl
      -- the best one so far, as a function
      have hbest : ∃ b : Nat → Nat, n ≠ 0 → (∀ p, p < 6 → σ1 112 p = oi (b p) ∧ σ1 113 p = nI (onv S D b p)) ∧ SolF S D b ∧ σ1 94 29 = nI (s_chg S b) ∧ ∀ x, x ∈ Pr → SolF S D (chL x) → (∀ p, p < 6 → chL x p = b p) ∨ Ahead S b (chL x) := by
        by_cases h0 : n = 0
        · exact ⟨fun _ => 0, fun h => absurd h0 h⟩
        · obtain ⟨b, hb⟩ := hB1c h0
          exact ⟨b, fun _ => hb⟩
      obtain ⟨b, hb⟩ := hbest
      obtain ⟨g, g1, g2, g3⟩ := r_goesAhead (b := b) hW hM1.RM (by omega) hB1b hc1 hcd (fun h0 => ⟨fun p hp => ((hb h0).1 p hp).1, (hb h0).2.1.1, (hb h0).2.2.1⟩)
      cases hg : g with
      | false =>
        have h0 : n ≠ 0 := fun h => by
          rw [g2 h] at hg
          cases hg
        obtain ⟨k1, k2, k3, k4⟩ := hb h0
        have e30 : σ1 94 30 + 1 = nI (n + 1) := by rw [hB1b, nI_1]
        refine next (up σ1 94 30 (σ1 94 30 + 1)) (n + 1) (hf1.trans (frR.num (by decide))) (hM1.num (by decide)) ⟨hcount.symm, by rw [up_same, e30], fun _ => ⟨b, fun p hp => ?_, k2, ?_, fun x hx hs => ?_⟩, hB1d.congr (up_pl _ _ (by decide))⟩ ?_
        · rw [up_pl _ _ (by decide), up_pl _ _ (by decide)]
          exact k1 p hp
        · rw [up_off _ _ (Or.inr (by decide))]
          exact k3
        · rw [List.mem_append, List.mem_singleton] at hx
          rcases hx with hx | hx
          · exact k4 x hx hs
          · rw [hx]
            exact (g3 h0).2 hg
        · rw [m_X12_find_40]
          rw [if_neg (by decide), q1, obind_some, hsl, if_neg (show ¬ b2i true = 0 by decide), g1, obind_some, hg, if_pos (show b2i false = 0 from rfl)]
          rfl
      | true =>
        have e1 := r_changes hW hM1.RM hc1 hn31
        obtain ⟨σ2, t1, t2, t3⟩ := r_take (σ := up σ1 94 29 (nI (s_chg S (chL l)))) (S := S) (D := D) (c := chL l) (f40 := m_X12_find_40 f) hW (fun p hp => by rw [up_pl _ _ (by decide)]; exact hc1 p hp) hn31 (fun p hp h0 => by rw [up_pl _ _ (by decide)]; exact q4 hsl p hp h0)
        have h30 : σ2 94 30 = nI n := by rw [t2 94 (by decide), up_off _ _ (Or.inr (by decide))]; exact hB1b
        have e30 : σ2 94 30 + 1 = nI (n + 1) := by rw [h30, nI_1]
        refine next (up σ2 94 30 (σ2 94 30 + 1)) (n + 1) (((hf1.trans (frR.num (by decide))).trans (frR.of t2 (by decide))).trans (frR.num (by decide))) (((hM1.num (by decide)).frm t2 (by decide)).num (by decide)) ⟨hcount.symm, by rw [up_same, e30], fun _ => ⟨chL l, fun p hp => ?_, hsol, ?_, fun x hx hs => ?_⟩, fun p hp => ⟨chL l p, (by rcases hcd p hp with h | h <;> omega), (by rw [up_pl _ _ (by decide)]; exact (t3 p hp).1)⟩⟩ ?_
        · rw [up_pl _ _ (by decide), up_pl _ _ (by decide)]
          exact t3 p hp
        · rw [up_off _ _ (Or.inr (by decide)), t2 94 (by decide), up_same]
        · rw [List.mem_append, List.mem_singleton] at hx
          rcases hx with hx | hx
          · by_cases h0 : n = 0
            · have hin : x ∈ fltP (fun l => SolF S D (chL l)) Pr := fltP_mem.mpr ⟨hx, hs⟩
              have := List.length_pos_of_mem hin
              rw [← hB1a] at this
              omega
            · obtain ⟨k1, k2, k3, k4⟩ := hb h0
              have ha := (g3 h0).1 hg
              rcases k4 x hx hs with h4 | h4
              · exact Or.inr (Ahead.congr (fun _ _ => rfl) (fun p hp => (h4 p hp).symm) ha)
              · exact Or.inr (ha.trans h4)
          · rw [hx]
            exact Or.inl fun _ _ => rfl
        · rw [m_X12_find_40]
          rw [if_neg (by decide), q1, obind_some, hsl, if_neg (show ¬ b2i true = 0 by decide), g1, obind_some, hg, if_neg (show ¬ b2i true = 0 by decide), e1, obind_some, obind_some]
          exact t1.trans rfl
theorem sub_len (hO : ∀ p, p < 6 → (O p).length ≤ 5) : ∀ (r : Nat) (c : List Nat), c.length + r = 6 → (subL O r c).length ≤ 5 ^ r
  | 0, c, _ => Nat.le_refl _
  | r + 1, c, h => by
    have key : ∀ (xs : List Nat), (xs.flatMap fun x => subL O r (c ++ [x])).length ≤ xs.length * 5 ^ r := by
      intro xs
      induction xs with
      | nil => simp
      | cons x xs ih =>
        rw [List.flatMap_cons, List.length_append, List.length_cons, Nat.succ_mul]
        have := sub_len hO r (c ++ [x]) (by simp; omega)
        omega
    unfold subL
    have h1 := key (O c.length)
    have h2 := Nat.mul_le_mul_right (5 ^ r) (hO c.length (by omega))
    rw [Nat.pow_succ, Nat.mul_comm (5 ^ r) 5]
    omega
/-- a search of the reference for the demands D -/
theorem r_find (hW : WF S) (hR : RM S σ) (hC : Cache S σ) (hB : RB σ) : ∃ σ', m_X12_find σ = some (0, σ') ∧ frR σ σ' ∧ σ' 94 31 = 1 ∧ FoundOK S σ' ∧ RB σ' := by
  rcases hC with h31 | ⟨h31, hF⟩
  · have hD := s_dems_lt hW (s_wsp S)
    have hw7 := hW.wsp
    have e25 : m_X12_demandsOf (σ 94 6) σ = some (nI (s_dems S (s_wsp S)), σ) := by rw [hR.wsp]; exact r_demandsOf hW hR (by omega)
    obtain ⟨σ0, hσ0⟩ : ∃ σ0, σ0 = up (up (up σ 94 25 (nI (s_dems S (s_wsp S)))) 94 26 (-1)) 94 30 0 := ⟨_, rfl⟩
    have f0 : frR σ σ0 := by
      rw [hσ0]
      exact ((frR.num (by decide)).trans (frR.num (by decide))).trans (frR.num (by decide))
    have hR0 := hR.frR f0
    have h25 : σ0 94 25 = nI (s_dems S (s_wsp S)) := by
      rw [hσ0, up_off _ _ (Or.inr (by decide)), up_off _ _ (Or.inr (by decide)), up_same]
    have h26 : σ0 94 26 = oi 0 := by
      rw [hσ0, up_off _ _ (Or.inr (by decide)), up_same]
      rfl
    have h30 : σ0 94 30 = nI 0 := by
      rw [hσ0, up_same]
      rfl
    obtain ⟨σ1, P, O, a1, a2, a3, a4⟩ := r_begin hW hR0 hD h25 h26 (Nat.zero_le _)
    have hO : ∀ p, p < 6 → OSpM S (s_dems S (s_wsp S)) 0 P p (O p) := fun p hp => (a4 p hp).2
    obtain ⟨σ2, b, b1, b2, b3, b4⟩ := r_goOn1 hW (hR0.fr a2 (by decide) (by decide)) (by rw [a2 94 (by decide)]; exact h25) a4
    have hlen : (subL O 6 []).length ≤ 15625 := sub_len (fun p hp => (hO p hp).1) 6 [] rfl
    have f2 : frR σ σ2 := (f0.trans (frR.of a2 (by decide))).trans (frR.of b2 (by decide))
    have un : m_X12_find σ = m_X12_find_40 FU (b2i b) σ2 := by
      unfold m_X12_find
      rw [if_pos h31, e25, obind_s, obind_s, obind_s, obind_s]
      dsimp only
      rw [← hσ0, a1, obind_s, b1, obind_s]
    have hfin : ∀ σ', (∃ n', FB S (s_dems S (s_wsp S)) n' (subL O 6 []) σ') → FoundOK S σ' ∧ RB σ' := by
      rintro σ' ⟨n, g1, g2, g3, g4⟩
      refine ⟨⟨n, ?_, ?_, g2, fun h0 => ?_⟩, g4⟩
      · rw [g1]
        exact NSol_ofM hW a3 hO
      · rw [g1]
        exact Nat.le_trans (List.length_filter_le _ _) hlen
      · obtain ⟨c, k1, k2, k3, k4⟩ := g3 h0
        refine ⟨c, ⟨k2, fun c' hs hne => ?_⟩, k1⟩
        have hin := sol_inM a3 hO hs (fun h => absurd rfl h)
        have hcg : ∀ p, p < 6 → chL (preL c' 6) p = c' p := fun p hp => chL_pre hp
        rcases k4 _ hin (hs.congr hW fun p hp => (hcg p hp).symm) with h | h
        · obtain ⟨p, hp, hne⟩ := hne
          rw [← hcg p hp, h p hp] at hne
          exact absurd rfl hne
        · exact Ahead.congr (fun _ _ => rfl) hcg h
    have hB0 : ∀ σ', σ' 94 30 = nI 0 → RB σ' → ∀ Pr : List (List Nat), (∀ x, x ∈ Pr → ¬ SolF S (s_dems S (s_wsp S)) (chL x)) → FB S (s_dems S (s_wsp S)) 0 Pr σ' := fun σ' h hb Pr hno => ⟨by rw [fltP_none hno]; rfl, h, fun h0 => absurd rfl h0, hb⟩
    have h302 : σ2 94 30 = nI 0 := by
      rw [b2 94 (by decide), a2 94 (by decide)]
      exact h30
    have hB2 : RB σ2 := hB.congr (by rw [b2 112 (by decide), a2 112 (by decide), hσ0, up_pl _ _ (by decide), up_pl _ _ (by decide), up_pl _ _ (by decide)])
    cases hb : b with
    | false =>
      obtain ⟨g, hg⟩ : ∃ g, FU = g + 1 := ⟨3999999, rfl⟩
      refine ⟨up σ2 94 31 1, ?_, f2.trans (frR.num (by decide)), up_same _ _ _ _, hfin _ ⟨0, hB0 _ (by rw [up_off _ _ (Or.inr (by decide))]; exact h302) (hB2.congr (up_pl _ _ (by decide))) _ (b3 hb)⟩⟩
      rw [un, hb, hg, m_X12_find_40]
      rw [if_pos (show b2i false = 0 from rfl), obind_some]
    | true =>
      obtain ⟨pre, l, R', μ', s1, s2, s3, s4, s5⟩ := b4 hb
      obtain ⟨σ3, n', t1, t2, t3, t4⟩ := r_find_loop hW hD a3 hO hlen FU σ2 pre R' l 0 μ' s1 s3 (by omega) (by rw [FU_eq]; omega) s4 (hB0 _ h302 hB2 _ s2)
      exact ⟨σ3, by rw [un, hb]; exact t1, f2.trans t2, t3, hfin σ3 ⟨n', t4⟩⟩
  · refine ⟨σ, ?_, frR.refl, h31, hF, hB⟩
    unfold m_X12_find
    rw [if_neg (by rw [h31]; decide)]
theorem r_solv_loop (hW : WF S) (hD : D < 64) (hO : ∀ p, p < 6 → OSpM S D w P p (O p)) : ∀ (f : Nat) (σ : Mem) (Pr R : List (List Nat)) (l : List Nat) (μ : Nat), subL O 6 [] = Pr ++ l :: R → MT S D O R μ σ → μ ≤ 23436 → μ + 2 ≤ f → (∀ p, p < 6 → σ 106 p = oi (chL l p)) → ∃ σ' b, m_X12_isSolvable_20 f 1 σ = some (b2i b, σ') ∧ fr [106, 107, 108, 111] σ σ' ∧ (b = true → ∃ x, x ∈ subL O 6 [] ∧ SolF S D (chL x)) ∧ (b = false → ∀ x, x ∈ l :: R → ¬ SolF S D (chL x)) := by
  intro f
  induction f with
  | zero => intro σ Pr R l μ _ _ _ h; omega
  | succ f ih =>
    intro σ Pr R l μ hR hM hμ hf hc
    have hlm : l ∈ subL O 6 [] := by rw [hR]; simp
    have hcd := in_cand hO hlm
    have h25 : σ 94 25 = nI D := by
      obtain ⟨a, c, t, h1, -⟩ := hM
      exact h1.2.1
    obtain ⟨σ1, sl, q1, q2, q3, q4⟩ := r_isSolution hW hD hM.RM h25 hc hcd
    have hf1 : fr [106, 107, 108, 111] σ σ1 := q2.mono (by simp)
    cases hsl : sl with
    | true =>
      refine ⟨σ1, true, ?_, hf1, fun _ => ⟨l, hlm, q3.mp hsl⟩, fun h => (by cases h)⟩
      rw [m_X12_isSolvable_20]
      rw [if_neg (by decide), q1, obind_some, hsl, if_neg (show ¬ b2i true = 0 by decide)]
      rfl
    | false =>
      have hno : ¬ SolF S D (chL l) := fun hs => by
        have := q3.mpr hs
        rw [hsl] at this
        cases this
      obtain ⟨σ3, b, r1, r2, r3, r4⟩ := r_goOn0 hW hO (hM.frm q2 (by decide)) hμ
      have he : m_X12_isSolvable_20 (f + 1) 1 σ = m_X12_isSolvable_20 f (b2i b) σ3 := by
        rw [m_X12_isSolvable_20]
        rw [if_neg (by decide), q1, obind_some, hsl, if_pos (show b2i false = 0 from rfl), r1, obind_some]
      have hf3 : fr [106, 107, 108, 111] σ σ3 := hf1.trans (r2.mono (by simp))
      cases hb : b with
      | false =>
        obtain ⟨g, rfl⟩ : ∃ g, f = g + 1 := ⟨f - 1, by omega⟩
        refine ⟨σ3, false, ?_, hf3, fun h => (by cases h), fun _ x hx => ?_⟩
        · rw [he, hb, m_X12_isSolvable_20]
          rw [if_pos (show b2i false = 0 from rfl)]
          rfl
        · rw [List.mem_cons] at hx
          rcases hx with hx | hx
          · rw [hx]
            exact hno
          · exact r3 hb x hx
      | true =>
        obtain ⟨pre, l', R', μ', s1, s2, s3, s4, s5⟩ := r4 hb
        obtain ⟨σ4, b4, t1, t2, t3, t4⟩ := ih σ3 (Pr ++ [l] ++ pre) R' l' μ' (by rw [hR, s1]; simp) s3 (by omega) (by omega) s4
        refine ⟨σ4, b4, by rw [he, hb]; exact t1, hf3.trans t2, t3, fun h x hx => ?_⟩
        rw [s1, List.mem_cons, List.mem_append] at hx
        rcases hx with hx | hx | hx
        · rw [hx]
          exact hno
        · exact s2 x hx
        · exact t4 h x hx
theorem r_isSolvable (hW : WF S) (hR : RM S σ) (hD : D < 64) (hw : w ≤ s_nv S) : ∃ σ' b, m_X12_isSolvable (nI D) (oi w) σ = some (b2i b, σ') ∧ frR σ σ' ∧ (∀ j, j ∈ [29, 30, 31] → σ' 94 j = σ 94 j) ∧ σ' 112 = σ 112 ∧ σ' 113 = σ 113 ∧ (b = true ↔ ∃ c, SolF S D c ∧ (w ≠ 0 → c (s_own S (w - 1)) = w)) := by
  obtain ⟨σ0, hσ0⟩ : ∃ σ0, σ0 = up (up σ 94 25 (nI D)) 94 26 (oi w) := ⟨_, rfl⟩
  have f0 : frR σ σ0 := by
    rw [hσ0]
    exact (frR.num (by decide)).trans (frR.num (by decide))
  have hR0 := hR.frR f0
  have h25 : σ0 94 25 = nI D := by
    rw [hσ0, up_off _ _ (Or.inr (by decide)), up_same]
  have h26 : σ0 94 26 = oi w := by
    rw [hσ0, up_same]
  have hk : ∀ j, j ∈ [29, 30, 31] → σ0 94 j = σ 94 j := fun j hj => by
    simp at hj
    rw [hσ0, up_off _ _ (Or.inr (by omega)), up_off _ _ (Or.inr (by omega))]
  have hk2 : ∀ k, k ≠ 94 → σ0 k = σ k := fun k hk => by rw [hσ0, up_pl _ _ hk, up_pl _ _ hk]
  obtain ⟨σ1, P, O, a1, a2, a3, a4⟩ := r_begin hW hR0 hD h25 h26 hw
  have hO : ∀ p, p < 6 → OSpM S D w P p (O p) := fun p hp => (a4 p hp).2
  obtain ⟨σ2, b, b1, b2, b3, b4⟩ := r_goOn1 hW (hR0.fr a2 (by decide) (by decide)) (by rw [a2 94 (by decide)]; exact h25) a4
  have un : m_X12_isSolvable (nI D) (oi w) σ = m_X12_isSolvable_20 FU (b2i b) σ2 := by
    unfold m_X12_isSolvable
    rw [obind_s, obind_s, ← hσ0, a1, obind_s, b1, obind_s]
  have f2 : fr [106, 107, 108, 109, 110, 111] σ0 σ2 := (a2.mono (by simp)).trans (b2.mono (by simp))
  have wrap : ∀ (σ' : Mem), fr [106, 107, 108, 109, 110, 111] σ0 σ' → frR σ σ' ∧ (∀ j, j ∈ [29, 30, 31] → σ' 94 j = σ 94 j) ∧ σ' 112 = σ 112 ∧ σ' 113 = σ 113 := fun σ' h => ⟨f0.trans (frR.of h (by decide)), fun j hj => by rw [h 94 (by decide)]; exact hk j hj, by rw [h 112 (by decide), hk2 112 (by decide)], by rw [h 113 (by decide), hk2 113 (by decide)]⟩
  have yes : ∀ x, x ∈ subL O 6 [] → SolF S D (chL x) → ∃ c, SolF S D c ∧ (w ≠ 0 → c (s_own S (w - 1)) = w) := fun x hx hs => ⟨chL x, hs, fun h0 => in_wantM hO hx h0 (hW.own (by omega))⟩
  have no : (∀ x, x ∈ subL O 6 [] → ¬ SolF S D (chL x)) → ¬ ∃ c, SolF S D c ∧ (w ≠ 0 → c (s_own S (w - 1)) = w) := by
    rintro h ⟨c, hs, hcw⟩
    exact h _ (sol_inM a3 hO hs hcw) (hs.congr hW fun p hp => (chL_pre hp).symm)
  cases hb : b with
  | false =>
    obtain ⟨g, hg⟩ : ∃ g, FU = g + 1 := ⟨3999999, rfl⟩
    obtain ⟨w1, w2, w3, w4⟩ := wrap σ2 f2
    refine ⟨σ2, false, ?_, w1, w2, w3, w4, ⟨fun h => (by cases h), fun h => absurd h (no (b3 hb))⟩⟩
    rw [un, hb, hg, m_X12_isSolvable_20]
    rw [if_pos (show b2i false = 0 from rfl)]
    rfl
  | true =>
    obtain ⟨pre, l, R', μ', s1, s2, s3, s4, s5⟩ := b4 hb
    obtain ⟨σ3, b5, t1, t2, t3, t4⟩ := r_solv_loop hW hD hO FU σ2 pre R' l μ' s1 s3 (by omega) (by rw [FU_eq]; omega) s4
    obtain ⟨w1, w2, w3, w4⟩ := wrap σ3 (f2.trans (t2.mono (by simp)))
    refine ⟨σ3, b5, by rw [un, hb]; exact t1, w1, w2, w3, w4, ⟨fun h => ?_, fun h => ?_⟩⟩
    · obtain ⟨x, hx, hs⟩ := t3 h
      exact yes x hx hs
    · cases hb5 : b5 with
      | true => rfl
      | false =>
        refine absurd h (no fun x hx => ?_)
        rw [s1, List.mem_append] at hx
        rcases hx with hx | hx
        · exact s2 x hx
        · exact t4 hb5 x hx
end FIND2
