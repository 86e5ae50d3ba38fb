/-! ===== the reference: all candidates ===== -/
section RBEG2
variable {S : SP} {σ : Mem} {D w P p : Nat}
theorem okM_len (hW : WF S) (hp : p < 6) {L : List Nat} (hd : L.Nodup) (h : ∀ x, x ∈ L → x ≠ 0 ∧ Cand S p x) : L.length ≤ 4 := by
  have := nd_lenN (l' := (s_vs S p).map (· + 1)) hd (fun x hx => by
    obtain ⟨h0, h1⟩ := h x hx
    rcases h1 with h1 | ⟨h1, h2, -⟩
    · exact absurd h1 h0
    · exact List.mem_map.mpr ⟨x - 1, s_vs_mem.mpr ⟨h1, h2⟩, by omega⟩)
  rw [List.length_map] at this
  exact Nat.le_trans this (hW.siz hp)
theorem r_188 (hW : WF S) (hR : RM S σ) (hD : D < 64) (h25 : σ 94 25 = nI D) (hp : p < 6) {f7 : Int32 → Int32 → Mem → Option (Int32 × Mem)} {g : Bool} {L : List Nat} (hL : RoL σ 109 (5 * p) L) (h4 : L.length ≤ 4) (hd : dsc (s_wR S) L) (h0 : ∀ x, x ∈ L → x ≠ 0) : ∃ σ' L', m_X12_begin_188 f7 (nI P) (nI p) (nI L.length) (b2i g) σ = f7 (nI P) (nI (p + 1)) σ' ∧ FM p σ σ' ∧ OffM σ' p L' ∧ L'.length ≤ 5 ∧ dsc (s_wR S) L' ∧ ∀ x, x ∈ L' ↔ x ∈ L ∨ (x = 0 ∧ g = false ∧ s_dmd S D p 0 = true) := by
  have e1 := r_isDemanded (x := 0) hW hR hD h25 hp (Nat.zero_le _)
  rw [oi_0] at e1
  have stay : m_X12_begin_188 f7 (nI P) (nI p) (nI L.length) (b2i g) σ = m_X12_begin_216 f7 (nI P) (nI p) (nI L.length) σ → (g = false → s_dmd S D p 0 = true → False) → ∃ σ' L', m_X12_begin_188 f7 (nI P) (nI p) (nI L.length) (b2i g) σ = f7 (nI P) (nI (p + 1)) σ' ∧ FM p σ σ' ∧ OffM σ' p L' ∧ L'.length ≤ 5 ∧ dsc (s_wR S) L' ∧ ∀ x, x ∈ L' ↔ x ∈ L ∨ (x = 0 ∧ g = false ∧ s_dmd S D p 0 = true) := by
    intro he hn
    refine ⟨up σ 110 p (nI L.length), L, ?_, FM.cnt, ⟨hL.congr fun i _ => by rw [up_pl _ _ (by decide)], up_same _ _ _ _⟩, by omega, hd, fun x => ⟨fun h => Or.inl h, fun h => ?_⟩⟩
    · rw [he]
      unfold m_X12_begin_216
      rw [ast_nI hp (by decide), obind_some, nI_1]
    · rcases h with h | ⟨-, h1, h2⟩
      · exact h
      · exact (hn h1 h2).elim
  cases hg : g with
  | true =>
    rw [hg] at stay
    refine stay ?_ (fun h => by cases h)
    unfold m_X12_begin_188
    rw [if_neg (show ¬ b2i true = 0 by decide)]
  | false =>
    rw [hg] at stay
    cases hdm : s_dmd S D p 0 with
    | false =>
      rw [hdm] at e1 stay
      refine stay ?_ (fun _ h => by cases h)
      unfold m_X12_begin_188
      rw [if_pos (show b2i false = 0 from rfl), e1, obind_some, if_pos (show b2i false = 0 from rfl)]
    | true =>
      rw [hdm] at e1
      refine ⟨up (up σ 109 (5 * p + L.length) (-1)) 110 p (nI (L.length + 1)), L ++ [0], ?_, (FM.off (by omega) (by omega)).trans FM.cnt, ⟨?_, ?_⟩, ?_, ?_, fun x => ?_⟩
      · unfold m_X12_begin_188 m_X12_begin_216
        rw [if_pos (show b2i false = 0 from rfl), e1, obind_some, if_neg (show ¬ b2i true = 0 by decide), mul_nI (y := 5) 5 rfl, nI_add, ast_nI (by omega) (by decide), obind_some, nI_1, nI_1, ast_nI hp (by decide), obind_some]
      · refine RoL.app (hL.congr fun i hi => by rw [up_pl _ _ (by decide), up_off _ _ (Or.inr (by omega))]) (RoL.cons ?_ fun i hi => by cases hi)
        rw [up_pl _ _ (by decide), up_same]
        rfl
      · rw [up_same, List.length_append]
        rfl
      · rw [List.length_append]
        simp only [List.length_cons, List.length_nil]
        omega
      · unfold dsc
        rw [List.pairwise_append]
        refine ⟨hd, List.pairwise_singleton _ _, fun a ha b hb => ?_⟩
        rw [List.mem_singleton] at hb
        have := h0 a ha
        unfold s_wR
        rw [if_pos hb, if_neg this]
        omega
      · rw [List.mem_append, List.mem_singleton]
        simp
theorem r_cands (hW : WF S) (hD : D < 64) (hw : w ≤ s_nv S) (hP : P < 2 ^ 6) (hp : p < 6) {f7 : Int32 → Int32 → Mem → Option (Int32 × Mem)} : ∀ i, i ≤ s_nv S → ∀ (σ : Mem) (L : List Nat), RM S σ → σ 94 25 = nI D → σ 94 26 = oi w → RoL σ 109 (5 * p) L → dsc (s_wR S) L → (∀ x, x ∈ L ↔ x ≠ 0 ∧ x ≤ i ∧ okM S D w P p x) → ∃ σ' L', m_X12_begin_45 f7 FU (nI P) (nI p) (nI L.length) (b2i (isW S w p)) (nI i) σ = f7 (nI P) (nI (p + 1)) σ' ∧ FM p σ σ' ∧ OffM σ' p L' ∧ OSpM S D w P p L' := by
  have h24 := hW.nv
  have fin : ∀ (σ : Mem) (L : List Nat) (σ' : Mem) (L' : List Nat), (∀ x, x ∈ L ↔ x ≠ 0 ∧ okM S D w P p x) → L'.length ≤ 5 → dsc (s_wR S) L' → (∀ x, x ∈ L' ↔ x ∈ L ∨ (x = 0 ∧ isW S w p = false ∧ s_dmd S D p 0 = true)) → OSpM S D w P p L' := by
    intro σ L σ' L' h1 h2 h3 h4
    refine ⟨h2, h3, fun x => ?_⟩
    rw [h4 x, h1 x]
    constructor
    · rintro (⟨-, h⟩ | ⟨h5, h6, h7⟩)
      · exact h
      · subst h5
        exact ⟨Or.inl rfl, h7, fun h => (by rw [h6] at h; cases h), fun h => absurd rfl h⟩
    · intro h
      by_cases h0 : x = 0
      · refine Or.inr ⟨h0, ?_, by rw [← h0]; exact h.2.1⟩
        cases hwp : isW S w p with
        | false => rfl
        | true =>
          have := h.2.2.1 hwp
          unfold isW at hwp
          rw [← this, h0] at hwp
          simp at hwp
      · exact Or.inl ⟨h0, h⟩
  refine up_fu (n := s_nv S) (P := fun i f => ∀ (σ : Mem) (L : List Nat), RM S σ → σ 94 25 = nI D → σ 94 26 = oi w → RoL σ 109 (5 * p) L → dsc (s_wR S) L → (∀ x, x ∈ L ↔ x ≠ 0 ∧ x ≤ i ∧ okM S D w P p x) → ∃ σ' L', m_X12_begin_45 f7 f (nI P) (nI p) (nI L.length) (b2i (isW S w p)) (nI i) σ = f7 (nI P) (nI (p + 1)) σ' ∧ FM p σ σ' ∧ OffM σ' p L' ∧ OSpM S D w P p L') (by omega) (fun f σ L hR h25 h26 hL hd hm => ?_) (fun i f hi ih σ L hR h25 h26 hL hd hm => ?_)
  · have h4 := okM_len hW hp (dsc_nd hd) (fun x hx => ⟨((hm x).mp hx).1, ((hm x).mp hx).2.2.1⟩)
    obtain ⟨σ', L', q1, q2, q3, q4, q5, q6⟩ := r_188 (P := P) (f7 := f7) (g := isW S w p) hW hR hD h25 hp hL h4 hd (fun x hx => ((hm x).mp hx).1)
    refine ⟨σ', L', ?_, q2, q3, fin σ L σ' L' (fun x => ?_) q4 q5 q6⟩
    · rw [m_X12_begin_45]
      rw [hR.nv, if_pos (nI_le (Nat.le_refl _) (by omega)), q1]
    · rw [hm x]
      constructor
      · rintro ⟨a, b, c⟩
        exact ⟨a, c⟩
      · rintro ⟨a, c⟩
        refine ⟨a, ?_, c⟩
        rcases c.1 with h | h
        · omega
        · omega
  · have h4 := okM_len hW hp (dsc_nd hd) (fun x hx => ⟨((hm x).mp hx).1, ((hm x).mp hx).2.2.1⟩)
    have hlt : ¬ σ 94 1 ≤ nI i := by
      rw [hR.nv]
      exact nI_ge hi (by omega)
    have ho := hW.own hi
    have hfl := s_flaw_lt (S := S) i
    by_cases hb : P.testBit p = true
    · have hbit := (bit_iff (show P < 2 ^ 31 by omega) (show p < 31 by omega)).mpr hb
      have skip : ¬ okM S D w P p (i + 1) → m_X12_begin_45 f7 (f + 1) (nI P) (nI p) (nI L.length) (b2i (isW S w p)) (nI i) σ = m_X12_begin_45 f7 f (nI P) (nI p) (nI L.length) (b2i (isW S w p)) (nI (i + 1)) σ → ∃ σ' L', m_X12_begin_45 f7 (f + 1) (nI P) (nI p) (nI L.length) (b2i (isW S w p)) (nI i) σ = f7 (nI P) (nI (p + 1)) σ' ∧ FM p σ σ' ∧ OffM σ' p L' ∧ OSpM S D w P p L' := by
        intro hno he
        obtain ⟨σ', L', q1, q2, q3, q4⟩ := ih σ L hR h25 h26 hL hd (fun x => by
          rw [hm x]
          constructor
          · rintro ⟨a, b, c⟩
            exact ⟨a, by omega, c⟩
          · rintro ⟨a, b, c⟩
            refine ⟨a, ?_, c⟩
            by_cases e : x = i + 1
            · subst e
              exact absurd c hno
            · omega)
        exact ⟨σ', L', by rw [he, q1], q2, q3, q4⟩
      have un : m_X12_begin_45 f7 (f + 1) (nI P) (nI p) (nI L.length) (b2i (isW S w p)) (nI i) σ = if s_own S i = p then (if s_flaw S i = 0 then (if isW S w p = false then m_X12_begin_96 f7 (m_X12_begin_45 f7 f) (nI P) (nI p) (nI L.length) (b2i (isW S w p)) (nI i) σ else if w = i + 1 then m_X12_begin_96 f7 (m_X12_begin_45 f7 f) (nI P) (nI p) (nI L.length) (b2i (isW S w p)) (nI i) σ else m_X12_begin_45 f7 f (nI P) (nI p) (nI L.length) (b2i (isW S w p)) (nI (i + 1)) σ) else m_X12_begin_45 f7 f (nI P) (nI p) (nI L.length) (b2i (isW S w p)) (nI (i + 1)) σ) else m_X12_begin_45 f7 f (nI P) (nI p) (nI L.length) (b2i (isW S w p)) (nI (i + 1)) σ := by
        rw [m_X12_begin_45]
        rw [if_neg hlt, if_pos hbit]
        simp only [r_packageOf hW.1 hR.1 hi, r_hinders hW hR hi, h26, obind_some, nI_1, b2i_0, nI_eq (show s_own S i < 2 ^ 31 by omega) (show p < 2 ^ 31 by omega), nI_z (show s_flaw S i < 2 ^ 31 by omega), oi_nI (show i < 2 ^ 30 by omega) (show w < 2 ^ 31 by omega)]
      by_cases g1 : s_own S i = p
      · by_cases g2 : s_flaw S i = 0
        · by_cases g3 : isW S w p = true ∧ w ≠ i + 1
          · refine skip (fun h => g3.2 (h.2.2.1 g3.1).symm) ?_
            rw [un, if_pos g1, if_pos g2, g3.1, if_neg (by decide), if_neg g3.2]
          · have e96 : m_X12_begin_45 f7 (f + 1) (nI P) (nI p) (nI L.length) (b2i (isW S w p)) (nI i) σ = m_X12_begin_96 f7 (m_X12_begin_45 f7 f) (nI P) (nI p) (nI L.length) (b2i (isW S w p)) (nI i) σ := by
              rw [un, if_pos g1, if_pos g2]
              cases hwp : isW S w p with
              | false => rw [if_pos rfl]
              | true => rw [if_neg (by decide), if_pos (Classical.byContradiction fun h => g3 ⟨hwp, h⟩)]
            unfold m_X12_begin_96 at e96
            have e1 := r_isDemanded (x := i + 1) hW hR hD h25 hp (by omega)
            rw [oi_s] at e1
            rw [e1, obind_some] at e96
            cases g4 : s_dmd S D p (i + 1) with
            | false =>
              rw [g4, if_pos (show b2i false = 0 from rfl), nI_1] at e96
              exact skip (fun h => by have := h.2.1; rw [g4] at this; cases this) e96
            | true =>
              rw [g4, if_neg (show ¬ b2i true = 0 by decide)] at e96
              have hok : okM S D w P p (i + 1) := ⟨Or.inr ⟨hi, g1, g2⟩, g4, fun h => Classical.byContradiction fun h2 => g3 ⟨h, fun h3 => h2 h3.symm⟩, fun _ => hb⟩
              obtain ⟨σ', q1, q2, q3⟩ := r_ins (P := P) (f7 := f7) (f45 := m_X12_begin_45 f7 f) (n := L.length) (v4 := b2i (isW S w p)) hW hp hi L.reverse [] FU σ (by rw [FU_eq, List.length_reverse]; omega) hR (by rw [List.reverse_reverse]; exact hL) (fun i hi => by cases hi) (by simp) h4 (fun y hy => by
                have := (hm y).mp (by simpa using hy)
                exact ⟨this.1, by omega⟩)
              rw [List.length_reverse] at q1
              have hlen : (insR (s_wR S) (i + 1) L.reverse []).length = L.length + 1 := by
                rw [insR_len]
                simp
              obtain ⟨σ2, L2, r1, r2, r3, r4⟩ := ih σ' (insR (s_wR S) (i + 1) L.reverse []) (hR.fr q3.1 (by decide) (by decide)) (by rw [q3.1 94 (by decide)]; exact h25) (by rw [q3.1 94 (by decide)]; exact h26) q2 (by
                refine insR_dsc _ _ (by simpa using hd) (fun y hy => by cases hy) (fun y hy h => ?_)
                have hy2 := (hm y).mp (by simpa using hy)
                have := wR_inj hW hy2.2.2.1 hok.1 h
                omega) (fun x => by
                rw [insR_mem, List.mem_reverse, hm x]
                constructor
                · rintro (⟨a, b, c⟩ | h | h)
                  · exact ⟨a, by omega, c⟩
                  · rw [h]
                    exact ⟨by omega, Nat.le_refl _, hok⟩
                  · cases h
                · rintro ⟨a, b, c⟩
                  by_cases e : x = i + 1
                  · exact Or.inr (Or.inl e)
                  · exact Or.inl ⟨a, by omega, c⟩)
              rw [hlen] at r1
              exact ⟨σ2, L2, by rw [e96, q1, r1], q3.trans r2, r3, r4⟩
        · refine skip (fun h => ?_) (by rw [un, if_pos g1, if_neg g2])
          rcases h.1 with h1 | h1
          · omega
          · exact g2 h1.2.2
      · refine skip (fun h => ?_) (by rw [un, if_neg g1])
        rcases h.1 with h1 | h1
        · omega
        · exact g1 h1.2.1
    · have hLe : L = [] := by
        cases L with
        | nil => rfl
        | cons x L =>
          have := (hm x).mp (by simp)
          exact absurd (this.2.2.2.2.2 this.1) hb
      obtain ⟨σ', L', q1, q2, q3, q4, q5, q6⟩ := r_188 (P := P) (f7 := f7) (g := isW S w p) hW hR hD h25 hp hL h4 hd (fun x hx => ((hm x).mp hx).1)
      refine ⟨σ', L', ?_, q2, q3, fin σ L σ' L' (fun x => ?_) q4 q5 q6⟩
      · rw [m_X12_begin_45]
        rw [if_neg hlt, if_neg (fun e => hb ((bit_iff (show P < 2 ^ 31 by omega) (show p < 31 by omega)).mp e)), q1]
      · rw [hLe]
        constructor
        · intro h
          cases h
        · rintro ⟨h1, h2⟩
          exact absurd (h2.2.2.2 h1) hb
def reS : List Nat := [109, 110]
theorem r_begin (hW : WF S) (hR : RM S σ) (hD : D < 64) (h25 : σ 94 25 = nI D) (h26 : σ 94 26 = oi w) (hw : w ≤ s_nv S) : ∃ (σ' : Mem) (P : Nat) (O : Nat → List Nat), m_X12_begin σ = some (0, σ') ∧ fr [109, 110] σ σ' ∧ (∀ c : Nat → Nat, (∀ p, p < 6 → Cand S p (c p)) → ∀ p, Pul S D c p → P.testBit p = true) ∧ ∀ p, p < 6 → OffM σ' p (O p) ∧ OSpM S D w P p (O p) := by
  have h24 := hW.nv
  obtain ⟨P, p1, p2, p3⟩ := r_reached hW hR hD h25
  have key := up_fu (n := 6) (P := fun i f => ∀ (σ1 : Mem) (O : Nat → List Nat), fr [109, 110] σ σ1 → (∀ q, q < i → OffM σ1 q (O q) ∧ OSpM S D w P q (O q)) → ∃ (σ' : Mem) (O' : Nat → List Nat), m_X12_begin_7 f (nI P) (nI i) σ1 = some (0, σ') ∧ fr [109, 110] σ σ' ∧ ∀ q, q < 6 → OffM σ' q (O' q) ∧ OSpM S D w P q (O' q)) (by decide) (fun f σ1 O hf h => by
      refine ⟨σ1, O, ?_, hf, h⟩
      rw [m_X12_begin_7]
      rw [if_pos (show (6 : Int32) ≤ nI 6 by decide)]) (fun i f hi ih σ1 O hf h => by
      have hR1 := hR.fr hf (by decide) (by decide)
      have g25 : σ1 94 25 = nI D := by rw [hf 94 (by decide)]; exact h25
      have g26 : σ1 94 26 = oi w := by rw [hf 94 (by decide)]; exact h26
      obtain ⟨σ2, L, q1, q2, q3, q4⟩ := r_cands (f7 := m_X12_begin_7 f) hW hD hw p2 hi 0 (Nat.zero_le _) σ1 [] hR1 g25 g26 (fun i hi => by cases hi) List.Pairwise.nil (fun x => ⟨fun h => (by cases h), fun h => (by obtain ⟨a, b, -⟩ := h; omega)⟩)
      obtain ⟨σ3, O3, r1, r2, r3⟩ := ih σ2 (fun q => if q = i then L else O q) (hf.trans q2.1) (fun q hq => by
        by_cases e : q = i
        · subst e
          simp only [if_true]
          exact ⟨q3, q4⟩
        · simp only [if_neg e]
          obtain ⟨⟨g1, g2⟩, g3⟩ := h q (by omega)
          refine ⟨⟨g1.congr fun j hj => q2.2.1 _ ?_, (q2.2.2 q e).trans g2⟩, g3⟩
          have := g3.1
          omega)
      refine ⟨σ3, O3, ?_, r2, r3⟩
      have q1 : m_X12_begin_45 (m_X12_begin_7 f) FU (nI P) (nI i) 0 (b2i (isW S w i)) 0 σ1 = m_X12_begin_7 f (nI P) (nI (i + 1)) σ2 := q1
      rw [m_X12_begin_7]
      rw [if_neg (show ¬ (6 : Int32) ≤ nI i from nI_ge (b := 6) hi (by decide)), g26]
      by_cases h0 : w = 0
      · subst h0
        rw [if_pos (show oi 0 = -1 from rfl)]
        exact q1.trans r1
      · obtain ⟨u, rfl⟩ : ∃ u, w = u + 1 := ⟨w - 1, by omega⟩
        have ho := hW.own (show u < s_nv S by omega)
        rw [oi_s, if_neg (nI_nm1 (by omega)), r_packageOf hW.1 hR1.1 (by omega), obind_some]
        by_cases h1 : s_own S u = i
        · rw [if_pos (show nI (s_own S u) = nI i by rw [h1])]
          have : isW S (u + 1) i = true := by unfold isW; simp [h1]
          rw [this] at q1
          exact q1.trans r1
        · rw [if_neg (fun h => h1 ((nI_eq (by omega) (by omega)).mp h))]
          have : isW S (u + 1) i = false := by unfold isW; simp [h1]
          rw [this] at q1
          exact q1.trans r1) 0 (Nat.zero_le _) σ (fun _ => []) fr.refl (fun q hq => by omega)
  obtain ⟨σ3, O, r1, r2, r3⟩ := key
  refine ⟨σ3, P, O, ?_, r2, p3, r3⟩
  unfold m_X12_begin
  rw [p1, obind_s]
  exact r1
end RBEG2
