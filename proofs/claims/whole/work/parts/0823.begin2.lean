/-! ===== the class: all offers ===== -/
def isW (S : SP) (w p : Nat) : Bool := w != 0 && s_own S (w - 1) == p
def okV (S : SP) (D w U p x : Nat) : Prop := x ≠ 0 ∧ U.testBit (x - 1) = true ∧ (isW S w p = true → x = w) ∧ s_dmd S D p x = true
def OkO (S : SP) (D w p x : Nat) : Prop := Cand S p x ∧ s_dmd S D p x = true ∧ (isW S w p = true → x = w) ∧ (x ≠ 0 → (s_rch S D).testBit p = true)
def OffR (S : SP) (σ : Mem) (p : Nat) (L : List Nat) : Prop := RoL σ 71 (5 * p) L ∧ σ 73 p = nI L.length
def OSp (S : SP) (D w p : Nat) (L : List Nat) : Prop := L.length ≤ 5 ∧ dsc (s_worth S p) L ∧ ∀ x, x ∈ L ↔ OkO S D w p x
section OFA
variable {S : SP} {σ : Mem} {p w D U : Nat}
theorem m_isInO {n x : Nat} {σ : Mem} (hn : n < 2 ^ 31) (hx : x < 32) : m_X11_isIn (nI n) (oi x) σ = some (b2i (x != 0 && n.testBit (x - 1)), σ) := by
  by_cases h0 : x = 0
  · subst h0
    rw [oi_0, x_isInM]
    rfl
  · obtain ⟨k, rfl⟩ : ∃ k, x = k + 1 := ⟨x - 1, by omega⟩
    rw [oi_s, x_isIn hn (by omega)]
    simp
theorem c_offers_loop (hW : WF S) (hp : p < 6) (hD : D < 64) (hw : w ≤ s_nv S) (hU : U = s_use S ∨ U = 0) : ∀ i, i ≤ 4 → ∀ (σ : Mem) (L : List Nat), RC S σ → σ 67 7 = nI D → RoL σ 71 (5 * p) L → σ 73 p = nI L.length → L.length ≤ i → dsc (s_worth S p) L → (∀ x, x ∈ L ↔ okV S D w U p x ∧ ∃ j, j < i ∧ s_mem S p j = x) → ∃ σ' L', m_X8_offerAll_37 FU (nI p) (nI U) (oi w) (b2i (isW S w p)) (nI i) σ = some (0, σ') ∧ FO p σ σ' ∧ RoL σ' 71 (5 * p) L' ∧ σ' 73 p = nI L'.length ∧ L'.length ≤ 5 ∧ dsc (s_worth S p) L' ∧ ∀ x, x ∈ L' ↔ (okV S D w U p x ∧ ∃ j, j < 4 ∧ s_mem S p j = x) ∨ (x = 0 ∧ isW S w p = false ∧ s_dmd S D p 0 = true) := by
  have h24 := hW.nv
  have hUl : U < 2 ^ 31 := by
    rcases hU with h | h
    · rw [h]
      exact s_use_lt hW
    · omega
  have hcand : ∀ x j, okV S D w U p x → s_mem S p j = x → Cand S p x := by
    intro x j h1 h2
    obtain ⟨v, rfl⟩ : ∃ v, x = v + 1 := ⟨x - 1, by have := h1.1; omega⟩
    obtain ⟨g1, g2⟩ := s_mem_own h2
    refine Or.inr ⟨g1, g2, ?_⟩
    have := h1.2.1
    rcases hU with h | h
    · rw [h, s_use_bit, Bool.and_eq_true] at this
      simpa using this.2
    · rw [h] at this
      simp at this
  refine up_fu (n := 4) (P := fun i f => ∀ (σ : Mem) (L : List Nat), RC S σ → σ 67 7 = nI D → RoL σ 71 (5 * p) L → σ 73 p = nI L.length → L.length ≤ i → dsc (s_worth S p) L → (∀ x, x ∈ L ↔ okV S D w U p x ∧ ∃ j, j < i ∧ s_mem S p j = x) → ∃ σ' L', m_X8_offerAll_37 f (nI p) (nI U) (oi w) (b2i (isW S w p)) (nI i) σ = some (0, σ') ∧ FO p σ σ' ∧ RoL σ' 71 (5 * p) L' ∧ σ' 73 p = nI L'.length ∧ L'.length ≤ 5 ∧ dsc (s_worth S p) L' ∧ ∀ x, x ∈ L' ↔ (okV S D w U p x ∧ ∃ j, j < 4 ∧ s_mem S p j = x) ∨ (x = 0 ∧ isW S w p = false ∧ s_dmd S D p 0 = true)) (by decide) (fun f σ L hR h67 hL hn hlen hd hm => ?_) (fun i f hi ih σ L hR h67 hL hn hlen hd hm => ?_)
  · have hds := s_dset_lt hW D
    rw [m_X8_offerAll_37]
    rw [if_pos (show (4 : Int32) ≤ nI 4 by decide), h67, c_demanded hW hR hD]
    simp only [obind_some, x_isIn (show s_dset S D < 2 ^ 31 by omega) (show p < 31 by omega), b2i_0]
    cases hwp : isW S w p with
    | true =>
      rw [if_neg (by decide)]
      refine ⟨σ, L, rfl, FO.refl, hL, hn, by omega, hd, fun x => ?_⟩
      rw [hm x]
      simp
    | false =>
      rw [if_pos rfl]
      cases hdm : (s_dset S D).testBit p with
      | true =>
        rw [if_neg (by decide)]
        refine ⟨σ, L, rfl, FO.refl, hL, hn, by omega, hd, fun x => ?_⟩
        rw [hm x, s_dmd0, hdm]
        simp
      | false =>
        rw [if_pos rfl]
        obtain ⟨σ', q1, q2, q3, q4⟩ := c_offer (x := 0) hW hR hp (Nat.zero_le _) hL hn hlen (fun y hy => by
          obtain ⟨h1, j, -, h2⟩ := (hm y).mp hy
          rcases hcand y j h1 h2 with h3 | h3
          · omega
          · omega)
        rw [oi_0] at q1
        refine ⟨σ', insR (s_worth S p) 0 L.reverse [], by rw [q1]; rfl, q4, q2, ?_, ?_, ?_, fun x => ?_⟩
        · rw [q3, insR_len]
          simp
        · rw [insR_len]
          simp
          omega
        · refine insR_dsc _ _ (by simpa using hd) (fun y hy => by cases hy) (fun y hy h => ?_)
          obtain ⟨h1, j, -, h2⟩ := (hm y).mp (by simpa using hy)
          exact h1.1 (worth_inj hW (hcand y j h1 h2) (Or.inl rfl) h)
        · rw [insR_mem, List.mem_reverse, hm x, s_dmd0, hdm]
          simp
  · have hlt := s_mem_lt (S := S) p i
    obtain ⟨x, hx⟩ : ∃ x, s_mem S p i = x := ⟨_, rfl⟩
    have e1 := c_member hW hR hp (show i < 4 by omega)
    rw [hx] at e1 hlt
    have step : ∀ (σ' : Mem) (L' : List Nat), FO p σ σ' → RC S σ' → RoL σ' 71 (5 * p) L' → σ' 73 p = nI L'.length → L'.length ≤ i + 1 → dsc (s_worth S p) L' → (∀ y, y ∈ L' ↔ okV S D w U p y ∧ ∃ j, j < i + 1 ∧ s_mem S p j = y) → m_X8_offerAll_37 (f + 1) (nI p) (nI U) (oi w) (b2i (isW S w p)) (nI i) σ = m_X8_offerAll_37 f (nI p) (nI U) (oi w) (b2i (isW S w p)) (nI (i + 1)) σ' → ∃ σ' L', m_X8_offerAll_37 (f + 1) (nI p) (nI U) (oi w) (b2i (isW S w p)) (nI i) σ = some (0, σ') ∧ FO p σ σ' ∧ RoL σ' 71 (5 * p) L' ∧ σ' 73 p = nI L'.length ∧ L'.length ≤ 5 ∧ dsc (s_worth S p) L' ∧ ∀ x, x ∈ L' ↔ (okV S D w U p x ∧ ∃ j, j < 4 ∧ s_mem S p j = x) ∨ (x = 0 ∧ isW S w p = false ∧ s_dmd S D p 0 = true) := by
      intro σ' L' h1 h2 h3 h4 h5 h6 h7 h8
      obtain ⟨σ2, L2, q1, q2, q3, q4, q5, q6, q7⟩ := ih σ' L' h2 (by rw [h1.1 67 (by decide)]; exact h67) h3 h4 h5 h6 h7
      exact ⟨σ2, L2, by rw [h8, q1], h1.trans q2, q3, q4, q5, q6, q7⟩
    have skip : ¬ okV S D w U p x → m_X8_offerAll_37 (f + 1) (nI p) (nI U) (oi w) (b2i (isW S w p)) (nI i) σ = m_X8_offerAll_37 f (nI p) (nI U) (oi w) (b2i (isW S w p)) (nI (i + 1)) σ → ∃ σ' L', m_X8_offerAll_37 (f + 1) (nI p) (nI U) (oi w) (b2i (isW S w p)) (nI i) σ = some (0, σ') ∧ FO p σ σ' ∧ RoL σ' 71 (5 * p) L' ∧ σ' 73 p = nI L'.length ∧ L'.length ≤ 5 ∧ dsc (s_worth S p) L' ∧ ∀ x, x ∈ L' ↔ (okV S D w U p x ∧ ∃ j, j < 4 ∧ s_mem S p j = x) ∨ (x = 0 ∧ isW S w p = false ∧ s_dmd S D p 0 = true) := by
      intro h1 h2
      refine step σ L FO.refl hR hL hn (by omega) hd (fun y => ?_) h2
      rw [hm y]
      constructor
      · rintro ⟨g1, j, g2, g3⟩
        exact ⟨g1, j, by omega, g3⟩
      · rintro ⟨g1, j, g2, g3⟩
        refine ⟨g1, j, ?_, g3⟩
        by_cases e : j = i
        · subst e
          rw [hx] at g3
          rw [← g3] at g1
          exact absurd g1 h1
        · omega
    have un : m_X8_offerAll_37 (f + 1) (nI p) (nI U) (oi w) (b2i (isW S w p)) (nI i) σ = if (x != 0 && U.testBit (x - 1)) = false then m_X8_offerAll_37 f (nI p) (nI U) (oi w) (b2i (isW S w p)) (nI (i + 1)) σ else if isW S w p = false then m_X8_offerAll_78 (m_X8_offerAll_37 f) (nI p) (nI U) (oi w) (b2i (isW S w p)) (nI i) (oi x) σ else if x = w then m_X8_offerAll_78 (m_X8_offerAll_37 f) (nI p) (nI U) (oi w) (b2i (isW S w p)) (nI i) (oi x) σ else m_X8_offerAll_37 f (nI p) (nI U) (oi w) (b2i (isW S w p)) (nI (i + 1)) σ := by
      rw [m_X8_offerAll_37]
      rw [if_neg (show ¬ (4 : Int32) ≤ nI i from nI_ge (b := 4) hi (by decide)), e1]
      simp only [obind_some, m_isInO hUl (show x < 32 by omega), b2i_0, nI_1, oi_inj (show x < 2 ^ 31 by omega) (show w < 2 ^ 31 by omega)]
    cases g1 : (x != 0 && U.testBit (x - 1)) with
    | false =>
      refine skip (fun h => ?_) (by rw [un, g1, if_pos rfl])
      rw [h.2.1] at g1
      simp [h.1] at g1
    | true =>
      rw [Bool.and_eq_true] at g1
      have hx0 : x ≠ 0 := by simpa using g1.1
      obtain ⟨v, rfl⟩ : ∃ v, x = v + 1 := ⟨x - 1, by omega⟩
      obtain ⟨hvn, hvo⟩ := s_mem_own hx
      have e2 := c_refuses hW hR hD hvn
      rw [hvo] at e2
      by_cases g2 : isW S w p = true ∧ v + 1 ≠ w
      · refine skip (fun h => g2.2 (h.2.2.1 g2.1)) ?_
        rw [un, if_neg (by rw [g1.1, g1.2]; decide), g2.1, if_neg (by decide), if_neg g2.2]
      · have e78 : m_X8_offerAll_37 (f + 1) (nI p) (nI U) (oi w) (b2i (isW S w p)) (nI i) σ = m_X8_offerAll_78 (m_X8_offerAll_37 f) (nI p) (nI U) (oi w) (b2i (isW S w p)) (nI i) (oi (v + 1)) σ := by
          rw [un, if_neg (by rw [g1.1, g1.2]; decide)]
          cases hwp : isW S w p with
          | false => rw [if_pos rfl]
          | true =>
            rw [if_neg (by decide), if_pos (Classical.byContradiction fun h => g2 ⟨hwp, h⟩)]
        unfold m_X8_offerAll_78 at e78
        rw [h67, oi_s, e2, obind_some] at e78
        cases g3 : s_dmd S D p (v + 1) with
        | false =>
          refine skip (fun h => by have := h.2.2.2; rw [g3] at this; cases this) ?_
          rw [g3, if_neg (show ¬ b2i (!false) = 0 by decide), nI_1] at e78
          exact e78
        | true =>
          have hok : okV S D w U p (v + 1) := ⟨hx0, g1.2, fun h => Classical.byContradiction fun h2 => g2 ⟨h, h2⟩, g3⟩
          have hcd := hcand (v + 1) i hok hx
          obtain ⟨σ', q1, q2, q3, q4⟩ := c_offer (x := v + 1) hW hR hp (by omega) hL hn (by omega) (fun y hy => by
            obtain ⟨h1, j, -, h2⟩ := (hm y).mp hy
            rcases hcand y j h1 h2 with h3 | h3
            · omega
            · omega)
          refine step σ' (insR (s_worth S p) (v + 1) L.reverse []) q4 (hR.fr q4.1 (by decide)) q2 (by rw [q3, insR_len]; simp) (by rw [insR_len]; simp; omega) ?_ (fun y => ?_) ?_
          · refine insR_dsc _ _ (by simpa using hd) (fun y hy => by cases hy) (fun y hy h => ?_)
            obtain ⟨h1, j, h3, h2⟩ := (hm y).mp (by simpa using hy)
            have e := worth_inj hW (hcand y j h1 h2) hcd h
            have := s_mem_inj (S := S) (p := p) (i := j) (j := i) (by rw [h2, hx, e]) (by rw [h2]; exact h1.1)
            omega
          · rw [insR_mem, List.mem_reverse, hm y]
            constructor
            · rintro (⟨h1, j, h2, h3⟩ | h | h)
              · exact ⟨h1, j, by omega, h3⟩
              · rw [h]
                exact ⟨hok, i, by omega, hx⟩
              · cases h
            · rintro ⟨h1, j, h2, h3⟩
              by_cases e : j = i
              · subst e
                exact Or.inr (Or.inl (by rw [← h3, hx]))
              · exact Or.inl ⟨h1, j, by omega, h3⟩
          · rw [g3, if_pos (show b2i (!true) = 0 from rfl)] at e78
            rw [oi_s] at q1
            rw [q1, obind_some, nI_1] at e78
            exact e78
theorem c_offerAll (hW : WF S) (hR : RC S σ) (hp : p < 6) (hD : D < 64) (hw : w ≤ s_nv S) (h67 : σ 67 7 = nI D) (hU : U = if (s_rch S D).testBit p = true then s_use S else 0) : ∃ σ' L, m_X8_offerAll (nI p) (nI U) (oi w) σ = some (0, σ') ∧ FO p σ σ' ∧ OffR S σ' p L ∧ OSp S D w p L := by
  have h24 := hW.nv
  have hRs : RC S (up σ 73 p 0) := hR.fr (fr.up (l := [73]) (by simp)) (by decide)
  obtain ⟨σ', L, q1, q2, q3, q4, q5, q6, q7⟩ := c_offers_loop (U := U) hW hp hD hw (by rw [hU]; split; exact Or.inl rfl; exact Or.inr rfl) 0 (Nat.zero_le _) (up σ 73 p 0) [] hRs (by rw [up_pl _ _ (by decide)]; exact h67) (fun i hi => by cases hi) (up_same _ _ _ _) (Nat.zero_le _) List.Pairwise.nil (fun x => ⟨fun h => (by cases h), fun h => (by obtain ⟨-, j, hj, -⟩ := h; omega)⟩)
  refine ⟨σ', L, ?_, FO.cnt.trans q2, ⟨q3, q4⟩, q5, q6, fun x => ?_⟩
  · have e23 : m_X8_offerAll_23 (nI p) (nI U) (oi w) (b2i (isW S w p)) σ = some (0, σ') := by
      unfold m_X8_offerAll_23
      rw [show (0 : Int32) = nI 0 from rfl, x_set hp (by decide), obind_s]
      exact q1
    unfold m_X8_offerAll
    by_cases h0 : w = 0
    · subst h0
      rw [oi_0, x_getM, obind_s, if_neg (fun h => nI_nm1 (show p < 2 ^ 31 by omega) h.symm)]
      exact e23
    · obtain ⟨u, rfl⟩ : ∃ u, w = u + 1 := ⟨w - 1, by omega⟩
      have ho := hW.own (show u < s_nv S by omega)
      rw [oi_s, c_own hW hR (by omega), obind_s]
      by_cases h1 : s_own S u = p
      · rw [if_pos (show nI (s_own S u) = nI p by rw [h1])]
        have : isW S (u + 1) p = true := by unfold isW; simp [h1]
        rw [this] at e23
        exact e23
      · rw [if_neg (fun h => h1 ((nI_eq (by omega) (by omega)).mp h))]
        have : isW S (u + 1) p = false := by unfold isW; simp [h1]
        rw [this] at e23
        exact e23
  · rw [q7 x]
    unfold OkO okV
    constructor
    · rintro (⟨⟨h1, h2, h3, h4⟩, j, h5, h6⟩ | ⟨h1, h2, h3⟩)
      · obtain ⟨v, rfl⟩ : ∃ v, x = v + 1 := ⟨x - 1, by omega⟩
        obtain ⟨g1, g2⟩ := s_mem_own h6
        rw [hU] at h2
        split at h2
        · rename_i h7
          rw [s_use_bit, Bool.and_eq_true] at h2
          exact ⟨Or.inr ⟨g1, g2, by simpa using h2.2⟩, h4, h3, fun _ => h7⟩
        · simp at h2
      · subst h1
        exact ⟨Or.inl rfl, h3, fun h => (by rw [h2] at h; cases h), fun h => absurd rfl h⟩
    · rintro ⟨h1, h2, h3, h4⟩
      by_cases h0 : x = 0
      · refine Or.inr ⟨h0, ?_, by rw [← h0]; exact h2⟩
        cases hwp : isW S w p with
        | false => rfl
        | true =>
          have := h3 hwp
          unfold isW at hwp
          rw [← this, h0] at hwp
          simp at hwp
      · refine Or.inl ⟨⟨h0, ?_, h3, h2⟩, ?_⟩
        · rcases h1 with h1 | ⟨h1, h5, h6⟩
          · exact absurd h1 h0
          · rw [hU, if_pos (h4 h0), s_use_bit]
            simp [h1, h6]
        · rcases h1 with h1 | ⟨h1, h5, h6⟩
          · exact absurd h1 h0
          · obtain ⟨i, hi, he⟩ := hW.mem_ex h1
            rw [h5] at he
            exact ⟨i, hi, by rw [he]; omega⟩
/-- the state of a search: a is how many levels are open -/
def CS (S : SP) (D M : Nat) (O : Nat → List Nat) (a : Nat) (c t : Nat → Nat) (σ : Mem) : Prop := RC S σ ∧ σ 67 7 = nI D ∧ σ 67 8 = oi M ∧ σ 67 9 = oi a ∧ (∀ q, q < 6 → OffR S σ q (O q)) ∧ (∀ q, q < 6 → q < a → σ 75 q = nI (t q)) ∧ (∀ q, q < 6 → σ 78 q = oi (c q)) ∧ ∀ q, (a ≤ q → c q = 0) ∧ c q ≤ s_nv S
def clS : List Nat := [67, 69, 71, 73, 75, 78, 80]
theorem c_begin (hW : WF S) (hR : RC S σ) (hD : D < 64) (hw : w ≤ s_nv S) : ∃ σ' O, m_X8_begin (nI D) (oi w) σ = some (0, σ') ∧ fr clS σ σ' ∧ CS S D 7 O 1 (fun _ => 0) (sN (fun _ => 0) 0 0) σ' ∧ ∀ p, p < 6 → OSp S D w p (O p) := by
  obtain ⟨σ1, a1, a2, a3⟩ := c_fill (σ := up (up (up σ 67 7 (nI D)) 67 8 6) 67 9 0) (a := 75) (n := 6) (x := 0) (by decide)
  obtain ⟨σ2, b1, b2, b3⟩ := c_fill (σ := σ1) (a := 78) (n := 6) (x := -1) (by decide)
  have fr0 : fr [67, 75, 78] σ σ2 := (((fr.up (by simp)).trans (fr.up (by simp))).trans (fr.up (by simp))).trans ((a2.mono (by simp)).trans (b2.mono (by simp)))
  have h67 : ∀ j, σ2 67 j = (up (up (up σ 67 7 (nI D)) 67 8 6) 67 9 0) 67 j := fun j => by rw [b2 67 (by decide), a2 67 (by decide)]
  have hR2 : RC S σ2 := hR.fr fr0 (by decide)
  have k7 : σ2 67 7 = nI D := by
    rw [h67, up_off _ _ (Or.inr (by decide)), up_off _ _ (Or.inr (by decide)), up_same]
  have k8 : σ2 67 8 = oi 7 := by
    rw [h67, up_off _ _ (Or.inr (by decide)), up_same]
    rfl
  have k9 : σ2 67 9 = oi 1 := by
    rw [h67, up_same]
    rfl
  have k75 : ∀ q, q < 6 → σ2 75 q = 0 := fun q hq => by rw [b2 75 (by decide), a3 q hq]
  have hr6 : s_rch S D < 2 ^ 6 := its_lt (s_rw_lt hW) (s_dset_lt hW D) 6
  have key := up_fu (n := 6) (P := fun i f => ∀ (σ : Mem) (O : Nat → List Nat), fr [71, 73] σ2 σ → (∀ q, q < i → OffR S σ q (O q) ∧ OSp S D w q (O q)) → ∃ (σ' : Mem) (O' : Nat → List Nat), m_X8_begin_53 f (oi w) (nI (s_use S)) (nI (s_rch S D)) (nI i) σ = some (0, σ') ∧ fr [71, 73] σ2 σ' ∧ ∀ q, q < 6 → OffR S σ' q (O' q) ∧ OSp S D w q (O' q)) (by decide) (fun f σ O hf h => by
      refine ⟨σ, O, ?_, hf, h⟩
      rw [m_X8_begin_53]
      rw [if_pos (show (6 : Int32) ≤ nI 6 by decide)]) (fun i f hi ih σ O hf h => by
      obtain ⟨σ', L, q1, q2, q3, q4⟩ := c_offerAll (U := if (s_rch S D).testBit i = true then s_use S else 0) hW (hR2.fr hf (by decide)) hi hD hw (by rw [hf 67 (by decide)]; exact k7) rfl
      obtain ⟨σ3, O3, r1, r2, r3⟩ := ih σ' (fun q => if q = i then L else O q) (hf.trans q2.1) (fun q hq => by
        by_cases e : q = i
        · subst e
          simp only [if_true]
          exact ⟨q3, q4⟩
        · simp only [if_neg e]
          obtain ⟨⟨g1, g2⟩, g3⟩ := h q (by omega)
          refine ⟨⟨g1.congr fun j hj => q2.2.1 _ ?_, (q2.2.2 q e).trans g2⟩, g3⟩
          have := g3.1
          omega)
      refine ⟨σ3, O3, ?_, r2, r3⟩
      rw [m_X8_begin_53]
      unfold m_X8_begin_78
      rw [if_neg (show ¬ (6 : Int32) ≤ nI i from nI_ge (b := 6) hi (by decide)), x_isIn (by omega) (by omega), obind_some]
      cases hb : (s_rch S D).testBit i with
      | true =>
        rw [hb, if_pos rfl] at q1
        rw [if_neg (show ¬ b2i true = 0 by decide), q1, obind_some, nI_1]
        exact r1
      | false =>
        rw [hb, if_neg (by decide)] at q1
        rw [if_pos (show b2i false = 0 from rfl), show (0 : Int32) = nI 0 from rfl, q1, obind_some, nI_1]
        exact r1) 0 (Nat.zero_le _) σ2 (fun _ => []) fr.refl (fun q hq => by omega)
  obtain ⟨σ3, O, r1, r2, r3⟩ := key
  refine ⟨σ3, O, ?_, (fr0.mono (by decide)).trans (r2.mono (by decide)), ⟨hR2.fr r2 (by decide), ?_, ?_, ?_, fun q hq => (r3 q hq).1, fun q hq hq1 => ?_, fun q hq => ?_, fun q => ⟨fun _ => rfl, Nat.zero_le _⟩⟩, fun p hp => (r3 p hp).2⟩
  · unfold m_X8_begin
    rw [obind_s, obind_s, obind_s, a1, obind_s, b1, obind_s, c_usable hW hR2, obind_s, c_reachable hW hR2 hD k7, obind_s]
    exact r1
  · rw [r2 67 (by decide)]
    exact k7
  · rw [r2 67 (by decide)]
    exact k8
  · rw [r2 67 (by decide)]
    exact k9
  · rw [r2 75 (by decide), k75 q hq, show q = 0 by omega]
    rfl
  · rw [r2 78 (by decide), b3 q hq]
    rfl
end OFA
