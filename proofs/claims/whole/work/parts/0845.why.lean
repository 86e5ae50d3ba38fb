/-! ===== why and against ===== -/
section WHY
variable {S : SP} {σ : Mem}
def bc1 (v : Int32) : Int32 := v - ((ushr v 1) &&& 1431655765)
def bc2 (y : Int32) : Int32 := (y &&& 858993459) + ((ushr y 2) &&& 858993459)
def bc3 (y : Int32) : Int32 := (y + (ushr y 4)) &&& 252645135
def bc4 (y : Int32) : Int32 := y + (ushr y 8)
def bc5 (y : Int32) : Int32 := y + (ushr y 16)
theorem bc_all : ∀ s, s < 64 → bc5 (bc4 (bc3 (bc2 (bc1 (nI s))))) &&& 63 = nI (cnt6 s) := by decide +kernel
theorem c_bitCount {s : Nat} (hs : s < 64) : m_J6_bitCount_0f7a4 (nI s) σ = some (nI (cnt6 s), σ) := by
  rw [← bc_all s hs]
  rfl
theorem sub_all : ∀ a, a < 64 → ∀ s, s < 64 → (((nI s &&& (nI a ^^^ (-1))) = 0) ↔ s &&& a = s) := by decide +kernel
theorem nI_b2i {x : Nat} (b : Bool) : nI x + b2i b = nI (x + (if b then 1 else 0)) := by
  cases b with
  | false => exact nI_add x 0
  | true => exact nI_add x 1
theorem r_bits {s : Nat} (hs : s < 64) : m_X12_bits (nI s) σ = some (nI (cnt6 s), σ) := by
  have key := up_fu (n := 6) (P := fun i f => m_X12_bits_4 f (nI s) (nI (cntR i fun j => s.testBit j)) (nI i) σ = some (nI (cntR 6 fun j => s.testBit j), σ)) (by decide) (fun f => by
      rw [m_X12_bits_4]
      rw [if_pos (show (6 : Int32) ≤ nI 6 by decide)]) (fun i f hi ih => by
      rw [m_X12_bits_4]
      rw [if_neg (show ¬ (6 : Int32) ≤ nI i from nI_ge (b := 6) hi (by decide)), obind_some, sh1 (show s < 2 ^ 31 by omega) (show i < 31 by omega), nI_b2i, nI_1]
      exact ih) 0 (Nat.zero_le _)
  exact key
def WhyC (S : SP) (a s : Nat) : Prop := 1 ≤ s ∧ s ≤ a ∧ s &&& a = s ∧ ¬ ∃ c, SolF S s c
def WhyR (S : SP) (a r : Nat) : Prop := WhyC S a r ∧ ∀ s, WhyC S a s → cnt6 r < cnt6 s ∨ (cnt6 r = cnt6 s ∧ r ≤ s)
theorem WhyR.uni {a r r' : Nat} (h : WhyR S a r) (h' : WhyR S a r') : r = r' := by
  have h1 := h.2 r' h'.1
  have h2 := h'.2 r h.1
  omega
theorem cnt6_le (s : Nat) : cnt6 s ≤ 6 := cntR_le 6 _
theorem c_why_loop (hW : WF S) {a : Nat} (ha : a < 64) (hc : WhyC S a a) : ∀ (j z f : Nat), z + j = 7 → j < f → ∀ (σ : Mem), RC S σ → (∀ s, WhyC S a s → z ≤ cnt6 s) → ∃ r σ', m_X11_why_23 f (nI a) (nI z) σ = some (nI r, σ') ∧ fr clS σ σ' ∧ WhyR S a r := by
  intro j
  induction j with
  | zero =>
    intro z f hz hf σ hR h
    have := h a hc
    have := cnt6_le a
    omega
  | succ j ihj =>
    intro z f hz hf σ hR h
    obtain ⟨g, rfl⟩ : ∃ g, f = g + 1 := ⟨f - 1, by omega⟩
    have key := up_fu (n := a + 1) (P := fun i f => 1 ≤ i → ∀ σ : Mem, RC S σ → (∀ s, WhyC S a s → z < cnt6 s ∨ (z = cnt6 s ∧ i ≤ s)) → ∃ r σ', m_X11_why_31 (m_X11_why_23 g) f (nI a) (nI z) (nI i) σ = some (nI r, σ') ∧ fr clS σ σ' ∧ WhyR S a r) (by omega) (fun f _ σ hR h => by
        obtain ⟨r, σ', q1, q2, q3⟩ := ihj (z + 1) g (by omega) (by omega) σ hR (fun s hs => by
          have h1 := h s hs
          have h2 := hs.2.1
          omega)
        refine ⟨r, σ', ?_, q2, q3⟩
        rw [m_X11_why_31]
        rw [if_pos (nI_lt (by omega) (by omega)), nI_1]
        exact q1) (fun i f hi ih h1 σ hR h => by
        have go : ∀ σ1 : Mem, fr clS σ σ1 → (¬ WhyC S a i ∨ cnt6 i ≠ z) → m_X11_why_31 (m_X11_why_23 g) (f + 1) (nI a) (nI z) (nI i) σ = m_X11_why_31 (m_X11_why_23 g) f (nI a) (nI z) (nI (i + 1)) σ1 → ∃ r σ', m_X11_why_31 (m_X11_why_23 g) (f + 1) (nI a) (nI z) (nI i) σ = some (nI r, σ') ∧ fr clS σ σ' ∧ WhyR S a r := by
          intro σ1 hf1 hn he
          obtain ⟨r, σ', q1, q2, q3⟩ := ih (by omega) σ1 (hR.fr hf1 (by decide)) (fun s hs => by
            rcases h s hs with h2 | ⟨h2, h3⟩
            · exact Or.inl h2
            · refine Or.inr ⟨h2, ?_⟩
              by_cases e : s = i
              · subst e
                rcases hn with hn | hn
                · exact absurd hs hn
                · exact absurd h2.symm hn
              · omega)
          exact ⟨r, σ', by rw [he, q1], hf1.trans q2, q3⟩
        have un : m_X11_why_31 (m_X11_why_23 g) (f + 1) (nI a) (nI z) (nI i) σ = if (nI i &&& (nI a ^^^ (-1))) = 0 then obind (m_J6_bitCount_0f7a4 (nI i) σ) fun x1 => if x1.1 = nI z then obind (m_X8_isSolvable (nI i) x1.2) fun x2 => if x2.1 = 0 then some (nI i, x2.2) else m_X11_why_31 (m_X11_why_23 g) f (nI a) (nI z) (nI i + 1) x2.2 else m_X11_why_31 (m_X11_why_23 g) f (nI a) (nI z) (nI i + 1) x1.2 else m_X11_why_31 (m_X11_why_23 g) f (nI a) (nI z) (nI i + 1) σ := by
          rw [m_X11_why_31]
          rw [if_neg (nI_nlt (by omega) (by omega))]
        by_cases hs : i &&& a = i
        · rw [if_pos ((sub_all a ha i (by omega)).mpr hs), c_bitCount (show i < 64 by omega), obind_some] at un
          have hci := cnt6_le i
          by_cases hz2 : cnt6 i = z
          · rw [if_pos (show nI (cnt6 i) = nI z by rw [hz2])] at un
            obtain ⟨σ1, b, q1, q2, q3⟩ := c_isSolvable hW hR (show i < 64 by omega)
            rw [q1, obind_some] at un
            cases hb : b with
            | false =>
              rw [hb, if_pos (show b2i false = 0 from rfl)] at un
              have hno : ¬ ∃ c, SolF S i c := fun hex => by
                have := q3.mpr hex
                rw [hb] at this
                cases this
              refine ⟨i, σ1, un, q2, ⟨h1, by omega, hs, hno⟩, fun s hs2 => ?_⟩
              have := h s hs2
              omega
            | true =>
              rw [hb, if_neg (show ¬ b2i true = 0 by decide), nI_1] at un
              exact go σ1 q2 (Or.inl fun hc2 => hc2.2.2.2 (q3.mp hb)) un
          · rw [if_neg (fun e => hz2 ((nI_eq (by omega) (by omega)).mp e)), nI_1] at un
            exact go σ fr.refl (Or.inr hz2) un
        · rw [if_neg (fun e => hs ((sub_all a ha i (by omega)).mp e)), nI_1] at un
          exact go σ fr.refl (Or.inl fun hc2 => hs hc2.2.2.1) un) 1 (by omega) (Nat.le_refl _) σ hR (fun s hs => by
        have h1 := h s hs
        have h2 := hs.1
        omega)
    obtain ⟨r, σ', q1, q2, q3⟩ := key
    refine ⟨r, σ', ?_, q2, q3⟩
    rw [m_X11_why_23]
    rw [if_neg (show ¬ (6 : Int32) < nI z from nI_nlt (a := 6) (b := z) (by omega) (by decide))]
    exact q1
theorem InvS.solv {σ' : Mem} (h : InvS S σ) (hf : frR σ σ') (hk : ∀ j, j ∈ [29, 30, 31] → σ' 94 j = σ 94 j) (h1 : σ' 112 = σ 112) (h2 : σ' 113 = σ 113) : InvS S σ' := by
  obtain ⟨a1, a2, a3, a4, a5⟩ := h
  exact ⟨a1, a2.frR hf, a3.frR hf, a4.congr (hf.1 93 (by decide)) (hf.1 105 (by decide)) h1, a5.congr (hk 30 (by decide)) (hk 31 (by decide)) h1 h2⟩
theorem r_why_loop {a : Nat} (ha : a < 64) (hc : WhyC S a a) : ∀ (j z f : Nat), z + j = 7 → j < f → ∀ (σ : Mem), InvS S σ → σ 94 30 = 0 → (∀ s, WhyC S a s → z ≤ cnt6 s) → ∃ r σ', m_X12_why_20 f (nI a) (nI z) σ = some (nI r, σ') ∧ InvS S σ' ∧ WhyR S a r := by
  intro j
  induction j with
  | zero =>
    intro z f hz hf σ hR h30 h
    have := h a hc
    have := cnt6_le a
    omega
  | succ j ihj =>
    intro z f hz hf σ hR h30 h
    have hW := hR.1
    obtain ⟨g, rfl⟩ : ∃ g, f = g + 1 := ⟨f - 1, by omega⟩
    have key := up_fu (n := a + 1) (P := fun i f => 1 ≤ i → ∀ σ : Mem, InvS S σ → σ 94 30 = 0 → (∀ s, WhyC S a s → z < cnt6 s ∨ (z = cnt6 s ∧ i ≤ s)) → ∃ r σ', m_X12_why_35 (m_X12_why_20 g) f (nI a) (nI z) (nI i) σ = some (nI r, σ') ∧ InvS S σ' ∧ WhyR S a r) (by omega) (fun f _ σ hR h30 h => by
        obtain ⟨r, σ', q1, q2, q3⟩ := ihj (z + 1) g (by omega) (by omega) σ hR h30 (fun s hs => by
          have h1 := h s hs
          have h2 := hs.2.1
          omega)
        refine ⟨r, σ', ?_, q2, q3⟩
        rw [m_X12_why_35]
        rw [if_pos (nI_lt (by omega) (by omega)), nI_1]
        exact q1) (fun i f hi ih h1 σ hR h30 h => by
        have go : ∀ σ1 : Mem, InvS S σ1 → σ1 94 30 = 0 → (¬ WhyC S a i ∨ cnt6 i ≠ z) → m_X12_why_35 (m_X12_why_20 g) (f + 1) (nI a) (nI z) (nI i) σ = m_X12_why_35 (m_X12_why_20 g) f (nI a) (nI z) (nI (i + 1)) σ1 → ∃ r σ', m_X12_why_35 (m_X12_why_20 g) (f + 1) (nI a) (nI z) (nI i) σ = some (nI r, σ') ∧ InvS S σ' ∧ WhyR S a r := by
          intro σ1 hI1 h301 hn he
          obtain ⟨r, σ', q1, q2, q3⟩ := ih (by omega) σ1 hI1 h301 (fun s hs => by
            rcases h s hs with h2 | ⟨h2, h3⟩
            · exact Or.inl h2
            · refine Or.inr ⟨h2, ?_⟩
              by_cases e : s = i
              · subst e
                rcases hn with hn | hn
                · exact absurd hs hn
                · exact absurd h2.symm hn
              · omega)
          exact ⟨r, σ', by rw [he, q1], q2, q3⟩
        have un : m_X12_why_35 (m_X12_why_20 g) (f + 1) (nI a) (nI z) (nI i) σ = if (nI i &&& (nI a ^^^ (-1))) = 0 then obind (m_X12_bits (nI i) σ) fun x1 => if x1.1 = nI z then obind (m_X12_isSolvable (nI i) (-1) x1.2) fun x2 => if x2.1 = 0 then some (nI i, x2.2) else m_X12_why_35 (m_X12_why_20 g) f (nI a) (nI z) (nI i + 1) x2.2 else m_X12_why_35 (m_X12_why_20 g) f (nI a) (nI z) (nI i + 1) x1.2 else m_X12_why_35 (m_X12_why_20 g) f (nI a) (nI z) (nI i + 1) σ := by
          rw [m_X12_why_35]
          rw [if_neg (nI_nlt (by omega) (by omega))]
        by_cases hs : i &&& a = i
        · rw [if_pos ((sub_all a ha i (by omega)).mpr hs), r_bits (show i < 64 by omega), obind_some] at un
          have hci := cnt6_le i
          by_cases hz2 : cnt6 i = z
          · rw [if_pos (show nI (cnt6 i) = nI z by rw [hz2])] at un
            obtain ⟨σ1, b, q1, q2, q3, q4, q5, q6⟩ := r_isSolvable (w := 0) hW hR.2.2.1 (show i < 64 by omega) (Nat.zero_le _)
            rw [show oi 0 = -1 from rfl] at q1
            rw [q1, obind_some] at un
            have hI1 := hR.solv q2 q3 q4 q5
            have h301 : σ1 94 30 = 0 := by rw [q3 30 (by decide)]; exact h30
            cases hb : b with
            | false =>
              rw [hb, if_pos (show b2i false = 0 from rfl)] at un
              have hno : ¬ ∃ c, SolF S i c := fun ⟨c, hex⟩ => by
                have := q6.mpr ⟨c, hex, fun h => absurd rfl h⟩
                rw [hb] at this
                cases this
              refine ⟨i, σ1, un, hI1, ⟨h1, by omega, hs, hno⟩, fun s hs2 => ?_⟩
              have := h s hs2
              omega
            | true =>
              rw [hb, if_neg (show ¬ b2i true = 0 by decide), nI_1] at un
              refine go σ1 hI1 h301 (Or.inl fun hc2 => ?_) un
              obtain ⟨c, hex, -⟩ := q6.mp hb
              exact hc2.2.2.2 ⟨c, hex⟩
          · rw [if_neg (fun e => hz2 ((nI_eq (by omega) (by omega)).mp e)), nI_1] at un
            exact go σ hR h30 (Or.inr hz2) un
        · rw [if_neg (fun e => hs ((sub_all a ha i (by omega)).mp e)), nI_1] at un
          exact go σ hR h30 (Or.inl fun hc2 => hs hc2.2.2.1) un) 1 (by omega) (Nat.le_refl _) σ hR h30 (fun s hs => by
        have h1 := h s hs
        have h2 := hs.1
        omega)
    obtain ⟨r, σ', q1, q2, q3⟩ := key
    refine ⟨r, σ', ?_, q2, q3⟩
    rw [m_X12_why_20]
    rw [if_neg (show ¬ (6 : Int32) < nI z from nI_nlt (a := 6) (b := z) (by omega) (by decide)), if_pos h30]
    exact q1
theorem op_why : OP_why Inv := by
  intro σ ⟨S, hI⟩
  have hW := hI.1
  have hw7 := hW.wsp
  have hD := s_dems_lt hW (s_wsp S)
  obtain ⟨σ1, b, a1, a2, a3⟩ := c_isSolvable hW hI.2.1 hD
  have hI1 := hI.cls a2 (by decide) (by decide) (by decide)
  have c1 : ∀ z, m_X11_why_23 FU (nI (s_dems S (s_wsp S))) 1 σ1 = z → b = false → m_X11_why σ = z := fun z hz hb => by
    unfold m_X11_why
    rw [c_demands hW hI.2.1, obind_s, a1, obind_s, hb, if_pos (show b2i false = 0 from rfl)]
    exact hz
  have ref : ∀ σ9, InvS S σ9 → ∃ (σ2 : Mem) (n : Nat), InvS S σ2 ∧ NSol S (s_dems S (s_wsp S)) n ∧ (σ2 94 30 = 0 ↔ n = 0) ∧ m_X12_why σ9 = m_X12_why_20 FU (nI (s_dems S (s_wsp S))) 1 σ2 := fun σ9 h9 => by
    obtain ⟨σ2, n, c', b1, b2, b3, b4, b5, b6, b7⟩ := find_ref (h9.thrown 0)
    refine ⟨σ2, n, b2, b6, by rw [b4]; exact nI_z (by omega), ?_⟩
    unfold m_X12_why
    rw [obind_s, b1, obind_s]
    dsimp only
    rw [b2.2.2.1.wsp, r_demandsOf hW b2.2.2.1 (show s_wsp S < 2 ^ 31 by omega), obind_s]
  obtain ⟨g, hg⟩ : ∃ g, FU = g + 1 := ⟨3999999, rfl⟩
  cases hb : b with
  | true =>
    obtain ⟨σ2, n, r1, r2, r3, r4⟩ := ref σ1 hI1
    have hn : ¬ σ2 94 30 = 0 := fun e => by
      obtain ⟨c, hc⟩ := a3.mp hb
      exact (r2.zero hW).mp (r3.mp e) c hc
    refine ⟨0, σ1, σ2, ?_, ?_, S, r1⟩
    · unfold m_X11_why
      rw [c_demands hW hI.2.1, obind_s, a1, obind_s, hb, if_neg (show ¬ b2i true = 0 by decide)]
    · rw [r4, hg, m_X12_why_20]
      rw [if_neg (by decide), if_neg hn]
  | false =>
    have hno : ¬ ∃ c, SolF S (s_dems S (s_wsp S)) c := fun hex => by
      have := a3.mpr hex
      rw [hb] at this
      cases this
    have h0 : s_dems S (s_wsp S) ≠ 0 := fun e => by
      rw [e] at hno
      exact hno ⟨_, sol_none⟩
    have hc : WhyC S (s_dems S (s_wsp S)) (s_dems S (s_wsp S)) := ⟨by omega, Nat.le_refl _, Nat.and_self _, hno⟩
    have one : ∀ s, WhyC S (s_dems S (s_wsp S)) s → 1 ≤ cnt6 s := fun s hs => by
      by_cases e : cnt6 s = 0
      · have h1 : s < 64 := by have := hs.2.1; omega
        have h2 : ∀ s, s < 64 → cnt6 s = 0 → s = 0 := by decide +kernel
        have := h2 s h1 e
        have := hs.1
        omega
      · omega
    obtain ⟨r, σ3, q1, q2, q3⟩ := c_why_loop hW hD hc 6 1 FU (by omega) (by rw [FU_eq]; omega) σ1 hI1.2.1 one
    have hI3 := hI1.cls q2 (by decide) (by decide) (by decide)
    obtain ⟨σ2, n, r1, r2, r3, r4⟩ := ref σ3 hI3
    have hn : σ2 94 30 = 0 := r3.mpr ((r2.zero hW).mpr fun c hc => hno ⟨c, hc⟩)
    obtain ⟨r', σ4, s1, s2, s3⟩ := r_why_loop hD hc 6 1 FU (by omega) (by rw [FU_eq]; omega) σ2 r1 hn one
    have er := q3.uni s3
    subst er
    exact ⟨nI r, σ3, σ4, c1 _ q1 hb, by rw [r4]; exact s1, S, s2⟩
/-! against -/
def agK (v D : Int32) (σ : Mem) : Option (Int32 × Mem) :=
  obind (m_X12_find σ) fun x1 =>
  if (x1.2 94 30) ≤ 0 then
    m_X12_against_147 v D x1.2
  else
    obind (m_X12_packageOf v x1.2) fun x2 =>
    obind (ald x2.2 112 6 x2.1) fun x3 =>
    if x3 = v then
      some (0, x2.2)
    else
      m_X12_against_147 v D x2.2
theorem r_agLoop (hW : WF S) (hR : RM S σ) {v D : Nat} (hv : v < s_nv S) (hD : D < 64) : m_X12_against_46 FU (nI v) (nI D) 0 σ = if s_dmd S D (s_own S v) (v + 1) = true then agK (nI v) (nI D) σ else some (5, σ) := by
  have h24 := hW.nv
  have h6 := hW.nd
  have ho := hW.own hv
  obtain ⟨rf, hrf⟩ : ∃ rf : Nat → Bool, rf = fun d => D.testBit d && s_heir S (s_dtg S d) == s_own S v && !(s_has S (24 * s_drg S d + v) == 1) := ⟨_, rfl⟩
  have hdm : s_dmd S D (s_own S v) (v + 1) = !anyR (s_nd S) rf := by
    unfold s_dmd
    rw [hrf]
    refine congrArg _ (anyR_congr fun d _ => ?_)
    simp
  rw [hdm]
  refine up_fu (n := s_nd S) (P := fun i f => (∀ d, d < i → rf d = false) → m_X12_against_46 f (nI v) (nI D) (nI i) σ = if (!anyR (s_nd S) rf) = true then agK (nI v) (nI D) σ else some (5, σ)) (by omega) (fun f h => ?_) (fun i f hi ih h => ?_) 0 (Nat.zero_le _) (fun d hd => by omega)
  · rw [anyR_f.mpr h, if_pos (show (!false) = true from rfl)]
    rw [m_X12_against_46]
    rw [hR.nd, if_pos (nI_le (Nat.le_refl _) (by omega))]
    rfl
  · have hdm := hW.dem hi
    have hh := s_heir_lt hW hdm.2.1
    obtain ⟨e0, e1, e2, e3⟩ := r_dem hW hR hi
    have e4 := r_standsFor hW hR hdm.2.1
    have e5 := r_packageOf hW.1 hR.1 hv
    have e6 := r_has hW hR hdm.2.2.1 hv
    have e7 := has_0 hW hdm.2.2.1 hv
    have un : m_X12_against_46 (f + 1) (nI v) (nI D) (nI i) σ = if rf i = true then some (5, σ) else m_X12_against_46 f (nI v) (nI D) (nI (i + 1)) σ := by
      rw [m_X12_against_46]
      rw [hR.nd, if_neg (nI_ge hi (by omega))]
      simp only [bit_iff (show D < 2 ^ 31 by omega) (show i < 31 by omega), e1, obind_some, e4, e5, nI_eq (show s_heir S (s_dtg S i) < 2 ^ 31 by omega) (show s_own S v < 2 ^ 31 by omega), e2, e6, e7, nI_1, hrf]
      cases hb1 : D.testBit i <;> cases hb3 : (s_has S (24 * s_drg S i + v) == 1) <;> by_cases hb2 : s_heir S (s_dtg S i) = s_own S v <;> simp [hb2]
    cases hr : rf i with
    | true =>
      rw [un, hr, if_pos rfl, anyR_t.mpr ⟨i, hi, hr⟩]
      rfl
    | false =>
      rw [un, hr, if_neg (by decide)]
      refine ih fun d hd => ?_
      by_cases e : d = i
      · rw [e]
        exact hr
      · exact h d (by omega)
theorem r_agK (h : InvS S σ) {v : Nat} (hv : v < s_nv S) : ∃ σ' r, agK (nI v) (nI (s_dems S (s_wsp S))) σ = some (r, σ') ∧ InvS S σ' ∧ σ' 94 0 = σ 94 0 ∧ ((r = 0 ∧ ∃ c, IsBest S (s_dems S (s_wsp S)) c ∧ c (s_own S v) = v + 1) ∨ (r = 7 ∧ (∃ c, SolF S (s_dems S (s_wsp S)) c ∧ c (s_own S v) = v + 1) ∧ ∀ c, IsBest S (s_dems S (s_wsp S)) c → c (s_own S v) ≠ v + 1) ∨ (r = 6 ∧ ∀ c, SolF S (s_dems S (s_wsp S)) c → c (s_own S v) ≠ v + 1)) := by
  have hW := h.1
  have h24 := hW.nv
  have ho := hW.own hv
  have hD := s_dems_lt hW (s_wsp S)
  obtain ⟨σ2, n, c', b1, b2, b3, b4, b5, b6, b7⟩ := find_ref h
  have hle : σ2 94 30 ≤ 0 ↔ n = 0 := by
    rw [b4]
    have := nI_leI (a := n) (b := 0) (by omega) (by decide)
    rw [show (0 : Int32) = nI 0 from rfl, this]
    omega
  obtain ⟨σ3, b, q1, q2, q3, q4, q5, q6⟩ := r_isSolvable (w := v + 1) hW b2.2.2.1 hD (by omega)
  rw [oi_s] at q1
  have hI3 := b2.solv q2 q3 q4 q5
  have z2 : σ2 94 0 = σ 94 0 := b3.2 0 (by decide)
  have z3 : σ3 94 0 = σ 94 0 := (q2.2 0 (by decide)).trans z2
  have e147 : m_X12_against_147 (nI v) (nI (s_dems S (s_wsp S))) σ2 = some (if b = true then 7 else 6, σ3) := by
    unfold m_X12_against_147
    rw [q1, obind_s]
    cases b <;> rfl
  have h6 : b = false → ∀ c, SolF S (s_dems S (s_wsp S)) c → c (s_own S v) ≠ v + 1 := fun hb c hs he => by
    have := q6.mpr ⟨c, hs, fun _ => he⟩
    rw [hb] at this
    cases this
  have h7 : b = true → ∃ c, SolF S (s_dems S (s_wsp S)) c ∧ c (s_own S v) = v + 1 := fun hb => by
    obtain ⟨c, hs, he⟩ := q6.mp hb
    exact ⟨c, hs, he (by omega)⟩
  have tail : agK (nI v) (nI (s_dems S (s_wsp S))) σ = m_X12_against_147 (nI v) (nI (s_dems S (s_wsp S))) σ2 → (∀ c, IsBest S (s_dems S (s_wsp S)) c → c (s_own S v) ≠ v + 1) → ∃ σ' r, agK (nI v) (nI (s_dems S (s_wsp S))) σ = some (r, σ') ∧ InvS S σ' ∧ σ' 94 0 = σ 94 0 ∧ ((r = 0 ∧ ∃ c, IsBest S (s_dems S (s_wsp S)) c ∧ c (s_own S v) = v + 1) ∨ (r = 7 ∧ (∃ c, SolF S (s_dems S (s_wsp S)) c ∧ c (s_own S v) = v + 1) ∧ ∀ c, IsBest S (s_dems S (s_wsp S)) c → c (s_own S v) ≠ v + 1) ∨ (r = 6 ∧ ∀ c, SolF S (s_dems S (s_wsp S)) c → c (s_own S v) ≠ v + 1)) := by
    intro he hnb
    refine ⟨σ3, _, by rw [he, e147], hI3, z3, ?_⟩
    cases hb : b with
    | true => exact Or.inr (Or.inl ⟨rfl, h7 hb, hnb⟩)
    | false => exact Or.inr (Or.inr ⟨rfl, h6 hb⟩)
  by_cases hn : n = 0
  · refine tail ?_ (fun c hc => absurd hc.1 ((b6.zero hW).mp hn c))
    unfold agK
    rw [b1, obind_s]
    dsimp only
    rw [if_pos (hle.mpr hn)]
  · obtain ⟨k1, k2⟩ := b7 hn
    have hcl : c' (s_own S v) ≤ s_nv S := by
      rcases k1.1.1 _ ho with g | g
      · omega
      · have := g.1
        omega
    have e3 : ald σ2 112 6 (nI (s_own S v)) = some (oi (c' (s_own S v))) := by rw [ald_nI ho (by decide), (k2 _ ho).1]
    have un : agK (nI v) (nI (s_dems S (s_wsp S))) σ = if c' (s_own S v) = v + 1 then some (0, σ2) else m_X12_against_147 (nI v) (nI (s_dems S (s_wsp S))) σ2 := by
      unfold agK
      rw [b1, obind_s]
      dsimp only
      rw [if_neg (fun e => hn (hle.mp e)), r_packageOf hW.1 b2.2.2.1.1 hv, obind_s]
      dsimp only
      rw [e3, obind_s]
      simp only [oi_nI (show v < 2 ^ 30 by omega) (show c' (s_own S v) < 2 ^ 31 by omega)]
    by_cases hv2 : c' (s_own S v) = v + 1
    · exact ⟨σ2, 0, by rw [un, if_pos hv2], b2, z2, Or.inl ⟨rfl, c', k1, hv2⟩⟩
    · refine tail (by rw [un, if_neg hv2]) (fun c hc he => hv2 ?_)
      rw [k1.uni hc _ ho]
      exact he
theorem op_against : OP_against Inv := by
  intro v1 σ τ ⟨S, hI⟩
  obtain ⟨hW, hR, hM, hS, hC⟩ := id hI
  have h24 := hW.nv
  cases h1 : inN v1 (s_nv S) with
  | false =>
    refine op_thr (mdl := m_X12_against v1) (j := 0) (k := 1) (σ1 := σ) (m := σ) (v := 0) (bb := 0) ?_ rfl (by decide) ?_ ⟨S, hI.thrown 1⟩
    · simp only [m_X11_against, c_isVersion hW hR, h1, obind_some, b2i_f, if_true]
    · simp only [m_X12_against, m_X12_against_14, r_isVersion hW hM, h1, obind_some, b2i_f, if_true, r_wellK ne10]
  | true =>
    obtain ⟨v, hv, rfl⟩ := (inN_t (by omega)).mp h1
    have ho := hW.own hv
    have hfl := s_flaw_lt (S := S) v
    have hD := s_dems_lt hW (s_wsp S)
    have hw7 := hW.wsp
    have hd0 : s_flaw S v = 0 → ∀ σ9, InvS S σ9 → m_X12_against (nI v) σ9 = m_X12_against_46 FU (nI v) (nI (s_dems S (s_wsp S))) 0 (up σ9 94 0 0) := fun hf σ9 h9 => by
      have hM0 := (h9.thrown 0).2.2.1
      have ew : (up σ9 94 0 0) 94 6 = nI (s_wsp S) := hM0.wsp
      unfold m_X12_against m_X12_against_14
      rw [r_isVersion hW h9.2.2.1, h1, obind_s, if_neg (show ¬ b2i true = 0 by decide), r_well0, obind_s, if_neg ne10, r_hinders hW hM0 hv, obind_s, if_pos (show nI (s_flaw S v) = 0 from (nI_z (by omega)).mpr hf)]
      dsimp only
      rw [ew, r_demandsOf hW hM0 (show s_wsp S < 2 ^ 31 by omega), obind_s]
    have hd1 : s_flaw S v ≠ 0 → ∀ σ9, InvS S σ9 → m_X12_against (nI v) σ9 = some (nI (s_flaw S v), up σ9 94 0 0) := fun hf σ9 h9 => by
      have hM0 := (h9.thrown 0).2.2.1
      unfold m_X12_against m_X12_against_14
      rw [r_isVersion hW h9.2.2.1, h1, obind_s, if_neg (show ¬ b2i true = 0 by decide), r_well0, obind_s, if_neg ne10, r_hinders hW hM0 hv, obind_s, if_neg (show ¬ nI (s_flaw S v) = 0 from fun e => hf ((nI_z (by omega)).mp e))]
    by_cases hf : s_flaw S v = 0
    · have ef : m_X10_flaw (nI v) σ = some (0, σ) := by rw [c_flaw hW hR hv, hf]; rfl
      cases hr : s_dmd S (s_dems S (s_wsp S)) (s_own S v) (v + 1) with
      | false =>
        refine op_ok (mdl := m_X12_against (nI v)) (v := 5) (σ1 := σ) (m := up σ 94 0 0) ?_ ?_ (up_same _ _ _ _) ⟨S, hI.thrown 0⟩
        · simp only [m_X11_against, c_isVersion hW hR, h1, obind_some, b2i_t, ne10, if_false, ef, if_true, c_demands hW hR, c_refuses hW hR hD hv, hr, Bool.not_false]
        · rw [hd0 hf σ hI, r_agLoop hW (hI.thrown 0).2.2.1 hv hD, hr, if_neg (by decide)]
      | true =>
        obtain ⟨σ1, σ2, b, s1, s2, s3, s4⟩ := c_solvable (w := v + 1) hW hR hD (by omega)
        rw [oi_s] at s1
        have hI2 := hI.cls s3 (by decide) (by decide) (by decide)
        have chead : m_X11_against (nI v) σ = if b2i b = 0 then some ((0, 6), σ2) else obind (m_X8_findBest σ2) fun x9 => if x9.1 = 0 then some ((0, 7), x9.2) else obind (m_X7_get 69 6 (nI (s_own S v)) x9.2) fun x10 => if x10.1 = nI v then some ((0, 0), x10.2) else some ((0, 7), x10.2) := by
          simp only [m_X11_against, c_isVersion hW hR, h1, obind_some, b2i_t, b2i_f, ne10, if_false, ef, if_true, c_demands hW hR, c_refuses hW hR hD hv, hr, Bool.not_true, s1, s2, c_own hW hI2.2.1 hv]
        have fin : ∀ (σ9 : Mem) (r : Int32), InvS S σ9 → m_X11_against (nI v) σ = some ((0, r), σ9) → ((r = 0 ∧ ∃ c, IsBest S (s_dems S (s_wsp S)) c ∧ c (s_own S v) = v + 1) ∨ (r = 7 ∧ (∃ c, SolF S (s_dems S (s_wsp S)) c ∧ c (s_own S v) = v + 1) ∧ ∀ c, IsBest S (s_dems S (s_wsp S)) c → c (s_own S v) ≠ v + 1) ∨ (r = 6 ∧ ∀ c, SolF S (s_dems S (s_wsp S)) c → c (s_own S v) ≠ v + 1)) → ∃ (k : Int32) (τ' : Nat → Int64) (σ1 : Mem) (bb : Int32) (m2 m3 : Mem), w_against (nI v) σ τ = some ((k, τ'), σ1) ∧ m_X12_against (nI v) σ1 = some (bb, m2) ∧ m_X12_thrown m2 = some (k, m3) ∧ (k = 0 → τ' 0 = bb.toInt64) ∧ Inv m3 := by
          intro σ9 r h9 he hcase
          obtain ⟨σ8, r', t1, t2, t3, t4⟩ := r_agK (h9.thrown 0) hv
          have er : r' = r := by
            rcases hcase with ⟨g0, c, gb, gc⟩ | ⟨g0, ⟨c, gs, gc⟩, gn⟩ | ⟨g0, gn⟩
            · rcases t4 with ⟨u0, -⟩ | ⟨u0, -, un⟩ | ⟨u0, un⟩
              · rw [g0, u0]
              · exact absurd gc (un c gb)
              · exact absurd gc (un c gb.1)
            · rcases t4 with ⟨u0, d, ud, ue⟩ | ⟨u0, -, un⟩ | ⟨u0, un⟩
              · exact absurd ue (gn d ud)
              · rw [g0, u0]
              · exact absurd gc (un c gs)
            · rcases t4 with ⟨u0, d, ud, ue⟩ | ⟨u0, ⟨d, ud, ue⟩, un⟩ | ⟨u0, un⟩
              · exact absurd ue (gn d ud.1)
              · exact absurd ue (gn d ud)
              · rw [g0, u0]
          subst er
          refine op_ok (mdl := m_X12_against (nI v)) (v := r') (σ1 := σ9) (m := σ8) he ?_ (by rw [t3, up_same]) ⟨S, t2⟩
          rw [hd0 hf σ9 h9, r_agLoop hW (h9.thrown 0).2.2.1 hv hD, hr, if_pos rfl]
          exact t1
        cases hb : b with
        | false =>
          refine fin σ2 6 hI2 (by rw [chead, hb, if_pos (show b2i false = 0 from rfl)]) (Or.inr (Or.inr ⟨rfl, fun c hs he => ?_⟩))
          have := s4.mpr ⟨c, hs, fun _ => he⟩
          rw [hb] at this
          cases this
        | true =>
          obtain ⟨c0, hs0, hc0⟩ := s4.mp hb
          have hc0 := hc0 (by omega)
          rw [Nat.add_sub_cancel] at hc0
          obtain ⟨σ3, b3, c, a1, a2, a3, a4, a5, a6⟩ := find_cls hI2
          rw [hb, if_neg (show ¬ b2i true = 0 by decide), a1, obind_s] at chead
          cases hb3 : b3 with
          | false => exact absurd hs0 (a6 hb3 c0)
          | true =>
            obtain ⟨g1, g2⟩ := a5 hb3
            have hcl : c (s_own S v) ≤ s_nv S := by
              rcases g1.1.1 _ ho with g | g
              · omega
              · have := g.1
                omega
            rw [hb3] at chead
            dsimp only at chead
            rw [if_neg (show ¬ b2i true = 0 by decide), x_get ho (by decide), g2 _ ho, obind_s] at chead
            dsimp only at chead
            by_cases hv2 : c (s_own S v) = v + 1
            · rw [if_pos ((oi_nI (show v < 2 ^ 30 by omega) (by omega)).mpr hv2)] at chead
              exact fin σ3 0 a2 chead (Or.inl ⟨rfl, c, g1, hv2⟩)
            · rw [if_neg (fun e => hv2 ((oi_nI (show v < 2 ^ 30 by omega) (by omega)).mp e))] at chead
              exact fin σ3 7 a2 chead (Or.inr (Or.inl ⟨rfl, ⟨c0, hs0, hc0⟩, fun d hd2 he => hv2 (by rw [g1.uni hd2 _ ho]; exact he)⟩))
    · refine op_ok (mdl := m_X12_against (nI v)) (v := nI (s_flaw S v)) (σ1 := σ) (m := up σ 94 0 0) ?_ ?_ (up_same _ _ _ _) ⟨S, hI.thrown 0⟩
      · simp only [m_X11_against, c_isVersion hW hR, h1, obind_some, b2i_t, ne10, if_false, c_flaw hW hR hv, nI_z (show s_flaw S v < 2 ^ 31 by omega), hf]
      · rw [hd1 hf σ hI]
end WHY
