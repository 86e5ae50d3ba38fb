/-! ===== sets that grow by rounds ===== -/
theorem up_ind2 {n : Nat} {P : Nat → Nat → Prop} (h0 : ∀ f, P n (f + 1)) (hs : ∀ i f, i < n → n - (i + 1) < f → P (i + 1) f → P i (f + 1)) : ∀ k i f, i + k = n → k < f → P i f := by
  intro k
  induction k with
  | zero =>
    intro i f hi hf
    obtain ⟨g, rfl⟩ : ∃ g, f = g + 1 := ⟨f - 1, by omega⟩
    rw [show i = n by omega]
    exact h0 g
  | succ k ih =>
    intro i f hi hf
    obtain ⟨g, rfl⟩ : ∃ g, f = g + 1 := ⟨f - 1, by omega⟩
    exact hs i g (by omega) (by omega) (ih (i + 1) g (by omega) (by omega))
theorem cntR_mono {n : Nat} {f g : Nat → Bool} (h : ∀ i, i < n → f i = true → g i = true) : cntR n f ≤ cntR n g := by
  induction n with
  | zero => exact Nat.le_refl _
  | succ n ih =>
    have h1 := ih fun i hi => h i (by omega)
    have h2 := h n (by omega)
    unfold cntR
    by_cases hf : f n = true
    · rw [if_pos hf, if_pos (h2 hf)]
      omega
    · rw [if_neg hf]
      split <;> omega
theorem cntR_lt {n : Nat} {f g : Nat → Bool} (h : ∀ i, i < n → f i = true → g i = true) {j : Nat} (hj : j < n) (h1 : f j = false) (h2 : g j = true) : cntR n f < cntR n g := by
  induction n with
  | zero => omega
  | succ n ih =>
    have hm := cntR_mono fun i (hi : i < n) => h i (by omega)
    unfold cntR
    by_cases e : j = n
    · subst e
      rw [h1, h2]
      simp
      omega
    · have h3 := ih (fun i hi => h i (by omega)) (by omega)
      have h4 := h n (by omega)
      by_cases hf : f n = true
      · rw [if_pos hf, if_pos (h4 hf)]
        omega
      · rw [if_neg hf]
        split <;> omega
theorem cntR_all {n : Nat} {f : Nat → Bool} (h : n ≤ cntR n f) : ∀ i, i < n → f i = true := by
  induction n with
  | zero => intro i hi; omega
  | succ n ih =>
    have h1 := cntR_le n f
    unfold cntR at h
    intro i hi
    by_cases hf : f n = true
    · rw [if_pos hf] at h
      by_cases e : i = n
      · rw [e, hf]
      · exact ih (by omega) i (by omega)
    · rw [if_neg hf] at h
      omega
theorem cntR_congr {n : Nat} {f g : Nat → Bool} (h : ∀ i, i < n → f i = g i) : cntR n f = cntR n g := by
  induction n with
  | zero => rfl
  | succ n ih =>
    unfold cntR
    rw [ih fun i hi => h i (by omega), h n (by omega)]
theorem bit_hi {x k j : Nat} (hx : x < 2 ^ k) (h : x.testBit j = true) : j < k := by
  rcases Nat.lt_or_ge j k with h2 | h2
  · exact h2
  · rw [Nat.testBit_lt_two_pow (Nat.lt_of_lt_of_le hx (Nat.pow_le_pow_right (by decide) h2))] at h
    cases h
theorem bits_eq {a b k : Nat} (ha : a < 2 ^ k) (hb : b < 2 ^ k) (h : ∀ j, j < k → a.testBit j = b.testBit j) : a = b := by
  apply Nat.eq_of_testBit_eq
  intro j
  rcases Nat.lt_or_ge j k with h2 | h2
  · exact h j h2
  · rw [Nat.testBit_lt_two_pow (Nat.lt_of_lt_of_le ha (Nat.pow_le_pow_right (by decide) h2)), Nat.testBit_lt_two_pow (Nat.lt_of_lt_of_le hb (Nat.pow_le_pow_right (by decide) h2))]
section RND
variable {key w : Nat → Nat}
def stp (key w : Nat → Nat) (P i : Nat) : Nat := if P.testBit (key i) = true then P ||| w i else P
def rndS (key w : Nat → Nat) : Nat → Nat → Nat
  | 0, P => P
  | n + 1, P => stp key w (rndS key w n P) n
def its (key w : Nat → Nat) (n : Nat) : Nat → Nat → Nat
  | 0, P => P
  | r + 1, P => rndS key w n (its key w n r P)
theorem stp_mono {P i q : Nat} (h : P.testBit q = true) : (stp key w P i).testBit q = true := by
  unfold stp
  split
  · rw [Nat.testBit_or, h, Bool.true_or]
  · exact h
theorem rnd_mono {P q : Nat} (n : Nat) (h : P.testBit q = true) : (rndS key w n P).testBit q = true := by
  induction n with
  | zero => exact h
  | succ n ih => exact stp_mono ih
theorem rnd_lt {P : Nat} (n : Nat) (hw : ∀ i, i < n → w i < 2 ^ 6) (hP : P < 2 ^ 6) : rndS key w n P < 2 ^ 6 := by
  induction n with
  | zero => exact hP
  | succ n ih =>
    have h1 := ih fun i hi => hw i (by omega)
    have h2 := hw n (by omega)
    show stp key w (rndS key w n P) n < 2 ^ 6
    unfold stp
    split
    · exact Nat.or_lt_two_pow h1 h2
    · exact h1
theorem rnd_sound {P : Nat} {Q : Nat → Prop} (n : Nat) (hQ : ∀ i, i < n → Q (key i) → ∀ q, (w i).testBit q = true → Q q) (hP : ∀ q, P.testBit q = true → Q q) : ∀ q, (rndS key w n P).testBit q = true → Q q := by
  induction n with
  | zero => exact hP
  | succ n ih =>
    have h1 := ih fun i hi => hQ i (by omega)
    intro q h
    have h : (stp key w (rndS key w n P) n).testBit q = true := h
    unfold stp at h
    split at h
    · rename_i h2
      rw [Nat.testBit_or, Bool.or_eq_true] at h
      rcases h with h | h
      · exact h1 q h
      · exact hQ n (by omega) (h1 _ h2) q h
    · exact h1 q h
def clo (key w : Nat → Nat) (n P : Nat) : Prop := ∀ i, i < n → P.testBit (key i) = true → ∀ q, (w i).testBit q = true → P.testBit q = true
theorem rnd_fix {P : Nat} (n : Nat) (h : ∀ q, (rndS key w n P).testBit q = true → P.testBit q = true) : clo key w n P := by
  induction n with
  | zero => intro i hi; omega
  | succ n ih =>
    have h1 : ∀ q, (rndS key w n P).testBit q = true → P.testBit q = true := fun q hq => h q (stp_mono hq)
    intro i hi hk q hq
    by_cases e : i = n
    · subst e
      refine h q ?_
      show (stp key w (rndS key w i P) i).testBit q = true
      unfold stp
      rw [if_pos (rnd_mono i hk), Nat.testBit_or, hq, Bool.or_true]
    · exact ih h1 i (by omega) hk q hq
theorem clo_rnd {P : Nat} (n : Nat) (h : clo key w n P) : rndS key w n P = P := by
  apply Nat.eq_of_testBit_eq
  intro q
  cases hq : P.testBit q with
  | true => exact rnd_mono n hq
  | false =>
    cases h2 : (rndS key w n P).testBit q with
    | false => rfl
    | true =>
      have := rnd_sound (Q := fun q => P.testBit q = true) n (fun i hi hk q hq => h i hi hk q hq) (fun q h => h) q h2
      rw [hq] at this
      cases this
theorem its_lt {P : Nat} {n : Nat} (hw : ∀ i, i < n → w i < 2 ^ 6) (hP : P < 2 ^ 6) (r : Nat) : its key w n r P < 2 ^ 6 := by
  induction r with
  | zero => exact hP
  | succ r ih => exact rnd_lt n hw ih
theorem its_sound {P : Nat} {Q : Nat → Prop} {n : Nat} (hQ : ∀ i, i < n → Q (key i) → ∀ q, (w i).testBit q = true → Q q) (hP : ∀ q, P.testBit q = true → Q q) (r : Nat) : ∀ q, (its key w n r P).testBit q = true → Q q := by
  induction r with
  | zero => exact hP
  | succ r ih => exact rnd_sound n hQ ih
theorem its_mono {P q : Nat} {n : Nat} (r : Nat) (h : P.testBit q = true) : (its key w n r P).testBit q = true := by
  induction r with
  | zero => exact h
  | succ r ih => exact rnd_mono n ih
def cnt6 (P : Nat) : Nat := cntR 6 fun p => P.testBit p
theorem rnd_grow {P : Nat} (n : Nat) (hw : ∀ i, i < n → w i < 2 ^ 6) (hP : P < 2 ^ 6) : clo key w n P ∨ cnt6 P < cnt6 (rndS key w n P) := by
  by_cases h : ∀ q, (rndS key w n P).testBit q = true → P.testBit q = true
  · exact Or.inl (rnd_fix n h)
  · refine Or.inr ?_
    obtain ⟨q, hq⟩ := Classical.not_forall.mp h
    obtain ⟨h1, h2⟩ := Classical.not_imp.mp hq
    exact cntR_lt (fun i _ hi => rnd_mono n hi) (bit_hi (rnd_lt n hw hP) h1) (by simpa using h2) h1
theorem full_clo {P n : Nat} (hw : ∀ i, i < n → w i < 2 ^ 6) (h : 6 ≤ cnt6 P) : clo key w n P := fun i hi _ q hq => cntR_all h q (bit_hi (hw i hi) hq)
theorem its_clo {P n : Nat} (hw : ∀ i, i < n → w i < 2 ^ 6) (hP : P < 2 ^ 6) : clo key w n (its key w n 6 P) := by
  have key' : ∀ r, clo key w n (its key w n r P) ∨ r ≤ cnt6 (its key w n r P) := by
    intro r
    induction r with
    | zero => exact Or.inr (Nat.zero_le _)
    | succ r ih =>
      rcases rnd_grow (key := key) (w := w) n hw (its_lt hw hP r) with h1 | h1
      · refine Or.inl ?_
        show clo key w n (rndS key w n (its key w n r P))
        rw [clo_rnd n h1]
        exact h1
      · rcases ih with h2 | h2
        · refine Or.inl ?_
          show clo key w n (rndS key w n (its key w n r P))
          rw [clo_rnd n h2]
          exact h2
        · exact Or.inr (Nat.lt_of_le_of_lt h2 h1)
  rcases key' 6 with h | h
  · exact h
  · exact full_clo hw h
end RND
/-! ===== the class: turning on, in rounds ===== -/
def OnF (S : SP) (D : Nat) (c F : Nat → Nat) : Prop := ∀ p, p < 6 → ∀ f, f < 3 → (On S D c p f ↔ (F p).testBit f = true)
section CLS4
variable {S : SP} {pa oa D : Nat} {c F : Nat → Nat} {σ : Mem}
theorem c_fill {a n : Nat} {x : Int32} (hn : n < 100) : ∃ σ', m_X7_fill a n x σ = some (0, σ') ∧ fr [a] σ σ' ∧ ∀ j, j < n → σ' a j = x := by
  have key := up_fu (n := n) (P := fun i f => ∀ σ : Mem, (∀ j, j < i → σ a j = x) → ∃ σ', m_J7_fill_53178_5 a n f x (nI i) (nI n) σ = some (0, σ') ∧ fr [a] σ σ' ∧ ∀ j, j < n → σ' a j = x) (by omega) (fun f σ h => by
      refine ⟨σ, ?_, fr.refl, h⟩
      unfold m_J7_fill_53178_5
      rw [if_pos (nI_le (Nat.le_refl _) (by omega))]) (fun i f hi ih σ h => by
      obtain ⟨σ', q1, q2, q3⟩ := ih (up σ a i x) (fun j hj => by
        by_cases e : j = i
        · subst e
          exact up_same _ _ _ _
        · rw [up_off _ _ (Or.inr e)]
          exact h j (by omega))
      refine ⟨σ', ?_, (fr.up (by simp)).trans q2, q3⟩
      rw [m_J7_fill_53178_5]
      rw [if_neg (nI_ge hi (by omega)), ast_nI hi (by omega), obind_some, nI_1]
      exact q1) 0 (Nat.zero_le _) σ (fun j hj => by omega)
  obtain ⟨σ', q1, q2, q3⟩ := key
  refine ⟨σ', ?_, q2, q3⟩
  unfold m_X7_fill m_J7_fill_53178
  rw [obind_s]
  have q1 : m_J7_fill_53178_5 a n FU x 0 (Int32.ofNat n) σ = some (0, σ') := q1
  rw [q1, obind_s]
theorem c_ton_round (hW : WF S) {r : Nat} {f72 : Int32 → Int32 → Mem → Option (Int32 × Mem)} : ∀ i, i ≤ 6 → ∀ (σ : Mem) (F : Nat → Nat) (g0 : Bool), CH S pa oa c F σ → ∃ σ' F' g', m_X1_turnOn_87 pa oa f72 FU (b2i g0) (nI r) (nI i) σ = f72 (b2i (g0 || g')) (nI (r + 1)) σ' ∧ CH S pa oa c F' σ' ∧ fr [oa] σ σ' ∧ SpS S D c F F' g' ∧ (g' = false → ∀ p, i ≤ p → p < 6 → c p ≠ 0 → ClB S F p (c p - 1) ∧ ClN S F (fun _ => True) p (c p - 1)) := by
  refine up_fu (n := 6) (P := fun i f => ∀ (σ : Mem) (F : Nat → Nat) (g0 : Bool), CH S pa oa c F σ → ∃ σ' F' g', m_X1_turnOn_87 pa oa f72 f (b2i g0) (nI r) (nI i) σ = f72 (b2i (g0 || g')) (nI (r + 1)) σ' ∧ CH S pa oa c F' σ' ∧ fr [oa] σ σ' ∧ SpS S D c F F' g' ∧ (g' = false → ∀ p, i ≤ p → p < 6 → c p ≠ 0 → ClB S F p (c p - 1) ∧ ClN S F (fun _ => True) p (c p - 1))) (by decide) (fun f σ F g0 h => ?_) (fun i f hi ih σ F g0 h => ?_)
  · refine ⟨σ, F, false, ?_, h, fr.refl, SpS.refl, fun _ p h1 h2 => absurd h2 (by omega)⟩
    unfold m_X1_turnOn_87
    rw [if_pos (show (6 : Int32) ≤ nI 6 by decide), nI_1, Bool.or_false]
  · obtain ⟨σ1, F1, g1, a1, a2, a3, a4, a5⟩ := c_turnOnBy (D := D) hW hi h
    obtain ⟨σ', F', g', q1, q2, q3, q4, q5⟩ := ih σ1 F1 (g0 || g1) a2
    refine ⟨σ', F', g1 || g', ?_, q2, a3.trans q3, a4.trans q4, fun hg p h1 h2 h3 => ?_⟩
    · rw [m_X1_turnOn_87]
      rw [if_neg (show ¬ (6 : Int32) ≤ nI i from nI_ge (b := 6) hi (by decide)), a1, obind_some, nI_1, ← Bool.or_assoc]
      refine Eq.trans ?_ q1
      cases g1
      · rw [if_pos (show b2i false = 0 from rfl), Bool.or_false]
      · rw [if_neg (show ¬ b2i true = 0 by decide), Bool.or_true]
        rfl
    · rw [Bool.or_eq_false_iff] at hg
      have hid := a4.2.1 hg.1
      rw [hid] at q5
      by_cases e : p = i
      · subst e
        exact a5 hg.1 h3
      · exact q5 hg.2 p (by omega) h2 h3
theorem c_ton_rounds (hW : WF S) : ∀ (k r f : Nat), r + k = 19 → k < f → ∀ (σ : Mem) (F : Nat → Nat), CH S pa oa c F σ → r ≤ wt6 F → ∃ σ' F', m_X1_turnOn_72 pa oa f 1 (nI r) σ = some (0, σ') ∧ CH S pa oa c F' σ' ∧ fr [oa] σ σ' ∧ (∀ T, Cl S D c T → bitsIn F T → bitsIn F' T) ∧ (∀ q f, (F q).testBit f = true → (F' q).testBit f = true) ∧ ∀ p, p < 6 → c p ≠ 0 → ClB S F' p (c p - 1) ∧ ClN S F' (fun _ => True) p (c p - 1) := by
  refine up_ind2 (n := 19) (P := fun r f => ∀ (σ : Mem) (F : Nat → Nat), CH S pa oa c F σ → r ≤ wt6 F → ∃ σ' F', m_X1_turnOn_72 pa oa f 1 (nI r) σ = some (0, σ') ∧ CH S pa oa c F' σ' ∧ fr [oa] σ σ' ∧ (∀ T, Cl S D c T → bitsIn F T → bitsIn F' T) ∧ (∀ q f, (F q).testBit f = true → (F' q).testBit f = true) ∧ ∀ p, p < 6 → c p ≠ 0 → ClB S F' p (c p - 1) ∧ ClN S F' (fun _ => True) p (c p - 1)) (fun f σ F h hw => ?_) (fun r f hr hf ih σ F h hw => ?_)
  · have := wt6_le F
    omega
  · obtain ⟨σ1, F1, g1, a1, a2, a3, a4, a5⟩ := c_ton_round (D := D) hW (r := r) (f72 := m_X1_turnOn_72 pa oa f) 0 (by decide) σ F false h
    have e : m_X1_turnOn_72 pa oa (f + 1) 1 (nI r) σ = m_X1_turnOn_72 pa oa f (b2i g1) (nI (r + 1)) σ1 := by
      rw [m_X1_turnOn_72]
      rw [if_neg (by decide), if_neg (fun h2 => by have := (nI_ltI (a := 18) (by decide) (show r < 2 ^ 31 by omega)).mp h2; omega)]
      rw [Bool.false_or] at a1
      exact a1
    cases hg : g1 with
    | true =>
      rw [hg] at e
      obtain ⟨σ', F', q1, q2, q3, q4, q5, q6⟩ := ih σ1 F1 a2 (by have := a4.2.2.1 hg; omega)
      exact ⟨σ', F', by rw [e]; exact q1, q2, a3.trans q3, fun T hT hF => q4 T hT (a4.1 T hT hF), fun q f hb => q5 q f (a4.2.2.2 q f hb), q6⟩
    | false =>
      rw [hg] at e
      obtain ⟨g, rfl⟩ : ∃ g, f = g + 1 := ⟨f - 1, by omega⟩
      have hid := a4.2.1 hg
      refine ⟨σ1, F1, ?_, a2, a3, a4.1, a4.2.2.2, fun p hp hc => ?_⟩
      · rw [e, m_X1_turnOn_72]
        rw [if_pos (show b2i false = 0 from rfl)]
      · rw [hid]
        exact a5 hg p (Nat.zero_le _) hp hc
theorem CH.ini (hR : RC S σ) (h1 : pa ≠ oa) (h2 : ∀ k ∈ cData, k ∉ [oa]) (hc : ∀ p, p < 6 → σ pa p = oi (c p)) (hn : ∀ p, p < 6 → c p ≤ s_nv S) : ∃ σ', m_X7_fill oa 6 0 σ = some (0, σ') ∧ fr [oa] σ σ' ∧ CH S pa oa c (fun _ => 0) σ' := by
  obtain ⟨σ', q1, q2, q3⟩ := c_fill (σ := σ) (a := oa) (n := 6) (x := 0) (by decide)
  exact ⟨σ', q1, q2, hR.fr q2 h2, h1, h2, fun p hp => by rw [q2 pa (by simp [h1])]; exact hc p hp, fun p hp => q3 p hp, fun p hp => (show 0 < 8 by decide), hn⟩
theorem c_turnOn (hW : WF S) (hD : D < 64) (hR : RC S σ) (h1 : pa ≠ oa) (h2 : ∀ k ∈ cData, k ∉ [oa]) (hc : ∀ p, p < 6 → σ pa p = oi (c p)) (hn : ∀ p, p < 6 → c p ≤ s_nv S) : ∃ σ' F, m_X1_turnOn pa oa (nI D) σ = some (0, σ') ∧ CH S pa oa c F σ' ∧ fr [oa] σ σ' ∧ OnF S D c F := by
  have h6 := hW.nd
  obtain ⟨σ0, b1, b2, b3⟩ := CH.ini hR h1 h2 hc hn
  have key := up_fu (n := s_nd S) (P := fun i f => ∀ (σ : Mem) (F : Nat → Nat), CH S pa oa c F σ → (∀ T, Cl S D c T → bitsIn F T) → (∀ d, d < i → D.testBit d = true → ∀ f, f < 3 → (s_dfs S d).testBit f = true → (F (s_heir S (s_dtg S d))).testBit f = true) → ∃ σ' F', m_X1_turnOn_10 pa oa f (nI D) (nI i) σ = some (0, σ') ∧ CH S pa oa c F' σ' ∧ fr [oa] σ σ' ∧ OnF S D c F') (by omega) (fun f σ F h hin hd => by
      obtain ⟨σ', F', q1, q2, q3, q4, q5, q6⟩ := c_ton_rounds (D := D) hW 19 0 FU (by omega) (by rw [FU_eq]; omega) σ F h (Nat.zero_le _)
      refine ⟨σ', F', ?_, q2, q3, fun p hp f hf => On_of hW (Z := fun _ => True) (fun p hp h0 => by have := hn p hp; omega) (fun _ _ _ => trivial) (fun T hT => q4 T hT (hin T hT)) (fun d hd2 hb f hf hb2 _ => q5 _ f (hd d hd2 hb f hf hb2)) (fun p hp h0 => (q6 p hp h0).1) (fun p hp h0 => (q6 p hp h0).2) hp trivial hf⟩
      rw [m_X1_turnOn_10]
      rw [h.1.nd, if_pos (nI_le (Nat.le_refl _) (by omega))]
      exact q1) (fun i f hi ih σ F h hin hd => by
      have wd := hW.dem hi
      have wh := s_heir_lt hW wd.2.1
      have e1 : m_X7_get 55 6 (nI i) σ = some (nI (s_dfs S i), σ) := by rw [x_get (by omega) (by decide), (h.1.dem hi).2.2.2]
      have e2 := c_targetOfDemand hW h.1 hi
      have e3 : m_X11_isIn (nI D) (nI i) σ = some (b2i (D.testBit i), σ) := x_isIn (by omega) (by omega)
      have hF := h.2.2.2.2.2.1 _ wh
      have hx : s_dfs S i < 8 := by omega
      cases hb : D.testBit i with
      | true =>
        have e4 := h.merge wh hx
        have hst : SpS S D c F (mgF F (s_heir S (s_dtg S i)) (s_dfs S i)) _ := SpS.mg wh hF hx (fun T hT _ f hf hb2 => hT.1 i hi hb f hf hb2)
        obtain ⟨σ', F', q1, q2, q3, q4⟩ := ih _ _ (h.mg wh hx) (fun T hT => hst.1 T hT (hin T hT)) (fun d hd2 hb1 f hf hb2 => by
          rw [mgF_bit]
          by_cases e : d = i
          · subst e
            simp [hb2]
          · rw [hd d (by omega) hb1 f hf hb2, Bool.true_or])
        refine ⟨σ', F', ?_, q2, (fr.up (by simp)).trans q3, q4⟩
        rw [m_X1_turnOn_10]
        rw [h.1.nd, if_neg (nI_ge hi (by omega)), e3, obind_some, hb, if_neg (show ¬ b2i true = 0 by decide), e2, obind_some, e1, obind_some, e4, obind_some, nI_1]
        exact q1
      | false =>
        obtain ⟨σ', F', q1, q2, q3, q4⟩ := ih _ _ h hin (fun d hd2 hb1 f hf hb2 => by
          by_cases e : d = i
          · subst e
            rw [hb] at hb1
            cases hb1
          · exact hd d (by omega) hb1 f hf hb2)
        refine ⟨σ', F', ?_, q2, q3, q4⟩
        rw [m_X1_turnOn_10]
        rw [h.1.nd, if_neg (nI_ge hi (by omega)), e3, obind_some, hb, if_pos (show b2i false = 0 from rfl), nI_1]
        exact q1) 0 (Nat.zero_le _) σ0 (fun _ => 0) b3 (fun T hT q _ f _ hb => by simp at hb) (fun d hd => by omega)
  obtain ⟨σ', F', q1, q2, q3, q4⟩ := key
  refine ⟨σ', F', ?_, q2, b2.trans q3, q4⟩
  unfold m_X1_turnOn
  rw [b1, obind_s]
  exact q1
end CLS4
