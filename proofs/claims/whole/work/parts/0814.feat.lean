/-! ===== frames ===== -/
def fr (l : List Nat) (σ σ' : Mem) : Prop := ∀ k, k ∉ l → σ' k = σ k
theorem fr.refl {l : List Nat} {σ : Mem} : fr l σ σ := fun _ _ => rfl
theorem fr.trans {l : List Nat} {σ σ' σ'' : Mem} (h : fr l σ σ') (h' : fr l σ' σ'') : fr l σ σ'' := fun k hk => (h' k hk).trans (h k hk)
theorem fr.up {l : List Nat} {σ : Mem} {a k : Nat} {x : Int32} (h : a ∈ l) : fr l σ (up σ a k x) := fun k' hk => up_pl σ x (fun e => hk (e ▸ h))
theorem fr.mono {l l' : List Nat} {σ σ' : Mem} (h : fr l σ σ') (hl : ∀ k ∈ l, k ∈ l') : fr l' σ σ' := fun k hk => h k (fun h2 => hk (hl k h2))
theorem RC.fr {l : List Nat} {S : SP} {σ σ' : Mem} (hR : RC S σ) (h : fr l σ σ') (hl : ∀ k ∈ cData, k ∉ l) : RC S σ' := hR.congr fun k hk => h k (hl k hk)
/-! ===== the features that are on: steps ===== -/
def bitsIn (F : Nat → Nat) (T : Nat → Nat → Prop) : Prop := ∀ q, q < 6 → ∀ f, f < 3 → (F q).testBit f = true → T q f
def pc3 (x : Nat) : Nat := x % 2 + x / 2 % 2 + x / 4 % 2
def wt6 (F : Nat → Nat) : Nat := pc3 (F 0) + pc3 (F 1) + pc3 (F 2) + pc3 (F 3) + pc3 (F 4) + pc3 (F 5)
theorem pc3_le (x : Nat) : pc3 x ≤ 3 := by unfold pc3; omega
theorem wt6_le (F : Nat → Nat) : wt6 F ≤ 18 := by
  have := pc3_le (F 0)
  have := pc3_le (F 1)
  have := pc3_le (F 2)
  have := pc3_le (F 3)
  have := pc3_le (F 4)
  have := pc3_le (F 5)
  unfold wt6
  omega
theorem pc3_lt : ∀ a, a < 8 → ∀ b, b < 8 → ¬ (a ||| b) = a → pc3 a < pc3 (a ||| b) := by decide
def mgF (F : Nat → Nat) (t x : Nat) : Nat → Nat := fun p => if p = t then F p ||| x else F p
theorem mg_same {F : Nat → Nat} {t x : Nat} : mgF F t x t = F t ||| x := if_pos rfl
theorem mg_off {F : Nat → Nat} {t x p : Nat} (h : p ≠ t) : mgF F t x p = F p := if_neg h
theorem mg_id {F : Nat → Nat} {t x : Nat} (h : F t ||| x = F t) : mgF F t x = F := by
  funext p
  unfold mgF
  split
  · rename_i h2
    rw [h2, h]
  · rfl
theorem mgF_bit {F : Nat → Nat} {t x p f : Nat} : (mgF F t x p).testBit f = ((F p).testBit f || (decide (p = t) && x.testBit f)) := by
  unfold mgF
  split
  · rename_i h
    subst h
    rw [Nat.testBit_or]
    simp
  · rename_i h
    simp [h]
theorem mg_wt {F : Nat → Nat} {t x : Nat} (ht : t < 6) (hF : F t < 8) (hx : x < 8) (h : ¬ F t ||| x = F t) : wt6 F < wt6 (mgF F t x) := by
  have h1 := pc3_lt (F t) hF x hx h
  have e : ∀ p, pc3 (mgF F t x p) = if p = t then pc3 (F t ||| x) else pc3 (F p) := fun p => by
    unfold mgF
    split
    · rename_i h2
      rw [h2]
    · rfl
  unfold wt6
  rw [e, e, e, e, e, e]
  have ht2 : t = 0 ∨ t = 1 ∨ t = 2 ∨ t = 3 ∨ t = 4 ∨ t = 5 := by omega
  rcases ht2 with h2 | h2 | h2 | h2 | h2 | h2 <;> subst h2 <;> simp <;> omega
theorem or_bit {a b f : Nat} (h : a ||| b = a) (hf : b.testBit f = true) : a.testBit f = true := by
  rw [← h, Nat.testBit_or, hf, Bool.or_true]
def SpS (S : SP) (D : Nat) (c F F' : Nat → Nat) (g : Bool) : Prop := (∀ T, Cl S D c T → bitsIn F T → bitsIn F' T) ∧ (g = false → F' = F) ∧ (g = true → wt6 F < wt6 F') ∧ ∀ q f, (F q).testBit f = true → (F' q).testBit f = true
section FEAT
variable {S : SP} {D : Nat} {c : Nat → Nat}
theorem SpS.refl {F : Nat → Nat} : SpS S D c F F false := ⟨fun T _ h => h, ⟨fun _ => rfl, ⟨fun h => absurd h (by decide), fun q f h => h⟩⟩⟩
theorem SpS.trans {F F' F'' : Nat → Nat} {g g' : Bool} (h : SpS S D c F F' g) (h' : SpS S D c F' F'' g') : SpS S D c F F'' (g || g') := by
  obtain ⟨a1, a2, a3, a4⟩ := h
  obtain ⟨b1, b2, b3, b4⟩ := h'
  refine ⟨fun T hT hF => b1 T hT (a1 T hT hF), fun h => ?_, fun h => ?_, fun q f h => b4 q f (a4 q f h)⟩
  · rw [Bool.or_eq_false_iff] at h
    rw [b2 h.2, a2 h.1]
  · cases hg : g with
    | true =>
      cases hg' : g' with
      | true => exact Nat.lt_trans (a3 hg) (b3 hg')
      | false =>
        rw [b2 hg']
        exact a3 hg
    | false =>
      rw [hg, Bool.false_or] at h
      rw [← a2 hg]
      exact b3 h
theorem SpS.mg {F : Nat → Nat} {t x : Nat} (ht : t < 6) (hF : F t < 8) (hx : x < 8) (h : ∀ T, Cl S D c T → bitsIn F T → ∀ f, f < 3 → x.testBit f = true → T t f) : SpS S D c F (mgF F t x) (decide (F t ||| x ≠ F t)) := by
  refine ⟨fun T hT hF2 q hq f hf hb => ?_, fun hd => ?_, fun hd => ?_, fun q f hb => ?_⟩
  · rw [mgF_bit, Bool.or_eq_true] at hb
    rcases hb with hb | hb
    · exact hF2 q hq f hf hb
    · rw [Bool.and_eq_true] at hb
      have e : q = t := of_decide_eq_true hb.1
      rw [e]
      exact h T hT hF2 f hf hb.2
  · exact mg_id (by simpa using hd)
  · exact mg_wt ht hF hx (by simpa using hd)
  · rw [mgF_bit, hb, Bool.true_or]
/-- a version's features and needs are spread -/
def ClB (S : SP) (F : Nat → Nat) (p v : Nat) : Prop := ∀ f, f < 3 → (F p).testBit f = true → ∀ g, g < 3 → (s_br S (3 * v + f)).testBit g = true → (F p).testBit g = true
def ClN (S : SP) (F : Nat → Nat) (Z : Nat → Prop) (p v : Nat) : Prop := ∀ k, k < s_nn S v → s_counts S (5 * v + k) (F p) = true → ∀ f, f < 3 → (s_nfs S (5 * v + k)).testBit f = true → Z (s_heir S (s_tgt S (5 * v + k))) → (F (s_heir S (s_tgt S (5 * v + k)))).testBit f = true
theorem s_counts_T {F : Nat → Nat} {T : Nat → Nat → Prop} {p w : Nat} (hp : p < 6) (h3 : s_nft S w ≤ 3) (h : s_counts S w (F p) = true) (hT : bitsIn F T) : CntT S T p w := by
  unfold s_counts at h
  rw [Bool.and_eq_true, Bool.or_eq_true] at h
  refine ⟨h.1, ?_⟩
  rcases h.2 with h2 | h2
  · exact Or.inl (by simpa using h2)
  · by_cases h0 : s_nft S w = 0
    · exact Or.inl h0
    · exact Or.inr (hT p hp _ (by omega) h2)
theorem s_counts_F {F : Nat → Nat} {T : Nat → Nat → Prop} {p w : Nat} (hT : ∀ f, T p f → (F p).testBit f = true) (h : CntT S T p w) : s_counts S w (F p) = true := by
  unfold s_counts
  rw [Bool.and_eq_true, Bool.or_eq_true]
  refine ⟨h.1, ?_⟩
  rcases h.2 with h2 | h2
  · exact Or.inl (by simpa using h2)
  · exact Or.inr (hT _ h2)
/-- what is closed, and is in all that are closed, is what is on; Z: the packages that are spread to -/
theorem On_of (hW : WF S) {F : Nat → Nat} {Z : Nat → Prop} (hc : ∀ p, p < 6 → c p ≠ 0 → c p - 1 < s_nv S) (hZ : ∀ p, p < 6 → c p ≠ 0 → Z p) (hin : ∀ T, Cl S D c T → bitsIn F T) (hd : ∀ d, d < s_nd S → D.testBit d = true → ∀ f, f < 3 → (s_dfs S d).testBit f = true → Z (s_heir S (s_dtg S d)) → (F (s_heir S (s_dtg S d))).testBit f = true) (hB : ∀ p, p < 6 → c p ≠ 0 → ClB S F p (c p - 1)) (hN : ∀ p, p < 6 → c p ≠ 0 → ClN S F Z p (c p - 1)) {p f : Nat} (hp : p < 6) (hz : Z p) (hf : f < 3) : On S D c p f ↔ (F p).testBit f = true := by
  constructor
  · intro h
    have h2 := h (fun q g => (Z q → g < 3 → (F q).testBit g = true)) ⟨fun d h1 h2 f hf h3 hz _ => hd d h1 h2 f hf h3 hz, fun q hq hcq f hf hT g hg hb hz _ => hB q hq hcq f hf (hT (hZ q hq hcq) hf) g hg hb, fun q hq hcq k hk hcn f hf hb hz _ => ?_⟩
    · exact h2 hz hf
    · have wn := hW.need (hc q hq hcq) hk
      refine hN q hq hcq k hk ?_ f hf hb hz
      unfold s_counts
      rw [Bool.and_eq_true, Bool.or_eq_true]
      refine ⟨hcn.1, ?_⟩
      rcases hcn.2 with h2 | h2
      · exact Or.inl (by simpa using h2)
      · by_cases h0 : s_nft S (5 * (c q - 1) + k) = 0
        · exact Or.inl (by simpa using h0)
        · exact Or.inr (h2 (hZ q hq hcq) (by omega))
  · intro h T hT
    exact hin T hT p hp f hf h
end FEAT
/-! ===== the class: the features are turned on ===== -/
def CH (S : SP) (pa oa : Nat) (c F : Nat → Nat) (σ : Mem) : Prop := RC S σ ∧ pa ≠ oa ∧ (∀ k ∈ cData, k ∉ [oa]) ∧ (∀ p, p < 6 → σ pa p = oi (c p)) ∧ (∀ p, p < 6 → σ oa p = nI (F p)) ∧ (∀ p, p < 6 → F p < 8) ∧ (∀ p, p < 6 → c p ≤ s_nv S)
section CLS3
variable {S : SP} {pa oa D : Nat} {c F : Nat → Nat} {σ : Mem}
theorem CH.mg (h : CH S pa oa c F σ) {t x : Nat} (ht : t < 6) (hx : x < 8) : CH S pa oa c (mgF F t x) (up σ oa t (nI (F t ||| x))) := by
  obtain ⟨h1, h2, h3, h4, h5, h6, h7⟩ := h
  refine ⟨h1.fr (fr.up (l := [oa]) (by simp)) h3, h2, h3, fun p hp => ?_, fun p hp => ?_, fun p hp => ?_, h7⟩
  · rw [up_pl _ _ h2]
    exact h4 p hp
  · by_cases e : p = t
    · subst e
      rw [up_same, mg_same]
    · rw [up_off _ _ (Or.inr e), mg_off e]
      exact h5 p hp
  · unfold mgF
    split
    · exact Nat.or_lt_two_pow (n := 3) (h6 p hp) hx
    · exact h6 p hp
theorem CH.merge (h : CH S pa oa c F σ) {t x : Nat} (ht : t < 6) (hx : x < 8) : m_X7_merge oa 6 (nI t) (nI x) σ = some (b2i (decide (F t ||| x ≠ F t)), up σ oa t (nI (F t ||| x))) := x_merge ht (by decide) (h.2.2.2.2.1 t ht) (by have := h.2.2.2.2.2.1 t ht; omega) (by omega)
theorem CH.on (h : CH S pa oa c F σ) {p : Nat} (hp : p < 6) : m_X7_get oa 6 (nI p) σ = some (nI (F p), σ) := by rw [x_get hp (by decide), h.2.2.2.2.1 p hp]
theorem CH.pick (h : CH S pa oa c F σ) {p : Nat} (hp : p < 6) : m_X7_get pa 6 (nI p) σ = some (oi (c p), σ) := by rw [x_get hp (by decide), h.2.2.2.1 p hp]
theorem c_tob_loop (hW : WF S) {p v : Nat} (hp : p < 6) (hv : v < s_nv S) (hcp : c p = v + 1) {f : Nat} : ∀ k i f, i + k = s_nn S v → k < f → ∀ (σ : Mem) (F : Nat → Nat) (g0 : Bool), CH S pa oa c F σ → ∃ σ' F' g', m_X1_turnOnBy_70 pa oa f (nI p) (b2i g0) (nI (5 * v + s_nn S v)) (nI (5 * v + i)) σ = some (b2i (g0 || g'), σ') ∧ CH S pa oa c F' σ' ∧ fr [oa] σ σ' ∧ SpS S D c F F' g' ∧ (g' = false → ∀ k, i ≤ k → k < s_nn S v → s_counts S (5 * v + k) (F p) = true → ∀ f, f < 3 → (s_nfs S (5 * v + k)).testBit f = true → (F (s_heir S (s_tgt S (5 * v + k)))).testBit f = true) := by
  have h24 := hW.nv
  have h5 := hW.nn (show v < 24 by omega)
  refine up_ind (n := s_nn S v) (P := fun i f => ∀ (σ : Mem) (F : Nat → Nat) (g0 : Bool), CH S pa oa c F σ → ∃ σ' F' g', m_X1_turnOnBy_70 pa oa f (nI p) (b2i g0) (nI (5 * v + s_nn S v)) (nI (5 * v + i)) σ = some (b2i (g0 || g'), σ') ∧ CH S pa oa c F' σ' ∧ fr [oa] σ σ' ∧ SpS S D c F F' g' ∧ (g' = false → ∀ k, i ≤ k → k < s_nn S v → s_counts S (5 * v + k) (F p) = true → ∀ f, f < 3 → (s_nfs S (5 * v + k)).testBit f = true → (F (s_heir S (s_tgt S (5 * v + k)))).testBit f = true)) (fun f σ F g0 h => ?_) (fun i f hi ih σ F g0 h => ?_)
  · refine ⟨σ, F, false, ?_, h, fr.refl, SpS.refl, fun _ k h1 h2 => absurd h2 (by omega)⟩
    unfold m_X1_turnOnBy_70
    rw [if_pos (nI_le (Nat.le_refl _) (by omega)), zchk_b, Bool.or_false]
    rfl
  · have hR := h.1
    have wn := hW.need hv hi
    have wh := s_heir_lt hW wn.1
    have hF := h.2.2.2.2.2.1
    have e1 : m_X7_get 44 120 (nI (5 * v + i)) σ = some (nI (s_nfs S (5 * v + i)), σ) := by rw [x_get (by omega) (by decide), (hR.need hv hi).2.2.2.2.2]
    have e2 := c_counts hW hR hv hi (show F p < 2 ^ 31 by have := hF p hp; omega)
    have e3 := c_targetOfNeed hW hR hv hi
    have e4 := h.merge wh (show s_nfs S (5 * v + i) < 8 by omega)
    have skip : (∀ f, f < 3 → s_counts S (5 * v + i) (F p) = true → (s_nfs S (5 * v + i)).testBit f = true → (F (s_heir S (s_tgt S (5 * v + i)))).testBit f = true) → m_X1_turnOnBy_70 pa oa (f + 1) (nI p) (b2i g0) (nI (5 * v + s_nn S v)) (nI (5 * v + i)) σ = m_X1_turnOnBy_70 pa oa f (nI p) (b2i g0) (nI (5 * v + s_nn S v)) (nI (5 * v + (i + 1))) σ → ∃ σ' F' g', m_X1_turnOnBy_70 pa oa (f + 1) (nI p) (b2i g0) (nI (5 * v + s_nn S v)) (nI (5 * v + i)) σ = some (b2i (g0 || g'), σ') ∧ CH S pa oa c F' σ' ∧ fr [oa] σ σ' ∧ SpS S D c F F' g' ∧ (g' = false → ∀ k, i ≤ k → k < s_nn S v → s_counts S (5 * v + k) (F p) = true → ∀ f, f < 3 → (s_nfs S (5 * v + k)).testBit f = true → (F (s_heir S (s_tgt S (5 * v + k)))).testBit f = true) := by
      intro hs he
      obtain ⟨σ', F', g', q1, q2, q3, q4, q5⟩ := ih σ F g0 h
      refine ⟨σ', F', g', by rw [he, q1], q2, q3, q4, fun hg k h1 h2 h3 f hf h4 => ?_⟩
      by_cases e : k = i
      · subst e
        exact hs f hf h3 h4
      · exact q5 hg k (by omega) h2 h3 f hf h4
    by_cases h0 : s_nfs S (5 * v + i) = 0
    · refine skip (fun f _ _ hb => ?_) ?_
      · rw [h0] at hb
        simp at hb
      · rw [m_X1_turnOnBy_70]
        rw [if_neg (nI_ge (show 5 * v + i < 5 * v + s_nn S v by omega) (by omega)), e1, obind_some, if_pos ((nI_z (by omega)).mpr h0), nI_1]
        rfl
    · cases hcn : s_counts S (5 * v + i) (F p) with
      | false =>
        refine skip (fun f _ hb _ => ?_) ?_
        · rw [hcn] at hb
          cases hb
        · rw [m_X1_turnOnBy_70]
          rw [if_neg (nI_ge (show 5 * v + i < 5 * v + s_nn S v by omega) (by omega)), e1, obind_some, if_neg (fun e => h0 ((nI_z (by omega)).mp e)), h.on hp, obind_some, e2, hcn, obind_some, if_pos (show b2i false = 0 from rfl), nI_1]
          rfl
      | true =>
        have hst : SpS S D c F (mgF F (s_heir S (s_tgt S (5 * v + i))) (s_nfs S (5 * v + i))) (decide (F (s_heir S (s_tgt S (5 * v + i))) ||| s_nfs S (5 * v + i) ≠ F (s_heir S (s_tgt S (5 * v + i))))) := by
          refine SpS.mg wh (hF _ wh) (by omega) (fun T hT hFT f hf hb => ?_)
          have := hT.2.2 p hp (by omega) i (by rw [hcp]; exact hi)
          rw [hcp, Nat.add_sub_cancel] at this
          exact this (s_counts_T hp wn.2.2.2.1 hcn hFT) f hf hb
        obtain ⟨σ', F', g', q1, q2, q3, q4, q5⟩ := ih _ _ (g0 || decide (F (s_heir S (s_tgt S (5 * v + i))) ||| s_nfs S (5 * v + i) ≠ F (s_heir S (s_tgt S (5 * v + i))))) (h.mg wh (show s_nfs S (5 * v + i) < 8 by omega))
        refine ⟨σ', F', _, ?_, q2, (fr.up (by simp)).trans q3, hst.trans q4, fun hg k h1 h2 h3 f hf h4 => ?_⟩
        · rw [m_X1_turnOnBy_70]
          rw [if_neg (nI_ge (show 5 * v + i < 5 * v + s_nn S v by omega) (by omega)), e1, obind_some, if_neg (fun e => h0 ((nI_z (by omega)).mp e)), h.on hp, obind_some, e2, hcn, obind_some, if_neg (show ¬ b2i true = 0 by decide), e3, obind_some, e4, obind_some, nI_1, ← Bool.or_assoc]
          refine Eq.trans ?_ q1
          generalize decide (F (s_heir S (s_tgt S (5 * v + i))) ||| s_nfs S (5 * v + i) ≠ F (s_heir S (s_tgt S (5 * v + i)))) = B
          cases B
          · rw [if_pos (show b2i false = 0 from rfl), Bool.or_false]
            rfl
          · rw [if_neg (show ¬ b2i true = 0 by decide), Bool.or_true]
            rfl
        · rw [Bool.or_eq_false_iff] at hg
          have hid := hst.2.1 hg.1
          rw [hid] at q5
          by_cases e : k = i
          · subst e
            have : F (s_heir S (s_tgt S (5 * v + k))) ||| s_nfs S (5 * v + k) = F (s_heir S (s_tgt S (5 * v + k))) := by simpa using hg.1
            exact or_bit this h4
          · exact q5 hg.2 k (by omega) h2 h3 f hf h4
theorem c_turnOnBy (hW : WF S) {p : Nat} (hp : p < 6) (h : CH S pa oa c F σ) : ∃ σ' F' g, m_X1_turnOnBy pa oa (nI p) σ = some (b2i g, σ') ∧ CH S pa oa c F' σ' ∧ fr [oa] σ σ' ∧ SpS S D c F F' g ∧ (g = false → c p ≠ 0 → ClB S F p (c p - 1) ∧ ClN S F (fun _ => True) p (c p - 1)) := by
  have hcl := h.2.2.2.2.2.2 p hp
  have h24 := hW.nv
  by_cases h0 : c p = 0
  · refine ⟨σ, F, false, ?_, h, fr.refl, SpS.refl, fun _ h1 => absurd h0 h1⟩
    unfold m_X1_turnOnBy
    rw [h.pick hp, obind_some, h0, if_pos (show oi 0 = -1 from rfl)]
    rfl
  · obtain ⟨v, hv⟩ : ∃ v, c p = v + 1 := ⟨c p - 1, by omega⟩
    have hvn : v < s_nv S := by omega
    have hF := h.2.2.2.2.2.1 p hp
    have e1 := c_broughtBy hW h.1 hvn (show F p < 2 ^ 31 by omega)
    have hb := s_brb_lt hW (fs := F p) hvn
    have e2 := h.merge hp hb
    have h2 := h.mg hp hb
    have hst : SpS S D c F (mgF F p (s_brb S v (F p))) (decide (F p ||| s_brb S v (F p) ≠ F p)) := by
      refine SpS.mg hp hF hb (fun T hT hFT f hf hb => ?_)
      unfold s_brb at hb
      rw [orR_bit] at hb
      obtain ⟨j, hj, hb⟩ := anyR_t.mp hb
      by_cases hj2 : (F p).testBit j = true
      · rw [if_pos hj2] at hb
        have := hT.2.1 p hp h0 j hj (hFT p hp j hj hj2) f hf
        rw [hv, Nat.add_sub_cancel] at this
        exact this hb
      · rw [if_neg hj2] at hb
        simp at hb
    obtain ⟨σ', F', g', q1, q2, q3, q4, q5⟩ := c_tob_loop (D := D) (f := 0) hW hp hvn hv (s_nn S v) 0 FU (by omega) (by rw [FU_eq]; have := hW.nn (show v < 24 by omega); omega) _ _ (decide (F p ||| s_brb S v (F p) ≠ F p)) h2
    refine ⟨σ', F', _, ?_, q2, (fr.up (by simp)).trans q3, hst.trans q4, fun hg _ => ?_⟩
    · unfold m_X1_turnOnBy
      rw [h.pick hp, obind_s, hv, oi_s, if_neg (nI_nm1 (by omega)), h.on hp, obind_s, e1, obind_s, e2, obind_s, c_end hW h2.1 hvn, obind_s, c_first, obind_s]
      exact q1
    · rw [Bool.or_eq_false_iff] at hg
      have hid := hst.2.1 hg.1
      rw [hid] at q5
      rw [hv, Nat.add_sub_cancel]
      refine ⟨fun f hf hb g hg2 hbr => ?_, fun k hk hcn f hf hb _ => q5 hg.2 k (Nat.zero_le _) hk hcn f hf hb⟩
      have hh : F p ||| s_brb S v (F p) = F p := by simpa using hg.1
      refine or_bit hh ?_
      unfold s_brb
      rw [orR_bit]
      refine anyR_t.mpr ⟨f, hf, ?_⟩
      rw [if_pos hb]
      exact hbr
end CLS3
