/-! ===== the class: sets, worths and changes ===== -/
def orR : Nat → (Nat → Nat) → Nat
  | 0, _ => 0
  | n + 1, f => orR n f ||| f n
theorem orR_bit (n : Nat) (f : Nat → Nat) (j : Nat) : (orR n f).testBit j = anyR n fun i => (f i).testBit j := by
  induction n with
  | zero => simp [orR, anyR_0]
  | succ n ih => rw [anyR_s, orR, Nat.testBit_or, ih]
theorem orR_lt {n k : Nat} {f : Nat → Nat} (h : ∀ i, i < n → f i < 2 ^ k) : orR n f < 2 ^ k := by
  induction n with
  | zero => exact Nat.two_pow_pos k
  | succ n ih => exact Nat.or_lt_two_pow (ih fun i hi => h i (by omega)) (h n (by omega))
theorem obind_s {α β : Type} (a : α) (f : α → Option β) : obind (some a) f = f a := obind_of f rfl
theorem mulr_nI (k : Nat) {y : Int32} (hy : y = nI k) (v : Nat) : nI v * y = nI (k * v) := by rw [hy, nI_mul, Nat.mul_comm]
theorem p2_lt {p : Nat} (h : p < 6) : 2 ^ p < 2 ^ 6 := Nat.pow_lt_pow_right (by decide) h
theorem p2_bit {p q : Nat} : (2 ^ p).testBit q = decide (p = q) := Nat.testBit_two_pow
def s_use (S : SP) : Nat := setB (s_nv S) fun v => s_flaw S v == 0
def s_dset (S : SP) (D : Nat) : Nat := orR (s_nd S) fun d => if D.testBit d = true then 2 ^ s_heir S (s_dtg S d) else 0
def s_plb (S : SP) (v fs : Nat) : Nat := orR (s_nn S v) fun k => if (s_nkd S (5 * v + k) != 2 && s_counts S (5 * v + k) fs) = true then 2 ^ s_heir S (s_tgt S (5 * v + k)) else 0
def s_brb (S : SP) (v fs : Nat) : Nat := orR 3 fun f => if fs.testBit f = true then s_br S (3 * v + f) else 0
def s_serv (S : SP) (w x : Nat) : Bool := if x = 0 then s_nkd S w == 1 else s_has S (24 * s_nrg S w + (x - 1)) == 1
section CLS2
variable {S : SP} {σ : Mem}
theorem c_usable (hW : WF S) (hR : RC S σ) : m_X10_usable σ = some (nI (s_use S), σ) := by
  have h24 := hW.nv
  refine up_fu (n := s_nv S) (P := fun i f => m_X10_usable_4 f (nI (setB i fun v => s_flaw S v == 0)) (nI i) σ = some (nI (s_use S), σ)) (by omega) (fun f => ?_) (fun i f hi ih => ?_) 0 (Nat.zero_le _)
  · unfold m_X10_usable_4
    rw [hR.nv, if_pos (nI_le (Nat.le_refl _) (by omega))]
    rfl
  · have hf := s_flaw_lt (S := S) i
    unfold m_X10_usable_4
    rw [hR.nv, if_neg (nI_ge hi (by omega))]
    simp only [c_flaw hW hR hi, obind_some, nI_1, one_shl (show i < 31 by omega), nI_z (show s_flaw S i < 2 ^ 31 by omega)]
    rw [← s_dems_s (ws := 0)] at ih
    by_cases h : s_flaw S i = 0
    · rw [if_pos h]
      rw [if_pos (by simpa using h)] at ih
      exact ih
    · rw [if_neg h]
      rw [if_neg (by simpa using h), show ∀ x : Int32, x ||| 0 = x from fun x => by simp] at ih
      exact ih
theorem c_ofWs (hW : WF S) (hR : RC S σ) {ws : Nat} (hws : ws < 2 ^ 31) : m_X2_ofWorkspaces (nI ws) σ = some (nI (s_dems S ws), σ) := by
  have h6 := hW.nd
  refine up_fu (n := s_nd S) (P := fun i f => m_X2_ofWorkspaces_4 f (nI ws) (nI (setB i fun d => ws.testBit (s_dws S d))) (nI i) σ = some (nI (s_dems S ws), σ)) (by omega) (fun f => ?_) (fun i f hi ih => ?_) 0 (Nat.zero_le _)
  · unfold m_X2_ofWorkspaces_4
    rw [hR.nd, if_pos (nI_le (Nat.le_refl _) (by omega))]
    rfl
  · have wd := hW.dem hi
    have e1 : m_X7_get 49 6 (nI i) σ = some (nI (s_dws S i), σ) := by rw [x_get (by omega) (by decide), (hR.dem hi).1]
    unfold m_X2_ofWorkspaces_4
    rw [hR.nd, if_neg (nI_ge hi (by omega))]
    simp only [e1, x_isIn hws (show s_dws S i < 31 by omega), obind_some, nI_1, one_shl (show i < 31 by omega), b2i_0]
    rw [← s_dems_s (ws := 0)] at ih
    cases h : ws.testBit (s_dws S i) with
    | true =>
      rw [h] at ih
      simpa using ih
    | false =>
      rw [h] at ih
      simpa using ih
theorem c_demands (hW : WF S) (hR : RC S σ) : m_X5_demands σ = some (nI (s_dems S (s_wsp S)), σ) := by
  have := hW.wsp
  unfold m_X5_demands
  rw [hR.wsp, c_ofWs hW hR (by omega)]
  rfl
theorem s_use_bit {v : Nat} : (s_use S).testBit v = (decide (v < s_nv S) && (s_flaw S v == 0)) := setB_bit _ _ _
theorem s_use_lt (hW : WF S) : s_use S < 2 ^ 31 := setB_small _ (by have := hW.nv; omega)
theorem s_dset_lt (hW : WF S) (D : Nat) : s_dset S D < 2 ^ 6 := orR_lt fun d hd => by
  split
  · exact p2_lt (s_heir_lt hW (hW.dem hd).2.1)
  · decide
theorem s_dset_bit (D p : Nat) : (s_dset S D).testBit p = anyR (s_nd S) fun d => D.testBit d && s_heir S (s_dtg S d) == p := by
  unfold s_dset
  rw [orR_bit]
  refine anyR_congr fun d hd => ?_
  cases h : D.testBit d with
  | true => rw [if_pos rfl, p2_bit, Bool.true_and]; rfl
  | false => simp
theorem c_demanded (hW : WF S) (hR : RC S σ) {D : Nat} (hD : D < 64) : m_X10_demanded (nI D) σ = some (nI (s_dset S D), σ) := by
  have h6 := hW.nd
  refine up_fu (n := s_nd S) (P := fun i f => m_X10_demanded_4 f (nI D) (nI (orR i fun d => if D.testBit d = true then 2 ^ s_heir S (s_dtg S d) else 0)) (nI i) σ = some (nI (s_dset S D), σ)) (by omega) (fun f => ?_) (fun i f hi ih => ?_) 0 (Nat.zero_le _)
  · unfold m_X10_demanded_4
    rw [hR.nd, if_pos (nI_le (Nat.le_refl _) (by omega))]
    rfl
  · have wh := s_heir_lt hW (hW.dem hi).2.1
    unfold m_X10_demanded_4
    rw [hR.nd, if_neg (nI_ge hi (by omega))]
    simp only [c_targetOfDemand hW hR hi, x_isIn (show D < 2 ^ 31 by omega) (show i < 31 by omega), obind_some, nI_1, one_shl (show s_heir S (s_dtg S i) < 31 by omega), b2i_0, nI_or]
    cases h : D.testBit i with
    | true =>
      simp only [orR, h, if_true] at ih
      simpa using ih
    | false =>
      simp only [orR, h, Bool.false_eq_true, if_false, Nat.or_zero] at ih
      simpa using ih
theorem c_endM : m_X4_end (-1) σ = some (-6, σ) := by
  unfold m_X4_end
  simp only [x_getM, obind_some, show (-1 : Int32) * 5 + -1 = -6 by decide]
theorem c_firstM : m_X4_first (-1) σ = some (-5, σ) := rfl
theorem c_end (hW : WF S) (hR : RC S σ) {v : Nat} (hv : v < s_nv S) : m_X4_end (nI v) σ = some (nI (5 * v + s_nn S v), σ) := by
  have h24 := hW.nv
  unfold m_X4_end
  rw [x_get (by omega) (by decide), hR.nn (by omega), mulr_nI (y := 5) 5 rfl]
  simp only [obind_some, nI_add]
theorem c_first {v : Nat} : m_X4_first (nI v) σ = some (nI (5 * v), σ) := by
  unfold m_X4_first
  rw [mulr_nI (y := 5) 5 rfl]
theorem s_plb_lt (hW : WF S) {v fs : Nat} (hv : v < s_nv S) : s_plb S v fs < 2 ^ 6 := orR_lt fun k hk => by
  split
  · exact p2_lt (s_heir_lt hW (hW.need hv hk).1)
  · decide
theorem c_pulledBy (hW : WF S) (hR : RC S σ) {v fs : Nat} (hv : v < s_nv S) (hfs : fs < 2 ^ 31) : m_X10_pulledBy (nI v) (nI fs) σ = some (nI (s_plb S v fs), σ) := by
  have h24 := hW.nv
  have h5 := hW.nn (show v < 24 by omega)
  unfold m_X10_pulledBy
  rw [c_end hW hR hv, obind_some, c_first, obind_some]
  refine up_fu (n := s_nn S v) (P := fun i f => m_X10_pulledBy_22 f (nI fs) (nI (orR i fun k => if (s_nkd S (5 * v + k) != 2 && s_counts S (5 * v + k) fs) = true then 2 ^ s_heir S (s_tgt S (5 * v + k)) else 0)) (nI (5 * v + s_nn S v)) (nI (5 * v + i)) σ = some (nI (s_plb S v fs), σ)) (by omega) (fun f => ?_) (fun i f hi ih => ?_) 0 (Nat.zero_le _)
  · unfold m_X10_pulledBy_22
    rw [if_pos (nI_le (Nat.le_refl _) (by omega))]
    rfl
  · have wn := hW.need hv hi
    have wh := s_heir_lt hW wn.1
    rw [← Nat.add_assoc] at ih
    have e1 : m_X7_get 38 120 (nI (5 * v + i)) σ = some (nI (s_nkd S (5 * v + i)), σ) := by rw [x_get (by omega) (by decide), (hR.need hv hi).2.2.1]
    unfold m_X10_pulledBy_22
    rw [if_neg (nI_ge (show 5 * v + i < 5 * v + s_nn S v by omega) (by omega))]
    simp only [e1, c_counts hW hR hv hi hfs, c_targetOfNeed hW hR hv hi, obind_some, nI_1, one_shl (show s_heir S (s_tgt S (5 * v + i)) < 31 by omega), b2i_0, nI_or, nI_w (show s_nkd S (5 * v + i) < 2 ^ 31 by omega)]
    by_cases h1 : s_nkd S (5 * v + i) = 2
    · rw [if_pos h1]
      simp only [orR, h1, bne_self_eq_false, Bool.false_and, Bool.false_eq_true, if_false, Nat.or_zero] at ih
      exact ih
    · rw [if_neg h1]
      have h2 : (s_nkd S (5 * v + i) != 2) = true := by simpa using h1
      cases h : s_counts S (5 * v + i) fs with
      | true =>
        simp only [orR, h, h2, Bool.true_and, if_true] at ih
        simpa using ih
      | false =>
        simp only [orR, h, Bool.and_false, Bool.false_eq_true, if_false, Nat.or_zero] at ih
        simpa using ih
theorem c_pulledByM {x : Int32} : m_X10_pulledBy (-1) x σ = some (0, σ) := by
  unfold m_X10_pulledBy
  obtain ⟨g, hg⟩ : ∃ g, FU = g + 1 := ⟨3999999, rfl⟩
  rw [c_endM, obind_some, c_firstM, obind_some, hg]
  unfold m_X10_pulledBy_22
  rw [if_pos (show (-6 : Int32) ≤ -5 by decide)]
theorem c_broughtBy (hW : WF S) (hR : RC S σ) {v fs : Nat} (hv : v < s_nv S) (hfs : fs < 2 ^ 31) : m_X9_broughtBy (nI v) (nI fs) σ = some (nI (s_brb S v fs), σ) := by
  have h24 := hW.nv
  refine up_fu (n := 3) (P := fun i f => m_X9_broughtBy_5 f (nI v) (nI fs) (nI (orR i fun f => if fs.testBit f = true then s_br S (3 * v + f) else 0)) (nI i) σ = some (nI (s_brb S v fs), σ)) (by omega) (fun f => ?_) (fun i f hi ih => ?_) 0 (Nat.zero_le _)
  · unfold m_X9_broughtBy_5
    rw [if_pos (by decide)]
    rfl
  · have e1 : m_X7_get 12 72 (nI v * 3 + nI i) σ = some (nI (s_br S (3 * v + i)), σ) := by rw [mulr_nI (y := 3) 3 rfl, nI_add, x_get (by omega) (by decide), hR.br (by omega)]
    unfold m_X9_broughtBy_5
    rw [if_neg (show ¬ 3 ≤ nI i from nI_ge (b := 3) hi (by decide))]
    simp only [e1, x_isIn hfs (show i < 31 by omega), obind_some, nI_1, b2i_0, nI_or]
    cases h : fs.testBit i with
    | true =>
      simp only [orR, h, if_true] at ih
      simpa using ih
    | false =>
      simp only [orR, h, Bool.false_eq_true, if_false, Nat.or_zero] at ih
      simpa using ih
theorem s_brb_lt (hW : WF S) {v fs : Nat} (hv : v < s_nv S) : s_brb S v fs < 2 ^ 3 := orR_lt fun f hf => by
  have h24 := hW.nv
  split
  · have := hW.br (show 3 * v + f < 72 by omega)
    exact Nat.lt_succ_of_le this
  · decide
theorem c_refuses (hW : WF S) (hR : RC S σ) {D v : Nat} (hD : D < 64) (hv : v < s_nv S) : m_X10_refuses (nI D) (nI v) σ = some (b2i (!s_dmd S D (s_own S v) (v + 1)), σ) := by
  have h6 := hW.nd
  have ho := hW.own hv
  unfold m_X10_refuses
  rw [c_own hW hR hv, obind_some]
  have e0 : s_dmd S D (s_own S v) (v + 1) = !anyR (s_nd S) fun d => D.testBit d && s_heir S (s_dtg S d) == s_own S v && !(s_has S (24 * s_drg S d + v) == 1) := by
    unfold s_dmd
    simp
  rw [e0, Bool.not_not]
  refine up_fu (n := s_nd S) (P := fun i f => anyR i (fun d => D.testBit d && s_heir S (s_dtg S d) == s_own S v && !(s_has S (24 * s_drg S d + v) == 1)) = false → m_X10_refuses_15 f (nI D) (nI v) (nI (s_own S v)) (nI i) σ = some (b2i (anyR (s_nd S) fun d => D.testBit d && s_heir S (s_dtg S d) == s_own S v && !(s_has S (24 * s_drg S d + v) == 1)), σ)) (by omega) (fun f h => ?_) (fun i f hi ih h => ?_) 0 (Nat.zero_le _) rfl
  · unfold m_X10_refuses_15
    rw [hR.nd, if_pos (nI_le (Nat.le_refl _) (by omega)), h]
    rfl
  · have wd := hW.dem hi
    have wh := s_heir_lt hW wd.2.1
    have e1 : m_X7_get 53 6 (nI i) σ = some (nI (s_drg S i), σ) := by rw [x_get (by omega) (by decide), (hR.dem hi).2.2.1]
    rw [anyR_s, h, Bool.false_or] at ih
    unfold m_X10_refuses_15
    rw [hR.nd, if_neg (nI_ge hi (by omega))]
    simp only [e1, c_targetOfDemand hW hR hi, c_holds hW hR wd.2.2.1 hv, x_isIn (show D < 2 ^ 31 by omega) (show i < 31 by omega), obind_some, nI_1, b2i_0, nI_eq (show s_heir S (s_dtg S i) < 2 ^ 31 by omega) (show s_own S v < 2 ^ 31 by omega)]
    by_cases h1 : D.testBit i = true
    · rw [if_neg (by simp [h1])]
      by_cases h2 : s_heir S (s_dtg S i) = s_own S v
      · rw [if_pos h2]
        cases h3 : (s_has S (24 * s_drg S i + v) == 1) with
        | true =>
          rw [if_neg (by simp)]
          exact ih (by simp [h3])
        | false =>
          rw [if_pos rfl]
          rw [anyR_t.mpr ⟨i, hi, by simp [h1, h2, h3]⟩]
          rfl
      · rw [if_neg h2]
        exact ih (by simp [h2])
    · rw [if_pos (by simpa using h1)]
      exact ih (by simp [h1])
theorem s_kept_t {p : Nat} : s_kept S p = true ↔ s_lock S p ≠ 0 ∧ (s_upd S).testBit p = false := by
  unfold s_kept
  simp
theorem c_worth (hW : WF S) (hR : RC S σ) {p x : Nat} (hp : p < 6) (hx : x ≤ s_nv S) : m_X5_worth (nI p) (oi x) σ = some (oi (s_worth S p x), σ) := by
  have h24 := hW.nv
  have hl := (hW.lock hp).1
  have hu := hW.upd
  have e1 : m_X7_get 57 6 (nI p) σ = some (oi (s_lock S p), σ) := by rw [x_get (by omega) (by decide), (hR.pkg hp).2.2]
  have e2 : m_X11_isIn (σ 66 2) (nI p) σ = some (b2i ((s_upd S).testBit p), σ) := by rw [hR.upd, x_isIn (by omega) (by omega)]
  have e3 : m_X5_worth_44 (oi x) σ = some (if x = 0 then -1 else nI (s_rank S (x - 1)), σ) := by
    unfold m_X5_worth_44
    by_cases h0 : x = 0
    · subst h0
      rw [oi_0, x_getM]
      rfl
    · rw [if_neg h0]
      obtain ⟨v, rfl⟩ : ∃ v, x = v + 1 := ⟨x - 1, by omega⟩
      rw [oi_s, c_rank hW hR (show v < s_nv S by omega)]
      rfl
  unfold m_X5_worth m_X5_worth_24 m_X5_worth_25 s_worth
  simp only [e1, e2, e3, obind_some, oi_m1 (show x < 2 ^ 31 by omega), oi_inj (show s_lock S p < 2 ^ 31 by omega) (show x < 2 ^ 31 by omega), b2i_0, if_true, show ¬ (1 : Int32) = 0 by decide, if_false]
  by_cases h0 : x = 0
  · rw [if_pos h0, if_pos h0, if_pos h0]
    rfl
  · rw [if_neg h0, if_neg h0, if_neg h0]
    by_cases h1 : s_lock S p = x
    · rw [if_pos h1]
      by_cases h2 : (s_upd S).testBit p = true
      · rw [if_neg (by simp [h2]), if_neg (fun h => by have := s_kept_t.mp h.1; rw [h2] at this; exact absurd this.2 (by decide)), oi_s]
      · rw [if_pos (by simpa using h2), if_pos ⟨s_kept_t.mpr ⟨by omega, by simpa using h2⟩, h1.symm⟩]
        rfl
    · rw [if_neg h1, if_neg (fun h => h1 h.2.symm), oi_s]
theorem s_worth_lt (hW : WF S) {p x : Nat} (hx : x ≤ s_nv S) : s_worth S p x ≤ 65537 := by
  unfold s_worth
  split
  · omega
  · split
    · omega
    · have := hW.rank (show x - 1 < s_nv S by omega)
      omega
theorem cntR_le (n : Nat) (f : Nat → Bool) : cntR n f ≤ n := by
  induction n with
  | zero => exact Nat.le_refl _
  | succ n ih =>
    unfold cntR
    split <;> omega
theorem c_changes (hW : WF S) (hR : RC S σ) {a l : Nat} {c : Nat → Nat} (hl : l < 6) (hc : ∀ p, p < 6 → σ a p = oi (c p)) (hc2 : ∀ p, p < 6 → c p < 2 ^ 31) : m_X5_changes a 6 (nI l) σ = some (nI (cntR (l + 1) fun p => s_kept S p && c p != s_lock S p), σ) := by
  have h24 := hW.nv
  have hu := hW.upd
  refine up_fu (n := l + 1) (P := fun i f => m_X5_changes_5 a 6 f (nI l) (nI (cntR i fun p => s_kept S p && c p != s_lock S p)) (nI i) σ = some (nI (cntR (l + 1) fun p => s_kept S p && c p != s_lock S p), σ)) (by omega) (fun f => ?_) (fun i f hi ih => ?_) 0 (Nat.zero_le _)
  · unfold m_X5_changes_5
    rw [if_pos ((nI_ltI (by omega) (by omega)).mpr (Nat.lt_succ_self l))]
  · have hi6 : i < 6 := by omega
    have hlk := (hW.lock hi6).1
    have e1 : m_X7_get 57 6 (nI i) σ = some (oi (s_lock S i), σ) := by rw [x_get (by omega) (by decide), (hR.pkg hi6).2.2]
    have e2 : m_X11_isIn (σ 66 2) (nI i) σ = some (b2i ((s_upd S).testBit i), σ) := by rw [hR.upd, x_isIn (by omega) (by omega)]
    have e3 : m_X7_get a 6 (nI i) σ = some (oi (c i), σ) := by rw [x_get (by omega) (by decide), hc i hi6]
    unfold m_X5_changes_5
    rw [if_neg (fun h => by have := (nI_ltI (show l < 2 ^ 31 by omega) (show i < 2 ^ 31 by omega)).mp h; omega)]
    simp only [e1, e2, e3, obind_some, nI_1, b2i_0, oi_m1 (show s_lock S i < 2 ^ 31 by omega), oi_inj (hc2 i hi6) (show s_lock S i < 2 ^ 31 by omega)]
    unfold s_kept at ih ⊢
    by_cases h0 : s_lock S i = 0
    · rw [if_pos h0]
      simpa [cntR, h0] using ih
    · rw [if_neg h0]
      cases h2 : (s_upd S).testBit i with
      | true =>
        rw [if_neg (by simp)]
        simpa [cntR, h0, h2] using ih
      | false =>
        rw [if_pos rfl]
        by_cases h3 : c i = s_lock S i
        · rw [if_pos h3]
          simpa [cntR, h0, h2, h3] using ih
        · rw [if_neg h3]
          simpa [cntR, h0, h2, h3] using ih
theorem c_isServed (hW : WF S) (hR : RC S σ) {pa oa v k x : Nat} (hv : v < s_nv S) (hk : k < s_nn S v) (hx : x ≤ s_nv S) : m_X1_isServed pa oa (nI (5 * v + k)) (oi x) σ = some (b2i (s_serv S (5 * v + k) x), σ) := by
  have h24 := hW.nv
  have h30 := hW.nr
  have h5 := hW.nn (show v < 24 by omega)
  have wn := hW.need hv hk
  have rn := hR.need hv hk
  have e1 : m_X7_get 38 120 (nI (5 * v + k)) σ = some (nI (s_nkd S (5 * v + k)), σ) := by rw [x_get (by omega) (by decide), rn.2.2.1]
  have e2 : m_X7_get 36 120 (nI (5 * v + k)) σ = some (nI (s_nrg S (5 * v + k)), σ) := by rw [x_get (by omega) (by decide), rn.2.1]
  have e3 : m_X7_get 31 30 (nI (s_nrg S (5 * v + k))) σ = some (nI (setB (s_nv S) fun u => s_has S (24 * s_nrg S (5 * v + k) + u) == 1), σ) := by rw [x_get (by omega) (by decide), hR.held wn.2.1]
  unfold m_X1_isServed s_serv
  simp only [e1, e2, e3, obind_some, oi_m1 (show x < 2 ^ 31 by omega), nI_o (show s_nkd S (5 * v + k) < 2 ^ 31 by omega)]
  by_cases h0 : x = 0
  · rw [if_pos h0, if_pos h0]
    by_cases h1 : s_nkd S (5 * v + k) = 1 <;> simp [h1, b2i]
  · rw [if_neg h0, if_neg h0]
    obtain ⟨u, rfl⟩ : ∃ u, x = u + 1 := ⟨x - 1, by omega⟩
    rw [oi_s, x_isIn (setB_small _ (by omega)) (by omega), setB_bit, obind_some, zchk_b]
    simp [show u < s_nv S by omega, obind_some]
end CLS2
