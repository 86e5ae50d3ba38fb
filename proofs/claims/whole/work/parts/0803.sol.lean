/-! ===== what a solution is, and the best one ===== -/
/-- the demands of a set of workspaces -/
def s_dems (S : SP) (ws : Nat) : Nat := setB (s_nd S) fun d => ws.testBit (s_dws S d)
/-- a need counts where T tells which features are on -/
def CntT (S : SP) (T : Nat → Nat → Prop) (p w : Nat) : Prop := (s_npl S w).testBit (s_plt S) = true ∧ (s_nft S w = 0 ∨ T p (s_nft S w - 1))
/-- a choice gives each package none (0), or a version (its number and 1) -/
def Cl (S : SP) (D : Nat) (c : Nat → Nat) (T : Nat → Nat → Prop) : Prop :=
  (∀ d, d < s_nd S → D.testBit d = true → ∀ f, f < 3 → (s_dfs S d).testBit f = true → T (s_heir S (s_dtg S d)) f) ∧
  (∀ p, p < 6 → c p ≠ 0 → ∀ f, f < 3 → T p f → ∀ g, g < 3 → (s_br S (3 * (c p - 1) + f)).testBit g = true → T p g) ∧
  (∀ p, p < 6 → c p ≠ 0 → ∀ k, k < s_nn S (c p - 1) → CntT S T p (5 * (c p - 1) + k) → ∀ f, f < 3 → (s_nfs S (5 * (c p - 1) + k)).testBit f = true → T (s_heir S (s_tgt S (5 * (c p - 1) + k))) f)
/-- the features that are on: in all closed ones -/
def On (S : SP) (D : Nat) (c : Nat → Nat) (p f : Nat) : Prop := ∀ T : Nat → Nat → Prop, Cl S D c T → T p f
def ClP (S : SP) (D : Nat) (c : Nat → Nat) (Q : Nat → Prop) : Prop :=
  (∀ d, d < s_nd S → D.testBit d = true → Q (s_heir S (s_dtg S d))) ∧
  (∀ p, p < 6 → c p ≠ 0 → Q p → ∀ k, k < s_nn S (c p - 1) → CntT S (On S D c) p (5 * (c p - 1) + k) → s_nkd S (5 * (c p - 1) + k) ≠ 2 → Q (s_heir S (s_tgt S (5 * (c p - 1) + k))))
def Pul (S : SP) (D : Nat) (c : Nat → Nat) (p : Nat) : Prop := ∀ Q : Nat → Prop, ClP S D c Q → Q p
def DemOK (S : SP) (D : Nat) (c : Nat → Nat) : Prop := ∀ d, d < s_nd S → D.testBit d = true → c (s_heir S (s_dtg S d)) ≠ 0 ∧ s_has S (24 * s_drg S d + (c (s_heir S (s_dtg S d)) - 1)) = 1
def Served (S : SP) (c : Nat → Nat) (w : Nat) : Prop := (c (s_heir S (s_tgt S w)) = 0 → s_nkd S w = 1) ∧ (c (s_heir S (s_tgt S w)) ≠ 0 → s_has S (24 * s_nrg S w + (c (s_heir S (s_tgt S w)) - 1)) = 1)
def NeedOK (S : SP) (D : Nat) (c : Nat → Nat) : Prop := ∀ p, p < 6 → c p ≠ 0 → ∀ k, k < s_nn S (c p - 1) → CntT S (On S D c) p (5 * (c p - 1) + k) → Served S c (5 * (c p - 1) + k)
def Cand (S : SP) (p x : Nat) : Prop := x = 0 ∨ (x - 1 < s_nv S ∧ s_own S (x - 1) = p ∧ s_flaw S (x - 1) = 0)
/-- a solution where the demands D count -/
def SolF (S : SP) (D : Nat) (c : Nat → Nat) : Prop := (∀ p, p < 6 → Cand S p (c p)) ∧ DemOK S D c ∧ NeedOK S D c ∧ ∀ p, p < 6 → c p ≠ 0 → Pul S D c p
def cntR : Nat → (Nat → Bool) → Nat
  | 0, _ => 0
  | n + 1, f => cntR n f + (if f n then 1 else 0)
/-- whether a package's lock is to be kept -/
def s_kept (S : SP) (p : Nat) : Bool := s_lock S p != 0 && !((s_upd S).testBit p)
def s_chg (S : SP) (c : Nat → Nat) : Nat := cntR 6 fun p => s_kept S p && c p != s_lock S p
/-- the worth of a version, or none, for a package -/
def s_worth (S : SP) (p x : Nat) : Nat := if x = 0 then 0 else if s_kept S p = true ∧ x = s_lock S p then 65537 else s_rank S (x - 1) + 1
def Ahead (S : SP) (c c' : Nat → Nat) : Prop := s_chg S c < s_chg S c' ∨ (s_chg S c = s_chg S c' ∧ ∃ p, p < 6 ∧ (∀ q, q < p → c q = c' q) ∧ s_worth S p (c' p) < s_worth S p (c p))
def IsBest (S : SP) (D : Nat) (c : Nat → Nat) : Prop := SolF S D c ∧ ∀ c', SolF S D c' → (∃ p, p < 6 ∧ c' p ≠ c p) → Ahead S c c'
/-- a choice as a list of six -/
def chL (x : List Nat) : Nat → Nat := fun p => x.getD p 0
def NSol (S : SP) (D n : Nat) : Prop := ∃ l : List (List Nat), l.Nodup ∧ (∀ x, x ∈ l ↔ x.length = 6 ∧ SolF S D (chL x)) ∧ l.length = n
noncomputable def onv (S : SP) (D : Nat) (c : Nat → Nat) (p : Nat) : Nat := if c p = 0 then 0 else setB 3 fun f => @decide (On S D c p f) (Classical.propDecidable _)
/-- what the reference has found is so -/
def FoundOK (S : SP) (σ : Mem) : Prop := ∃ n, NSol S (s_dems S (s_wsp S)) n ∧ n ≤ 15625 ∧ σ 94 30 = nI n ∧ (n ≠ 0 → ∃ c, IsBest S (s_dems S (s_wsp S)) c ∧ ∀ p, p < 6 → σ 112 p = oi (c p) ∧ σ 113 p = nI (onv S (s_dems S (s_wsp S)) c p))
def Cache (S : SP) (σ : Mem) : Prop := σ 94 31 = 0 ∨ (σ 94 31 = 1 ∧ FoundOK S σ)
theorem Cache.congr {S : SP} {σ σ' : Mem} (h1 : σ' 94 30 = σ 94 30) (h2 : σ' 94 31 = σ 94 31) (h3 : σ' 112 = σ 112) (h4 : σ' 113 = σ 113) (h : Cache S σ) : Cache S σ' := by
  unfold Cache FoundOK at *
  rw [h1, h2, h3, h4]
  exact h
def InvS (S : SP) (σ : Mem) : Prop := WF S ∧ RC S σ ∧ RM S σ ∧ RS S σ ∧ Cache S σ
def Inv (σ : Mem) : Prop := ∃ S, InvS S σ
/-- a row of the reference's own that holds no state: the number of what was thrown -/
theorem InvS.thrown {S : SP} {σ : Mem} (h : InvS S σ) (k : Int32) : InvS S (up σ 94 0 k) := by
  obtain ⟨h1, h2, h3, h4, h5⟩ := h
  refine ⟨h1, h2.congr fun k hk => up_pl _ _ (fun e => by subst e; revert hk; decide), h3.congr (fun k hk => up_pl _ _ (fun e => by subst e; revert hk; decide)) (fun j hj => up_off _ _ (Or.inr (fun e => by subst e; revert hj; decide))), h4.congr (up_pl _ _ (by decide)) (up_pl _ _ (by decide)) (up_pl _ _ (by decide)), h5.congr (up_off _ _ (Or.inr (by decide))) (up_off _ _ (Or.inr (by decide))) (up_pl _ _ (by decide)) (up_pl _ _ (by decide))⟩
/-! ===== the checks of both sides ===== -/
def inN (x : Int32) (n : Nat) : Bool := decide (¬ x < 0 ∧ x < nI n)
theorem inN_nI {n k : Nat} (hn : n < 2 ^ 31) (hk : k < 2 ^ 31) : inN (nI k) n = decide (k < n) := by
  unfold inN
  apply decide_eq_decide.mpr
  rw [nI_ltI hk hn]
  exact ⟨fun h => h.2, fun h => ⟨nI_pos hk, h⟩⟩
theorem inN_t {x : Int32} {n : Nat} (hn : n < 2 ^ 31) : inN x n = true ↔ ∃ k, k < n ∧ x = nI k := by
  constructor
  · intro h
    rcases pk_ix x hn with h1 | h1 | h1
    · simp [inN, h1] at h
    · have h2 : ¬ x < nI n := fun h3 => by
        rw [Int32.lt_iff_toInt_lt] at h3
        rw [Int32.le_iff_toInt_le] at h1
        omega
      simp [inN, h2] at h
    · exact h1
  · rintro ⟨k, h1, rfl⟩
    rw [inN_nI hn (by omega)]
    simp [h1]
theorem x_upToN {σ : Mem} {n : Nat} {x : Int32} (hn : n + 1 < 2 ^ 31) : m_X11_isUpTo (nI n) x σ = some (b2i (inN x (n + 1)), σ) := by
  cases h : inN x (n + 1) with
  | true =>
    obtain ⟨k, h1, rfl⟩ := (inN_t (by omega)).mp h
    rw [x_upTo (by omega) (by omega)]
    simp [show k ≤ n by omega]
  | false =>
    unfold m_X11_isUpTo
    by_cases h0 : x < 0
    · rw [if_pos h0]
      rfl
    · rw [if_neg h0]
      have h2 : nI n < x := by
        rcases pk_ix x (n := n + 1) (by omega) with h1 | h1 | ⟨k, h1, rfl⟩
        · exact absurd h1 h0
        · rw [Int32.le_iff_toInt_le, nI_toInt (by omega)] at h1
          rw [Int32.lt_iff_toInt_lt, nI_toInt (by omega)]
          omega
        · rw [inN_nI (by omega) (by omega)] at h
          simp [h1] at h
      rw [if_pos h2]
      rfl
/-- against a count less one, that may be 0 -/
theorem x_upToC {σ : Mem} {n : Nat} {x : Int32} (hn : n < 2 ^ 31) : m_X11_isUpTo (nI n - 1) x σ = some (b2i (inN x n), σ) := by
  cases n with
  | succ k =>
    rw [nI_pred]
    exact x_upToN hn
  | zero =>
    have e : inN x 0 = false := by
      cases h : inN x 0 with
      | false => rfl
      | true =>
        obtain ⟨k, h1, -⟩ := (inN_t (by decide)).mp h
        omega
    rw [e]
    unfold m_X11_isUpTo
    by_cases h0 : x < 0
    · rw [if_pos h0]
      rfl
    · rw [if_neg h0, if_pos]
      · rfl
      · rw [Int32.lt_iff_toInt_lt] at h0 ⊢
        have e2 : (nI 0 - 1).toInt = -1 := by decide
        have e3 : (0 : Int32).toInt = 0 := by decide
        omega
section CHK
variable {S : SP} {σ : Mem} {x : Int32}
theorem c_isVersion (hW : WF S) (hR : RC S σ) : m_X11_isVersion x σ = some (b2i (inN x (s_nv S)), σ) := by
  have := hW.nv
  unfold m_X11_isVersion
  rw [hR.nv, x_upToC (by omega)]
  simp only [obind_some, zchk_b]
theorem c_isRange (hW : WF S) (hR : RC S σ) : m_X11_isRange x σ = some (b2i (inN x (s_nr S)), σ) := by
  have := hW.nr
  unfold m_X11_isRange
  rw [hR.nr, x_upToC (by omega)]
  simp only [obind_some, zchk_b]
theorem c_isPackage : m_X11_isPackage x σ = some (b2i (inN x 6), σ) := by
  unfold m_X11_isPackage
  rw [show (5 : Int32) = nI 5 from rfl, x_upToN (by decide)]
  simp only [obind_some, zchk_b]
theorem c_isDigit : m_X11_isDigit x σ = some (b2i (inN x 10), σ) := by
  unfold m_X11_isDigit
  rw [show (9 : Int32) = nI 9 from rfl, x_upToN (by decide)]
  simp only [obind_some, zchk_b]
theorem c_up (n : Nat) (hn : n + 1 < 2 ^ 31) {y : Int32} (hy : y = nI n) : m_X11_isUpTo y x σ = some (b2i (inN x (n + 1)), σ) := by
  rw [hy, x_upToN hn]
theorem r_inN {n : Nat} (hn : n + 1 < 2 ^ 31) {y : Int32} (hy : y = nI n) : m_X12_in x 0 y σ = some (b2i (inN x (n + 1)), σ) := by
  subst hy
  have h := x_upToN (σ := σ) (x := x) hn
  unfold m_X11_isUpTo at h
  unfold m_X12_in
  exact h
theorem r_inC {n : Nat} (hn : n < 2 ^ 31) : m_X12_in x 0 (nI n - 1) σ = some (b2i (inN x n), σ) := by
  have h := x_upToC (σ := σ) (x := x) hn
  unfold m_X11_isUpTo at h
  unfold m_X12_in
  exact h
theorem r_isVersion (hW : WF S) (hR : RM S σ) : m_X12_isVersion x σ = some (b2i (inN x (s_nv S)), σ) := by
  have := hW.nv
  unfold m_X12_isVersion
  rw [hR.nv, r_inC (by omega)]
  simp only [obind_some, zchk_b]
theorem r_isRange (hW : WF S) (hR : RM S σ) : m_X12_isRange x σ = some (b2i (inN x (s_nr S)), σ) := by
  have := hW.nr
  unfold m_X12_isRange
  rw [hR.nr, r_inC (by omega)]
  simp only [obind_some, zchk_b]
theorem r_isPackage : m_X12_isPackage x σ = some (b2i (inN x 6), σ) := by
  unfold m_X12_isPackage
  rw [r_inN (n := 5) (y := 5) (by decide) rfl]
  simp only [obind_some, zchk_b]
theorem r_well0 : m_X12_goesWell 0 σ = some (1, up σ 94 0 0) := rfl
theorem r_wellK {k : Int32} (h : ¬ k = 0) : m_X12_goesWell k σ = some (0, up σ 94 0 k) := by
  unfold m_X12_goesWell
  rw [obind_some, if_neg h]
theorem r_thrown {k : Int32} : m_X12_thrown (up σ 94 0 k) = some (k, up σ 94 0 k) := by
  unfold m_X12_thrown
  rw [up_same]
theorem b2i_f : b2i false = 0 := rfl
theorem b2i_t : b2i true = 1 := rfl
end CHK
