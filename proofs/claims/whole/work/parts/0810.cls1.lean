/-! ===== the class: what it reads off its rows ===== -/
theorem FU_eq : FU = 4000000 := rfl
section CLS
variable {S : SP} {σ : Mem}
theorem c_own (hW : WF S) (hR : RC S σ) {v : Nat} (hv : v < s_nv S) : m_X7_get 4 24 (nI v) σ = some (nI (s_own S v), σ) := by
  have := hW.nv
  rw [x_get (by omega) (by decide), hR.own hv]
theorem c_rank (hW : WF S) (hR : RC S σ) {v : Nat} (hv : v < s_nv S) : m_X7_get 6 24 (nI v) σ = some (nI (s_rank S v), σ) := by
  have := hW.nv
  rw [x_get (by omega) (by decide), hR.rank hv]
theorem c_isHidden (hW : WF S) (hR : RC S σ) {v : Nat} (hv : v < s_nv S) : m_X9_isHidden (nI v) σ = some (b2i (decide (s_plc S v = 1 ∧ s_first S (s_own S v) = true)), σ) := by
  have h24 := hW.nv
  have hp := hW.own hv
  have e1 : m_X11_isIn (σ 2 8) (nI v) σ = some (b2i (s_plc S v == 1), σ) := by
    rw [hR.plc, x_isIn (setB_small _ (by omega)) (by omega), setB_bit]
    simp [hv]
  have e3 : m_X11_isIn (σ 2 9) (nI (s_own S v)) σ = some (b2i (s_first S (s_own S v)), σ) := by
    rw [hR.first, x_isIn (setB_small _ (by omega)) (by omega), setB_bit]
    simp [hp]
  unfold m_X9_isHidden
  simp only [e1, c_own hW hR hv, e3, obind_some, b2i_0]
  cases h1 : (s_plc S v == 1) <;> cases h2 : s_first S (s_own S v) <;> simp_all [b2i]
theorem c_isYanked (hR : RC S σ) {v : Nat} (hv : v < 24) : m_X9_isYanked (nI v) σ = some (b2i (s_ynk S v == 1), σ) := by
  have e1 : m_X11_isIn (σ 2 7) (nI v) σ = some (b2i (s_ynk S v == 1), σ) := by
    rw [hR.ynk, x_isIn (setB_small _ (by omega)) (by omega), setB_bit]
    simp [hv]
  unfold m_X9_isYanked
  simp only [e1, obind_some, zchk_b]
theorem c_holds (hW : WF S) (hR : RC S σ) {r v : Nat} (hr : r < s_nr S) (hv : v < s_nv S) : m_X6_holds (nI r) (nI v) σ = some (b2i (s_has S (24 * r + v) == 1), σ) := by
  have h24 := hW.nv
  have h30 := hW.nr
  have e1 : m_X11_isUpTo (σ 17 7 - 1) (nI r) σ = some (1, σ) := by
    obtain ⟨k, hk⟩ : ∃ k, s_nr S = k + 1 := ⟨s_nr S - 1, by omega⟩
    rw [hR.nr, hk, nI_pred, x_upTo (by omega) (by omega)]
    simp [b2i, show r ≤ k by omega]
  have e2 : m_X7_get 31 30 (nI r) σ = some (nI (setB (s_nv S) fun v => s_has S (24 * r + v) == 1), σ) := by
    rw [x_get (by omega) (by decide), hR.held hr]
  have e3 : m_X11_isIn (nI (setB (s_nv S) fun v => s_has S (24 * r + v) == 1)) (nI v) σ = some (b2i (s_has S (24 * r + v) == 1), σ) := by
    rw [x_isIn (setB_small _ (by omega)) (by omega), setB_bit]
    simp [hv]
  unfold m_X6_holds
  simp only [e1, e2, e3, obind_some, b2i_0]
  cases (s_has S (24 * r + v) == 1) <;> simp [b2i]
theorem c_holdsM {x : Int32} : m_X6_holds (-1) x σ = some (0, σ) := by
  unfold m_X6_holds
  rw [x_upToM (by decide)]
  simp [obind_some]
theorem c_flaw_loop (hW : WF S) (hR : RC S σ) {v : Nat} (hv : v < s_nv S) : ∀ (k i fuel : Nat), i + k = s_na S → k < fuel → (∀ j, j < i → (s_apk S j == s_own S v && s_has S (24 * s_arg S j + v) == 1) = false) → m_X10_flaw_75 fuel (nI v) (nI (s_own S v)) (nI i) σ = some (if anyR (s_na S) (fun i => s_apk S i == s_own S v && s_has S (24 * s_arg S i + v) == 1) = true then 4 else 0, σ) := by
  intro k
  induction k with
  | zero =>
    intro i fuel hi hf hp
    obtain ⟨f, rfl⟩ : ∃ f, fuel = f + 1 := ⟨fuel - 1, by omega⟩
    have h8 := hW.na
    unfold m_X10_flaw_75
    have e : i = s_na S := by omega
    subst e
    rw [hR.na, if_pos (nI_le (Nat.le_refl _) (by omega)), anyR_f.mpr hp]
    rfl
  | succ k ih =>
    intro i fuel hi hf hp
    obtain ⟨f, rfl⟩ : ∃ f, fuel = f + 1 := ⟨fuel - 1, by omega⟩
    have h8 := hW.na
    have hi2 : i < s_na S := by omega
    obtain ⟨a1, a2⟩ := hW.adv hi2
    obtain ⟨r1, r2⟩ := hR.adv hi2
    have ho := hW.own hv
    have e1 : m_X7_get 59 8 (nI i) σ = some (nI (s_apk S i), σ) := by rw [x_get (by omega) (by decide), r1]
    have e2 : m_X7_get 61 8 (nI i) σ = some (nI (s_arg S i), σ) := by rw [x_get (by omega) (by decide), r2]
    have e3 := c_holds hW hR a2 hv
    have e4 : nI i + 1 = nI (i + 1) := nI_1 i
    unfold m_X10_flaw_75
    rw [hR.na, if_neg (nI_ge hi2 (by omega))]
    simp only [e1, e2, e3, e4, obind_some, b2i_0, nI_eq (show s_apk S i < 2 ^ 31 by omega) (show s_own S v < 2 ^ 31 by omega)]
    by_cases h1 : s_apk S i = s_own S v
    · rw [if_pos h1]
      cases h2 : (s_has S (24 * s_arg S i + v) == 1) with
      | false =>
        rw [if_pos rfl]
        refine ih (i + 1) f (by omega) (by omega) (fun j hj => ?_)
        by_cases hj2 : j = i
        · subst hj2
          simp [h2]
        · exact hp j (by omega)
      | true =>
        rw [if_neg (by simp), if_pos]
        exact anyR_t.mpr ⟨i, hi2, by simp [h1, h2]⟩
    · rw [if_neg h1]
      refine ih (i + 1) f (by omega) (by omega) (fun j hj => ?_)
      by_cases hj2 : j = i
      · subst hj2
        simp [h1]
      · exact hp j (by omega)
theorem s_flaw_lt (v : Nat) : s_flaw S v ≤ 4 := by
  unfold s_flaw
  repeat' split
  all_goals omega
theorem c_flaw (hW : WF S) (hR : RC S σ) {v : Nat} (hv : v < s_nv S) : m_X10_flaw (nI v) σ = some (nI (s_flaw S v), σ) := by
  have h24 := hW.nv
  have hp := hW.own hv
  have hpl := hW.plat (show v < 24 by omega)
  have hpt := hW.plt
  have hl := (hW.lock hp).1
  have e2 := c_isHidden hW hR hv
  have e3 := c_isYanked hR (show v < 24 by omega)
  have e4 : m_X7_get 57 6 (nI (s_own S v)) σ = some (oi (s_lock S (s_own S v)), σ) := by rw [x_get (by omega) (by decide), (hR.pkg hp).2.2]
  have e5 : m_X7_get 10 24 (nI v) σ = some (nI (s_plat S v), σ) := by rw [x_get (by omega) (by decide), hR.plat (by omega)]
  have e6 : m_X11_isIn (nI (s_plat S v)) (σ 1 10) σ = some (b2i ((s_plat S v).testBit (s_plt S)), σ) := by rw [hR.plt, x_isIn (by omega) (by omega)]
  have e7 := c_flaw_loop hW hR hv (s_na S) 0 FU (by omega) (by rw [FU_eq]; have := hW.na; omega) (fun j hj => by omega)
  have e7' : m_X10_flaw_75 FU (nI v) (nI (s_own S v)) 0 σ = _ := e7
  have e50 : m_X10_flaw_50 (nI v) (nI (s_own S v)) σ = some (nI (if (s_plat S v).testBit (s_plt S) = false then 3 else if anyR (s_na S) (fun i => s_apk S i == s_own S v && s_has S (24 * s_arg S i + v) == 1) = true then 4 else 0), σ) := by
    unfold m_X10_flaw_50
    simp only [e5, e6, e7', obind_some, b2i_0]
    cases (s_plat S v).testBit (s_plt S)
    · rfl
    · simp only [Bool.true_eq_false, if_false]
      split <;> rfl
  unfold m_X10_flaw s_flaw
  simp only [c_own hW hR hv, e2, e3, e4, e50, obind_some, b2i_0, oi_nI (show v < 2 ^ 30 by omega) (show s_lock S (s_own S v) < 2 ^ 31 by omega), decide_eq_false_iff_not, beq_eq_false_iff_ne]
  by_cases h1 : s_plc S v = 1 ∧ s_first S (s_own S v) = true
  · simp [h1]
    rfl
  · rw [if_pos h1, if_neg h1]
    by_cases h2 : s_ynk S v = 1
    · rw [if_neg (by simp [h2])]
      by_cases h3 : s_lock S (s_own S v) = v + 1
      · simp [h2, h3]
      · rw [if_neg h3, if_pos ⟨h2, h3⟩]
        rfl
    · rw [if_pos h2, if_neg (show ¬ (s_ynk S v = 1 ∧ s_lock S (s_own S v) ≠ v + 1) from fun h => h2 h.1)]
theorem c_member (hW : WF S) (hR : RC S σ) {p i : Nat} (hp : p < 6) (hi : i < 4) : m_X9_member (nI p) (nI i) σ = some (oi (s_mem S p i), σ) := by
  have e1 : m_X11_isUpTo 3 (nI i) σ = some (1, σ) := by
    have := x_upTo (σ := σ) (n := 3) (k := i) (by decide) (by omega)
    rw [show decide (i ≤ 3) = true from by simp; omega] at this
    exact this
  have e2 : nI p * 4 + nI i = nI (4 * p + i) := by
    rw [show (4 : Int32) = nI 4 from rfl, nI_mul, nI_add, Nat.mul_comm]
  have e3 : m_X7_get 14 24 (nI p * 4 + nI i) σ = some (oi (s_mem S p i), σ) := by
    rw [e2, x_get (by omega) (by decide), hR.mem hp hi]
  unfold m_X9_member
  simp only [e1, e3, obind_some]
  rfl
theorem c_memberM {p : Int32} : m_X9_member p (-1) σ = some (-1, σ) := by
  unfold m_X9_member
  rw [x_upToM (by decide)]
  simp [obind_some]
theorem c_targetOfDemand (hW : WF S) (hR : RC S σ) {d : Nat} (hd : d < s_nd S) : m_X10_targetOfDemand (nI d) σ = some (nI (s_heir S (s_dtg S d)), σ) := by
  have h6 := hW.nd
  have h1 := hW.dem hd
  have h2 := hR.dem hd
  have e1 : m_X7_get 51 6 (nI d) σ = some (nI (s_dtg S d), σ) := by rw [x_get (by omega) (by decide), h2.2.1]
  have e2 : m_X7_get 65 6 (nI (s_dtg S d)) σ = some (nI (s_heir S (s_dtg S d)), σ) := by rw [x_get (by omega) (by decide), (hR.pkg h1.2.1).2.1]
  unfold m_X10_targetOfDemand
  simp only [e1, e2, obind_some]
theorem c_targetOfNeed (hW : WF S) (hR : RC S σ) {v k : Nat} (hv : v < s_nv S) (hk : k < s_nn S v) : m_X10_targetOfNeed (nI (5 * v + k)) σ = some (nI (s_heir S (s_tgt S (5 * v + k))), σ) := by
  have h24 := hW.nv
  have h5 := hW.nn (show v < 24 by omega)
  have h1 := hW.need hv hk
  have h2 := hR.need hv hk
  have e1 : m_X7_get 34 120 (nI (5 * v + k)) σ = some (nI (s_tgt S (5 * v + k)), σ) := by rw [x_get (by omega) (by decide), h2.1]
  have e2 : m_X7_get 65 6 (nI (s_tgt S (5 * v + k))) σ = some (nI (s_heir S (s_tgt S (5 * v + k))), σ) := by rw [x_get (by omega) (by decide), (hR.pkg h1.1).2.1]
  unfold m_X10_targetOfNeed
  simp only [e1, e2, obind_some]
/-- whether a need counts where the features fs of its own package are on -/
def s_counts (S : SP) (w fs : Nat) : Bool := (s_npl S w).testBit (s_plt S) && (s_nft S w == 0 || fs.testBit (s_nft S w - 1))
theorem c_counts (hW : WF S) (hR : RC S σ) {v k fs : Nat} (hv : v < s_nv S) (hk : k < s_nn S v) (hfs : fs < 2 ^ 31) : m_X10_counts (nI (5 * v + k)) (nI fs) σ = some (b2i (s_counts S (5 * v + k) fs), σ) := by
  have h24 := hW.nv
  have h5 := hW.nn (show v < 24 by omega)
  have h1 := hW.need hv hk
  have h2 := hR.need hv hk
  have hpt := hW.plt
  have e1 : m_X7_get 40 120 (nI (5 * v + k)) σ = some (oi (s_nft S (5 * v + k)), σ) := by rw [x_get (by omega) (by decide), h2.2.2.2.1]
  have e2 : m_X7_get 42 120 (nI (5 * v + k)) σ = some (nI (s_npl S (5 * v + k)), σ) := by rw [x_get (by omega) (by decide), h2.2.2.2.2.1]
  have e3 : m_X11_isIn (nI (s_npl S (5 * v + k))) (σ 1 10) σ = some (b2i ((s_npl S (5 * v + k)).testBit (s_plt S)), σ) := by rw [hR.plt, x_isIn (by omega) (by omega)]
  unfold m_X10_counts s_counts
  simp only [e1, e2, e3, obind_some, b2i_0, oi_m1 (show s_nft S (5 * v + k) < 2 ^ 31 by omega)]
  cases (s_npl S (5 * v + k)).testBit (s_plt S) with
  | false => simp [b2i]
  | true =>
    by_cases h0 : s_nft S (5 * v + k) = 0
    · simp [h0, b2i]
    · obtain ⟨j, hj⟩ : ∃ j, s_nft S (5 * v + k) = j + 1 := ⟨s_nft S (5 * v + k) - 1, by omega⟩
      rw [hj]
      have e4 : m_X11_isIn (nI fs) (oi (j + 1)) σ = some (b2i (fs.testBit j), σ) := by rw [oi_s, x_isIn hfs (by omega)]
      simp only [e4, obind_some]
      cases hb : fs.testBit j <;> simp [b2i, hb]
end CLS
