/-! ===== tools for loops ===== -/
theorem up_ind {n : Nat} {P : Nat → Nat → Prop} (h0 : ∀ f, P n (f + 1)) (hs : ∀ i f, i < n → P (i + 1) f → P i (f + 1)) : ∀ k i f, i + k = n → k < f → P i f := by
  intro k
  induction k with
  | zero =>
    intro i f hi hf
    obtain ⟨g, rfl⟩ : ∃ g, f = g + 1 := ⟨f - 1, by omega⟩
    rw [show i = n by omega]
    exact h0 g
  | succ k ih =>
    intro i f hi hf
    obtain ⟨g, rfl⟩ : ∃ g, f = g + 1 := ⟨f - 1, by omega⟩
    exact hs i g (by omega) (ih (i + 1) g (by omega) (by omega))
theorem up_fu {n : Nat} {P : Nat → Nat → Prop} (hn : n < 1000000) (h0 : ∀ f, P n (f + 1)) (hs : ∀ i f, i < n → P (i + 1) f → P i (f + 1)) : ∀ i, i ≤ n → P i FU := fun i hi => up_ind h0 hs (n - i) i FU (by omega) (by rw [FU_eq]; omega)
theorem nI_z {n : Nat} (h : n < 2 ^ 31) : nI n = 0 ↔ n = 0 := nI_eq (b := 0) h (by decide)
theorem nI_o {n : Nat} (h : n < 2 ^ 31) : nI n = 1 ↔ n = 1 := nI_eq (b := 1) h (by decide)
theorem nI_w {n : Nat} (h : n < 2 ^ 31) : nI n = 2 ↔ n = 2 := nI_eq (b := 2) h (by decide)
theorem b2i_or (a b : Bool) : b2i a ||| b2i b = b2i (a || b) := by cases a <;> cases b <;> decide
theorem sh1 {n j : Nat} (hn : n < 2 ^ 31) (hj : j < 31) : (nI n >>> (nI j &&& 31)) &&& 1 = b2i (n.testBit j) := by
  by_cases h : n.testBit j = true
  · rw [(bit_iff hn hj).mpr h, h]; rfl
  · have h2 : n.testBit j = false := by simpa using h
    rw [(bit0_iff hn hj).mpr h2, h2]; rfl
section REF2
variable {S : SP} {σ : Mem}
theorem r_has (hW : WF S) (hR : RM S σ) {r v : Nat} (hr : r < s_nr S) (hv : v < s_nv S) : ald σ 99 720 (24 * nI r + nI v) = some (nI (s_has S (24 * r + v))) := by
  have h24 := hW.nv
  have h30 := hW.nr
  rw [mul_nI (y := 24) 24 rfl, nI_add, ald_nI (by omega) (by decide), hR.has hr hv]
theorem has_0 (hW : WF S) {r v : Nat} (hr : r < s_nr S) (hv : v < s_nv S) : nI (s_has S (24 * r + v)) = 0 ↔ (s_has S (24 * r + v) == 1) = false := by
  have := hW.has1 hr hv
  rw [nI_z (by omega)]
  simp
  omega
theorem r_adv (hW : WF S) (hR : RM S σ) {i : Nat} (hi : i < s_na S) : ald σ 101 16 (2 * nI i) = some (nI (s_apk S i)) ∧ ald σ 101 16 (2 * nI i + 1) = some (nI (s_arg S i)) := by
  have h8 := hW.na
  rw [mul_nI (y := 2) 2 rfl, add_nI (y := 1) 1 rfl, ald_nI (by omega) (by decide), ald_nI (by omega) (by decide), (hR.adv hi).1, (hR.adv hi).2]
  exact ⟨rfl, rfl⟩
theorem r_dem (hW : WF S) (hR : RM S σ) {d : Nat} (hd : d < s_nd S) : ald σ 100 24 (4 * nI d) = some (nI (s_dws S d)) ∧ ald σ 100 24 (4 * nI d + 1) = some (nI (s_dtg S d)) ∧ ald σ 100 24 (4 * nI d + 2) = some (nI (s_drg S d)) ∧ ald σ 100 24 (4 * nI d + 3) = some (nI (s_dfs S d)) := by
  have h6 := hW.nd
  obtain ⟨d0, d1, d2, d3⟩ := hR.dem hd
  rw [mul_nI (y := 4) 4 rfl, add_nI (y := 1) 1 rfl, add_nI (y := 2) 2 rfl, add_nI (y := 3) 3 rfl, ald_nI (by omega) (by decide), ald_nI (by omega) (by decide), ald_nI (by omega) (by decide), ald_nI (by omega) (by decide), d0, d1, d2, d3]
  exact ⟨rfl, rfl, rfl, rfl⟩
theorem r_need (hW : WF S) (hR : RM S σ) {v k : Nat} (hv : v < s_nv S) (hk : k < s_nn S v) : ald σ 97 720 (6 * (5 * nI v + nI k)) = some (nI (s_tgt S (5 * v + k))) ∧ ald σ 97 720 (6 * (5 * nI v + nI k) + 1) = some (nI (s_nrg S (5 * v + k))) ∧ ald σ 97 720 (6 * (5 * nI v + nI k) + 2) = some (nI (s_nkd S (5 * v + k))) ∧ ald σ 97 720 (6 * (5 * nI v + nI k) + 3) = some (oi (s_nft S (5 * v + k))) ∧ ald σ 97 720 (6 * (5 * nI v + nI k) + 4) = some (nI (s_npl S (5 * v + k))) ∧ ald σ 97 720 (6 * (5 * nI v + nI k) + 5) = some (nI (s_nfs S (5 * v + k))) := by
  have h24 := hW.nv
  have h5 := hW.nn (show v < 24 by omega)
  obtain ⟨d0, d1, d2, d3, d4, d5⟩ := hR.need hv hk
  rw [mul_nI (y := 5) 5 rfl, nI_add, mul_nI (y := 6) 6 rfl, add_nI (y := 1) 1 rfl, add_nI (y := 2) 2 rfl, add_nI (y := 3) 3 rfl, add_nI (y := 4) 4 rfl, add_nI (y := 5) 5 rfl]
  rw [ald_nI (by omega) (by decide), ald_nI (by omega) (by decide), ald_nI (by omega) (by decide), ald_nI (by omega) (by decide), ald_nI (by omega) (by decide), ald_nI (by omega) (by decide), d0, d1, d2, d3, d4, d5]
  exact ⟨rfl, rfl, rfl, rfl, rfl, rfl⟩
/-! what hinders a version -/
theorem r_hid (hW : WF S) (hR : RM S σ) {v : Nat} (hv : v < s_nv S) : m_X12_hinders (nI v) σ = m_X12_hinders_83 FU (nI v) (9 * nI v) (b2i (decide (s_plc S v = 1 ∧ s_first S (s_own S v) = true))) 0 0 σ := by
  have h24 := hW.nv
  have hp := hW.own hv
  have hab := hW.abc hv
  obtain ⟨e0, -, -, -, -, e5, -⟩ := r_rd hW.1 hR.1 hv
  have key := up_fu (n := s_nv S) (P := fun i f => m_X12_hinders_10 f (nI v) (9 * nI v) (b2i (s_plc S v == 1 && anyR i fun w => s_own S w == s_own S v && s_plc S w == 0)) (nI i) σ = m_X12_hinders_83 FU (nI v) (9 * nI v) (b2i (s_plc S v == 1 && anyR (s_nv S) fun w => s_own S w == s_own S v && s_plc S w == 0)) 0 0 σ) (by omega) (fun f => by
      unfold m_X12_hinders_10
      rw [hR.nv, if_pos (nI_le (Nat.le_refl _) (by omega))]) (fun i f hi ih => by
      have wi := hW.own hi
      have wa := hW.abc hi
      obtain ⟨i0, -, -, -, -, i5, -⟩ := r_rd hW.1 hR.1 hi
      rw [anyR_s] at ih
      unfold m_X12_hinders_10 m_X12_hinders_70 m_X12_hinders_69 m_X12_hinders_70
      rw [hR.nv, if_neg (nI_ge hi (by omega))]
      simp only [e0, e5, i5, r_packageOf hW.1 hR.1 hi, obind_some, nI_1, b2i_0, nI_eq (show s_own S i < 2 ^ 31 by omega) (show s_own S v < 2 ^ 31 by omega), nI_o (show s_plc S v < 2 ^ 31 by omega), nI_z (show s_plc S i < 2 ^ 31 by omega)]
      by_cases h1 : s_plc S v = 1
      · by_cases h2 : s_own S i = s_own S v
        · by_cases h3 : s_plc S i = 0
          · cases h4 : anyR i (fun w => s_own S w == s_own S v && s_plc S w == 0) <;> simp_all [b2i]
            all_goals exact ih
          · cases h4 : anyR i (fun w => s_own S w == s_own S v && s_plc S w == 0) <;> simp_all [b2i]
            all_goals exact ih
        · cases h4 : anyR i (fun w => s_own S w == s_own S v && s_plc S w == 0) <;> simp_all [b2i]
          all_goals exact ih
      · simp_all [b2i]) 0 (Nat.zero_le _)
  unfold m_X12_hinders
  simp only [obind_some]
  rw [anyR_0, Bool.and_false] at key
  rw [show (0 : Int32) = b2i false from rfl]
  refine key.trans ?_
  congr 1
  unfold s_first
  by_cases h1 : s_plc S v = 1
  · simp [h1]
  · rw [show (s_plc S v == 1) = false from by simpa using h1]
    simp [h1]
theorem r_bad (hW : WF S) (hR : RM S σ) {v : Nat} (hv : v < s_nv S) {x : Int32} : m_X12_hinders_83 FU (nI v) (9 * nI v) x 0 0 σ = (if s_ynk S v = 1 ∧ s_lock S (s_own S v) ≠ v + 1 then m_X12_hinders_185 (9 * nI v) x (b2i (anyR (s_na S) fun i => s_apk S i == s_own S v && s_has S (24 * s_arg S i + v) == 1)) 1 σ else m_X12_hinders_185 (9 * nI v) x (b2i (anyR (s_na S) fun i => s_apk S i == s_own S v && s_has S (24 * s_arg S i + v) == 1)) 0 σ) := by
  have h24 := hW.nv
  have h8 := hW.na
  have hp := hW.own hv
  have hl := (hW.lock hp).1
  have hy := hW.ynk (show v < 24 by omega)
  obtain ⟨e0, -, -, -, -, -, e6, -⟩ := r_rd hW.1 hR.1 hv
  refine up_fu (n := s_na S) (P := fun i f => m_X12_hinders_83 f (nI v) (9 * nI v) x (b2i (anyR i fun i => s_apk S i == s_own S v && s_has S (24 * s_arg S i + v) == 1)) (nI i) σ = (if s_ynk S v = 1 ∧ s_lock S (s_own S v) ≠ v + 1 then m_X12_hinders_185 (9 * nI v) x (b2i (anyR (s_na S) fun i => s_apk S i == s_own S v && s_has S (24 * s_arg S i + v) == 1)) 1 σ else m_X12_hinders_185 (9 * nI v) x (b2i (anyR (s_na S) fun i => s_apk S i == s_own S v && s_has S (24 * s_arg S i + v) == 1)) 0 σ)) (by omega) (fun f => ?_) (fun i f hi ih => ?_) 0 (Nat.zero_le _)
  · have e3 : ald σ 103 6 (nI (s_own S v)) = some (oi (s_lock S (s_own S v))) := by rw [ald_nI (by omega) (by decide), (hR.pkg hp).2.1]
    unfold m_X12_hinders_83 m_X12_hinders_184
    rw [hR.na, if_pos (nI_le (Nat.le_refl _) (by omega))]
    simp only [e0, e6, e3, obind_some, oi_nI (show v < 2 ^ 30 by omega) (show s_lock S (s_own S v) < 2 ^ 31 by omega), nI_o (show s_ynk S v < 2 ^ 31 by omega)]
    by_cases h1 : s_ynk S v = 1
    · by_cases h2 : s_lock S (s_own S v) = v + 1 <;> simp [h1, h2]
    · simp [h1]
  · have wa := hW.adv hi
    have r1 := r_adv hW hR hi
    rw [anyR_s] at ih
    unfold m_X12_hinders_83 m_X12_hinders_143 m_X12_hinders_144
    rw [hR.na, if_neg (nI_ge hi (by omega))]
    simp only [e0, r1.1, r1.2, r_has hW hR wa.2 hv, has_0 hW wa.2 hv, obind_some, nI_1, b2i_0, nI_eq (show s_apk S i < 2 ^ 31 by omega) (show s_own S v < 2 ^ 31 by omega)]
    cases h4 : anyR i (fun i => s_apk S i == s_own S v && s_has S (24 * s_arg S i + v) == 1) with
    | true =>
      simp only [h4, Bool.true_or] at ih
      simp only [Bool.true_eq_false, if_false]
      exact ih
    | false =>
      simp only [h4, Bool.false_or] at ih
      simp only [if_true]
      by_cases h2 : s_apk S i = s_own S v
      · cases h3 : (s_has S (24 * s_arg S i + v) == 1) with
        | true =>
          simp only [h2, h3, beq_self_eq_true, Bool.true_and] at ih
          simp only [h2, if_true, Bool.true_eq_false, if_false]
          exact ih
        | false =>
          simp only [h2, h3, beq_self_eq_true, Bool.and_false] at ih
          simp only [h2, if_true]
          exact ih
      · rw [show (s_apk S i == s_own S v) = false from by simp [h2], Bool.false_and] at ih
        rw [if_neg h2]
        exact ih
theorem r_hinders (hW : WF S) (hR : RM S σ) {v : Nat} (hv : v < s_nv S) : m_X12_hinders (nI v) σ = some (nI (s_flaw S v), σ) := by
  have h24 := hW.nv
  have hpl := hW.plat (show v < 24 by omega)
  have hpt := hW.plt
  obtain ⟨-, -, -, -, -, -, -, e7, -⟩ := r_rd hW.1 hR.1 hv
  have e185 : ∀ a b c : Bool, m_X12_hinders_185 (9 * nI v) (b2i a) (b2i b) (b2i c) σ = some (nI (if a = true then 1 else if c = true then 2 else if (s_plat S v).testBit (s_plt S) = false then 3 else if b = true then 4 else 0), σ) := by
    intro a b c
    unfold m_X12_hinders_185 m_X12_hinders_211
    simp only [e7, obind_some, hR.plt, sh1 (show s_plat S v < 2 ^ 31 by omega) (show s_plt S < 31 by omega)]
    cases a <;> cases b <;> cases c <;> cases (s_plat S v).testBit (s_plt S) <;> rfl
  rw [r_hid hW hR hv, r_bad hW hR hv]
  unfold s_flaw
  by_cases h1 : s_ynk S v = 1 ∧ s_lock S (s_own S v) ≠ v + 1
  · rw [if_pos h1, show (1 : Int32) = b2i true from rfl, e185]
    by_cases h2 : s_plc S v = 1 ∧ s_first S (s_own S v) = true <;> simp [h1, h2]
  · rw [if_neg h1, show (0 : Int32) = b2i false from rfl, e185]
    by_cases h2 : s_plc S v = 1 ∧ s_first S (s_own S v) = true
    · simp [h2]
    · simp only [h2, decide_false, Bool.false_eq_true, if_false, if_neg h1]
/-! who stands for a package -/
theorem s_walk_fix {p : Nat} (h : s_rep S p = 0) : ∀ n, s_walk S n p = p
  | 0 => rfl
  | n + 1 => by
    unfold s_walk
    rw [show s_step S p = p from by unfold s_step; rw [if_pos h]]
    exact s_walk_fix h n
theorem s_step_lt (hW : WF S) {p : Nat} (hp : p < 6) : s_step S p < 6 := by
  have := (hW.rep hp).1
  unfold s_step
  split <;> omega
theorem s_walk_lt (hW : WF S) : ∀ (n : Nat) {p : Nat}, p < 6 → s_walk S n p < 6
  | 0, p, hp => hp
  | n + 1, p, hp => s_walk_lt hW n (s_step_lt hW hp)
theorem s_heir_lt (hW : WF S) {p : Nat} (hp : p < 6) : s_heir S p < 6 := s_walk_lt hW 6 hp
theorem r_standsFor (hW : WF S) (hR : RM S σ) {p : Nat} (hp : p < 6) : m_X12_standsFor (nI p) σ = some (nI (s_heir S p), σ) := by
  have key : ∀ (n p f : Nat), p < 6 → s_rep S (s_walk S n p) = 0 → n < f → m_X12_standsFor_2 f (nI p) σ = some (nI (s_walk S n p), σ) := by
    intro n
    induction n with
    | zero =>
      intro p f hp h hf
      obtain ⟨g, rfl⟩ : ∃ g, f = g + 1 := ⟨f - 1, by omega⟩
      have h : s_rep S p = 0 := h
      unfold m_X12_standsFor_2
      rw [ald_nI hp (by decide), obind_some, (hR.pkg hp).1, if_pos ((oi_m1 (by have := (hW.rep hp).1; omega)).mpr h)]
      rfl
    | succ n ih =>
      intro p f hp h hf
      obtain ⟨g, rfl⟩ : ∃ g, f = g + 1 := ⟨f - 1, by omega⟩
      have h6 := (hW.rep hp).1
      unfold m_X12_standsFor_2
      rw [ald_nI hp (by decide), obind_some, (hR.pkg hp).1]
      by_cases h0 : s_rep S p = 0
      · rw [if_pos ((oi_m1 (by omega)).mpr h0), s_walk_fix h0]
      · rw [if_neg (fun e => h0 ((oi_m1 (by omega)).mp e)), obind_some]
        have e : oi (s_rep S p) = nI (s_step S p) := by
          unfold oi s_step
          rw [if_neg h0, if_neg h0]
        rw [e]
        exact ih (s_step S p) g (s_step_lt hW hp) h (by omega)
  exact key 6 p FU hp (hW.rep hp).2 (by rw [FU_eq]; omega)
/-! demands -/
theorem s_dems_s {ws i : Nat} (f : Nat → Bool) : nI (setB i f) ||| (if f i = true then nI (2 ^ i) else 0) = nI (setB (i + 1) f) := by
  rw [show (if f i = true then nI (2 ^ i) else 0) = nI (if f i = true then 2 ^ i else 0) from by split <;> rfl, nI_or]
  rfl
theorem r_demandsOf (hW : WF S) (hR : RM S σ) {ws : Nat} (hws : ws < 2 ^ 31) : m_X12_demandsOf (nI ws) σ = some (nI (s_dems S ws), σ) := by
  have h6 := hW.nd
  refine up_fu (n := s_nd S) (P := fun i f => m_X12_demandsOf_4 f (nI ws) (nI (setB i fun d => ws.testBit (s_dws S d))) (nI i) σ = some (nI (s_dems S ws), σ)) (by omega) (fun f => ?_) (fun i f hi ih => ?_) 0 (Nat.zero_le _)
  · unfold m_X12_demandsOf_4
    rw [hR.nd, if_pos (nI_le (Nat.le_refl _) (by omega))]
    rfl
  · have wd := hW.dem hi
    unfold m_X12_demandsOf_4 m_X12_demandsOf_36
    rw [hR.nd, if_neg (nI_ge hi (by omega))]
    simp only [(r_dem hW hR hi).1, obind_some, nI_1, bit_iff hws (show s_dws S i < 31 by omega), one_shl (show i < 31 by omega)]
    rw [← s_dems_s (ws := 0)] at ih
    split
    · rename_i h
      rw [if_pos h] at ih
      exact ih
    · rename_i h
      rw [if_neg h] at ih
      exact ih
theorem s_dems_lt (hW : WF S) (ws : Nat) : s_dems S ws < 64 := by
  have h6 := hW.nd
  exact Nat.lt_of_lt_of_le (setB_lt _ _) (Nat.pow_le_pow_right (by decide) h6 : 2 ^ s_nd S ≤ 2 ^ 6)
/-- all demands of D on a package hold a version, or none -/
def s_dmd (S : SP) (D p x : Nat) : Bool := !anyR (s_nd S) fun d => D.testBit d && s_heir S (s_dtg S d) == p && !(x != 0 && s_has S (24 * s_drg S d + (x - 1)) == 1)
theorem r_isDemanded (hW : WF S) (hR : RM S σ) {D p x : Nat} (hD : D < 64) (h25 : σ 94 25 = nI D) (hp : p < 6) (hx : x ≤ s_nv S) : m_X12_isDemanded (nI p) (oi x) σ = some (b2i (s_dmd S D p x), σ) := by
  have h6 := hW.nd
  have h24 := hW.nv
  refine up_fu (n := s_nd S) (P := fun i f => m_X12_isDemanded_5 f (nI p) (oi x) (b2i (!anyR i fun d => D.testBit d && s_heir S (s_dtg S d) == p && !(x != 0 && s_has S (24 * s_drg S d + (x - 1)) == 1))) (nI i) σ = some (b2i (s_dmd S D p x), σ)) (by omega) (fun f => ?_) (fun i f hi ih => ?_) 0 (Nat.zero_le _)
  · unfold m_X12_isDemanded_5
    rw [hR.nd, if_pos (nI_le (Nat.le_refl _) (by omega)), zchk_b]
    rfl
  · have wd := hW.dem hi
    have wh := s_heir_lt hW wd.2.1
    obtain ⟨-, d1, d2, -⟩ := r_dem hW hR hi
    rw [anyR_s] at ih
    unfold m_X12_isDemanded_5 m_X12_isDemanded_51 m_X12_isDemanded_50 m_X12_isDemanded_51 m_X12_isDemanded_95 m_X12_isDemanded_96
    rw [hR.nd, if_neg (nI_ge hi (by omega)), h25]
    simp only [d1, d2, r_standsFor hW hR wd.2.1, obind_some, nI_1, bit_iff (show D < 2 ^ 31 by omega) (show i < 31 by omega), nI_eq (show s_heir S (s_dtg S i) < 2 ^ 31 by omega) (show p < 2 ^ 31 by omega), oi_m1 (show x < 2 ^ 31 by omega)]
    cases h4 : anyR i (fun d => D.testBit d && s_heir S (s_dtg S d) == p && !(x != 0 && s_has S (24 * s_drg S d + (x - 1)) == 1)) with
    | true =>
      rw [h4] at ih
      simp only [Bool.true_or, Bool.not_true, b2i, Bool.false_eq_true, if_false] at ih
      simp only [Bool.not_true, b2i, Bool.false_eq_true, if_false, if_true, ih]
      simp
    | false =>
      rw [h4] at ih
      simp only [Bool.false_or] at ih
      simp only [Bool.not_false, b2i, if_true, show ¬ (1 : Int32) = 0 by decide, if_false]
      by_cases h1 : D.testBit i = true
      · by_cases h2 : s_heir S (s_dtg S i) = p
        · rcases Nat.eq_zero_or_pos x with h0 | h0
          · subst h0
            simp [h1, h2, b2i] at ih
            simp [h1, h2, ih, b2i]
          · obtain ⟨v, rfl⟩ : ∃ v, x = v + 1 := ⟨x - 1, by omega⟩
            have hv : v < s_nv S := by omega
            simp only [oi_s, r_has hW hR wd.2.2.1 hv, has_0 hW wd.2.2.1 hv, obind_some, Nat.add_one_sub_one] at ih ⊢
            cases h3 : (s_has S (24 * s_drg S i + v) == 1)
            · rw [h3] at ih
              simp [h1, h2, b2i] at ih
              simp [h1, h2, ih, b2i]
            · rw [h3] at ih
              simp [h1, h2, b2i] at ih
              simp [h1, h2, ih, b2i]
        · simp [h1, h2, b2i] at ih
          simp [h1, h2, ih, b2i]
      · simp [h1, b2i] at ih
        simp [h1, ih, b2i]
theorem r_counts (hW : WF S) (hR : RM S σ) {v k p fs : Nat} (hv : v < s_nv S) (hk : k < s_nn S v) (hp : p < 6) (h7 : σ 107 p = nI fs) (hfs : fs < 2 ^ 31) : m_X12_counts (6 * (5 * nI v + nI k)) (nI p) σ = some (b2i (s_counts S (5 * v + k) fs), σ) := by
  have h1 := hW.need hv hk
  have hpt := hW.plt
  obtain ⟨-, -, -, e3, e4, -⟩ := r_need hW hR hv hk
  have e7 : ald σ 107 6 (nI p) = some (nI fs) := by rw [ald_nI hp (by decide), h7]
  unfold m_X12_counts s_counts
  simp only [e3, e4, e7, obind_some, hR.plt, bit_iff (show s_npl S (5 * v + k) < 2 ^ 31 by omega) (show s_plt S < 31 by omega), oi_m1 (show s_nft S (5 * v + k) < 2 ^ 31 by omega)]
  cases h4 : (s_npl S (5 * v + k)).testBit (s_plt S) with
  | false => simp [b2i]
  | true =>
    by_cases h0 : s_nft S (5 * v + k) = 0
    · simp [h0, b2i]
    · obtain ⟨j, hj⟩ : ∃ j, s_nft S (5 * v + k) = j + 1 := ⟨s_nft S (5 * v + k) - 1, by omega⟩
      simp only [hj, oi_s, bit_iff hfs (show j < 31 by omega)]
      cases hb : fs.testBit j <;> simp [b2i, hb]
end REF2
