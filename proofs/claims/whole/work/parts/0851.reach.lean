/-! ===== which versions a range has: both sides' own ways ===== -/
section REACH
variable {S : SP} {σ : Mem}
def fromK (k a b c p : Nat) : Nat := if k = 2 ∨ k = 3 then 0 else rk4 a b c p
def endK (k a b c p : Nat) : Nat :=
  if k = 0 then rk4 a b c p + 1
  else if k = 2 then rk4 a b c p
  else if k = 4 then (if 0 < a then rk4 (a + 1) 0 0 0 else if 0 < b then rk4 0 (b + 1) 0 0 else rk4 0 0 (c + 1) 0)
  else if k = 5 ∨ k = 7 then rk4 a (b + 1) 0 0
  else if k = 6 then rk4 (a + 1) 0 0 0
  else 65536
def triK (a b c p : Nat) : Nat := if p = 0 then 0 else (a * 16 + b) * 16 + c + 1
def rchK (fr en tri rk : Nat) : Bool := decide (fr ≤ rk) && decide (rk < en) && (decide (rk % 16 = 10) || decide (tri = rk / 16 + 1))
theorem reach_eq {k a b c p va vb vc vp : Nat} (hk : k < 8) (ha : a ≤ 9) (hb : b ≤ 9) (hc : c ≤ 9) (hp : p ≤ 9) (ga : va ≤ 9) (gb : vb ≤ 9) (gc : vc ≤ 9) (gp : vp ≤ 9) (h3 : k = 3 ∨ k = 6 ∨ k = 7 → p = 0) (h6 : k = 6 → b = 0) (h7 : k = 6 ∨ k = 7 → c = 0) : rchK (fromK k a b c p) (endK k a b c p) (triK a b c p) (rk4 va vb vc vp) = s_reach k a b c p va vb vc vp := by
  apply Bool.eq_iff_iff.mpr
  rcases (show k = 0 ∨ k = 1 ∨ k = 2 ∨ k = 3 ∨ k = 4 ∨ k = 5 ∨ k = 6 ∨ k = 7 by omega) with rfl | rfl | rfl | rfl | rfl | rfl | rfl | rfl <;> by_cases hp0 : p = 0 <;> by_cases hv0 : vp = 0 <;> simp [rchK, s_reach, fromK, endK, triK, rk4, hp0, hv0] <;> (try split) <;> (try split) <;> omega
theorem or16 (a : Nat) {b : Nat} (hb : b < 16) : a * 16 ||| b = a * 16 + b := by
  have h := Nat.two_pow_add_eq_or_of_lt (i := 4) (b := b) hb a
  rw [show (2 : Nat) ^ 4 * a = a * 16 by omega] at h
  exact h.symm
theorem nI_sl4 {n : Nat} (h : n < 2 ^ 27) : nI n <<< ((4 : Int32) &&& 31) = nI (n * 16) := nI_shl (j := 4) (by decide) (by omega)
theorem nI_sr4 {n : Nat} (h : n < 2 ^ 31) : nI n >>> ((4 : Int32) &&& 31) = nI (n / 16) := nI_shr (j := 4) h (by decide)
theorem c_rankOf {a b c p : Nat} (ha : a ≤ 10) (hb : b ≤ 10) (hc : c ≤ 10) (hp : p ≤ 9) : m_X11_rankOf (nI a) (nI b) (nI c) (nI p) σ = some (nI (rk4 a b c p), σ) := by
  unfold m_X11_rankOf
  rw [nI_sl4 (by omega), nI_or, or16 a (by omega), nI_sl4 (by omega), nI_or, or16 (a * 16 + b) (by omega), obind_s]
  by_cases h0 : p = 0
  · rw [if_pos (show nI p = 0 by rw [h0]; rfl), nI_sl4 (by omega), show (10 : Int32) = nI 10 from rfl, nI_or, or16 _ (by omega)]
    unfold rk4
    rw [if_pos h0]
  · rw [if_neg (show ¬ nI p = 0 from fun e => h0 ((nI_z (by omega)).mp e)), nI_sl4 (by omega), nI_or, or16 _ (by omega)]
    unfold rk4
    rw [if_neg h0]
theorem c_reaches {r fr en tri rk : Nat} (hr : r < 30) (h21 : σ 21 r = nI fr) (h23 : σ 23 r = nI en) (h25 : σ 25 r = oi tri) (b1 : fr < 2 ^ 20) (b2 : en < 2 ^ 20) (b3 : tri < 2 ^ 20) (b4 : rk < 2 ^ 20) : m_X6_reaches (nI r) (nI rk) σ = some (b2i (rchK fr en tri rk), σ) := by
  unfold m_X6_reaches rchK
  rw [x_get hr (by decide), h21, obind_s]
  dsimp only
  by_cases g1 : fr ≤ rk
  · rw [if_neg (nI_nlt g1 (by omega)), x_get hr (by decide), h23, obind_s]
    dsimp only
    by_cases g2 : rk < en
    · rw [if_neg (nI_ge g2 (by omega))]
      unfold m_X11_hasPre
      have e15 : nI rk &&& 15 = nI (rk % 16) := pk_andN (n := rk) (by omega) (m := 15) 4 (by decide)
      rw [e15]
      by_cases g3 : rk % 16 = 10
      · rw [if_pos (show nI (rk % 16) = 10 by rw [g3]; rfl), obind_s, if_pos rfl]
        simp [g1, g2, g3, b2i]
      · have h10 : ¬ nI (rk % 16) = 10 := fun e => g3 ((nI_eq (b := 10) (by omega) (by decide)).mp e)
        rw [if_neg h10, obind_s, if_neg (show ¬ (1 : Int32) = 0 from ne10)]
        dsimp only
        rw [x_get hr (by decide), h25, obind_s]
        unfold m_X11_triple
        rw [nI_sr4 (by omega), obind_s]
        dsimp only
        by_cases g4 : tri = rk / 16 + 1
        · rw [if_pos ((oi_nI (by omega) (by omega)).mpr g4)]
          simp [g1, g2, g4, b2i]
        · rw [if_neg (fun e => g4 ((oi_nI (by omega) (by omega)).mp e))]
          simp [g1, g2, g3, g4, b2i]
    · rw [if_pos (nI_le (by omega) (by omega))]
      simp [g1, g2, b2i]
  · rw [if_pos (nI_lt (by omega) (by omega))]
    simp [g1, b2i]
theorem r_374 {x : Int32} : m_X12_isIn_374 x σ = some (b2i (decide (x < 0)), σ) := by
  unfold m_X12_isIn_374
  by_cases h : x < 0
  · rw [if_neg (Int32.not_le.mpr h), decide_eq_true h]
    rfl
  · rw [if_pos (Int32.not_lt.mp h), decide_eq_false h]
    rfl
/-- the rest of a range's check, behind the pre's one -/
theorem r_237 (hW : WFv S) (hR : RMv S σ) {v k a b c p : Nat} {x : Int32} (hv : v < s_nv S) (hk : k < 8) (ha : a ≤ 9) (hb : b ≤ 9) (hc : c ≤ 9) (hx : sgn3 x (s_rank S v) (rk4 a b c p)) : m_X12_isIn_237 (nI v) (nI a) (nI b) (nI c) (nI k) x σ = some (b2i (
    if k = 0 then s_rank S v == rk4 a b c p
   else if k = 1 then decide (rk4 a b c p ≤ s_rank S v)
   else if k = 2 then decide (s_rank S v < rk4 a b c p)
   else if k = 3 then true
   else if k = 4 then decide (rk4 a b c p ≤ s_rank S v) && decide (s_rank S v < (if 0 < a then rk4 (a + 1) 0 0 0 else if 0 < b then rk4 0 (b + 1) 0 0 else rk4 0 0 (c + 1) 0))
   else if k = 5 then decide (rk4 a b c p ≤ s_rank S v) && decide (s_rank S v < rk4 a (b + 1) 0 0)
   else if k = 6 then s_a S v == a
   else s_a S v == a && s_b S v == b), σ) := by
  obtain ⟨x1, x2, x3⟩ := hx
  obtain ⟨w1, w2, w3, w4, -⟩ := (hW.2.1 v hv).2
  obtain ⟨e0, e1, e2, e3, e4, -⟩ := r_rd hW hR hv
  have hle : 0 ≤ x ↔ rk4 a b c p ≤ s_rank S v := by
    rw [← Int32.not_lt, x1]
    omega
  rcases (show k = 0 ∨ k = 1 ∨ k = 2 ∨ k = 3 ∨ k = 4 ∨ k = 5 ∨ k = 6 ∨ k = 7 by omega) with rfl | rfl | rfl | rfl | rfl | rfl | rfl | rfl
  · unfold m_X12_isIn_237
    rw [if_pos (show nI 0 = 0 from rfl), if_pos (show (0 : Nat) = 0 from rfl)]
    by_cases h : s_rank S v = rk4 a b c p
    · rw [if_pos (x3.mpr h), h, beq_self_eq_true]
      rfl
    · rw [if_neg (fun e => h (x3.mp e)), beq_eq_false_iff_ne.mpr h]
      rfl
  · unfold m_X12_isIn_237
    rw [if_neg (show ¬ nI 1 = 0 by decide), if_pos (show nI 1 = 1 from rfl), if_neg (show ¬ (1 : Nat) = 0 by decide), if_pos (show (1 : Nat) = 1 from rfl)]
    by_cases h : s_rank S v < rk4 a b c p
    · rw [if_pos (x1.mpr h), decide_eq_false (by omega)]
      rfl
    · rw [if_neg (fun e => h (x1.mp e)), decide_eq_true (by omega)]
      rfl
  · unfold m_X12_isIn_237
    rw [if_neg (show ¬ nI 2 = 0 by decide), if_neg (show ¬ nI 2 = 1 by decide), if_pos (show nI 2 = 2 from rfl), if_neg (show ¬ (2 : Nat) = 0 by decide), if_neg (show ¬ (2 : Nat) = 1 by decide), if_pos (show (2 : Nat) = 2 from rfl)]
    by_cases h : rk4 a b c p ≤ s_rank S v
    · rw [if_pos (hle.mpr h), decide_eq_false (by omega)]
      rfl
    · rw [if_neg (fun e => h (hle.mp e)), decide_eq_true (by omega)]
      rfl
  · unfold m_X12_isIn_237
    rw [if_neg (show ¬ nI 3 = 0 by decide), if_neg (show ¬ nI 3 = 1 by decide), if_neg (show ¬ nI 3 = 2 by decide), if_pos (show nI 3 = 3 from rfl), if_neg (show ¬ (3 : Nat) = 0 by decide), if_neg (show ¬ (3 : Nat) = 1 by decide), if_neg (show ¬ (3 : Nat) = 2 by decide), if_pos (show (3 : Nat) = 3 from rfl)]
    rfl
  · unfold m_X12_isIn_237
    rw [if_neg (show ¬ nI 4 = 0 by decide), if_neg (show ¬ nI 4 = 1 by decide), if_neg (show ¬ nI 4 = 2 by decide), if_neg (show ¬ nI 4 = 3 by decide), if_pos (show nI 4 = 4 from rfl), if_neg (show ¬ (4 : Nat) = 0 by decide), if_neg (show ¬ (4 : Nat) = 1 by decide), if_neg (show ¬ (4 : Nat) = 2 by decide), if_neg (show ¬ (4 : Nat) = 3 by decide), if_pos (show (4 : Nat) = 4 from rfl)]
    by_cases h : s_rank S v < rk4 a b c p
    · rw [if_pos (x1.mpr h), decide_eq_false (by omega), Bool.false_and]
      rfl
    · rw [if_neg (fun e => h (x1.mp e)), decide_eq_true (show rk4 a b c p ≤ s_rank S v by omega), Bool.true_and]
      by_cases g1 : 0 < a
      · obtain ⟨y, ey, y1, -⟩ := r_compareTo hW hR (a := a + 1) (b := 0) (c := 0) (p := 0) hv (by omega) (by omega) (by omega) (by omega)
        rw [if_neg (show ¬ nI a ≤ 0 from nI_ge (a := 0) g1 (by omega)), nI_1, show (0 : Int32) = nI 0 from rfl, ey, obind_s]
        dsimp only
        rw [r_374, if_pos g1]
        congr 3
        exact decide_eq_decide.mpr y1
      · rw [if_pos (show nI a ≤ 0 from nI_le (b := 0) (by omega) (by decide)), if_neg g1]
        by_cases g2 : 0 < b
        · obtain ⟨y, ey, y1, -⟩ := r_compareTo hW hR (a := 0) (b := b + 1) (c := 0) (p := 0) hv (by omega) (by omega) (by omega) (by omega)
          rw [if_neg (show ¬ nI b ≤ 0 from nI_ge (a := 0) g2 (by omega)), nI_1, show (0 : Int32) = nI 0 from rfl, ey, obind_s]
          dsimp only
          rw [r_374, if_pos g2]
          congr 3
          exact decide_eq_decide.mpr y1
        · obtain ⟨y, ey, y1, -⟩ := r_compareTo hW hR (a := 0) (b := 0) (c := c + 1) (p := 0) hv (by omega) (by omega) (by omega) (by omega)
          rw [if_pos (show nI b ≤ 0 from nI_le (b := 0) (by omega) (by decide)), nI_1, show (0 : Int32) = nI 0 from rfl, ey, obind_s]
          dsimp only
          rw [r_374, if_neg g2]
          congr 3
          exact decide_eq_decide.mpr y1
  · unfold m_X12_isIn_237
    rw [if_neg (show ¬ nI 5 = 0 by decide), if_neg (show ¬ nI 5 = 1 by decide), if_neg (show ¬ nI 5 = 2 by decide), if_neg (show ¬ nI 5 = 3 by decide), if_neg (show ¬ nI 5 = 4 by decide), if_pos (show nI 5 = 5 from rfl), if_neg (show ¬ (5 : Nat) = 0 by decide), if_neg (show ¬ (5 : Nat) = 1 by decide), if_neg (show ¬ (5 : Nat) = 2 by decide), if_neg (show ¬ (5 : Nat) = 3 by decide), if_neg (show ¬ (5 : Nat) = 4 by decide), if_pos (show (5 : Nat) = 5 from rfl)]
    by_cases h : s_rank S v < rk4 a b c p
    · rw [if_pos (x1.mpr h), decide_eq_false (by omega), Bool.false_and]
      rfl
    · obtain ⟨y, ey, y1, y2, y3⟩ := r_compareTo hW hR (a := a) (b := b + 1) (c := 0) (p := 0) hv (by omega) (by omega) (by omega) (by omega)
      rw [if_neg (fun e => h (x1.mp e)), decide_eq_true (show rk4 a b c p ≤ s_rank S v by omega), Bool.true_and, nI_1]
      rw [show m_X12_compareTo (nI v) (nI a) (nI (b + 1)) 0 0 σ = some (y, σ) from ey, obind_s]
      dsimp only
      by_cases h2 : y < 0
      · rw [if_neg (Int32.not_le.mpr h2), decide_eq_true (y1.mp h2)]
        rfl
      · rw [if_pos (Int32.not_lt.mp h2), decide_eq_false (fun e => h2 (y1.mpr e))]
        rfl
  · unfold m_X12_isIn_237
    rw [if_neg (show ¬ nI 6 = 0 by decide), if_neg (show ¬ nI 6 = 1 by decide), if_neg (show ¬ nI 6 = 2 by decide), if_neg (show ¬ nI 6 = 3 by decide), if_neg (show ¬ nI 6 = 4 by decide), if_neg (show ¬ nI 6 = 5 by decide), if_pos (show nI 6 = 6 from rfl), if_neg (show ¬ (6 : Nat) = 0 by decide), if_neg (show ¬ (6 : Nat) = 1 by decide), if_neg (show ¬ (6 : Nat) = 2 by decide), if_neg (show ¬ (6 : Nat) = 3 by decide), if_neg (show ¬ (6 : Nat) = 4 by decide), if_neg (show ¬ (6 : Nat) = 5 by decide), if_pos (show (6 : Nat) = 6 from rfl)]
    rw [e1, obind_s]
    by_cases h : s_a S v = a
    · rw [if_pos (show nI (s_a S v) = nI a by rw [h]), h, beq_self_eq_true]
      rfl
    · rw [if_neg (fun e => h ((nI_eq (by omega) (by omega)).mp e)), beq_eq_false_iff_ne.mpr h]
      rfl
  · unfold m_X12_isIn_237
    rw [if_neg (show ¬ nI 7 = 0 by decide), if_neg (show ¬ nI 7 = 1 by decide), if_neg (show ¬ nI 7 = 2 by decide), if_neg (show ¬ nI 7 = 3 by decide), if_neg (show ¬ nI 7 = 4 by decide), if_neg (show ¬ nI 7 = 5 by decide), if_neg (show ¬ nI 7 = 6 by decide), if_pos (show nI 7 = 7 from rfl), if_neg (show ¬ (7 : Nat) = 0 by decide), if_neg (show ¬ (7 : Nat) = 1 by decide), if_neg (show ¬ (7 : Nat) = 2 by decide), if_neg (show ¬ (7 : Nat) = 3 by decide), if_neg (show ¬ (7 : Nat) = 4 by decide), if_neg (show ¬ (7 : Nat) = 5 by decide), if_neg (show ¬ (7 : Nat) = 6 by decide)]
    rw [e1, obind_s]
    by_cases h : s_a S v = a
    · rw [if_pos (show nI (s_a S v) = nI a by rw [h]), h, beq_self_eq_true, Bool.true_and, e2, obind_s]
      by_cases h2 : s_b S v = b
      · rw [if_pos (show nI (s_b S v) = nI b by rw [h2]), h2, beq_self_eq_true]
        rfl
      · rw [if_neg (fun e => h2 ((nI_eq (by omega) (by omega)).mp e)), beq_eq_false_iff_ne.mpr h2]
        rfl
    · rw [if_neg (fun e => h ((nI_eq (by omega) (by omega)).mp e)), beq_eq_false_iff_ne.mpr h, Bool.false_and]
      rfl
/-- the rows of a range, as the reference holds it -/
def RgR (σ : Mem) (r k a b c p : Nat) : Prop := σ 98 (5 * r) = nI k ∧ σ 98 (5 * r + 1) = nI a ∧ σ 98 (5 * r + 2) = nI b ∧ σ 98 (5 * r + 3) = nI c ∧ σ 98 (5 * r + 4) = nI p
theorem RgR.rd {r k a b c p : Nat} (h : RgR σ r k a b c p) (hr : r < 30) : ald σ 98 150 (5 * nI r + 1) = some (nI a) ∧ ald σ 98 150 (5 * nI r + 2) = some (nI b) ∧ ald σ 98 150 (5 * nI r + 3) = some (nI c) ∧ ald σ 98 150 (5 * nI r + 4) = some (nI p) ∧ ald σ 98 150 (5 * nI r) = some (nI k) := by
  obtain ⟨h0, h1, h2, h3, h4⟩ := h
  rw [mul_nI (y := 5) 5 rfl, add_nI (y := 1) 1 rfl, add_nI (y := 2) 2 rfl, add_nI (y := 3) 3 rfl, add_nI (y := 4) 4 rfl]
  rw [ald_nI (by omega) (by decide), ald_nI (by omega) (by decide), ald_nI (by omega) (by decide), ald_nI (by omega) (by decide), ald_nI (by omega) (by decide), h0, h1, h2, h3, h4]
  exact ⟨rfl, rfl, rfl, rfl, rfl⟩
theorem r_isInLow (hW : WFv S) (hR : RMv S σ) {r v k a b c p : Nat} (hr : r < 30) (hv : v < s_nv S) (hk : k < 8) (ha : a ≤ 9) (hb : b ≤ 9) (hc : c ≤ 9) (hp : p ≤ 9) (h : RgR σ r k a b c p) : m_X12_isIn (nI r) (nI v) σ = some (b2i (s_reach k a b c p (s_a S v) (s_b S v) (s_c S v) (s_pre S v)), σ) := by
  obtain ⟨f1, f2, f3, f4, f0⟩ := h.rd hr
  obtain ⟨w1, w2, w3, w4, -⟩ := (hW.2.1 v hv).2
  obtain ⟨e0, e1, e2, e3, e4, -⟩ := r_rd hW hR hv
  obtain ⟨x, ex, hx⟩ := r_compareTo hW hR (a := a) (b := b) (c := c) (p := p) hv (by omega) (by omega) (by omega) hp
  have t := r_237 (p := p) hW hR hv hk ha hb hc hx
  have h8 : ¬ nI k = 8 := fun e => by have := (nI_eq (b := 8) (by omega) (by decide)).mp e; omega
  have h9 : ¬ nI k = 9 := fun e => by have := (nI_eq (b := 9) (by omega) (by decide)).mp e; omega
  unfold m_X12_isIn
  rw [obind_s, f1, obind_s, f2, obind_s, f3, obind_s, f4, obind_s, f0, obind_s, if_neg h8, if_neg h9, ex, obind_s]
  dsimp only
  rw [e4, obind_s]
  by_cases q0 : s_pre S v = 0
  · rw [if_pos (show nI (s_pre S v) ≤ 0 from nI_le (b := 0) (by omega) (by decide)), t]
    unfold s_reach s_rank
    rw [show (s_pre S v == 0) = true from beq_iff_eq.mpr q0, Bool.true_or, Bool.true_and]
  · rw [if_neg (show ¬ nI (s_pre S v) ≤ 0 from nI_ge (a := 0) (by omega) (by omega)), e1, obind_s]
    have no : (k != 3 && p != 0 && s_a S v == a && s_b S v == b && s_c S v == c) = false → s_reach k a b c p (s_a S v) (s_b S v) (s_c S v) (s_pre S v) = false := fun e => by
      unfold s_reach
      rw [e, show (s_pre S v == 0) = false from beq_eq_false_iff_ne.mpr q0]
      rfl
    have z216 : m_X12_isIn_216 (nI v) (nI a) (nI b) (nI c) (nI p) (nI k) x σ = some (0, σ) := by
      unfold m_X12_isIn_216 m_X12_isIn_217
      split
      · rfl
      · split
        · rfl
        · rw [if_pos rfl]
    by_cases g1 : s_a S v = a
    · rw [if_pos (show nI (s_a S v) = nI a by rw [g1]), e2, obind_s]
      by_cases g2 : s_b S v = b
      · rw [if_pos (show nI (s_b S v) = nI b by rw [g2]), e3, obind_s]
        by_cases g3 : s_c S v = c
        · rw [if_pos (show nI (s_c S v) = nI c by rw [g3])]
          unfold m_X12_isIn_217
          by_cases g4 : k = 3
          · rw [if_pos (show nI k = 3 by rw [g4]; rfl), no (by simp [g4])]
            rfl
          · rw [if_neg (show ¬ nI k = 3 from fun e => g4 ((nI_eq (b := 3) (by omega) (by decide)).mp e))]
            by_cases g5 : p = 0
            · rw [if_pos (show nI p = 0 by rw [g5]; rfl), no (by simp [g5])]
              rfl
            · rw [if_neg (show ¬ nI p = 0 from fun e => g5 ((nI_z (by omega)).mp e)), if_neg ne10, t]
              have yes : (k != 3 && p != 0 && s_a S v == a && s_b S v == b && s_c S v == c) = true := by simp [g1, g2, g3, g4, g5]
              unfold s_reach s_rank
              rw [yes, Bool.or_true, Bool.true_and]
        · rw [if_neg (fun e => g3 ((nI_eq (by omega) (by omega)).mp e)), z216, no (by simp [g3])]
          rfl
      · rw [if_neg (fun e => g2 ((nI_eq (by omega) (by omega)).mp e)), z216, no (by simp [g2])]
        rfl
    · rw [if_neg (fun e => g1 ((nI_eq (by omega) (by omega)).mp e)), z216, no (by simp [g1])]
      rfl
theorem r_isInHigh {r v k a b c p : Nat} {ga gb : Bool} (hr : r < 30) (hv : v < 24) (hk : k = 8 ∨ k = 9) (ha : a < 30) (hb : b < 30) (h : RgR σ r k a b c p) (h1 : σ 99 (24 * a + v) = b2i ga) (h2 : σ 99 (24 * b + v) = b2i gb) : m_X12_isIn (nI r) (nI v) σ = some (b2i (if k = 8 then ga && gb else ga || gb), σ) := by
  obtain ⟨f1, f2, f3, f4, f0⟩ := h.rd hr
  have a1 : ald σ 99 720 (24 * nI a + nI v) = some (b2i ga) := by rw [mul_nI (y := 24) 24 rfl, nI_add, ald_nI (by omega) (by decide), h1]
  have a2 : ald σ 99 720 (24 * nI b + nI v) = some (b2i gb) := by rw [mul_nI (y := 24) 24 rfl, nI_add, ald_nI (by omega) (by decide), h2]
  have t : m_X12_isIn_66 (nI v) (nI a) (nI b) (nI k) σ = some (b2i (if k = 8 then ga && gb else ga || gb), σ) := by
    unfold m_X12_isIn_66
    rw [a1, obind_s, a2, obind_s]
    rcases hk with rfl | rfl
    · rw [if_pos (show nI 8 = 8 from rfl), if_pos rfl]
      cases ga <;> cases gb <;> rfl
    · rw [if_neg (show ¬ nI 9 = 8 by decide), if_neg (show ¬ (9 : Nat) = 8 by decide)]
      cases ga <;> cases gb <;> rfl
  unfold m_X12_isIn
  rw [obind_s, f1, obind_s, f2, obind_s, f3, obind_s, f4, obind_s, f0, obind_s]
  rcases hk with rfl | rfl
  · rw [if_pos (show nI 8 = 8 from rfl)]
    exact t
  · rw [if_neg (show ¬ nI 9 = 8 by decide), if_pos (show nI 9 = 9 from rfl)]
    exact t
end REACH
