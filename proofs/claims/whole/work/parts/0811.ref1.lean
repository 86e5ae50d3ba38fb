/-! ===== the reference: what it reads ===== -/
theorem mul_nI (k : Nat) {y : Int32} (hy : y = nI k) (v : Nat) : y * nI v = nI (k * v) := by rw [hy, nI_mul]
theorem add_nI (k : Nat) {y : Int32} (hy : y = nI k) (v : Nat) : nI v + y = nI (v + k) := by rw [hy, nI_add]
theorem sub_lt0 {a b : Nat} (ha : a < 2 ^ 30) (hb : b < 2 ^ 30) : nI a - nI b < 0 ↔ a < b := by
  rw [Int32.lt_iff_toInt_lt, pk_sub_toInt ha hb, show (0 : Int32).toInt = 0 from by decide]
  omega
theorem sub_gt0 {a b : Nat} (ha : a < 2 ^ 30) (hb : b < 2 ^ 30) : 0 < nI a - nI b ↔ b < a := by
  rw [Int32.lt_iff_toInt_lt, pk_sub_toInt ha hb, show (0 : Int32).toInt = 0 from by decide]
  omega
theorem sub_eq0 {a b : Nat} (ha : a < 2 ^ 30) (hb : b < 2 ^ 30) : nI a - nI b = 0 ↔ a = b := by
  rw [← Int32.toInt_inj, pk_sub_toInt ha hb, show (0 : Int32).toInt = 0 from by decide]
  omega
section REF
variable {S : SP} {σ : Mem}
theorem r_rd (hW : WFv S) (hR : RMv S σ) {v : Nat} (hv : v < s_nv S) : ald σ 95 216 (9 * nI v) = some (nI (s_own S v)) ∧ ald σ 95 216 (9 * nI v + 1) = some (nI (s_a S v)) ∧ ald σ 95 216 (9 * nI v + 2) = some (nI (s_b S v)) ∧ ald σ 95 216 (9 * nI v + 3) = some (nI (s_c S v)) ∧ ald σ 95 216 (9 * nI v + 4) = some (nI (s_pre S v)) ∧ ald σ 95 216 (9 * nI v + 5) = some (nI (s_plc S v)) ∧ ald σ 95 216 (9 * nI v + 6) = some (nI (s_ynk S v)) ∧ ald σ 95 216 (9 * nI v + 7) = some (nI (s_plat S v)) ∧ ald σ 95 216 (9 * nI v + 8) = some (nI (s_nn S v)) := by
  have h24 := hW.1
  obtain ⟨r0, r1, r2, r3, r4, r5, r7⟩ := hR.2.1 v hv
  have r6 := (hR.2.2.1 v (by omega)).1
  have r8 := (hR.2.2.1 v (by omega)).2
  have e : (9 : Int32) * nI v = nI (9 * v) := mul_nI 9 rfl v
  rw [e, add_nI (y := 1) 1 rfl, add_nI (y := 2) 2 rfl, add_nI (y := 3) 3 rfl, add_nI (y := 4) 4 rfl, add_nI (y := 5) 5 rfl, add_nI (y := 6) 6 rfl, add_nI (y := 7) 7 rfl, add_nI (y := 8) 8 rfl]
  rw [ald_nI (by omega) (by decide), ald_nI (by omega) (by decide), ald_nI (by omega) (by decide), ald_nI (by omega) (by decide), ald_nI (by omega) (by decide), ald_nI (by omega) (by decide), ald_nI (by omega) (by decide), ald_nI (by omega) (by decide), ald_nI (by omega) (by decide)]
  rw [r0, r1, r2, r3, r4, r5, r6, r7, r8]
  exact ⟨rfl, rfl, rfl, rfl, rfl, rfl, rfl, rfl, rfl⟩
theorem r_packageOf (hW : WFv S) (hR : RMv S σ) {v : Nat} (hv : v < s_nv S) : m_X12_packageOf (nI v) σ = some (nI (s_own S v), σ) := by
  unfold m_X12_packageOf
  rw [(r_rd hW hR hv).1]
  rfl
/-- the sign of a comparison -/
def sgn3 (x : Int32) (a b : Nat) : Prop := (x < 0 ↔ a < b) ∧ (0 < x ↔ b < a) ∧ (x = 0 ↔ a = b)
theorem r_compareTo (hW : WFv S) (hR : RMv S σ) {v a b c p : Nat} (hv : v < s_nv S) (ha : a ≤ 10) (hb : b ≤ 10) (hc : c ≤ 10) (hp : p ≤ 9) : ∃ x : Int32, m_X12_compareTo (nI v) (nI a) (nI b) (nI c) (nI p) σ = some (x, σ) ∧ sgn3 x (s_rank S v) (rk4 a b c p) := by
  obtain ⟨e0, e1, e2, e3, e4, -⟩ := r_rd hW hR hv
  obtain ⟨w1, w2, w3, w4, -⟩ := (hW.2.1 v hv).2
  have key : ∀ (s0 : Int32) (A B : Nat), A < 2 ^ 30 → B < 2 ^ 30 → s0 = nI A - nI B → (A ≠ B → (A < B ↔ s_rank S v < rk4 a b c p) ∧ (B < A ↔ rk4 a b c p < s_rank S v)) → (A = B → s_a S v = a ∧ s_b S v = b ∧ s_c S v = c) → ∃ x : Int32, m_X12_compareTo_72 (nI p) (9 * nI v) s0 σ = some (x, σ) ∧ sgn3 x (s_rank S v) (rk4 a b c p) := by
    intro s0 A B hA hB hs h1 h2
    unfold m_X12_compareTo_72
    by_cases h0 : A = B
    · obtain ⟨q1, q2, q3⟩ := h2 h0
      rw [if_pos (by rw [hs]; exact (sub_eq0 hA hB).mpr h0), e4]
      simp only [obind_some]
      by_cases h3 : s_pre S v = p
      · rw [if_pos (by rw [h3])]
        refine ⟨s0, rfl, ?_⟩
        have e : s_rank S v = rk4 a b c p := by
          unfold s_rank
          rw [q1, q2, q3, h3]
        unfold sgn3
        rw [hs, sub_lt0 hA hB, sub_gt0 hA hB, sub_eq0 hA hB, e]
        omega
      · rw [if_neg (fun h => h3 ((nI_eq (by omega) (by omega)).mp h))]
        by_cases h4 : s_pre S v = 0
        · rw [if_pos (by rw [h4]; rfl)]
          refine ⟨1, rfl, ?_⟩
          have e : rk4 a b c p < s_rank S v := by
            unfold s_rank rk4
            rw [q1, q2, q3, if_pos h4, if_neg (by omega)]
            omega
          refine ⟨⟨fun h => absurd h (by decide), fun h => by omega⟩, ⟨fun _ => e, fun _ => by decide⟩, ⟨fun h => absurd h (by decide), fun h => by omega⟩⟩
        · rw [if_neg (show ¬ nI (s_pre S v) = 0 from fun h => h4 ((nI_eq (b := 0) (by omega) (by omega)).mp h))]
          by_cases h5 : p = 0
          · rw [if_pos (by rw [h5]; rfl)]
            refine ⟨-1, rfl, ?_⟩
            have e : s_rank S v < rk4 a b c p := by
              unfold s_rank rk4
              rw [q1, q2, q3, if_neg h4, if_pos h5]
              omega
            refine ⟨⟨fun _ => e, fun _ => by decide⟩, ⟨fun h => absurd h (by decide), fun h => by omega⟩, ⟨fun h => absurd h (by decide), fun h => by omega⟩⟩
          · rw [if_neg (show ¬ nI p = 0 from fun h => h5 ((nI_eq (b := 0) (by omega) (by omega)).mp h))]
            refine ⟨nI (s_pre S v) - nI p, rfl, ?_⟩
            unfold sgn3
            rw [sub_lt0 (by omega) (by omega), sub_gt0 (by omega) (by omega), sub_eq0 (by omega) (by omega)]
            unfold s_rank rk4
            rw [q1, q2, q3, if_neg h4, if_neg h5]
            omega
    · rw [if_neg (fun h => h0 ((sub_eq0 hA hB).mp (by rw [← hs]; exact h)))]
      refine ⟨s0, rfl, ?_⟩
      obtain ⟨g1, g2⟩ := h1 h0
      unfold sgn3
      rw [hs, sub_lt0 hA hB, sub_gt0 hA hB, sub_eq0 hA hB]
      omega
  have hr : ∀ x, (if x = 0 then 10 else x) ≤ 10 ∨ 10 < x := fun x => by
    split <;> omega
  unfold m_X12_compareTo
  simp only [obind_some, e1, e2, e3]
  by_cases h1 : s_a S v = a
  · rw [if_pos (by rw [h1])]
    by_cases h2 : s_b S v = b
    · rw [if_pos (by rw [h2])]
      refine key _ (s_c S v) c (by omega) (by omega) rfl (fun hne => ?_) (fun he => ⟨h1, h2, he⟩)
      unfold s_rank rk4
      rw [h1, h2]
      constructor <;> (split <;> split <;> omega)
    · rw [if_neg (fun h => h2 ((nI_eq (by omega) (by omega)).mp h))]
      refine key _ (s_b S v) b (by omega) (by omega) rfl (fun hne => ?_) (fun he => absurd he h2)
      unfold s_rank rk4
      rw [h1]
      constructor <;> (split <;> split <;> omega)
  · rw [if_neg (fun h => h1 ((nI_eq (by omega) (by omega)).mp h))]
    refine key _ (s_a S v) a (by omega) (by omega) rfl (fun hne => ?_) (fun he => absurd he h1)
    unfold s_rank rk4
    constructor <;> (split <;> split <;> omega)
theorem r_compared (hW : WFv S) (hR : RMv S σ) {v w : Nat} (hv : v < s_nv S) (hw : w < s_nv S) : ∃ x : Int32, m_X12_compared (nI v) (nI w) σ = some (x, σ) ∧ sgn3 x (s_rank S v) (s_rank S w) := by
  obtain ⟨e0, e1, e2, e3, e4, -⟩ := r_rd hW hR hw
  obtain ⟨w1, w2, w3, w4, -⟩ := (hW.2.1 w hw).2
  obtain ⟨x, hx, hs⟩ := r_compareTo hW hR hv (show s_a S w ≤ 10 by omega) (show s_b S w ≤ 10 by omega) (show s_c S w ≤ 10 by omega) w4
  refine ⟨x, ?_, hs⟩
  unfold m_X12_compared
  simp only [obind_some, e1, e2, e3, e4, hx]
end REF
