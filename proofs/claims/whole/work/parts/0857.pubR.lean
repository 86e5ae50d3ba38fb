/-! ===== publish: the class's rows behind it; the reference ===== -/
section PUBR
variable {S : SP} {σ : Mem}
variable {p a b c q pl len sm : Nat}
theorem pubA_fr {nv rk : Nat} : fr [2, 4, 6, 8, 14, 16] σ (pubA σ nv len p rk sm pl) := by
  unfold pubA
  refine fr_u ?_ (by decide)
  split <;> exact fr_u (fr_u (fr_u (fr_u (fr_u (fr_u fr.refl (by decide)) (by decide)) (by decide)) (by decide)) (by decide)) (by decide)
theorem pubA_pl {nv rk k : Nat} (h : k ≠ 2) : (pubA σ nv len p rk sm pl) k = (up (up (up (up (up σ 4 nv (nI p)) 6 nv (nI rk)) 8 nv (nI sm)) 14 (4 * p + len) (nI nv)) 16 p (nI (len + 1))) k := by
  unfold pubA
  rw [up_pl _ _ h]
  split <;> rw [up_pl _ _ h]
theorem pubA_2 {nv rk j : Nat} (h : j ≠ 8) (h9 : j ≠ 9) (h10 : j ≠ 10) : (pubA σ nv len p rk sm pl) 2 j = σ 2 j := by
  unfold pubA
  rw [up_off _ _ (Or.inr h10)]
  split
  · rw [up_off _ _ (Or.inr h9), up_pl _ _ (by decide), up_pl _ _ (by decide), up_pl _ _ (by decide), up_pl _ _ (by decide), up_pl _ _ (by decide)]
  · rw [up_off _ _ (Or.inr h), up_pl _ _ (by decide), up_pl _ _ (by decide), up_pl _ _ (by decide), up_pl _ _ (by decide), up_pl _ _ (by decide)]
theorem pubA_28 {nv rk : Nat} : (pubA σ nv len p rk sm pl) 2 8 = if pl = 0 then σ 2 8 else σ 2 8 ||| nI (2 ^ nv) := by
  unfold pubA
  rw [up_off _ _ (Or.inr (by decide))]
  split
  · rw [up_off _ _ (Or.inr (by decide)), up_pl _ _ (by decide), up_pl _ _ (by decide), up_pl _ _ (by decide), up_pl _ _ (by decide), up_pl _ _ (by decide)]
  · rw [up_same]
theorem pubA_29 {nv rk : Nat} : (pubA σ nv len p rk sm pl) 2 9 = if pl = 0 then σ 2 9 ||| nI (2 ^ p) else σ 2 9 := by
  unfold pubA
  rw [up_off _ _ (Or.inr (by decide))]
  split
  · rw [up_same]
  · rw [up_off _ _ (Or.inr (by decide)), up_pl _ _ (by decide), up_pl _ _ (by decide), up_pl _ _ (by decide), up_pl _ _ (by decide), up_pl _ _ (by decide)]
theorem pubA_210 {nv rk : Nat} : (pubA σ nv len p rk sm pl) 2 10 = nI (nv + 1) := up_same _ _ _ _
theorem up_if {σ : Mem} {a k j : Nat} {x : Int32} : (up σ a k x) a j = if j = k then x else σ a j := by
  by_cases e : j = k
  · rw [if_pos e, e, up_same]
  · rw [if_neg e, up_off _ _ (Or.inr e)]
theorem pubA_4 {nv rk j : Nat} : (pubA σ nv len p rk sm pl) 4 j = if j = nv then nI p else σ 4 j := by
  rw [pubA_pl (by decide), up_pl _ _ (by decide), up_pl _ _ (by decide), up_pl _ _ (by decide), up_pl _ _ (by decide), up_if]
theorem pubA_6 {nv rk j : Nat} : (pubA σ nv len p rk sm pl) 6 j = if j = nv then nI rk else σ 6 j := by
  rw [pubA_pl (by decide), up_pl _ _ (by decide), up_pl _ _ (by decide), up_pl _ _ (by decide), up_if, up_pl _ _ (by decide)]
theorem pubA_8 {nv rk j : Nat} : (pubA σ nv len p rk sm pl) 8 j = if j = nv then nI sm else σ 8 j := by
  rw [pubA_pl (by decide), up_pl _ _ (by decide), up_pl _ _ (by decide), up_if, up_pl _ _ (by decide), up_pl _ _ (by decide)]
theorem pubA_14 {nv rk j : Nat} : (pubA σ nv len p rk sm pl) 14 j = if j = 4 * p + len then nI nv else σ 14 j := by
  rw [pubA_pl (by decide), up_pl _ _ (by decide), up_if, up_pl _ _ (by decide), up_pl _ _ (by decide), up_pl _ _ (by decide)]
theorem pubA_16 {nv rk j : Nat} : (pubA σ nv len p rk sm pl) 16 j = if j = p then nI (len + 1) else σ 16 j := by
  rw [pubA_pl (by decide), up_if, up_pl _ _ (by decide), up_pl _ _ (by decide), up_pl _ _ (by decide), up_pl _ _ (by decide)]
theorem pubT_mem {j i : Nat} (hlen : len = (s_vs S p).length) : s_mem (pubT S p a b c q pl) j i = if j = p ∧ i = len then s_nv S + 1 else s_mem S j i := by
  unfold s_mem
  rw [pubT_vs]
  by_cases g : j = p
  · subst g
    rw [if_pos rfl]
    by_cases e : i = len
    · rw [if_pos ⟨rfl, e⟩, List.getElem?_append_right (by omega), show i - (s_vs S j).length = 0 by omega]
      rfl
    · rw [if_neg (fun h => e h.2)]
      by_cases e2 : i < len
      · rw [List.getElem?_append_left (by omega)]
      · rw [List.getElem?_eq_none (by rw [List.length_append, List.length_singleton]; omega), List.getElem?_eq_none (by omega)]
  · rw [if_neg g, List.append_nil, if_neg (fun h => g h.1)]
theorem pubT_first {j : Nat} : s_first (pubT S p a b c q pl) j = (s_first S j || (j == p && pl == 0)) := by
  have e1 : ∀ v, s_own (pubT S p a b c q pl) v = if v = s_nv S then p else s_own S v := fun v => rfl
  have e6 : ∀ v, s_plc (pubT S p a b c q pl) v = if v = s_nv S then pl else s_plc S v := fun v => rfl
  show anyR (s_nv S + 1) (fun w => s_own (pubT S p a b c q pl) w == j && s_plc (pubT S p a b c q pl) w == 0) = _
  rw [anyR_s]
  congr 1
  · exact anyR_congr fun w hw => by rw [e1, e6, if_neg (by omega), if_neg (by omega)]
  · rw [e1, e6, if_pos rfl, if_pos rfl]
    by_cases e : p = j
    · rw [e]
    · rw [beq_eq_false_iff_ne.mpr e, beq_eq_false_iff_ne.mpr (fun h => e h.symm)]
theorem setB_add {n k : Nat} {f : Nat → Bool} {z : Bool} (hk : k < n) : setB n (fun j => f j || (j == k && z)) = setB n f ||| (if z = true then 2 ^ k else 0) := by
  apply Nat.eq_of_testBit_eq
  intro i
  rw [Nat.testBit_or, setB_bit, setB_bit]
  cases z with
  | false => simp
  | true =>
    rw [if_pos rfl, Nat.testBit_two_pow]
    by_cases e : i = k
    · subst e
      simp [hk]
    · have e2 : ¬ k = i := fun h => e h.symm
      rw [show (i == k) = false from beq_eq_false_iff_ne.mpr e, decide_eq_false e2]
      simp
theorem c_pubRC (hW : WF S) (hR : RC S σ) {MC : Mem} (h24 : s_nv S < 24) (hp : p < 6) (hpl : pl ≤ 1) (hlen : len = (s_vs S p).length) (hl4 : len < 4) (hM : fr [31] (pubA σ (s_nv S) len p (rk4 a b c q) ((31 * s_nv S + (7 * a + 5 * b + 3 * c + q + 1)) % 9973) pl) MC) (hh : ∀ r, r < s_nr S → MC 31 r = nI (setB (s_nv S + 1) fun v => if v = s_nv S then inh S a b c q r else s_has S (24 * r + v) == 1)) (ho : ∀ r, s_nr S ≤ r → MC 31 r = σ 31 r) : RC (pubT S p a b c q pl) MC := by
  obtain ⟨T, hT⟩ : ∃ T : SP, T = pubT S p a b c q pl := ⟨_, rfl⟩
  have G : gk [0, 1, 2, 3, 4, 5, 6, 18] S T := by
    rw [hT]
    exact (((((((gk_st (by decide)).st (by decide)).st (by decide)).st (by decide)).st (by decide)).st (by decide)).st (by decide)).st (by decide)
  have g0 : s_nv T = s_nv S + 1 := by rw [hT]; rfl
  have y1 : ∀ v, s_own T v = if v = s_nv S then p else s_own S v := fun v => by rw [hT]; rfl
  have y2 : ∀ v, s_a T v = if v = s_nv S then a else s_a S v := fun v => by rw [hT]; rfl
  have y3 : ∀ v, s_b T v = if v = s_nv S then b else s_b S v := fun v => by rw [hT]; rfl
  have y4 : ∀ v, s_c T v = if v = s_nv S then c else s_c S v := fun v => by rw [hT]; rfl
  have y5 : ∀ v, s_pre T v = if v = s_nv S then q else s_pre S v := fun v => by rw [hT]; rfl
  have y6 : ∀ v, s_plc T v = if v = s_nv S then pl else s_plc S v := fun v => by rw [hT]; rfl
  have yr : ∀ v, s_rank T v = if v = s_nv S then rk4 a b c q else s_rank S v := fun v => by rw [hT]; exact pubT_rank
  have g17 : s_nr T = s_nr S := by rw [s_nr, G 17 (by decide)]
  have nlt : ∀ v, v < s_nv S + 1 → ¬ v = s_nv S → v < s_nv S := fun v h1 h2 => by omega
  have FC : fr [2, 4, 6, 8, 14, 16, 31] σ MC := (pubA_fr.mono (by decide)).trans (hM.mono (by decide))
  rw [← hT]
  refine ⟨⟨?_, ?_, ?_, ?_, ?_, ?_, ?_, ?_, ?_, ?_, ?_⟩, ⟨?_, ?_, ?_, ?_, ?_⟩, ⟨?_, ?_⟩, hR.2.2.2.1.S (G.on (by decide)) (mk_fr FC (by decide)), hR.2.2.2.2.S (G.on (by decide)) (mk_fr FC (by decide))⟩
  · rw [g0, hM 2 (by decide), pubA_210]
  · intro v hv
    rw [g0] at hv
    rw [hM 4 (by decide), pubA_4, y1]
    by_cases e : v = s_nv S
    · rw [if_pos e, if_pos e]
    · rw [if_neg e, if_neg e]
      exact hR.own (nlt v hv e)
  · intro v hv
    rw [g0] at hv
    rw [hM 6 (by decide), pubA_6, yr]
    by_cases e : v = s_nv S
    · rw [if_pos e, if_pos e]
    · rw [if_neg e, if_neg e]
      exact hR.rank (nlt v hv e)
  · intro v hv
    rw [g0] at hv
    rw [hM 8 (by decide), pubA_8]
    unfold s_sum
    rw [y2, y3, y4, y5]
    by_cases e : v = s_nv S
    · simp only [if_pos e]
      congr 1
      rw [e]
      congr 1
      omega
    · simp only [if_neg e]
      exact hR.sum (nlt v hv e)
  · intro v hv
    rw [FC 10 (by decide), show s_plat T = s_plat S from G 8 (by decide)]
    exact hR.plat hv
  · intro i hi
    rw [FC 12 (by decide), show s_br T = s_br S from G 10 (by decide)]
    exact hR.br hi
  · intro j hj
    rw [hM 16 (by decide), pubA_16, hT, pubT_vs, List.length_append]
    by_cases e : j = p
    · rw [if_pos e, if_pos e, e, ← hlen]
      rfl
    · rw [if_neg e, if_neg e, hR.siz hj]
      rfl
  · intro j i hj hi
    rw [hM 14 (by decide), pubA_14, hT, pubT_mem hlen]
    by_cases e : j = p ∧ i = len
    · rw [if_pos (show 4 * j + i = 4 * p + len by omega), if_pos e, oi_s]
    · rw [if_neg (show ¬ 4 * j + i = 4 * p + len by omega), if_neg e]
      exact hR.mem hj hi
  · rw [hM 2 (by decide), pubA_2 (by decide) (by decide) (by decide), hR.ynk, show s_ynk T = s_ynk S from G 7 (by decide)]
  · rw [hM 2 (by decide), pubA_28, hR.plc, g0]
    have h1 : setB (s_nv S + 1) (fun v => s_plc T v == 1) = setB (s_nv S) (fun v => s_plc T v == 1) ||| (if (s_plc T (s_nv S) == 1) = true then 2 ^ s_nv S else 0) := rfl
    rw [h1, setB_congr (f := fun v => s_plc T v == 1) (g := fun v => s_plc S v == 1) (fun v hv => by
      show (s_plc T v == 1) = (s_plc S v == 1)
      rw [y6, if_neg (by omega)]), y6, if_pos rfl]
    rcases (show pl = 0 ∨ pl = 1 by omega) with rfl | rfl
    · rw [if_pos rfl, if_neg (by decide), Nat.or_zero]
    · rw [if_neg (by decide), if_pos (show ((1 : Nat) == 1) = true from rfl), nI_or]
  · rw [hM 2 (by decide), pubA_29, hR.first]
    have h1 : s_first T = fun j => s_first S j || (j == p && pl == 0) := by
      funext j
      rw [hT]
      exact pubT_first
    rw [h1, setB_add hp]
    rcases (show pl = 0 ∨ pl = 1 by omega) with rfl | rfl
    · rw [if_pos rfl, if_pos (show ((0 : Nat) == 0) = true from rfl), nI_or]
    · rw [if_neg (by decide), if_neg (by decide), Nat.or_zero]
  · rw [FC 17 (by decide), g17]
    exact hR.nr
  · intro r hr
    rw [g17] at hr
    rw [hh r hr, g0]
    congr 1
    refine setB_congr fun v hv => ?_
    rw [hT, pubT_has (show v < 24 by omega)]
    by_cases e : v = s_nv S
    · rw [if_pos e, if_pos e]
      cases inh S a b c q r <;> rfl
    · rw [if_neg e, if_neg e]
  · intro r hr h30
    rw [g17] at hr
    rw [ho r hr, FC 19 (by decide), FC 27 (by decide), FC 29 (by decide)]
    exact hR.rfree hr h30
  · intro r hr h8
    rw [g17] at hr
    rw [show s_rk T = s_rk S from G 19 (by decide)] at h8
    have h0 := hR.rlow hr h8
    rw [FC 19 (by decide), FC 27 (by decide), FC 29 (by decide), FC 21 (by decide), FC 23 (by decide), FC 25 (by decide)]
    unfold s_from s_end s_tri at *
    rw [show s_rk T = s_rk S from G 19 (by decide), show s_ra T = s_ra S from G 20 (by decide), show s_rb T = s_rb S from G 21 (by decide), show s_rc T = s_rc S from G 22 (by decide), show s_rp T = s_rp S from G 23 (by decide)]
    exact h0
  · intro r hr h8
    rw [g17] at hr
    rw [show s_rk T = s_rk S from G 19 (by decide)] at h8
    rw [FC 19 (by decide), FC 27 (by decide), FC 29 (by decide), show s_rk T = s_rk S from G 19 (by decide), show s_ra T = s_ra S from G 20 (by decide), show s_rb T = s_rb S from G 21 (by decide)]
    exact hR.rhigh hr h8
  · intro v hv
    rw [FC 46 (by decide), show s_nn T = s_nn S from G 9 (by decide)]
    exact hR.nn hv
  · intro v j hv hj
    rw [g0] at hv
    rw [show s_nn T = s_nn S from G 9 (by decide)] at hj
    have hv2 : v < s_nv S := by
      by_cases e : v = s_nv S
      · have := (hW.fresh (v := v) (by omega) (by omega)).2.2
        omega
      · exact nlt v hv e
    rw [show s_tgt T = s_tgt S from G 11 (by decide), show s_nrg T = s_nrg S from G 12 (by decide), show s_nkd T = s_nkd S from G 13 (by decide), show s_nft T = s_nft S from G 14 (by decide), show s_npl T = s_npl S from G 15 (by decide), show s_nfs T = s_nfs S from G 16 (by decide), FC 34 (by decide), FC 36 (by decide), FC 38 (by decide), FC 40 (by decide), FC 42 (by decide), FC 44 (by decide)]
    exact hR.need hv2 hj
/-! the reference: what is there already -/
theorem r_cmpAny {v : Nat} (hv : v < 24) {y2 y3 y4 y5 : Int32} : ∃ x, m_X12_compareTo (nI v) y2 y3 y4 y5 σ = some (x, σ) := by
  have r0 : ∀ j, j < 9 → ald σ 95 216 (nI (9 * v) + nI j) = some (σ 95 (9 * v + j)) := fun j hj => by
    rw [nI_add, ald_nI (by omega) (by decide)]
  have r1 : ald σ 95 216 (nI (9 * v) + 1) = some (σ 95 (9 * v + 1)) := r0 1 (by omega)
  have r2 : ald σ 95 216 (nI (9 * v) + 2) = some (σ 95 (9 * v + 2)) := r0 2 (by omega)
  have r3 : ald σ 95 216 (nI (9 * v) + 3) = some (σ 95 (9 * v + 3)) := r0 3 (by omega)
  have r4 : ald σ 95 216 (nI (9 * v) + 4) = some (σ 95 (9 * v + 4)) := r0 4 (by omega)
  have t72 : ∀ s0, ∃ x, m_X12_compareTo_72 y5 (nI (9 * v)) s0 σ = some (x, σ) := fun s0 => by
    unfold m_X12_compareTo_72
    split
    · rw [r4, obind_s]
      split
      · exact ⟨_, rfl⟩
      · rw [obind_s]
        split
        · exact ⟨_, rfl⟩
        · split
          · exact ⟨_, rfl⟩
          · rw [obind_s]
            exact ⟨_, rfl⟩
    · exact ⟨_, rfl⟩
  unfold m_X12_compareTo
  rw [obind_s, mul_nI (y := 9) 9 rfl, r1, obind_s]
  split
  · rw [r2, obind_s]
    split
    · rw [r3, obind_s]
      exact t72 _
    · rw [obind_s]
      exact t72 _
  · rw [obind_s]
    exact t72 _
def pubF (v1 v2 v3 v4 v5 v6 v7 v8 v9 v10 : Int32) (σ : Mem) : Option (Int32 × Mem) :=
  if v7 = 0 then m_X12_publish_196 v1 v2 v3 v4 v5 v6 1 σ
  else if v8 = 0 then m_X12_publish_196 v1 v2 v3 v4 v5 v6 2 σ
  else if v9 = 4 then m_X12_publish_196 v1 v2 v3 v4 v5 v6 3 σ
  else if v10 = 0 then m_X12_publish_196 v1 v2 v3 v4 v5 v6 0 σ
  else m_X12_publish_196 v1 v2 v3 v4 v5 v6 3 σ
theorem r_cntAny (hW : WF S) (hR : RM S σ) {v1 v2 v3 v4 v5 v6 v7 v8 : Int32} : ∃ y9 y10, m_X12_publish_82 FU v1 v2 v3 v4 v5 v6 v7 v8 0 0 0 σ = pubF v1 v2 v3 v4 v5 v6 v7 v8 y9 y10 σ := by
  have h24 := hW.nv
  have key := up_fu (n := s_nv S) (P := fun i f => ∀ x9 x10, ∃ y9 y10, m_X12_publish_82 f v1 v2 v3 v4 v5 v6 v7 v8 x9 x10 (nI i) σ = pubF v1 v2 v3 v4 v5 v6 v7 v8 y9 y10 σ) (by omega) (fun f x9 x10 => by
      refine ⟨x9, x10, ?_⟩
      rw [m_X12_publish_82]
      rw [hR.nv, if_pos (nI_le (Nat.le_refl _) (by omega))]
      rfl) (fun i f hi ih x9 x10 => by
      have t120 : ∀ v12 s0 s1, ∃ y9 y10, m_X12_publish_120 (m_X12_publish_82 f) v1 v2 v3 v4 v5 v6 v7 v8 x10 (nI i) v12 s0 s1 σ = pubF v1 v2 v3 v4 v5 v6 v7 v8 y9 y10 σ := fun v12 s0 s1 => by
        obtain ⟨x, hx⟩ := r_cmpAny (σ := σ) (show i < 24 by omega) (y2 := v2) (y3 := v3) (y4 := v4) (y5 := v5)
        have t153 : ∀ y s, ∃ y9 y10, m_X12_publish_153 (m_X12_publish_82 f) v1 v2 v3 v4 v5 v6 v7 v8 y (nI i) s σ = pubF v1 v2 v3 v4 v5 v6 v7 v8 y9 y10 σ := fun y s => by
          unfold m_X12_publish_153
          rw [nI_1]
          exact ih y s
        have t152 : ∀ y, ∃ y9 y10, m_X12_publish_152 (m_X12_publish_82 f) v1 v2 v3 v4 v5 v6 v7 v8 y (nI i) σ = pubF v1 v2 v3 v4 v5 v6 v7 v8 y9 y10 σ := fun y => by
          unfold m_X12_publish_152
          exact t153 y 0
        unfold m_X12_publish_120
        rw [obind_s]
        split
        · split
          · exact t152 _
          · rw [hx, obind_s]
            dsimp only
            split
            · exact t153 _ _
            · exact t152 _
        · exact t153 _ _
      have t106 : ∀ s0, ∃ y9 y10, m_X12_publish_106 (m_X12_publish_82 f) v1 v2 v3 v4 v5 v6 v7 v8 x9 x10 (nI i) s0 σ = pubF v1 v2 v3 v4 v5 v6 v7 v8 y9 y10 σ := fun s0 => by
        unfold m_X12_publish_106
        split
        · exact t120 _ _ _
        · exact t120 _ _ _
      rw [m_X12_publish_82]
      rw [hR.nv, if_neg (nI_ge hi (by omega)), r_packageOf hW.1 hR.1 hi, obind_some]
      dsimp only
      split
      · exact t106 1
      · exact t106 0) 0 (Nat.zero_le _)
  exact key 0 0
theorem r_cntAll (hW : WF S) (hR : RM S σ) (hp : p < 6) (ha : a ≤ 9) (hb : b ≤ 9) (hc : c ≤ 9) (hq : q ≤ 9) {v6 v7 v8 : Int32} : m_X12_publish_82 FU (nI p) (nI a) (nI b) (nI c) (nI q) v6 v7 v8 0 0 0 σ = pubF (nI p) (nI a) (nI b) (nI c) (nI q) v6 v7 v8 (nI (cntR (s_nv S) fun v => s_own S v == p)) (b2i (anyR (s_nv S) fun v => s_own S v == p && s_rank S v == rk4 a b c q)) σ := by
  have h24 := hW.nv
  have key := up_fu (n := s_nv S) (P := fun i f => m_X12_publish_82 f (nI p) (nI a) (nI b) (nI c) (nI q) v6 v7 v8 (nI (cntR i fun v => s_own S v == p)) (b2i (anyR i fun v => s_own S v == p && s_rank S v == rk4 a b c q)) (nI i) σ = pubF (nI p) (nI a) (nI b) (nI c) (nI q) v6 v7 v8 (nI (cntR (s_nv S) fun v => s_own S v == p)) (b2i (anyR (s_nv S) fun v => s_own S v == p && s_rank S v == rk4 a b c q)) σ) (by omega) (fun f => by
      rw [m_X12_publish_82]
      rw [hR.nv, if_pos (nI_le (Nat.le_refl _) (by omega))]
      rfl) (fun i f hi ih => by
      have hoi := hW.own hi
      obtain ⟨x, hx, x1, x2, x3⟩ := r_compareTo hW.1 hR.1 (a := a) (b := b) (c := c) (p := q) hi (by omega) (by omega) (by omega) hq
      rw [m_X12_publish_82]
      rw [hR.nv, if_neg (nI_ge hi (by omega)), r_packageOf hW.1 hR.1 hi, obind_some]
      dsimp only
      rw [anyR_s] at ih
      by_cases g : s_own S i = p
      · rw [cntR_s1 (n := i) (f := fun v => s_own S v == p) (beq_iff_eq.mpr g), show (s_own S i == p) = true from beq_iff_eq.mpr g, Bool.true_and] at ih
        rw [if_pos (show nI (s_own S i) = nI p by rw [g])]
        unfold m_X12_publish_106 m_X12_publish_120
        rw [if_neg ne10, obind_s, nI_1 (cntR i fun v => s_own S v == p)]
        cases hlk : (anyR i fun v => s_own S v == p && s_rank S v == rk4 a b c q) with
        | true =>
          rw [hlk, Bool.true_or] at ih
          rw [if_neg (show ¬ b2i true = 0 by decide)]
          unfold m_X12_publish_153
          rw [nI_1]
          exact ih
        | false =>
          rw [hlk, Bool.false_or] at ih
          rw [if_pos (show b2i false = 0 from rfl), if_neg ne10, hx, obind_s]
          dsimp only
          by_cases g2 : s_rank S i = rk4 a b c q
          · rw [show (s_rank S i == rk4 a b c q) = true from beq_iff_eq.mpr g2] at ih
            rw [if_pos (x3.mpr g2)]
            unfold m_X12_publish_153
            rw [nI_1]
            exact ih
          · rw [show (s_rank S i == rk4 a b c q) = false from beq_eq_false_iff_ne.mpr g2] at ih
            rw [if_neg (fun e => g2 (x3.mp e))]
            unfold m_X12_publish_152 m_X12_publish_153
            rw [nI_1]
            exact ih
      · rw [cntR_s0 (n := i) (f := fun v => s_own S v == p) (beq_eq_false_iff_ne.mpr g), show (s_own S i == p) = false from beq_eq_false_iff_ne.mpr g, Bool.false_and, Bool.or_false] at ih
        rw [if_neg (fun e => g ((nI_eq (by omega) (by omega)).mp e))]
        unfold m_X12_publish_106 m_X12_publish_120
        rw [if_pos rfl, obind_s, show nI (cntR i fun v => s_own S v == p) + 0 = nI (cntR i fun v => s_own S v == p) from nI_add _ 0]
        cases hlk : (anyR i fun v => s_own S v == p && s_rank S v == rk4 a b c q) with
        | true =>
          rw [hlk] at ih
          rw [if_neg (show ¬ b2i true = 0 by decide)]
          unfold m_X12_publish_153
          rw [nI_1]
          exact ih
        | false =>
          rw [hlk] at ih
          rw [if_pos (show b2i false = 0 from rfl), if_pos rfl]
          unfold m_X12_publish_152 m_X12_publish_153
          rw [nI_1]
          exact ih) 0 (Nat.zero_le _)
  exact key
theorem r_pubHead {v1 v2 v3 v4 v5 v6 : Int32} : m_X12_publish v1 v2 v3 v4 v5 v6 σ = m_X12_publish_82 FU v1 v2 v3 v4 v5 v6 (b2i (inN v1 6 && inN v6 2)) (b2i (inN v2 10 && inN v3 10 && inN v4 10 && inN v5 10)) 0 0 0 σ := by
  have h22 : ∀ s0, m_X12_publish_22 v1 v2 v3 v4 v5 v6 s0 σ = m_X12_publish_82 FU v1 v2 v3 v4 v5 v6 s0 (b2i (inN v2 10 && inN v3 10 && inN v4 10 && inN v5 10)) 0 0 0 σ := fun s0 => by
    unfold m_X12_publish_22 m_X12_publish_70 m_X12_publish_71
    rw [r_inN (n := 9) (by decide) (show (9 : Int32) = nI 9 from rfl), obind_s]
    cases inN v2 10 with
    | false => rw [if_pos (show b2i false = 0 from rfl), Bool.false_and, Bool.false_and, Bool.false_and, b2i_f]
    | true =>
      rw [if_neg (show ¬ b2i true = 0 by decide), Bool.true_and]
      dsimp only
      rw [r_inN (n := 9) (by decide) (show (9 : Int32) = nI 9 from rfl), obind_s]
      cases inN v3 10 with
      | false => rw [if_pos (show b2i false = 0 from rfl), Bool.false_and, Bool.false_and, b2i_f]
      | true =>
        rw [if_neg (show ¬ b2i true = 0 by decide), Bool.true_and]
        dsimp only
        rw [r_inN (n := 9) (by decide) (show (9 : Int32) = nI 9 from rfl), obind_s]
        cases inN v4 10 with
        | false => rw [if_pos (show b2i false = 0 from rfl), Bool.false_and, b2i_f]
        | true =>
          rw [if_neg (show ¬ b2i true = 0 by decide), Bool.true_and]
          dsimp only
          rw [r_inN (n := 9) (by decide) (show (9 : Int32) = nI 9 from rfl), obind_s]
          cases inN v5 10 with
          | false => rw [if_pos (show b2i false = 0 from rfl), b2i_f]
          | true => rw [if_neg (show ¬ b2i true = 0 by decide), b2i_t]
  unfold m_X12_publish m_X12_publish_21
  rw [r_isPackage, obind_s]
  cases inN v1 6 with
  | false =>
    rw [if_pos (show b2i false = 0 from rfl), Bool.false_and, b2i_f]
    exact h22 0
  | true =>
    rw [if_neg (show ¬ b2i true = 0 by decide), Bool.true_and]
    dsimp only
    rw [r_inN (n := 1) (by decide) (show (1 : Int32) = nI 1 from rfl), obind_s]
    cases inN v6 2 with
    | false =>
      rw [if_pos (show b2i false = 0 from rfl), b2i_f]
      exact h22 0
    | true =>
      rw [if_neg (show ¬ b2i true = 0 by decide), b2i_t]
      exact h22 1
end PUBR
