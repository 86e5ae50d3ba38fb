/-! ===== publish: the call ===== -/
section PUBX
variable {S : SP} {σ : Mem}
variable {p a b c q pl : Nat}
theorem up95_if {σ : Mem} {k j : Nat} {x : Int32} : (up σ 95 k x) 95 j = if j = k then x else σ 95 j := up_if
/-- the reference lays the new version's row, and looks at the ranges -/
theorem r_pub196 (hW : WF S) (hM : RM S σ) (hWT : WF (pubT S p a b c q pl)) (h24 : s_nv S < 24) : ∃ M, m_X12_publish_196 (nI p) (nI a) (nI b) (nI c) (nI q) (nI pl) 0 σ = some (nI (s_nv S), up M 94 31 0) ∧ fr [94, 95, 99] σ M ∧ c94 [0, 1] σ M ∧ M 94 0 = 0 ∧ RM (pubT S p a b c q pl) M := by
  have h30 := hW.nr
  obtain ⟨T, hT⟩ : ∃ T : SP, T = pubT S p a b c q pl := ⟨_, rfl⟩
  have G : gk [0, 1, 2, 3, 4, 5, 6, 18] S T := by
    rw [hT]
    exact (((((((gk_st (by decide)).st (by decide)).st (by decide)).st (by decide)).st (by decide)).st (by decide)).st (by decide)).st (by decide)
  have g0 : s_nv T = s_nv S + 1 := by rw [hT]; rfl
  have y1 : ∀ v, s_own T v = if v = s_nv S then p else s_own S v := fun v => by rw [hT]; rfl
  have y2 : ∀ v, s_a T v = if v = s_nv S then a else s_a S v := fun v => by rw [hT]; rfl
  have y3 : ∀ v, s_b T v = if v = s_nv S then b else s_b S v := fun v => by rw [hT]; rfl
  have y4 : ∀ v, s_c T v = if v = s_nv S then c else s_c S v := fun v => by rw [hT]; rfl
  have y5 : ∀ v, s_pre T v = if v = s_nv S then q else s_pre S v := fun v => by rw [hT]; rfl
  have y6 : ∀ v, s_plc T v = if v = s_nv S then pl else s_plc S v := fun v => by rw [hT]; rfl
  have k8 : s_plat T = s_plat S := G 8 (by decide)
  have g17 : s_nr T = s_nr S := by rw [s_nr, G 17 (by decide)]
  have nlt : ∀ v, v < s_nv S + 1 → ¬ v = s_nv S → v < s_nv S := fun v h1 h2 => by omega
  rw [← hT] at hWT ⊢
  obtain ⟨n, hn⟩ : ∃ n, n = s_nv S := ⟨_, rfl⟩
  rw [← hn] at h24 g0 y1 y2 y3 y4 y5 y6 nlt ⊢
  obtain ⟨m9, hm9⟩ : ∃ m9 : Mem, m9 = up (up (up (up (up (up (up (up σ 94 0 0) 95 (9 * n) (nI p)) 95 (9 * n + 1) (nI a)) 95 (9 * n + 2) (nI b)) 95 (9 * n + 3) (nI c)) 95 (9 * n + 4) (nI q)) 95 (9 * n + 5) (nI pl)) 95 (9 * n + 7) 7 := ⟨_, rfl⟩
  obtain ⟨m, hm⟩ : ∃ m : Mem, m = up m9 94 1 (nI (n + 1)) := ⟨_, rfl⟩
  have F9 : fr [94, 95] σ m9 := by rw [hm9]; exact fr_u (fr_u (fr_u (fr_u (fr_u (fr_u (fr_u (fr_u fr.refl (by decide)) (by decide)) (by decide)) (by decide)) (by decide)) (by decide)) (by decide)) (by decide)
  have F : fr [94, 95] σ m := by rw [hm]; exact fr_u F9 (by decide)
  have C9 : c94 [0] σ m9 := by
    rw [hm9]
    exact (((((((c94.refl.u (by decide)).v (by decide)).v (by decide)).v (by decide)).v (by decide)).v (by decide)).v (by decide)).v (by decide)
  have C : c94 [0, 1] σ m := by
    have h : c94 [0, 1] σ m9 := fun j hj => C9 j (fun h => hj (by rw [List.mem_singleton] at h; rw [h]; decide))
    rw [hm]
    exact h.u (by decide)
  have m95 : ∀ j, m 95 j = if j = 9 * n + 7 then 7 else if j = 9 * n + 5 then nI pl else if j = 9 * n + 4 then nI q else if j = 9 * n + 3 then nI c else if j = 9 * n + 2 then nI b else if j = 9 * n + 1 then nI a else if j = 9 * n then nI p else σ 95 j := fun j => by
    rw [hm, up_pl _ _ (by decide), hm9, up95_if, up95_if, up95_if, up95_if, up95_if, up95_if, up95_if, up_pl _ _ (by decide)]
  have m941 : m 94 1 = nI (n + 1) := by rw [hm, up_same]
  have m940 : m 94 0 = 0 := by rw [hm, up_off _ _ (Or.inr (by decide)), hm9, up_pl _ _ (by decide), up_pl _ _ (by decide), up_pl _ _ (by decide), up_pl _ _ (by decide), up_pl _ _ (by decide), up_pl _ _ (by decide), up_pl _ _ (by decide), up_same]
  have far : ∀ j, (j < 9 * n ∨ 9 * n + 9 ≤ j ∨ j = 9 * n + 6 ∨ j = 9 * n + 8) → m 95 j = σ 95 j := fun j hj => by
    rw [m95, if_neg (by omega), if_neg (by omega), if_neg (by omega), if_neg (by omega), if_neg (by omega), if_neg (by omega), if_neg (by omega)]
  have hRv : RMv T m := by
    refine ⟨by rw [g0, m941], fun v hv => ?_, fun v hv => ?_, fun i hi => ?_⟩
    · rw [g0] at hv
      rw [y1, y2, y3, y4, y5, y6, k8]
      by_cases e : v = n
      · simp only [if_pos e]
        have h7 := (hW.fresh (v := v) (by omega) (by omega)).2.1
        rw [e] at h7 ⊢
        rw [h7, m95, m95, m95, m95, m95, m95, m95]
        refine ⟨?_, ?_, ?_, ?_, ?_, ?_, ?_⟩
        · rw [if_neg (by omega), if_neg (by omega), if_neg (by omega), if_neg (by omega), if_neg (by omega), if_neg (by omega), if_pos rfl]
        · rw [if_neg (by omega), if_neg (by omega), if_neg (by omega), if_neg (by omega), if_neg (by omega), if_pos rfl]
        · rw [if_neg (by omega), if_neg (by omega), if_neg (by omega), if_neg (by omega), if_pos rfl]
        · rw [if_neg (by omega), if_neg (by omega), if_neg (by omega), if_pos rfl]
        · rw [if_neg (by omega), if_neg (by omega), if_pos rfl]
        · rw [if_neg (by omega), if_pos rfl]
        · rw [if_pos rfl]
          rfl
      · simp only [if_neg e]
        have hv2 := nlt v hv e
        rw [far _ (by omega), far _ (by omega), far _ (by omega), far _ (by omega), far _ (by omega), far _ (by omega), far _ (by omega)]
        exact hM.ver (by omega)
    · rw [show s_ynk T = s_ynk S from G 7 (by decide), show s_nn T = s_nn S from G 9 (by decide), far _ (by omega), far _ (by omega)]
      exact ⟨hM.ynk hv, hM.nn hv⟩
    · rw [show s_br T = s_br S from G 10 (by decide), F 96 (by decide)]
      exact hM.br hi
  have m942 : m 94 2 = nI (s_nr S) := by rw [C 2 (by decide)]; exact hM.nr
  have key := up_fu (n := s_nr S) (P := fun i f => ∀ σ1 : Mem, fr [99] m σ1 → (∀ r, r < i → σ1 99 (24 * r + n) = b2i (inh S a b c q r)) → (∀ r v, v < 24 → v ≠ n → σ1 99 (24 * r + v) = σ 99 (24 * r + v)) → ∃ M, m_X12_publish_299 f (nI i) σ1 = some (nI n, up M 94 31 0) ∧ fr [99] m M ∧ (∀ r, r < s_nr S → M 99 (24 * r + n) = b2i (inh S a b c q r)) ∧ ∀ r v, v < 24 → v ≠ n → M 99 (24 * r + v) = σ 99 (24 * r + v)) (by omega) (fun f σ1 hf h h' => by
      refine ⟨σ1, ?_, hf, h, h'⟩
      rw [m_X12_publish_299]
      rw [hf 94 (by decide), m942, if_pos (nI_le (Nat.le_refl _) (by omega)), obind_some, up_off _ _ (Or.inr (by decide)), hf 94 (by decide), m941, nI_pred]) (fun i f hi ih σ1 hf h h' => by
      obtain ⟨k9, hlo, hhi⟩ := hW.rng hi
      have hRv1 : RMv T σ1 := RMv.S (fun _ _ => rfl) (mk_fr hf (by decide)) (fun j hj => by rw [hf 94 (by decide)]) hRv
      have RG : RgR σ1 i (s_rk S i) (s_ra S i) (s_rb S i) (s_rc S i) (s_rp S i) := by
        unfold RgR
        rw [hf 98 (by decide), F 98 (by decide)]
        exact hM.rng hi
      have hnT : n < s_nv T := by rw [g0]; omega
      have hrec := inh_rec (va := a) (vb := b) (vc := c) (vp := q) hW hi
      have ein : m_X12_isIn (nI i) (nI n) σ1 = some (b2i (inh S a b c q i), σ1) := by
        by_cases g8 : 8 ≤ s_rk S i
        · obtain ⟨w1, w2⟩ := hhi g8
          rw [r_isInHigh (ga := inh S a b c q (s_ra S i)) (gb := inh S a b c q (s_rb S i)) (by omega) h24 (show s_rk S i = 8 ∨ s_rk S i = 9 by omega) (by omega) (by omega) RG (h _ w1) (h _ w2), hrec]
          rcases (show s_rk S i = 8 ∨ s_rk S i = 9 by omega) with e | e <;> rw [e] <;> rfl
        · obtain ⟨l1, l2, l3, l4, -⟩ := hlo (by omega)
          rw [r_isInLow hWT.1 hRv1 (by omega) hnT (by omega) l1 l2 l3 l4 RG, hrec, if_neg (show ¬ s_rk S i = 8 by omega), if_neg (show ¬ s_rk S i = 9 by omega), y2, y3, y4, y5, if_pos rfl, if_pos rfl, if_pos rfl, if_pos rfl]
      obtain ⟨M, q1, q2, q3, q4⟩ := ih (up σ1 99 (24 * i + n) (b2i (inh S a b c q i))) (hf.trans (fr.up (by simp))) (fun r hr => by
        by_cases e : r = i
        · rw [e, up_same]
        · rw [up_off _ _ (Or.inr (by omega))]
          exact h r (by omega)) (fun r v hv hv2 => by
        rw [up_off _ _ (Or.inr (by omega))]
        exact h' r v hv hv2)
      refine ⟨M, ?_, q2, q3, q4⟩
      rw [m_X12_publish_299]
      rw [hf 94 (by decide), m942, if_neg (nI_ge hi (by omega)), m941, nI_pred, ein, obind_some]
      dsimp only
      rw [zchk_b, obind_some, mul_nI (y := 24) 24 rfl, nI_add, show 24 * i + (n + 1) = 24 * i + n + 1 by omega, nI_pred, ast_nI (by omega) (by decide), obind_some, nI_1]
      exact q1) 0 (Nat.zero_le _) m fr.refl (fun r hr => by omega) (fun r v _ _ => by rw [F 99 (by decide)])
  obtain ⟨M, q1, q2, q3, q4⟩ := key
  have FM : fr [94, 95, 99] σ M := (F.mono (by decide)).trans (q2.mono (by decide))
  have CM : c94 [0, 1] σ M := C.w q2 (by decide)
  refine ⟨M, ?_, FM, CM, by rw [q2 94 (by decide)]; exact m940, RMv.S (fun _ _ => rfl) (mk_fr q2 (by decide)) (fun j hj => by rw [q2 94 (by decide)]) hRv, ⟨?_, ?_, ?_⟩, ?_, hM.2.2.2.1.S (G.on (by decide)) (mk_fr FM (by decide)) (CM.on (by decide)), hM.2.2.2.2.S (G.on (by decide)) (mk_fr FM (by decide)) (CM.on (by decide))⟩
  · unfold m_X12_publish_196
    rw [r_well0, obind_s, if_neg ne10, obind_s]
    dsimp only
    have e1 : (up σ 94 0 0) 94 1 = nI n := by rw [up_off _ _ (Or.inr (by decide)), hn]; exact hM.nv
    have e9 : m9 94 1 = nI n := by rw [C9 1 (by decide), hn]; exact hM.nv
    rw [e1, mul_nI (y := 9) 9 rfl, ast_nI (by omega) (by decide), obind_s, add_nI (y := 1) 1 rfl, ast_nI (by omega) (by decide), obind_s, add_nI (y := 2) 2 rfl, ast_nI (by omega) (by decide), obind_s, add_nI (y := 3) 3 rfl, ast_nI (by omega) (by decide), obind_s, add_nI (y := 4) 4 rfl, ast_nI (by omega) (by decide), obind_s, add_nI (y := 5) 5 rfl, ast_nI (by omega) (by decide), obind_s, add_nI (y := 7) 7 rfl, ast_nI (by omega) (by decide), obind_s, ← hm9, e9, nI_1, obind_s, ← hm]
    exact q1
  · rw [g17, CM 2 (by decide)]
    exact hM.nr
  · intro r hr
    rw [g17] at hr
    rw [FM 98 (by decide), show s_rk T = s_rk S from G 19 (by decide), show s_ra T = s_ra S from G 20 (by decide), show s_rb T = s_rb S from G 21 (by decide), show s_rc T = s_rc S from G 22 (by decide), show s_rp T = s_rp S from G 23 (by decide)]
    exact hM.rng hr
  · intro r v hr hv
    rw [g17] at hr
    rw [g0] at hv
    rw [hT, pubT_has (show v < 24 by omega), ← hn]
    by_cases e : v = n
    · rw [if_pos e, e, q3 r hr]
      cases inh S a b c q r <;> rfl
    · rw [if_neg e, q4 r v (by omega) e]
      exact hM.has hr (by omega)
  · intro v j hv hj
    rw [g0] at hv
    rw [show s_nn T = s_nn S from G 9 (by decide)] at hj
    have hv2 : v < s_nv S := by
      by_cases e : v = n
      · have := (hW.fresh (v := v) (by omega) (by omega)).2.2
        omega
      · have := nlt v hv e
        omega
    rw [show s_tgt T = s_tgt S from G 11 (by decide), show s_nrg T = s_nrg S from G 12 (by decide), show s_nkd T = s_nkd S from G 13 (by decide), show s_nft T = s_nft S from G 14 (by decide), show s_npl T = s_npl S from G 15 (by decide), show s_nfs T = s_nfs S from G 16 (by decide), FM 97 (by decide)]
    exact hM.need hv2 hj
theorem op_publish : OP_publish Inv := by
  intro v1 v2 v3 v4 v5 v6 σ τ ⟨S, hI⟩
  obtain ⟨hW, hR, hM, hS, hC⟩ := id hI
  have h24 := hW.nv
  have thr196 : ∀ k : Int32, ¬ k = 0 → ∀ σ9, m_X12_publish_196 v1 v2 v3 v4 v5 v6 k σ9 = some (0, up σ9 94 0 k) := fun k hk σ9 => by
    unfold m_X12_publish_196
    rw [r_wellK hk, obind_s, if_pos rfl]
  have bad1 : m_X11_publish v1 v2 v3 v4 v5 v6 σ = some ((1, 0), σ) → (inN v1 6 && inN v6 2) = false → ∃ (k1 : Int32) (τ' : Nat → Int64) (σ1 : Mem) (bb : Int32) (m2 m3 : Mem), w_publish v1 v2 v3 v4 v5 v6 σ τ = some ((k1, τ'), σ1) ∧ m_X12_publish v1 v2 v3 v4 v5 v6 σ1 = some (bb, m2) ∧ m_X12_thrown m2 = some (k1, m3) ∧ (k1 = 0 → τ' 0 = bb.toInt64) ∧ Inv m3 := fun g1 g2 => op_thr (mdl := m_X12_publish v1 v2 v3 v4 v5 v6) (j := 0) (k := 1) (σ1 := σ) (m := σ) (v := 0) (bb := 0) g1 rfl (by decide) (by
    obtain ⟨y9, y10, hy⟩ := r_cntAny hW hM (v1 := v1) (v2 := v2) (v3 := v3) (v4 := v4) (v5 := v5) (v6 := v6) (v7 := b2i (inN v1 6 && inN v6 2)) (v8 := b2i (inN v2 10 && inN v3 10 && inN v4 10 && inN v5 10))
    rw [r_pubHead, hy, g2]
    unfold pubF
    rw [if_pos (show b2i false = 0 from rfl)]
    exact thr196 1 ne10 σ) ⟨S, hI.thrown 1⟩
  have bad2 : m_X11_publish v1 v2 v3 v4 v5 v6 σ = some ((2, 0), σ) → (inN v1 6 && inN v6 2) = true → (inN v2 10 && inN v3 10 && inN v4 10 && inN v5 10) = false → ∃ (k1 : Int32) (τ' : Nat → Int64) (σ1 : Mem) (bb : Int32) (m2 m3 : Mem), w_publish v1 v2 v3 v4 v5 v6 σ τ = some ((k1, τ'), σ1) ∧ m_X12_publish v1 v2 v3 v4 v5 v6 σ1 = some (bb, m2) ∧ m_X12_thrown m2 = some (k1, m3) ∧ (k1 = 0 → τ' 0 = bb.toInt64) ∧ Inv m3 := fun g1 g0 g2 => op_thr (mdl := m_X12_publish v1 v2 v3 v4 v5 v6) (j := 1) (k := 2) (σ1 := σ) (m := σ) (v := 0) (bb := 0) g1 rfl (by decide) (by
    obtain ⟨y9, y10, hy⟩ := r_cntAny hW hM (v1 := v1) (v2 := v2) (v3 := v3) (v4 := v4) (v5 := v5) (v6 := v6) (v7 := b2i (inN v1 6 && inN v6 2)) (v8 := b2i (inN v2 10 && inN v3 10 && inN v4 10 && inN v5 10))
    rw [r_pubHead, hy, g0, g2]
    unfold pubF
    rw [if_neg (show ¬ b2i true = 0 by decide), if_pos (show b2i false = 0 from rfl)]
    exact thr196 2 ne20 σ) ⟨S, hI.thrown 2⟩
  cases h1 : inN v1 6 with
  | false =>
    refine bad1 ?_ (by rw [h1]; rfl)
    unfold m_X11_publish
    rw [c_isPackage, h1, obind_s, if_pos (show b2i false = 0 from rfl)]
  | true =>
    cases h6 : inN v6 2 with
    | false =>
      refine bad1 ?_ (by rw [h1, h6]; rfl)
      unfold m_X11_publish
      rw [c_isPackage, h1, obind_s, if_neg (show ¬ b2i true = 0 by decide)]
      dsimp only
      rw [c_up 1 (by decide) (show (1 : Int32) = nI 1 from rfl), h6, obind_s, if_pos (show b2i false = 0 from rfl)]
    | true =>
      have hd1 : m_X11_publish v1 v2 v3 v4 v5 v6 σ = obind (m_X11_isDigit v2 σ) fun x3 => if x3.1 = 0 then some ((2, 0), x3.2) else obind (m_X11_isDigit v3 x3.2) fun x4 => if x4.1 = 0 then some ((2, 0), x4.2) else obind (m_X11_isDigit v4 x4.2) fun x5 => if x5.1 = 0 then some ((2, 0), x5.2) else obind (m_X11_isDigit v5 x5.2) fun x6 => if x6.1 = 0 then some ((2, 0), x6.2) else obind (m_X11_rankOf v2 v3 v4 v5 x6.2) fun x7 => obind (m_X9_isFull v1 x7.2) fun x8 => if x8.1 = 0 then obind (m_X9_hasRank v1 x7.1 x8.2) fun x9 => if x9.1 = 0 then obind (some (((((7 * v2) + (5 * v3)) + (3 * v4)) + v5) + 1)) fun y10 => obind (m_X9_add v1 x7.1 y10 v6 x9.2) fun x11 => obind (m_X6_take x11.1 x7.1 x11.2) fun x12 => some ((0, x11.1), x12.2) else some ((3, 0), x9.2) else some ((3, 0), x8.2) := by
        unfold m_X11_publish
        rw [c_isPackage, h1, obind_s, if_neg (show ¬ b2i true = 0 by decide)]
        dsimp only
        rw [c_up 1 (by decide) (show (1 : Int32) = nI 1 from rfl), h6, obind_s, if_neg (show ¬ b2i true = 0 by decide)]
      rw [c_isDigit, obind_s] at hd1
      cases h2 : inN v2 10 with
      | false =>
        refine bad2 ?_ (by rw [h1, h6]; rfl) (by rw [h2]; rfl)
        rw [hd1, h2, if_pos (show b2i false = 0 from rfl)]
      | true =>
        rw [h2, if_neg (show ¬ b2i true = 0 by decide)] at hd1
        dsimp only at hd1
        rw [c_isDigit, obind_s] at hd1
        cases h3 : inN v3 10 with
        | false =>
          refine bad2 ?_ (by rw [h1, h6]; rfl) (by rw [h2, h3]; rfl)
          rw [hd1, h3, if_pos (show b2i false = 0 from rfl)]
        | true =>
          rw [h3, if_neg (show ¬ b2i true = 0 by decide)] at hd1
          dsimp only at hd1
          rw [c_isDigit, obind_s] at hd1
          cases h4 : inN v4 10 with
          | false =>
            refine bad2 ?_ (by rw [h1, h6]; rfl) (by rw [h2, h3, h4]; rfl)
            rw [hd1, h4, if_pos (show b2i false = 0 from rfl)]
          | true =>
            rw [h4, if_neg (show ¬ b2i true = 0 by decide)] at hd1
            dsimp only at hd1
            rw [c_isDigit, obind_s] at hd1
            cases h5 : inN v5 10 with
            | false =>
              refine bad2 ?_ (by rw [h1, h6]; rfl) (by rw [h2, h3, h4, h5]; rfl)
              rw [hd1, h5, if_pos (show b2i false = 0 from rfl)]
            | true =>
              rw [h5, if_neg (show ¬ b2i true = 0 by decide)] at hd1
              dsimp only at hd1
              obtain ⟨p, hp, rfl⟩ := (inN_t (by omega)).mp h1
              obtain ⟨pl, hpl, rfl⟩ := (inN_t (by omega)).mp h6
              obtain ⟨a, ha, rfl⟩ := (inN_t (by omega)).mp h2
              obtain ⟨b, hb, rfl⟩ := (inN_t (by omega)).mp h3
              obtain ⟨c, hc, rfl⟩ := (inN_t (by omega)).mp h4
              obtain ⟨q, hq, rfl⟩ := (inN_t (by omega)).mp h5
              have l1 : a ≤ 9 := by omega
              have l2 : b ≤ 9 := by omega
              have l3 : c ≤ 9 := by omega
              have l4 : q ≤ 9 := by omega
              have hrk : rk4 a b c q < 65536 := rk4_lt (by omega) (by omega) (by omega) l4
              obtain ⟨len, hlen⟩ : ∃ len, len = (s_vs S p).length := ⟨_, rfl⟩
              have hl4 := hW.siz hp
              have hcnt : cntR (s_nv S) (fun v => s_own S v == p) = len := by rw [hlen]; exact (cntR_len _ _).symm
              have head : ∀ σ9, RM S σ9 → m_X12_publish (nI p) (nI a) (nI b) (nI c) (nI q) (nI pl) σ9 = if len = 4 then m_X12_publish_196 (nI p) (nI a) (nI b) (nI c) (nI q) (nI pl) 3 σ9 else if (anyR (s_nv S) fun v => s_own S v == p && s_rank S v == rk4 a b c q) = false then m_X12_publish_196 (nI p) (nI a) (nI b) (nI c) (nI q) (nI pl) 0 σ9 else m_X12_publish_196 (nI p) (nI a) (nI b) (nI c) (nI q) (nI pl) 3 σ9 := fun σ9 h9 => by
                have e4 : nI len = 4 ↔ len = 4 := nI_eq (b := 4) (by omega) (by decide)
                rw [r_pubHead, r_cntAll hW h9 hp l1 l2 l3 l4, h1, h6, h2, h3, h4, h5, hcnt]
                unfold pubF
                rw [if_neg (show ¬ b2i (true && true) = 0 by decide), if_neg (show ¬ b2i (true && true && true && true) = 0 by decide)]
                by_cases g : len = 4
                · rw [if_pos (e4.mpr g), if_pos g]
                · rw [if_neg (fun e => g (e4.mp e)), if_neg g]
                  cases (anyR (s_nv S) fun v => s_own S v == p && s_rank S v == rk4 a b c q) <;> rfl
              rw [c_rankOf (by omega) (by omega) (by omega) l4, obind_s] at hd1
              dsimp only at hd1
              rw [c_full hW hR hp, obind_s] at hd1
              have three : m_X11_publish (nI p) (nI a) (nI b) (nI c) (nI q) (nI pl) σ = some ((3, 0), σ) → m_X12_publish (nI p) (nI a) (nI b) (nI c) (nI q) (nI pl) σ = m_X12_publish_196 (nI p) (nI a) (nI b) (nI c) (nI q) (nI pl) 3 σ → ∃ (k1 : Int32) (τ' : Nat → Int64) (σ1 : Mem) (bb : Int32) (m2 m3 : Mem), w_publish (nI p) (nI a) (nI b) (nI c) (nI q) (nI pl) σ τ = some ((k1, τ'), σ1) ∧ m_X12_publish (nI p) (nI a) (nI b) (nI c) (nI q) (nI pl) σ1 = some (bb, m2) ∧ m_X12_thrown m2 = some (k1, m3) ∧ (k1 = 0 → τ' 0 = bb.toInt64) ∧ Inv m3 := fun g1 g2 => op_thr (mdl := m_X12_publish (nI p) (nI a) (nI b) (nI c) (nI q) (nI pl)) (j := 2) (k := 3) (σ1 := σ) (m := σ) (v := 0) (bb := 0) g1 rfl (by decide) (by
                rw [g2]
                exact thr196 3 ne30 σ) ⟨S, hI.thrown 3⟩
              by_cases hfull : 4 ≤ (s_vs S p).length ∨ 24 ≤ s_nv S
              · have hl : len = 4 := by
                  rcases hfull with h | h
                  · omega
                  · by_cases h' : (s_vs S p).length < 4
                    · have := room24 hW hp h'
                      omega
                    · omega
                refine three ?_ (by rw [head σ hM, if_pos hl])
                rw [hd1, decide_eq_true hfull, if_neg (show ¬ b2i true = 0 by decide)]
              · have hl : len < 4 := by omega
                have hn24 : s_nv S < 24 := by omega
                obtain ⟨g, hg1, hg2⟩ := c_hasRank hW hR hp (show rk4 a b c q < 2 ^ 30 by omega)
                rw [decide_eq_false hfull, if_pos (show b2i false = 0 from rfl)] at hd1
                dsimp only at hd1
                rw [hg1, obind_s] at hd1
                cases hg : g with
                | true =>
                  obtain ⟨v, w1, w2, w3⟩ := hg2.mp hg
                  have hany : (anyR (s_nv S) fun v => s_own S v == p && s_rank S v == rk4 a b c q) = true := anyR_t.mpr ⟨v, w1, by rw [w2, w3, beq_self_eq_true, beq_self_eq_true]; rfl⟩
                  refine three ?_ (by rw [head σ hM, if_neg (by omega), hany, if_neg (by decide)])
                  rw [hd1, hg, if_neg (show ¬ b2i true = 0 by decide)]
                | false =>
                  have hno : ∀ v, v < s_nv S → s_own S v = p → s_rank S v ≠ rk4 a b c q := fun v w1 w2 w3 => by
                    have := hg2.mpr ⟨v, w1, w2, w3⟩
                    rw [hg] at this
                    cases this
                  have hany : (anyR (s_nv S) fun v => s_own S v == p && s_rank S v == rk4 a b c q) = false := anyR_f.mpr fun v hv => by
                    by_cases e : s_own S v = p
                    · rw [show (s_rank S v == rk4 a b c q) = false from beq_eq_false_iff_ne.mpr (hno v hv e), Bool.and_false]
                    · rw [show (s_own S v == p) = false from beq_eq_false_iff_ne.mpr e, Bool.false_and]
                  have hos : 7 * nI a + 5 * nI b + 3 * nI c + nI q + 1 = nI (7 * a + 5 * b + 3 * c + q + 1) := by
                    rw [mul_nI (y := 7) 7 rfl, mul_nI (y := 5) 5 rfl, mul_nI (y := 3) 3 rfl, nI_add, nI_add, nI_add, nI_1]
                  have hadd := c_vadd (rk := rk4 a b c q) (os := 7 * a + 5 * b + 3 * c + q + 1) (pl := pl) hW hR hp hn24 hlen hl (by omega) (by omega)
                  have FA : fr [2, 4, 6, 8, 14, 16] σ (pubA σ (s_nv S) len p (rk4 a b c q) ((31 * s_nv S + (7 * a + 5 * b + 3 * c + q + 1)) % 9973) pl) := pubA_fr
                  obtain ⟨MC, t1, t2, t3, t4⟩ := c_take (a := a) (b := b) (c := c) (q := q) hW hR hn24 l1 l2 l3 l4 (m := pubA σ (s_nv S) len p (rk4 a b c q) ((31 * s_nv S + (7 * a + 5 * b + 3 * c + q + 1)) % 9973) pl) (mk_fr FA (by decide))
                  have FC : fr [2, 4, 6, 8, 14, 16, 31] σ MC := (FA.mono (by decide)).trans (t2.mono (by decide))
                  have hRT := c_pubRC (pl := pl) hW hR hn24 hp (by omega) hlen hl t2 t3 t4
                  have hWT := pubT_WF (pl := pl) hW hn24 hp l1 l2 l3 l4 (by omega) (by omega) hno
                  have hMC := hM.fr FC (by decide) (by decide)
                  obtain ⟨M, u1, u2, u3, u4, u5⟩ := r_pub196 (pl := pl) hW hMC hWT hn24
                  have FM : fr [2, 4, 6, 8, 14, 16, 31, 94, 95, 99] σ (up M 94 31 0) := fr_u ((FC.mono (by decide)).trans (u2.mono (by decide))) (by decide)
                  rw [hg, if_pos (show b2i false = 0 from rfl), obind_s] at hd1
                  dsimp only at hd1
                  rw [hos, hadd, obind_s] at hd1
                  dsimp only at hd1
                  rw [t1, obind_s] at hd1
                  refine op_ok (mdl := m_X12_publish (nI p) (nI a) (nI b) (nI c) (nI q) (nI pl)) (v := nI (s_nv S)) (σ1 := MC) (m := up M 94 31 0) hd1 ?_ ?_ (inv_mk (S := pubT S p a b c q pl) hWT (hRT.fr (l := [94, 95, 99]) (fr_u u2 (by decide)) (by decide)) ?_ (hS.chg rfl (FM 93 (by decide)) (FM 105 (by decide)) (FM 112 (by decide))) (up_same _ _ _ _))
                  · rw [head MC hMC, if_neg (by omega), hany, if_pos rfl]
                    exact u1
                  · rw [up_off _ _ (Or.inr (by decide))]
                    exact u4
                  · exact u5.congr (fun k hk => up_pl _ _ (fun e => by subst e; revert hk; decide)) (fun j hj => up_off _ _ (Or.inr (fun e => by subst e; revert hj; decide)))
end PUBX
