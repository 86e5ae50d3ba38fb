/-! ===== what a group says anew where some keys and places change ===== -/
theorem WFv.x7 {S S' : SP} (g : ∀ k, k ∈ [0, 1, 2, 3, 4, 5, 6, 10] → S' k = S k) (w : WFv S) (h3 : (∀ v, v < 24 → s_ynk S' v ≤ 1 ∧ s_plat S' v ≤ 7 ∧ s_nn S' v ≤ 5)) (h4 : (∀ v, s_nv S' ≤ v → v < 24 → s_ynk S' v = 0 ∧ s_plat S' v = 7 ∧ s_nn S' v = 0)) : WFv S' := by
  unfold WFv at w ⊢
  obtain ⟨a1, a2, a3, a4, a5, a6, a7, a8⟩ := w
  refine ⟨?_, ?_, h3, h4, ?_, ?_, ?_, ?_⟩
  · simp only [s_nv, s_nr, s_nd, s_na, s_plt, s_wsp, s_upd, s_vs_S (g 0 (by decide)) (g 1 (by decide)), s_mem_S (g 0 (by decide)) (g 1 (by decide)), s_first_S (g 0 (by decide)) (g 1 (by decide)) (g 6 (by decide)), s_rank_S (g 2 (by decide)) (g 3 (by decide)) (g 4 (by decide)) (g 5 (by decide)), s_sum_S (g 2 (by decide)) (g 3 (by decide)) (g 4 (by decide)) (g 5 (by decide)), g 0 (by decide), g 1 (by decide), g 2 (by decide), g 3 (by decide), g 4 (by decide), g 5 (by decide), g 6 (by decide), g 10 (by decide)]
    exact a1
  · simp only [s_nv, s_nr, s_nd, s_na, s_plt, s_wsp, s_upd, s_vs_S (g 0 (by decide)) (g 1 (by decide)), s_mem_S (g 0 (by decide)) (g 1 (by decide)), s_first_S (g 0 (by decide)) (g 1 (by decide)) (g 6 (by decide)), s_rank_S (g 2 (by decide)) (g 3 (by decide)) (g 4 (by decide)) (g 5 (by decide)), s_sum_S (g 2 (by decide)) (g 3 (by decide)) (g 4 (by decide)) (g 5 (by decide)), g 0 (by decide), g 1 (by decide), g 2 (by decide), g 3 (by decide), g 4 (by decide), g 5 (by decide), g 6 (by decide), g 10 (by decide)]
    exact a2
  · simp only [s_nv, s_nr, s_nd, s_na, s_plt, s_wsp, s_upd, s_vs_S (g 0 (by decide)) (g 1 (by decide)), s_mem_S (g 0 (by decide)) (g 1 (by decide)), s_first_S (g 0 (by decide)) (g 1 (by decide)) (g 6 (by decide)), s_rank_S (g 2 (by decide)) (g 3 (by decide)) (g 4 (by decide)) (g 5 (by decide)), s_sum_S (g 2 (by decide)) (g 3 (by decide)) (g 4 (by decide)) (g 5 (by decide)), g 0 (by decide), g 1 (by decide), g 2 (by decide), g 3 (by decide), g 4 (by decide), g 5 (by decide), g 6 (by decide), g 10 (by decide)]
    exact a5
  · simp only [s_nv, s_nr, s_nd, s_na, s_plt, s_wsp, s_upd, s_vs_S (g 0 (by decide)) (g 1 (by decide)), s_mem_S (g 0 (by decide)) (g 1 (by decide)), s_first_S (g 0 (by decide)) (g 1 (by decide)) (g 6 (by decide)), s_rank_S (g 2 (by decide)) (g 3 (by decide)) (g 4 (by decide)) (g 5 (by decide)), s_sum_S (g 2 (by decide)) (g 3 (by decide)) (g 4 (by decide)) (g 5 (by decide)), g 0 (by decide), g 1 (by decide), g 2 (by decide), g 3 (by decide), g 4 (by decide), g 5 (by decide), g 6 (by decide), g 10 (by decide)]
    exact a6
  · simp only [s_nv, s_nr, s_nd, s_na, s_plt, s_wsp, s_upd, s_vs_S (g 0 (by decide)) (g 1 (by decide)), s_mem_S (g 0 (by decide)) (g 1 (by decide)), s_first_S (g 0 (by decide)) (g 1 (by decide)) (g 6 (by decide)), s_rank_S (g 2 (by decide)) (g 3 (by decide)) (g 4 (by decide)) (g 5 (by decide)), s_sum_S (g 2 (by decide)) (g 3 (by decide)) (g 4 (by decide)) (g 5 (by decide)), g 0 (by decide), g 1 (by decide), g 2 (by decide), g 3 (by decide), g 4 (by decide), g 5 (by decide), g 6 (by decide), g 10 (by decide)]
    exact a7
  · simp only [s_nv, s_nr, s_nd, s_na, s_plt, s_wsp, s_upd, s_vs_S (g 0 (by decide)) (g 1 (by decide)), s_mem_S (g 0 (by decide)) (g 1 (by decide)), s_first_S (g 0 (by decide)) (g 1 (by decide)) (g 6 (by decide)), s_rank_S (g 2 (by decide)) (g 3 (by decide)) (g 4 (by decide)) (g 5 (by decide)), s_sum_S (g 2 (by decide)) (g 3 (by decide)) (g 4 (by decide)) (g 5 (by decide)), g 0 (by decide), g 1 (by decide), g 2 (by decide), g 3 (by decide), g 4 (by decide), g 5 (by decide), g 6 (by decide), g 10 (by decide)]
    exact a8
theorem RCv.x7 {S S' : SP} {σ σ' : Mem} (g : ∀ k, k ∈ [0, 1, 2, 3, 4, 5, 6, 8, 10] → S' k = S k) (m : ∀ k, k ∈ [4, 6, 8, 10, 12, 14, 16] → σ' k = σ k) (e2_8 : σ' 2 8 = σ 2 8) (e2_9 : σ' 2 9 = σ 2 9) (e2_10 : σ' 2 10 = σ 2 10) (w : RCv S σ) (h9 : σ' 2 7 = nI (setB 24 fun v => s_ynk S' v == 1)) : RCv S' σ' := by
  unfold RCv at w ⊢
  obtain ⟨a1, a2, a3, a4, a5, a6, a7, a8, a9, a10, a11⟩ := w
  refine ⟨?_, ?_, ?_, ?_, ?_, ?_, ?_, ?_, h9, ?_, ?_⟩
  · simp only [s_nv, s_nr, s_nd, s_na, s_plt, s_wsp, s_upd, s_vs_S (g 0 (by decide)) (g 1 (by decide)), s_mem_S (g 0 (by decide)) (g 1 (by decide)), s_first_S (g 0 (by decide)) (g 1 (by decide)) (g 6 (by decide)), s_rank_S (g 2 (by decide)) (g 3 (by decide)) (g 4 (by decide)) (g 5 (by decide)), s_sum_S (g 2 (by decide)) (g 3 (by decide)) (g 4 (by decide)) (g 5 (by decide)), g 0 (by decide), g 1 (by decide), g 2 (by decide), g 3 (by decide), g 4 (by decide), g 5 (by decide), g 6 (by decide), g 8 (by decide), g 10 (by decide), m 4 (by decide), m 6 (by decide), m 8 (by decide), m 10 (by decide), m 12 (by decide), m 14 (by decide), m 16 (by decide), e2_8, e2_9, e2_10]
    exact a1
  · simp only [s_nv, s_nr, s_nd, s_na, s_plt, s_wsp, s_upd, s_vs_S (g 0 (by decide)) (g 1 (by decide)), s_mem_S (g 0 (by decide)) (g 1 (by decide)), s_first_S (g 0 (by decide)) (g 1 (by decide)) (g 6 (by decide)), s_rank_S (g 2 (by decide)) (g 3 (by decide)) (g 4 (by decide)) (g 5 (by decide)), s_sum_S (g 2 (by decide)) (g 3 (by decide)) (g 4 (by decide)) (g 5 (by decide)), g 0 (by decide), g 1 (by decide), g 2 (by decide), g 3 (by decide), g 4 (by decide), g 5 (by decide), g 6 (by decide), g 8 (by decide), g 10 (by decide), m 4 (by decide), m 6 (by decide), m 8 (by decide), m 10 (by decide), m 12 (by decide), m 14 (by decide), m 16 (by decide), e2_8, e2_9, e2_10]
    exact a2
  · simp only [s_nv, s_nr, s_nd, s_na, s_plt, s_wsp, s_upd, s_vs_S (g 0 (by decide)) (g 1 (by decide)), s_mem_S (g 0 (by decide)) (g 1 (by decide)), s_first_S (g 0 (by decide)) (g 1 (by decide)) (g 6 (by decide)), s_rank_S (g 2 (by decide)) (g 3 (by decide)) (g 4 (by decide)) (g 5 (by decide)), s_sum_S (g 2 (by decide)) (g 3 (by decide)) (g 4 (by decide)) (g 5 (by decide)), g 0 (by decide), g 1 (by decide), g 2 (by decide), g 3 (by decide), g 4 (by decide), g 5 (by decide), g 6 (by decide), g 8 (by decide), g 10 (by decide), m 4 (by decide), m 6 (by decide), m 8 (by decide), m 10 (by decide), m 12 (by decide), m 14 (by decide), m 16 (by decide), e2_8, e2_9, e2_10]
    exact a3
  · simp only [s_nv, s_nr, s_nd, s_na, s_plt, s_wsp, s_upd, s_vs_S (g 0 (by decide)) (g 1 (by decide)), s_mem_S (g 0 (by decide)) (g 1 (by decide)), s_first_S (g 0 (by decide)) (g 1 (by decide)) (g 6 (by decide)), s_rank_S (g 2 (by decide)) (g 3 (by decide)) (g 4 (by decide)) (g 5 (by decide)), s_sum_S (g 2 (by decide)) (g 3 (by decide)) (g 4 (by decide)) (g 5 (by decide)), g 0 (by decide), g 1 (by decide), g 2 (by decide), g 3 (by decide), g 4 (by decide), g 5 (by decide), g 6 (by decide), g 8 (by decide), g 10 (by decide), m 4 (by decide), m 6 (by decide), m 8 (by decide), m 10 (by decide), m 12 (by decide), m 14 (by decide), m 16 (by decide), e2_8, e2_9, e2_10]
    exact a4
  · simp only [s_nv, s_nr, s_nd, s_na, s_plt, s_wsp, s_upd, s_vs_S (g 0 (by decide)) (g 1 (by decide)), s_mem_S (g 0 (by decide)) (g 1 (by decide)), s_first_S (g 0 (by decide)) (g 1 (by decide)) (g 6 (by decide)), s_rank_S (g 2 (by decide)) (g 3 (by decide)) (g 4 (by decide)) (g 5 (by decide)), s_sum_S (g 2 (by decide)) (g 3 (by decide)) (g 4 (by decide)) (g 5 (by decide)), g 0 (by decide), g 1 (by decide), g 2 (by decide), g 3 (by decide), g 4 (by decide), g 5 (by decide), g 6 (by decide), g 8 (by decide), g 10 (by decide), m 4 (by decide), m 6 (by decide), m 8 (by decide), m 10 (by decide), m 12 (by decide), m 14 (by decide), m 16 (by decide), e2_8, e2_9, e2_10]
    exact a5
  · simp only [s_nv, s_nr, s_nd, s_na, s_plt, s_wsp, s_upd, s_vs_S (g 0 (by decide)) (g 1 (by decide)), s_mem_S (g 0 (by decide)) (g 1 (by decide)), s_first_S (g 0 (by decide)) (g 1 (by decide)) (g 6 (by decide)), s_rank_S (g 2 (by decide)) (g 3 (by decide)) (g 4 (by decide)) (g 5 (by decide)), s_sum_S (g 2 (by decide)) (g 3 (by decide)) (g 4 (by decide)) (g 5 (by decide)), g 0 (by decide), g 1 (by decide), g 2 (by decide), g 3 (by decide), g 4 (by decide), g 5 (by decide), g 6 (by decide), g 8 (by decide), g 10 (by decide), m 4 (by decide), m 6 (by decide), m 8 (by decide), m 10 (by decide), m 12 (by decide), m 14 (by decide), m 16 (by decide), e2_8, e2_9, e2_10]
    exact a6
  · simp only [s_nv, s_nr, s_nd, s_na, s_plt, s_wsp, s_upd, s_vs_S (g 0 (by decide)) (g 1 (by decide)), s_mem_S (g 0 (by decide)) (g 1 (by decide)), s_first_S (g 0 (by decide)) (g 1 (by decide)) (g 6 (by decide)), s_rank_S (g 2 (by decide)) (g 3 (by decide)) (g 4 (by decide)) (g 5 (by decide)), s_sum_S (g 2 (by decide)) (g 3 (by decide)) (g 4 (by decide)) (g 5 (by decide)), g 0 (by decide), g 1 (by decide), g 2 (by decide), g 3 (by decide), g 4 (by decide), g 5 (by decide), g 6 (by decide), g 8 (by decide), g 10 (by decide), m 4 (by decide), m 6 (by decide), m 8 (by decide), m 10 (by decide), m 12 (by decide), m 14 (by decide), m 16 (by decide), e2_8, e2_9, e2_10]
    exact a7
  · simp only [s_nv, s_nr, s_nd, s_na, s_plt, s_wsp, s_upd, s_vs_S (g 0 (by decide)) (g 1 (by decide)), s_mem_S (g 0 (by decide)) (g 1 (by decide)), s_first_S (g 0 (by decide)) (g 1 (by decide)) (g 6 (by decide)), s_rank_S (g 2 (by decide)) (g 3 (by decide)) (g 4 (by decide)) (g 5 (by decide)), s_sum_S (g 2 (by decide)) (g 3 (by decide)) (g 4 (by decide)) (g 5 (by decide)), g 0 (by decide), g 1 (by decide), g 2 (by decide), g 3 (by decide), g 4 (by decide), g 5 (by decide), g 6 (by decide), g 8 (by decide), g 10 (by decide), m 4 (by decide), m 6 (by decide), m 8 (by decide), m 10 (by decide), m 12 (by decide), m 14 (by decide), m 16 (by decide), e2_8, e2_9, e2_10]
    exact a8
  · simp only [s_nv, s_nr, s_nd, s_na, s_plt, s_wsp, s_upd, s_vs_S (g 0 (by decide)) (g 1 (by decide)), s_mem_S (g 0 (by decide)) (g 1 (by decide)), s_first_S (g 0 (by decide)) (g 1 (by decide)) (g 6 (by decide)), s_rank_S (g 2 (by decide)) (g 3 (by decide)) (g 4 (by decide)) (g 5 (by decide)), s_sum_S (g 2 (by decide)) (g 3 (by decide)) (g 4 (by decide)) (g 5 (by decide)), g 0 (by decide), g 1 (by decide), g 2 (by decide), g 3 (by decide), g 4 (by decide), g 5 (by decide), g 6 (by decide), g 8 (by decide), g 10 (by decide), m 4 (by decide), m 6 (by decide), m 8 (by decide), m 10 (by decide), m 12 (by decide), m 14 (by decide), m 16 (by decide), e2_8, e2_9, e2_10]
    exact a10
  · simp only [s_nv, s_nr, s_nd, s_na, s_plt, s_wsp, s_upd, s_vs_S (g 0 (by decide)) (g 1 (by decide)), s_mem_S (g 0 (by decide)) (g 1 (by decide)), s_first_S (g 0 (by decide)) (g 1 (by decide)) (g 6 (by decide)), s_rank_S (g 2 (by decide)) (g 3 (by decide)) (g 4 (by decide)) (g 5 (by decide)), s_sum_S (g 2 (by decide)) (g 3 (by decide)) (g 4 (by decide)) (g 5 (by decide)), g 0 (by decide), g 1 (by decide), g 2 (by decide), g 3 (by decide), g 4 (by decide), g 5 (by decide), g 6 (by decide), g 8 (by decide), g 10 (by decide), m 4 (by decide), m 6 (by decide), m 8 (by decide), m 10 (by decide), m 12 (by decide), m 14 (by decide), m 16 (by decide), e2_8, e2_9, e2_10]
    exact a11
theorem RMv.x7 {S S' : SP} {σ σ' : Mem} (g : ∀ k, k ∈ [0, 10] → S' k = S k) (m : ∀ k, k ∈ [96] → σ' k = σ k) (e94_1 : σ' 94 1 = σ 94 1) (w : RMv S σ) (h2 : (∀ v, v < s_nv S' → σ' 95 (9 * v) = nI (s_own S' v) ∧ σ' 95 (9 * v + 1) = nI (s_a S' v) ∧ σ' 95 (9 * v + 2) = nI (s_b S' v) ∧ σ' 95 (9 * v + 3) = nI (s_c S' v) ∧ σ' 95 (9 * v + 4) = nI (s_pre S' v) ∧ σ' 95 (9 * v + 5) = nI (s_plc S' v) ∧ σ' 95 (9 * v + 7) = nI (s_plat S' v))) (h3 : (∀ v, v < 24 → σ' 95 (9 * v + 6) = nI (s_ynk S' v) ∧ σ' 95 (9 * v + 8) = nI (s_nn S' v))) : RMv S' σ' := by
  unfold RMv at w ⊢
  obtain ⟨a1, a2, a3, a4⟩ := w
  refine ⟨?_, h2, h3, ?_⟩
  · simp only [s_nv, s_nr, s_nd, s_na, s_plt, s_wsp, s_upd, g 0 (by decide), g 10 (by decide), m 96 (by decide), e94_1]
    exact a1
  · simp only [s_nv, s_nr, s_nd, s_na, s_plt, s_wsp, s_upd, g 0 (by decide), g 10 (by decide), m 96 (by decide), e94_1]
    exact a4
theorem WFv.x8 {S S' : SP} (g : ∀ k, k ∈ [0, 1, 2, 3, 4, 5, 6, 10] → S' k = S k) (w : WFv S) (h3 : (∀ v, v < 24 → s_ynk S' v ≤ 1 ∧ s_plat S' v ≤ 7 ∧ s_nn S' v ≤ 5)) (h4 : (∀ v, s_nv S' ≤ v → v < 24 → s_ynk S' v = 0 ∧ s_plat S' v = 7 ∧ s_nn S' v = 0)) : WFv S' := by
  unfold WFv at w ⊢
  obtain ⟨a1, a2, a3, a4, a5, a6, a7, a8⟩ := w
  refine ⟨?_, ?_, h3, h4, ?_, ?_, ?_, ?_⟩
  · simp only [s_nv, s_nr, s_nd, s_na, s_plt, s_wsp, s_upd, s_vs_S (g 0 (by decide)) (g 1 (by decide)), s_mem_S (g 0 (by decide)) (g 1 (by decide)), s_first_S (g 0 (by decide)) (g 1 (by decide)) (g 6 (by decide)), s_rank_S (g 2 (by decide)) (g 3 (by decide)) (g 4 (by decide)) (g 5 (by decide)), s_sum_S (g 2 (by decide)) (g 3 (by decide)) (g 4 (by decide)) (g 5 (by decide)), g 0 (by decide), g 1 (by decide), g 2 (by decide), g 3 (by decide), g 4 (by decide), g 5 (by decide), g 6 (by decide), g 10 (by decide)]
    exact a1
  · simp only [s_nv, s_nr, s_nd, s_na, s_plt, s_wsp, s_upd, s_vs_S (g 0 (by decide)) (g 1 (by decide)), s_mem_S (g 0 (by decide)) (g 1 (by decide)), s_first_S (g 0 (by decide)) (g 1 (by decide)) (g 6 (by decide)), s_rank_S (g 2 (by decide)) (g 3 (by decide)) (g 4 (by decide)) (g 5 (by decide)), s_sum_S (g 2 (by decide)) (g 3 (by decide)) (g 4 (by decide)) (g 5 (by decide)), g 0 (by decide), g 1 (by decide), g 2 (by decide), g 3 (by decide), g 4 (by decide), g 5 (by decide), g 6 (by decide), g 10 (by decide)]
    exact a2
  · simp only [s_nv, s_nr, s_nd, s_na, s_plt, s_wsp, s_upd, s_vs_S (g 0 (by decide)) (g 1 (by decide)), s_mem_S (g 0 (by decide)) (g 1 (by decide)), s_first_S (g 0 (by decide)) (g 1 (by decide)) (g 6 (by decide)), s_rank_S (g 2 (by decide)) (g 3 (by decide)) (g 4 (by decide)) (g 5 (by decide)), s_sum_S (g 2 (by decide)) (g 3 (by decide)) (g 4 (by decide)) (g 5 (by decide)), g 0 (by decide), g 1 (by decide), g 2 (by decide), g 3 (by decide), g 4 (by decide), g 5 (by decide), g 6 (by decide), g 10 (by decide)]
    exact a5
  · simp only [s_nv, s_nr, s_nd, s_na, s_plt, s_wsp, s_upd, s_vs_S (g 0 (by decide)) (g 1 (by decide)), s_mem_S (g 0 (by decide)) (g 1 (by decide)), s_first_S (g 0 (by decide)) (g 1 (by decide)) (g 6 (by decide)), s_rank_S (g 2 (by decide)) (g 3 (by decide)) (g 4 (by decide)) (g 5 (by decide)), s_sum_S (g 2 (by decide)) (g 3 (by decide)) (g 4 (by decide)) (g 5 (by decide)), g 0 (by decide), g 1 (by decide), g 2 (by decide), g 3 (by decide), g 4 (by decide), g 5 (by decide), g 6 (by decide), g 10 (by decide)]
    exact a6
  · simp only [s_nv, s_nr, s_nd, s_na, s_plt, s_wsp, s_upd, s_vs_S (g 0 (by decide)) (g 1 (by decide)), s_mem_S (g 0 (by decide)) (g 1 (by decide)), s_first_S (g 0 (by decide)) (g 1 (by decide)) (g 6 (by decide)), s_rank_S (g 2 (by decide)) (g 3 (by decide)) (g 4 (by decide)) (g 5 (by decide)), s_sum_S (g 2 (by decide)) (g 3 (by decide)) (g 4 (by decide)) (g 5 (by decide)), g 0 (by decide), g 1 (by decide), g 2 (by decide), g 3 (by decide), g 4 (by decide), g 5 (by decide), g 6 (by decide), g 10 (by decide)]
    exact a7
  · simp only [s_nv, s_nr, s_nd, s_na, s_plt, s_wsp, s_upd, s_vs_S (g 0 (by decide)) (g 1 (by decide)), s_mem_S (g 0 (by decide)) (g 1 (by decide)), s_first_S (g 0 (by decide)) (g 1 (by decide)) (g 6 (by decide)), s_rank_S (g 2 (by decide)) (g 3 (by decide)) (g 4 (by decide)) (g 5 (by decide)), s_sum_S (g 2 (by decide)) (g 3 (by decide)) (g 4 (by decide)) (g 5 (by decide)), g 0 (by decide), g 1 (by decide), g 2 (by decide), g 3 (by decide), g 4 (by decide), g 5 (by decide), g 6 (by decide), g 10 (by decide)]
    exact a8
theorem RCv.x8 {S S' : SP} {σ σ' : Mem} (g : ∀ k, k ∈ [0, 1, 2, 3, 4, 5, 6, 7, 10] → S' k = S k) (m : ∀ k, k ∈ [4, 6, 8, 12, 14, 16] → σ' k = σ k) (e2_7 : σ' 2 7 = σ 2 7) (e2_8 : σ' 2 8 = σ 2 8) (e2_9 : σ' 2 9 = σ 2 9) (e2_10 : σ' 2 10 = σ 2 10) (w : RCv S σ) (h5 : (∀ v, v < 24 → σ' 10 v = nI (s_plat S' v))) : RCv S' σ' := by
  unfold RCv at w ⊢
  obtain ⟨a1, a2, a3, a4, a5, a6, a7, a8, a9, a10, a11⟩ := w
  refine ⟨?_, ?_, ?_, ?_, h5, ?_, ?_, ?_, ?_, ?_, ?_⟩
  · simp only [s_nv, s_nr, s_nd, s_na, s_plt, s_wsp, s_upd, s_vs_S (g 0 (by decide)) (g 1 (by decide)), s_mem_S (g 0 (by decide)) (g 1 (by decide)), s_first_S (g 0 (by decide)) (g 1 (by decide)) (g 6 (by decide)), s_rank_S (g 2 (by decide)) (g 3 (by decide)) (g 4 (by decide)) (g 5 (by decide)), s_sum_S (g 2 (by decide)) (g 3 (by decide)) (g 4 (by decide)) (g 5 (by decide)), g 0 (by decide), g 1 (by decide), g 2 (by decide), g 3 (by decide), g 4 (by decide), g 5 (by decide), g 6 (by decide), g 7 (by decide), g 10 (by decide), m 4 (by decide), m 6 (by decide), m 8 (by decide), m 12 (by decide), m 14 (by decide), m 16 (by decide), e2_7, e2_8, e2_9, e2_10]
    exact a1
  · simp only [s_nv, s_nr, s_nd, s_na, s_plt, s_wsp, s_upd, s_vs_S (g 0 (by decide)) (g 1 (by decide)), s_mem_S (g 0 (by decide)) (g 1 (by decide)), s_first_S (g 0 (by decide)) (g 1 (by decide)) (g 6 (by decide)), s_rank_S (g 2 (by decide)) (g 3 (by decide)) (g 4 (by decide)) (g 5 (by decide)), s_sum_S (g 2 (by decide)) (g 3 (by decide)) (g 4 (by decide)) (g 5 (by decide)), g 0 (by decide), g 1 (by decide), g 2 (by decide), g 3 (by decide), g 4 (by decide), g 5 (by decide), g 6 (by decide), g 7 (by decide), g 10 (by decide), m 4 (by decide), m 6 (by decide), m 8 (by decide), m 12 (by decide), m 14 (by decide), m 16 (by decide), e2_7, e2_8, e2_9, e2_10]
    exact a2
  · simp only [s_nv, s_nr, s_nd, s_na, s_plt, s_wsp, s_upd, s_vs_S (g 0 (by decide)) (g 1 (by decide)), s_mem_S (g 0 (by decide)) (g 1 (by decide)), s_first_S (g 0 (by decide)) (g 1 (by decide)) (g 6 (by decide)), s_rank_S (g 2 (by decide)) (g 3 (by decide)) (g 4 (by decide)) (g 5 (by decide)), s_sum_S (g 2 (by decide)) (g 3 (by decide)) (g 4 (by decide)) (g 5 (by decide)), g 0 (by decide), g 1 (by decide), g 2 (by decide), g 3 (by decide), g 4 (by decide), g 5 (by decide), g 6 (by decide), g 7 (by decide), g 10 (by decide), m 4 (by decide), m 6 (by decide), m 8 (by decide), m 12 (by decide), m 14 (by decide), m 16 (by decide), e2_7, e2_8, e2_9, e2_10]
    exact a3
  · simp only [s_nv, s_nr, s_nd, s_na, s_plt, s_wsp, s_upd, s_vs_S (g 0 (by decide)) (g 1 (by decide)), s_mem_S (g 0 (by decide)) (g 1 (by decide)), s_first_S (g 0 (by decide)) (g 1 (by decide)) (g 6 (by decide)), s_rank_S (g 2 (by decide)) (g 3 (by decide)) (g 4 (by decide)) (g 5 (by decide)), s_sum_S (g 2 (by decide)) (g 3 (by decide)) (g 4 (by decide)) (g 5 (by decide)), g 0 (by decide), g 1 (by decide), g 2 (by decide), g 3 (by decide), g 4 (by decide), g 5 (by decide), g 6 (by decide), g 7 (by decide), g 10 (by decide), m 4 (by decide), m 6 (by decide), m 8 (by decide), m 12 (by decide), m 14 (by decide), m 16 (by decide), e2_7, e2_8, e2_9, e2_10]
    exact a4
  · simp only [s_nv, s_nr, s_nd, s_na, s_plt, s_wsp, s_upd, s_vs_S (g 0 (by decide)) (g 1 (by decide)), s_mem_S (g 0 (by decide)) (g 1 (by decide)), s_first_S (g 0 (by decide)) (g 1 (by decide)) (g 6 (by decide)), s_rank_S (g 2 (by decide)) (g 3 (by decide)) (g 4 (by decide)) (g 5 (by decide)), s_sum_S (g 2 (by decide)) (g 3 (by decide)) (g 4 (by decide)) (g 5 (by decide)), g 0 (by decide), g 1 (by decide), g 2 (by decide), g 3 (by decide), g 4 (by decide), g 5 (by decide), g 6 (by decide), g 7 (by decide), g 10 (by decide), m 4 (by decide), m 6 (by decide), m 8 (by decide), m 12 (by decide), m 14 (by decide), m 16 (by decide), e2_7, e2_8, e2_9, e2_10]
    exact a6
  · simp only [s_nv, s_nr, s_nd, s_na, s_plt, s_wsp, s_upd, s_vs_S (g 0 (by decide)) (g 1 (by decide)), s_mem_S (g 0 (by decide)) (g 1 (by decide)), s_first_S (g 0 (by decide)) (g 1 (by decide)) (g 6 (by decide)), s_rank_S (g 2 (by decide)) (g 3 (by decide)) (g 4 (by decide)) (g 5 (by decide)), s_sum_S (g 2 (by decide)) (g 3 (by decide)) (g 4 (by decide)) (g 5 (by decide)), g 0 (by decide), g 1 (by decide), g 2 (by decide), g 3 (by decide), g 4 (by decide), g 5 (by decide), g 6 (by decide), g 7 (by decide), g 10 (by decide), m 4 (by decide), m 6 (by decide), m 8 (by decide), m 12 (by decide), m 14 (by decide), m 16 (by decide), e2_7, e2_8, e2_9, e2_10]
    exact a7
  · simp only [s_nv, s_nr, s_nd, s_na, s_plt, s_wsp, s_upd, s_vs_S (g 0 (by decide)) (g 1 (by decide)), s_mem_S (g 0 (by decide)) (g 1 (by decide)), s_first_S (g 0 (by decide)) (g 1 (by decide)) (g 6 (by decide)), s_rank_S (g 2 (by decide)) (g 3 (by decide)) (g 4 (by decide)) (g 5 (by decide)), s_sum_S (g 2 (by decide)) (g 3 (by decide)) (g 4 (by decide)) (g 5 (by decide)), g 0 (by decide), g 1 (by decide), g 2 (by decide), g 3 (by decide), g 4 (by decide), g 5 (by decide), g 6 (by decide), g 7 (by decide), g 10 (by decide), m 4 (by decide), m 6 (by decide), m 8 (by decide), m 12 (by decide), m 14 (by decide), m 16 (by decide), e2_7, e2_8, e2_9, e2_10]
    exact a8
  · simp only [s_nv, s_nr, s_nd, s_na, s_plt, s_wsp, s_upd, s_vs_S (g 0 (by decide)) (g 1 (by decide)), s_mem_S (g 0 (by decide)) (g 1 (by decide)), s_first_S (g 0 (by decide)) (g 1 (by decide)) (g 6 (by decide)), s_rank_S (g 2 (by decide)) (g 3 (by decide)) (g 4 (by decide)) (g 5 (by decide)), s_sum_S (g 2 (by decide)) (g 3 (by decide)) (g 4 (by decide)) (g 5 (by decide)), g 0 (by decide), g 1 (by decide), g 2 (by decide), g 3 (by decide), g 4 (by decide), g 5 (by decide), g 6 (by decide), g 7 (by decide), g 10 (by decide), m 4 (by decide), m 6 (by decide), m 8 (by decide), m 12 (by decide), m 14 (by decide), m 16 (by decide), e2_7, e2_8, e2_9, e2_10]
    exact a9
  · simp only [s_nv, s_nr, s_nd, s_na, s_plt, s_wsp, s_upd, s_vs_S (g 0 (by decide)) (g 1 (by decide)), s_mem_S (g 0 (by decide)) (g 1 (by decide)), s_first_S (g 0 (by decide)) (g 1 (by decide)) (g 6 (by decide)), s_rank_S (g 2 (by decide)) (g 3 (by decide)) (g 4 (by decide)) (g 5 (by decide)), s_sum_S (g 2 (by decide)) (g 3 (by decide)) (g 4 (by decide)) (g 5 (by decide)), g 0 (by decide), g 1 (by decide), g 2 (by decide), g 3 (by decide), g 4 (by decide), g 5 (by decide), g 6 (by decide), g 7 (by decide), g 10 (by decide), m 4 (by decide), m 6 (by decide), m 8 (by decide), m 12 (by decide), m 14 (by decide), m 16 (by decide), e2_7, e2_8, e2_9, e2_10]
    exact a10
  · simp only [s_nv, s_nr, s_nd, s_na, s_plt, s_wsp, s_upd, s_vs_S (g 0 (by decide)) (g 1 (by decide)), s_mem_S (g 0 (by decide)) (g 1 (by decide)), s_first_S (g 0 (by decide)) (g 1 (by decide)) (g 6 (by decide)), s_rank_S (g 2 (by decide)) (g 3 (by decide)) (g 4 (by decide)) (g 5 (by decide)), s_sum_S (g 2 (by decide)) (g 3 (by decide)) (g 4 (by decide)) (g 5 (by decide)), g 0 (by decide), g 1 (by decide), g 2 (by decide), g 3 (by decide), g 4 (by decide), g 5 (by decide), g 6 (by decide), g 7 (by decide), g 10 (by decide), m 4 (by decide), m 6 (by decide), m 8 (by decide), m 12 (by decide), m 14 (by decide), m 16 (by decide), e2_7, e2_8, e2_9, e2_10]
    exact a11
theorem RMv.x8 {S S' : SP} {σ σ' : Mem} (g : ∀ k, k ∈ [0, 10] → S' k = S k) (m : ∀ k, k ∈ [96] → σ' k = σ k) (e94_1 : σ' 94 1 = σ 94 1) (w : RMv S σ) (h2 : (∀ v, v < s_nv S' → σ' 95 (9 * v) = nI (s_own S' v) ∧ σ' 95 (9 * v + 1) = nI (s_a S' v) ∧ σ' 95 (9 * v + 2) = nI (s_b S' v) ∧ σ' 95 (9 * v + 3) = nI (s_c S' v) ∧ σ' 95 (9 * v + 4) = nI (s_pre S' v) ∧ σ' 95 (9 * v + 5) = nI (s_plc S' v) ∧ σ' 95 (9 * v + 7) = nI (s_plat S' v))) (h3 : (∀ v, v < 24 → σ' 95 (9 * v + 6) = nI (s_ynk S' v) ∧ σ' 95 (9 * v + 8) = nI (s_nn S' v))) : RMv S' σ' := by
  unfold RMv at w ⊢
  obtain ⟨a1, a2, a3, a4⟩ := w
  refine ⟨?_, h2, h3, ?_⟩
  · simp only [s_nv, s_nr, s_nd, s_na, s_plt, s_wsp, s_upd, g 0 (by decide), g 10 (by decide), m 96 (by decide), e94_1]
    exact a1
  · simp only [s_nv, s_nr, s_nd, s_na, s_plt, s_wsp, s_upd, g 0 (by decide), g 10 (by decide), m 96 (by decide), e94_1]
    exact a4
theorem WFv.x10 {S S' : SP} (g : ∀ k, k ∈ [0, 1, 2, 3, 4, 5, 6, 7, 8, 9] → S' k = S k) (w : WFv S) (h5 : (∀ i, i < 72 → s_br S' i ≤ 7)) (h6 : (∀ i, i < 72 → 3 * s_nv S' ≤ i → s_br S' i = 0)) : WFv S' := by
  unfold WFv at w ⊢
  obtain ⟨a1, a2, a3, a4, a5, a6, a7, a8⟩ := w
  refine ⟨?_, ?_, ?_, ?_, h5, h6, ?_, ?_⟩
  · simp only [s_nv, s_nr, s_nd, s_na, s_plt, s_wsp, s_upd, s_vs_S (g 0 (by decide)) (g 1 (by decide)), s_mem_S (g 0 (by decide)) (g 1 (by decide)), s_first_S (g 0 (by decide)) (g 1 (by decide)) (g 6 (by decide)), s_rank_S (g 2 (by decide)) (g 3 (by decide)) (g 4 (by decide)) (g 5 (by decide)), s_sum_S (g 2 (by decide)) (g 3 (by decide)) (g 4 (by decide)) (g 5 (by decide)), g 0 (by decide), g 1 (by decide), g 2 (by decide), g 3 (by decide), g 4 (by decide), g 5 (by decide), g 6 (by decide), g 7 (by decide), g 8 (by decide), g 9 (by decide)]
    exact a1
  · simp only [s_nv, s_nr, s_nd, s_na, s_plt, s_wsp, s_upd, s_vs_S (g 0 (by decide)) (g 1 (by decide)), s_mem_S (g 0 (by decide)) (g 1 (by decide)), s_first_S (g 0 (by decide)) (g 1 (by decide)) (g 6 (by decide)), s_rank_S (g 2 (by decide)) (g 3 (by decide)) (g 4 (by decide)) (g 5 (by decide)), s_sum_S (g 2 (by decide)) (g 3 (by decide)) (g 4 (by decide)) (g 5 (by decide)), g 0 (by decide), g 1 (by decide), g 2 (by decide), g 3 (by decide), g 4 (by decide), g 5 (by decide), g 6 (by decide), g 7 (by decide), g 8 (by decide), g 9 (by decide)]
    exact a2
  · simp only [s_nv, s_nr, s_nd, s_na, s_plt, s_wsp, s_upd, s_vs_S (g 0 (by decide)) (g 1 (by decide)), s_mem_S (g 0 (by decide)) (g 1 (by decide)), s_first_S (g 0 (by decide)) (g 1 (by decide)) (g 6 (by decide)), s_rank_S (g 2 (by decide)) (g 3 (by decide)) (g 4 (by decide)) (g 5 (by decide)), s_sum_S (g 2 (by decide)) (g 3 (by decide)) (g 4 (by decide)) (g 5 (by decide)), g 0 (by decide), g 1 (by decide), g 2 (by decide), g 3 (by decide), g 4 (by decide), g 5 (by decide), g 6 (by decide), g 7 (by decide), g 8 (by decide), g 9 (by decide)]
    exact a3
  · simp only [s_nv, s_nr, s_nd, s_na, s_plt, s_wsp, s_upd, s_vs_S (g 0 (by decide)) (g 1 (by decide)), s_mem_S (g 0 (by decide)) (g 1 (by decide)), s_first_S (g 0 (by decide)) (g 1 (by decide)) (g 6 (by decide)), s_rank_S (g 2 (by decide)) (g 3 (by decide)) (g 4 (by decide)) (g 5 (by decide)), s_sum_S (g 2 (by decide)) (g 3 (by decide)) (g 4 (by decide)) (g 5 (by decide)), g 0 (by decide), g 1 (by decide), g 2 (by decide), g 3 (by decide), g 4 (by decide), g 5 (by decide), g 6 (by decide), g 7 (by decide), g 8 (by decide), g 9 (by decide)]
    exact a4
  · simp only [s_nv, s_nr, s_nd, s_na, s_plt, s_wsp, s_upd, s_vs_S (g 0 (by decide)) (g 1 (by decide)), s_mem_S (g 0 (by decide)) (g 1 (by decide)), s_first_S (g 0 (by decide)) (g 1 (by decide)) (g 6 (by decide)), s_rank_S (g 2 (by decide)) (g 3 (by decide)) (g 4 (by decide)) (g 5 (by decide)), s_sum_S (g 2 (by decide)) (g 3 (by decide)) (g 4 (by decide)) (g 5 (by decide)), g 0 (by decide), g 1 (by decide), g 2 (by decide), g 3 (by decide), g 4 (by decide), g 5 (by decide), g 6 (by decide), g 7 (by decide), g 8 (by decide), g 9 (by decide)]
    exact a7
  · simp only [s_nv, s_nr, s_nd, s_na, s_plt, s_wsp, s_upd, s_vs_S (g 0 (by decide)) (g 1 (by decide)), s_mem_S (g 0 (by decide)) (g 1 (by decide)), s_first_S (g 0 (by decide)) (g 1 (by decide)) (g 6 (by decide)), s_rank_S (g 2 (by decide)) (g 3 (by decide)) (g 4 (by decide)) (g 5 (by decide)), s_sum_S (g 2 (by decide)) (g 3 (by decide)) (g 4 (by decide)) (g 5 (by decide)), g 0 (by decide), g 1 (by decide), g 2 (by decide), g 3 (by decide), g 4 (by decide), g 5 (by decide), g 6 (by decide), g 7 (by decide), g 8 (by decide), g 9 (by decide)]
    exact a8
theorem RCv.x10 {S S' : SP} {σ σ' : Mem} (g : ∀ k, k ∈ [0, 1, 2, 3, 4, 5, 6, 7, 8] → S' k = S k) (m : ∀ k, k ∈ [4, 6, 8, 10, 14, 16] → σ' k = σ k) (e2_7 : σ' 2 7 = σ 2 7) (e2_8 : σ' 2 8 = σ 2 8) (e2_9 : σ' 2 9 = σ 2 9) (e2_10 : σ' 2 10 = σ 2 10) (w : RCv S σ) (h6 : (∀ i, i < 72 → σ' 12 i = nI (s_br S' i))) : RCv S' σ' := by
  unfold RCv at w ⊢
  obtain ⟨a1, a2, a3, a4, a5, a6, a7, a8, a9, a10, a11⟩ := w
  refine ⟨?_, ?_, ?_, ?_, ?_, h6, ?_, ?_, ?_, ?_, ?_⟩
  · simp only [s_nv, s_nr, s_nd, s_na, s_plt, s_wsp, s_upd, s_vs_S (g 0 (by decide)) (g 1 (by decide)), s_mem_S (g 0 (by decide)) (g 1 (by decide)), s_first_S (g 0 (by decide)) (g 1 (by decide)) (g 6 (by decide)), s_rank_S (g 2 (by decide)) (g 3 (by decide)) (g 4 (by decide)) (g 5 (by decide)), s_sum_S (g 2 (by decide)) (g 3 (by decide)) (g 4 (by decide)) (g 5 (by decide)), g 0 (by decide), g 1 (by decide), g 2 (by decide), g 3 (by decide), g 4 (by decide), g 5 (by decide), g 6 (by decide), g 7 (by decide), g 8 (by decide), m 4 (by decide), m 6 (by decide), m 8 (by decide), m 10 (by decide), m 14 (by decide), m 16 (by decide), e2_7, e2_8, e2_9, e2_10]
    exact a1
  · simp only [s_nv, s_nr, s_nd, s_na, s_plt, s_wsp, s_upd, s_vs_S (g 0 (by decide)) (g 1 (by decide)), s_mem_S (g 0 (by decide)) (g 1 (by decide)), s_first_S (g 0 (by decide)) (g 1 (by decide)) (g 6 (by decide)), s_rank_S (g 2 (by decide)) (g 3 (by decide)) (g 4 (by decide)) (g 5 (by decide)), s_sum_S (g 2 (by decide)) (g 3 (by decide)) (g 4 (by decide)) (g 5 (by decide)), g 0 (by decide), g 1 (by decide), g 2 (by decide), g 3 (by decide), g 4 (by decide), g 5 (by decide), g 6 (by decide), g 7 (by decide), g 8 (by decide), m 4 (by decide), m 6 (by decide), m 8 (by decide), m 10 (by decide), m 14 (by decide), m 16 (by decide), e2_7, e2_8, e2_9, e2_10]
    exact a2
  · simp only [s_nv, s_nr, s_nd, s_na, s_plt, s_wsp, s_upd, s_vs_S (g 0 (by decide)) (g 1 (by decide)), s_mem_S (g 0 (by decide)) (g 1 (by decide)), s_first_S (g 0 (by decide)) (g 1 (by decide)) (g 6 (by decide)), s_rank_S (g 2 (by decide)) (g 3 (by decide)) (g 4 (by decide)) (g 5 (by decide)), s_sum_S (g 2 (by decide)) (g 3 (by decide)) (g 4 (by decide)) (g 5 (by decide)), g 0 (by decide), g 1 (by decide), g 2 (by decide), g 3 (by decide), g 4 (by decide), g 5 (by decide), g 6 (by decide), g 7 (by decide), g 8 (by decide), m 4 (by decide), m 6 (by decide), m 8 (by decide), m 10 (by decide), m 14 (by decide), m 16 (by decide), e2_7, e2_8, e2_9, e2_10]
    exact a3
  · simp only [s_nv, s_nr, s_nd, s_na, s_plt, s_wsp, s_upd, s_vs_S (g 0 (by decide)) (g 1 (by decide)), s_mem_S (g 0 (by decide)) (g 1 (by decide)), s_first_S (g 0 (by decide)) (g 1 (by decide)) (g 6 (by decide)), s_rank_S (g 2 (by decide)) (g 3 (by decide)) (g 4 (by decide)) (g 5 (by decide)), s_sum_S (g 2 (by decide)) (g 3 (by decide)) (g 4 (by decide)) (g 5 (by decide)), g 0 (by decide), g 1 (by decide), g 2 (by decide), g 3 (by decide), g 4 (by decide), g 5 (by decide), g 6 (by decide), g 7 (by decide), g 8 (by decide), m 4 (by decide), m 6 (by decide), m 8 (by decide), m 10 (by decide), m 14 (by decide), m 16 (by decide), e2_7, e2_8, e2_9, e2_10]
    exact a4
  · simp only [s_nv, s_nr, s_nd, s_na, s_plt, s_wsp, s_upd, s_vs_S (g 0 (by decide)) (g 1 (by decide)), s_mem_S (g 0 (by decide)) (g 1 (by decide)), s_first_S (g 0 (by decide)) (g 1 (by decide)) (g 6 (by decide)), s_rank_S (g 2 (by decide)) (g 3 (by decide)) (g 4 (by decide)) (g 5 (by decide)), s_sum_S (g 2 (by decide)) (g 3 (by decide)) (g 4 (by decide)) (g 5 (by decide)), g 0 (by decide), g 1 (by decide), g 2 (by decide), g 3 (by decide), g 4 (by decide), g 5 (by decide), g 6 (by decide), g 7 (by decide), g 8 (by decide), m 4 (by decide), m 6 (by decide), m 8 (by decide), m 10 (by decide), m 14 (by decide), m 16 (by decide), e2_7, e2_8, e2_9, e2_10]
    exact a5
  · simp only [s_nv, s_nr, s_nd, s_na, s_plt, s_wsp, s_upd, s_vs_S (g 0 (by decide)) (g 1 (by decide)), s_mem_S (g 0 (by decide)) (g 1 (by decide)), s_first_S (g 0 (by decide)) (g 1 (by decide)) (g 6 (by decide)), s_rank_S (g 2 (by decide)) (g 3 (by decide)) (g 4 (by decide)) (g 5 (by decide)), s_sum_S (g 2 (by decide)) (g 3 (by decide)) (g 4 (by decide)) (g 5 (by decide)), g 0 (by decide), g 1 (by decide), g 2 (by decide), g 3 (by decide), g 4 (by decide), g 5 (by decide), g 6 (by decide), g 7 (by decide), g 8 (by decide), m 4 (by decide), m 6 (by decide), m 8 (by decide), m 10 (by decide), m 14 (by decide), m 16 (by decide), e2_7, e2_8, e2_9, e2_10]
    exact a7
  · simp only [s_nv, s_nr, s_nd, s_na, s_plt, s_wsp, s_upd, s_vs_S (g 0 (by decide)) (g 1 (by decide)), s_mem_S (g 0 (by decide)) (g 1 (by decide)), s_first_S (g 0 (by decide)) (g 1 (by decide)) (g 6 (by decide)), s_rank_S (g 2 (by decide)) (g 3 (by decide)) (g 4 (by decide)) (g 5 (by decide)), s_sum_S (g 2 (by decide)) (g 3 (by decide)) (g 4 (by decide)) (g 5 (by decide)), g 0 (by decide), g 1 (by decide), g 2 (by decide), g 3 (by decide), g 4 (by decide), g 5 (by decide), g 6 (by decide), g 7 (by decide), g 8 (by decide), m 4 (by decide), m 6 (by decide), m 8 (by decide), m 10 (by decide), m 14 (by decide), m 16 (by decide), e2_7, e2_8, e2_9, e2_10]
    exact a8
  · simp only [s_nv, s_nr, s_nd, s_na, s_plt, s_wsp, s_upd, s_vs_S (g 0 (by decide)) (g 1 (by decide)), s_mem_S (g 0 (by decide)) (g 1 (by decide)), s_first_S (g 0 (by decide)) (g 1 (by decide)) (g 6 (by decide)), s_rank_S (g 2 (by decide)) (g 3 (by decide)) (g 4 (by decide)) (g 5 (by decide)), s_sum_S (g 2 (by decide)) (g 3 (by decide)) (g 4 (by decide)) (g 5 (by decide)), g 0 (by decide), g 1 (by decide), g 2 (by decide), g 3 (by decide), g 4 (by decide), g 5 (by decide), g 6 (by decide), g 7 (by decide), g 8 (by decide), m 4 (by decide), m 6 (by decide), m 8 (by decide), m 10 (by decide), m 14 (by decide), m 16 (by decide), e2_7, e2_8, e2_9, e2_10]
    exact a9
  · simp only [s_nv, s_nr, s_nd, s_na, s_plt, s_wsp, s_upd, s_vs_S (g 0 (by decide)) (g 1 (by decide)), s_mem_S (g 0 (by decide)) (g 1 (by decide)), s_first_S (g 0 (by decide)) (g 1 (by decide)) (g 6 (by decide)), s_rank_S (g 2 (by decide)) (g 3 (by decide)) (g 4 (by decide)) (g 5 (by decide)), s_sum_S (g 2 (by decide)) (g 3 (by decide)) (g 4 (by decide)) (g 5 (by decide)), g 0 (by decide), g 1 (by decide), g 2 (by decide), g 3 (by decide), g 4 (by decide), g 5 (by decide), g 6 (by decide), g 7 (by decide), g 8 (by decide), m 4 (by decide), m 6 (by decide), m 8 (by decide), m 10 (by decide), m 14 (by decide), m 16 (by decide), e2_7, e2_8, e2_9, e2_10]
    exact a10
  · simp only [s_nv, s_nr, s_nd, s_na, s_plt, s_wsp, s_upd, s_vs_S (g 0 (by decide)) (g 1 (by decide)), s_mem_S (g 0 (by decide)) (g 1 (by decide)), s_first_S (g 0 (by decide)) (g 1 (by decide)) (g 6 (by decide)), s_rank_S (g 2 (by decide)) (g 3 (by decide)) (g 4 (by decide)) (g 5 (by decide)), s_sum_S (g 2 (by decide)) (g 3 (by decide)) (g 4 (by decide)) (g 5 (by decide)), g 0 (by decide), g 1 (by decide), g 2 (by decide), g 3 (by decide), g 4 (by decide), g 5 (by decide), g 6 (by decide), g 7 (by decide), g 8 (by decide), m 4 (by decide), m 6 (by decide), m 8 (by decide), m 10 (by decide), m 14 (by decide), m 16 (by decide), e2_7, e2_8, e2_9, e2_10]
    exact a11
theorem RMv.x10 {S S' : SP} {σ σ' : Mem} (g : ∀ k, k ∈ [0, 1, 2, 3, 4, 5, 6, 7, 8, 9] → S' k = S k) (m : ∀ k, k ∈ [95] → σ' k = σ k) (e94_1 : σ' 94 1 = σ 94 1) (w : RMv S σ) (h4 : (∀ i, i < 72 → σ' 96 i = nI (s_br S' i))) : RMv S' σ' := by
  unfold RMv at w ⊢
  obtain ⟨a1, a2, a3, a4⟩ := w
  refine ⟨?_, ?_, ?_, h4⟩
  · simp only [s_nv, s_nr, s_nd, s_na, s_plt, s_wsp, s_upd, s_vs_S (g 0 (by decide)) (g 1 (by decide)), s_mem_S (g 0 (by decide)) (g 1 (by decide)), s_first_S (g 0 (by decide)) (g 1 (by decide)) (g 6 (by decide)), s_rank_S (g 2 (by decide)) (g 3 (by decide)) (g 4 (by decide)) (g 5 (by decide)), s_sum_S (g 2 (by decide)) (g 3 (by decide)) (g 4 (by decide)) (g 5 (by decide)), g 0 (by decide), g 1 (by decide), g 2 (by decide), g 3 (by decide), g 4 (by decide), g 5 (by decide), g 6 (by decide), g 7 (by decide), g 8 (by decide), g 9 (by decide), m 95 (by decide), e94_1]
    exact a1
  · simp only [s_nv, s_nr, s_nd, s_na, s_plt, s_wsp, s_upd, s_vs_S (g 0 (by decide)) (g 1 (by decide)), s_mem_S (g 0 (by decide)) (g 1 (by decide)), s_first_S (g 0 (by decide)) (g 1 (by decide)) (g 6 (by decide)), s_rank_S (g 2 (by decide)) (g 3 (by decide)) (g 4 (by decide)) (g 5 (by decide)), s_sum_S (g 2 (by decide)) (g 3 (by decide)) (g 4 (by decide)) (g 5 (by decide)), g 0 (by decide), g 1 (by decide), g 2 (by decide), g 3 (by decide), g 4 (by decide), g 5 (by decide), g 6 (by decide), g 7 (by decide), g 8 (by decide), g 9 (by decide), m 95 (by decide), e94_1]
    exact a2
  · simp only [s_nv, s_nr, s_nd, s_na, s_plt, s_wsp, s_upd, s_vs_S (g 0 (by decide)) (g 1 (by decide)), s_mem_S (g 0 (by decide)) (g 1 (by decide)), s_first_S (g 0 (by decide)) (g 1 (by decide)) (g 6 (by decide)), s_rank_S (g 2 (by decide)) (g 3 (by decide)) (g 4 (by decide)) (g 5 (by decide)), s_sum_S (g 2 (by decide)) (g 3 (by decide)) (g 4 (by decide)) (g 5 (by decide)), g 0 (by decide), g 1 (by decide), g 2 (by decide), g 3 (by decide), g 4 (by decide), g 5 (by decide), g 6 (by decide), g 7 (by decide), g 8 (by decide), g 9 (by decide), m 95 (by decide), e94_1]
    exact a3
theorem WFv.x9 {S S' : SP} (g : ∀ k, k ∈ [0, 1, 2, 3, 4, 5, 6, 10] → S' k = S k) (w : WFv S) (h3 : (∀ v, v < 24 → s_ynk S' v ≤ 1 ∧ s_plat S' v ≤ 7 ∧ s_nn S' v ≤ 5)) (h4 : (∀ v, s_nv S' ≤ v → v < 24 → s_ynk S' v = 0 ∧ s_plat S' v = 7 ∧ s_nn S' v = 0)) : WFv S' := by
  unfold WFv at w ⊢
  obtain ⟨a1, a2, a3, a4, a5, a6, a7, a8⟩ := w
  refine ⟨?_, ?_, h3, h4, ?_, ?_, ?_, ?_⟩
  · simp only [s_nv, s_nr, s_nd, s_na, s_plt, s_wsp, s_upd, s_vs_S (g 0 (by decide)) (g 1 (by decide)), s_mem_S (g 0 (by decide)) (g 1 (by decide)), s_first_S (g 0 (by decide)) (g 1 (by decide)) (g 6 (by decide)), s_rank_S (g 2 (by decide)) (g 3 (by decide)) (g 4 (by decide)) (g 5 (by decide)), s_sum_S (g 2 (by decide)) (g 3 (by decide)) (g 4 (by decide)) (g 5 (by decide)), g 0 (by decide), g 1 (by decide), g 2 (by decide), g 3 (by decide), g 4 (by decide), g 5 (by decide), g 6 (by decide), g 10 (by decide)]
    exact a1
  · simp only [s_nv, s_nr, s_nd, s_na, s_plt, s_wsp, s_upd, s_vs_S (g 0 (by decide)) (g 1 (by decide)), s_mem_S (g 0 (by decide)) (g 1 (by decide)), s_first_S (g 0 (by decide)) (g 1 (by decide)) (g 6 (by decide)), s_rank_S (g 2 (by decide)) (g 3 (by decide)) (g 4 (by decide)) (g 5 (by decide)), s_sum_S (g 2 (by decide)) (g 3 (by decide)) (g 4 (by decide)) (g 5 (by decide)), g 0 (by decide), g 1 (by decide), g 2 (by decide), g 3 (by decide), g 4 (by decide), g 5 (by decide), g 6 (by decide), g 10 (by decide)]
    exact a2
  · simp only [s_nv, s_nr, s_nd, s_na, s_plt, s_wsp, s_upd, s_vs_S (g 0 (by decide)) (g 1 (by decide)), s_mem_S (g 0 (by decide)) (g 1 (by decide)), s_first_S (g 0 (by decide)) (g 1 (by decide)) (g 6 (by decide)), s_rank_S (g 2 (by decide)) (g 3 (by decide)) (g 4 (by decide)) (g 5 (by decide)), s_sum_S (g 2 (by decide)) (g 3 (by decide)) (g 4 (by decide)) (g 5 (by decide)), g 0 (by decide), g 1 (by decide), g 2 (by decide), g 3 (by decide), g 4 (by decide), g 5 (by decide), g 6 (by decide), g 10 (by decide)]
    exact a5
  · simp only [s_nv, s_nr, s_nd, s_na, s_plt, s_wsp, s_upd, s_vs_S (g 0 (by decide)) (g 1 (by decide)), s_mem_S (g 0 (by decide)) (g 1 (by decide)), s_first_S (g 0 (by decide)) (g 1 (by decide)) (g 6 (by decide)), s_rank_S (g 2 (by decide)) (g 3 (by decide)) (g 4 (by decide)) (g 5 (by decide)), s_sum_S (g 2 (by decide)) (g 3 (by decide)) (g 4 (by decide)) (g 5 (by decide)), g 0 (by decide), g 1 (by decide), g 2 (by decide), g 3 (by decide), g 4 (by decide), g 5 (by decide), g 6 (by decide), g 10 (by decide)]
    exact a6
  · simp only [s_nv, s_nr, s_nd, s_na, s_plt, s_wsp, s_upd, s_vs_S (g 0 (by decide)) (g 1 (by decide)), s_mem_S (g 0 (by decide)) (g 1 (by decide)), s_first_S (g 0 (by decide)) (g 1 (by decide)) (g 6 (by decide)), s_rank_S (g 2 (by decide)) (g 3 (by decide)) (g 4 (by decide)) (g 5 (by decide)), s_sum_S (g 2 (by decide)) (g 3 (by decide)) (g 4 (by decide)) (g 5 (by decide)), g 0 (by decide), g 1 (by decide), g 2 (by decide), g 3 (by decide), g 4 (by decide), g 5 (by decide), g 6 (by decide), g 10 (by decide)]
    exact a7
  · simp only [s_nv, s_nr, s_nd, s_na, s_plt, s_wsp, s_upd, s_vs_S (g 0 (by decide)) (g 1 (by decide)), s_mem_S (g 0 (by decide)) (g 1 (by decide)), s_first_S (g 0 (by decide)) (g 1 (by decide)) (g 6 (by decide)), s_rank_S (g 2 (by decide)) (g 3 (by decide)) (g 4 (by decide)) (g 5 (by decide)), s_sum_S (g 2 (by decide)) (g 3 (by decide)) (g 4 (by decide)) (g 5 (by decide)), g 0 (by decide), g 1 (by decide), g 2 (by decide), g 3 (by decide), g 4 (by decide), g 5 (by decide), g 6 (by decide), g 10 (by decide)]
    exact a8
theorem RCv.x9 {S S' : SP} {σ σ' : Mem} (g : ∀ k, k ∈ [0, 1, 2, 3, 4, 5, 6, 7, 8, 10] → S' k = S k) (m : ∀ k, k ∈ [4, 6, 8, 10, 12, 14, 16] → σ' k = σ k) (e2_7 : σ' 2 7 = σ 2 7) (e2_8 : σ' 2 8 = σ 2 8) (e2_9 : σ' 2 9 = σ 2 9) (e2_10 : σ' 2 10 = σ 2 10) (w : RCv S σ) : RCv S' σ' := by
  unfold RCv at w ⊢
  obtain ⟨a1, a2, a3, a4, a5, a6, a7, a8, a9, a10, a11⟩ := w
  refine ⟨?_, ?_, ?_, ?_, ?_, ?_, ?_, ?_, ?_, ?_, ?_⟩
  · simp only [s_nv, s_nr, s_nd, s_na, s_plt, s_wsp, s_upd, s_vs_S (g 0 (by decide)) (g 1 (by decide)), s_mem_S (g 0 (by decide)) (g 1 (by decide)), s_first_S (g 0 (by decide)) (g 1 (by decide)) (g 6 (by decide)), s_rank_S (g 2 (by decide)) (g 3 (by decide)) (g 4 (by decide)) (g 5 (by decide)), s_sum_S (g 2 (by decide)) (g 3 (by decide)) (g 4 (by decide)) (g 5 (by decide)), g 0 (by decide), g 1 (by decide), g 2 (by decide), g 3 (by decide), g 4 (by decide), g 5 (by decide), g 6 (by decide), g 7 (by decide), g 8 (by decide), g 10 (by decide), m 4 (by decide), m 6 (by decide), m 8 (by decide), m 10 (by decide), m 12 (by decide), m 14 (by decide), m 16 (by decide), e2_7, e2_8, e2_9, e2_10]
    exact a1
  · simp only [s_nv, s_nr, s_nd, s_na, s_plt, s_wsp, s_upd, s_vs_S (g 0 (by decide)) (g 1 (by decide)), s_mem_S (g 0 (by decide)) (g 1 (by decide)), s_first_S (g 0 (by decide)) (g 1 (by decide)) (g 6 (by decide)), s_rank_S (g 2 (by decide)) (g 3 (by decide)) (g 4 (by decide)) (g 5 (by decide)), s_sum_S (g 2 (by decide)) (g 3 (by decide)) (g 4 (by decide)) (g 5 (by decide)), g 0 (by decide), g 1 (by decide), g 2 (by decide), g 3 (by decide), g 4 (by decide), g 5 (by decide), g 6 (by decide), g 7 (by decide), g 8 (by decide), g 10 (by decide), m 4 (by decide), m 6 (by decide), m 8 (by decide), m 10 (by decide), m 12 (by decide), m 14 (by decide), m 16 (by decide), e2_7, e2_8, e2_9, e2_10]
    exact a2
  · simp only [s_nv, s_nr, s_nd, s_na, s_plt, s_wsp, s_upd, s_vs_S (g 0 (by decide)) (g 1 (by decide)), s_mem_S (g 0 (by decide)) (g 1 (by decide)), s_first_S (g 0 (by decide)) (g 1 (by decide)) (g 6 (by decide)), s_rank_S (g 2 (by decide)) (g 3 (by decide)) (g 4 (by decide)) (g 5 (by decide)), s_sum_S (g 2 (by decide)) (g 3 (by decide)) (g 4 (by decide)) (g 5 (by decide)), g 0 (by decide), g 1 (by decide), g 2 (by decide), g 3 (by decide), g 4 (by decide), g 5 (by decide), g 6 (by decide), g 7 (by decide), g 8 (by decide), g 10 (by decide), m 4 (by decide), m 6 (by decide), m 8 (by decide), m 10 (by decide), m 12 (by decide), m 14 (by decide), m 16 (by decide), e2_7, e2_8, e2_9, e2_10]
    exact a3
  · simp only [s_nv, s_nr, s_nd, s_na, s_plt, s_wsp, s_upd, s_vs_S (g 0 (by decide)) (g 1 (by decide)), s_mem_S (g 0 (by decide)) (g 1 (by decide)), s_first_S (g 0 (by decide)) (g 1 (by decide)) (g 6 (by decide)), s_rank_S (g 2 (by decide)) (g 3 (by decide)) (g 4 (by decide)) (g 5 (by decide)), s_sum_S (g 2 (by decide)) (g 3 (by decide)) (g 4 (by decide)) (g 5 (by decide)), g 0 (by decide), g 1 (by decide), g 2 (by decide), g 3 (by decide), g 4 (by decide), g 5 (by decide), g 6 (by decide), g 7 (by decide), g 8 (by decide), g 10 (by decide), m 4 (by decide), m 6 (by decide), m 8 (by decide), m 10 (by decide), m 12 (by decide), m 14 (by decide), m 16 (by decide), e2_7, e2_8, e2_9, e2_10]
    exact a4
  · simp only [s_nv, s_nr, s_nd, s_na, s_plt, s_wsp, s_upd, s_vs_S (g 0 (by decide)) (g 1 (by decide)), s_mem_S (g 0 (by decide)) (g 1 (by decide)), s_first_S (g 0 (by decide)) (g 1 (by decide)) (g 6 (by decide)), s_rank_S (g 2 (by decide)) (g 3 (by decide)) (g 4 (by decide)) (g 5 (by decide)), s_sum_S (g 2 (by decide)) (g 3 (by decide)) (g 4 (by decide)) (g 5 (by decide)), g 0 (by decide), g 1 (by decide), g 2 (by decide), g 3 (by decide), g 4 (by decide), g 5 (by decide), g 6 (by decide), g 7 (by decide), g 8 (by decide), g 10 (by decide), m 4 (by decide), m 6 (by decide), m 8 (by decide), m 10 (by decide), m 12 (by decide), m 14 (by decide), m 16 (by decide), e2_7, e2_8, e2_9, e2_10]
    exact a5
  · simp only [s_nv, s_nr, s_nd, s_na, s_plt, s_wsp, s_upd, s_vs_S (g 0 (by decide)) (g 1 (by decide)), s_mem_S (g 0 (by decide)) (g 1 (by decide)), s_first_S (g 0 (by decide)) (g 1 (by decide)) (g 6 (by decide)), s_rank_S (g 2 (by decide)) (g 3 (by decide)) (g 4 (by decide)) (g 5 (by decide)), s_sum_S (g 2 (by decide)) (g 3 (by decide)) (g 4 (by decide)) (g 5 (by decide)), g 0 (by decide), g 1 (by decide), g 2 (by decide), g 3 (by decide), g 4 (by decide), g 5 (by decide), g 6 (by decide), g 7 (by decide), g 8 (by decide), g 10 (by decide), m 4 (by decide), m 6 (by decide), m 8 (by decide), m 10 (by decide), m 12 (by decide), m 14 (by decide), m 16 (by decide), e2_7, e2_8, e2_9, e2_10]
    exact a6
  · simp only [s_nv, s_nr, s_nd, s_na, s_plt, s_wsp, s_upd, s_vs_S (g 0 (by decide)) (g 1 (by decide)), s_mem_S (g 0 (by decide)) (g 1 (by decide)), s_first_S (g 0 (by decide)) (g 1 (by decide)) (g 6 (by decide)), s_rank_S (g 2 (by decide)) (g 3 (by decide)) (g 4 (by decide)) (g 5 (by decide)), s_sum_S (g 2 (by decide)) (g 3 (by decide)) (g 4 (by decide)) (g 5 (by decide)), g 0 (by decide), g 1 (by decide), g 2 (by decide), g 3 (by decide), g 4 (by decide), g 5 (by decide), g 6 (by decide), g 7 (by decide), g 8 (by decide), g 10 (by decide), m 4 (by decide), m 6 (by decide), m 8 (by decide), m 10 (by decide), m 12 (by decide), m 14 (by decide), m 16 (by decide), e2_7, e2_8, e2_9, e2_10]
    exact a7
  · simp only [s_nv, s_nr, s_nd, s_na, s_plt, s_wsp, s_upd, s_vs_S (g 0 (by decide)) (g 1 (by decide)), s_mem_S (g 0 (by decide)) (g 1 (by decide)), s_first_S (g 0 (by decide)) (g 1 (by decide)) (g 6 (by decide)), s_rank_S (g 2 (by decide)) (g 3 (by decide)) (g 4 (by decide)) (g 5 (by decide)), s_sum_S (g 2 (by decide)) (g 3 (by decide)) (g 4 (by decide)) (g 5 (by decide)), g 0 (by decide), g 1 (by decide), g 2 (by decide), g 3 (by decide), g 4 (by decide), g 5 (by decide), g 6 (by decide), g 7 (by decide), g 8 (by decide), g 10 (by decide), m 4 (by decide), m 6 (by decide), m 8 (by decide), m 10 (by decide), m 12 (by decide), m 14 (by decide), m 16 (by decide), e2_7, e2_8, e2_9, e2_10]
    exact a8
  · simp only [s_nv, s_nr, s_nd, s_na, s_plt, s_wsp, s_upd, s_vs_S (g 0 (by decide)) (g 1 (by decide)), s_mem_S (g 0 (by decide)) (g 1 (by decide)), s_first_S (g 0 (by decide)) (g 1 (by decide)) (g 6 (by decide)), s_rank_S (g 2 (by decide)) (g 3 (by decide)) (g 4 (by decide)) (g 5 (by decide)), s_sum_S (g 2 (by decide)) (g 3 (by decide)) (g 4 (by decide)) (g 5 (by decide)), g 0 (by decide), g 1 (by decide), g 2 (by decide), g 3 (by decide), g 4 (by decide), g 5 (by decide), g 6 (by decide), g 7 (by decide), g 8 (by decide), g 10 (by decide), m 4 (by decide), m 6 (by decide), m 8 (by decide), m 10 (by decide), m 12 (by decide), m 14 (by decide), m 16 (by decide), e2_7, e2_8, e2_9, e2_10]
    exact a9
  · simp only [s_nv, s_nr, s_nd, s_na, s_plt, s_wsp, s_upd, s_vs_S (g 0 (by decide)) (g 1 (by decide)), s_mem_S (g 0 (by decide)) (g 1 (by decide)), s_first_S (g 0 (by decide)) (g 1 (by decide)) (g 6 (by decide)), s_rank_S (g 2 (by decide)) (g 3 (by decide)) (g 4 (by decide)) (g 5 (by decide)), s_sum_S (g 2 (by decide)) (g 3 (by decide)) (g 4 (by decide)) (g 5 (by decide)), g 0 (by decide), g 1 (by decide), g 2 (by decide), g 3 (by decide), g 4 (by decide), g 5 (by decide), g 6 (by decide), g 7 (by decide), g 8 (by decide), g 10 (by decide), m 4 (by decide), m 6 (by decide), m 8 (by decide), m 10 (by decide), m 12 (by decide), m 14 (by decide), m 16 (by decide), e2_7, e2_8, e2_9, e2_10]
    exact a10
  · simp only [s_nv, s_nr, s_nd, s_na, s_plt, s_wsp, s_upd, s_vs_S (g 0 (by decide)) (g 1 (by decide)), s_mem_S (g 0 (by decide)) (g 1 (by decide)), s_first_S (g 0 (by decide)) (g 1 (by decide)) (g 6 (by decide)), s_rank_S (g 2 (by decide)) (g 3 (by decide)) (g 4 (by decide)) (g 5 (by decide)), s_sum_S (g 2 (by decide)) (g 3 (by decide)) (g 4 (by decide)) (g 5 (by decide)), g 0 (by decide), g 1 (by decide), g 2 (by decide), g 3 (by decide), g 4 (by decide), g 5 (by decide), g 6 (by decide), g 7 (by decide), g 8 (by decide), g 10 (by decide), m 4 (by decide), m 6 (by decide), m 8 (by decide), m 10 (by decide), m 12 (by decide), m 14 (by decide), m 16 (by decide), e2_7, e2_8, e2_9, e2_10]
    exact a11
theorem RMv.x9 {S S' : SP} {σ σ' : Mem} (g : ∀ k, k ∈ [0, 10] → S' k = S k) (m : ∀ k, k ∈ [96] → σ' k = σ k) (e94_1 : σ' 94 1 = σ 94 1) (w : RMv S σ) (h2 : (∀ v, v < s_nv S' → σ' 95 (9 * v) = nI (s_own S' v) ∧ σ' 95 (9 * v + 1) = nI (s_a S' v) ∧ σ' 95 (9 * v + 2) = nI (s_b S' v) ∧ σ' 95 (9 * v + 3) = nI (s_c S' v) ∧ σ' 95 (9 * v + 4) = nI (s_pre S' v) ∧ σ' 95 (9 * v + 5) = nI (s_plc S' v) ∧ σ' 95 (9 * v + 7) = nI (s_plat S' v))) (h3 : (∀ v, v < 24 → σ' 95 (9 * v + 6) = nI (s_ynk S' v) ∧ σ' 95 (9 * v + 8) = nI (s_nn S' v))) : RMv S' σ' := by
  unfold RMv at w ⊢
  obtain ⟨a1, a2, a3, a4⟩ := w
  refine ⟨?_, h2, h3, ?_⟩
  · simp only [s_nv, s_nr, s_nd, s_na, s_plt, s_wsp, s_upd, g 0 (by decide), g 10 (by decide), m 96 (by decide), e94_1]
    exact a1
  · simp only [s_nv, s_nr, s_nd, s_na, s_plt, s_wsp, s_upd, g 0 (by decide), g 10 (by decide), m 96 (by decide), e94_1]
    exact a4
theorem WFw.x29 {S S' : SP} (g : ∀ k, k ∈ [0, 1, 32, 33, 34, 35, 36, 37] → S' k = S k) (w : WFw S) (h1 : s_na S' ≤ 8) (h2 : (∀ i, i < s_na S' → s_apk S' i < 6 ∧ s_arg S' i < s_nr S')) : WFw S' := by
  unfold WFw at w ⊢
  obtain ⟨a1, a2, a3, a4, a5, a6, a7, a8⟩ := w
  refine ⟨h1, h2, ?_, ?_, ?_, ?_, ?_, ?_⟩
  · simp only [s_nv, s_nr, s_nd, s_na, s_plt, s_wsp, s_upd, s_vs_S (g 0 (by decide)) (g 1 (by decide)), s_mem_S (g 0 (by decide)) (g 1 (by decide)), s_heir_S (g 32 (by decide)), g 0 (by decide), g 1 (by decide), g 32 (by decide), g 33 (by decide), g 34 (by decide), g 35 (by decide), g 36 (by decide), g 37 (by decide)]
    exact a3
  · simp only [s_nv, s_nr, s_nd, s_na, s_plt, s_wsp, s_upd, s_vs_S (g 0 (by decide)) (g 1 (by decide)), s_mem_S (g 0 (by decide)) (g 1 (by decide)), s_heir_S (g 32 (by decide)), g 0 (by decide), g 1 (by decide), g 32 (by decide), g 33 (by decide), g 34 (by decide), g 35 (by decide), g 36 (by decide), g 37 (by decide)]
    exact a4
  · simp only [s_nv, s_nr, s_nd, s_na, s_plt, s_wsp, s_upd, s_vs_S (g 0 (by decide)) (g 1 (by decide)), s_mem_S (g 0 (by decide)) (g 1 (by decide)), s_heir_S (g 32 (by decide)), g 0 (by decide), g 1 (by decide), g 32 (by decide), g 33 (by decide), g 34 (by decide), g 35 (by decide), g 36 (by decide), g 37 (by decide)]
    exact a5
  · simp only [s_nv, s_nr, s_nd, s_na, s_plt, s_wsp, s_upd, s_vs_S (g 0 (by decide)) (g 1 (by decide)), s_mem_S (g 0 (by decide)) (g 1 (by decide)), s_heir_S (g 32 (by decide)), g 0 (by decide), g 1 (by decide), g 32 (by decide), g 33 (by decide), g 34 (by decide), g 35 (by decide), g 36 (by decide), g 37 (by decide)]
    exact a6
  · simp only [s_nv, s_nr, s_nd, s_na, s_plt, s_wsp, s_upd, s_vs_S (g 0 (by decide)) (g 1 (by decide)), s_mem_S (g 0 (by decide)) (g 1 (by decide)), s_heir_S (g 32 (by decide)), g 0 (by decide), g 1 (by decide), g 32 (by decide), g 33 (by decide), g 34 (by decide), g 35 (by decide), g 36 (by decide), g 37 (by decide)]
    exact a7
  · simp only [s_nv, s_nr, s_nd, s_na, s_plt, s_wsp, s_upd, s_vs_S (g 0 (by decide)) (g 1 (by decide)), s_mem_S (g 0 (by decide)) (g 1 (by decide)), s_heir_S (g 32 (by decide)), g 0 (by decide), g 1 (by decide), g 32 (by decide), g 33 (by decide), g 34 (by decide), g 35 (by decide), g 36 (by decide), g 37 (by decide)]
    exact a8
theorem RCw.x29 {S S' : SP} {σ σ' : Mem} (g : ∀ k, k ∈ [32, 33, 34, 35, 36, 37] → S' k = S k) (m : ∀ k, k ∈ [57, 63, 65, 91] → σ' k = σ k) (e1_10 : σ' 1 10 = σ 1 10) (e66_1 : σ' 66 1 = σ 66 1) (e66_2 : σ' 66 2 = σ 66 2) (w : RCw S σ) (h1 : σ' 1 9 = nI (s_na S')) (h2 : (∀ i, i < s_na S' → σ' 59 i = nI (s_apk S' i) ∧ σ' 61 i = nI (s_arg S' i))) : RCw S' σ' := by
  unfold RCw at w ⊢
  obtain ⟨a1, a2, a3, a4, a5, a6, a7⟩ := w
  refine ⟨h1, h2, ?_, ?_, ?_, ?_, ?_⟩
  · simp only [s_nv, s_nr, s_nd, s_na, s_plt, s_wsp, s_upd, s_heir_S (g 32 (by decide)), g 32 (by decide), g 33 (by decide), g 34 (by decide), g 35 (by decide), g 36 (by decide), g 37 (by decide), m 57 (by decide), m 63 (by decide), m 65 (by decide), m 91 (by decide), e1_10, e66_1, e66_2]
    exact a3
  · simp only [s_nv, s_nr, s_nd, s_na, s_plt, s_wsp, s_upd, s_heir_S (g 32 (by decide)), g 32 (by decide), g 33 (by decide), g 34 (by decide), g 35 (by decide), g 36 (by decide), g 37 (by decide), m 57 (by decide), m 63 (by decide), m 65 (by decide), m 91 (by decide), e1_10, e66_1, e66_2]
    exact a4
  · simp only [s_nv, s_nr, s_nd, s_na, s_plt, s_wsp, s_upd, s_heir_S (g 32 (by decide)), g 32 (by decide), g 33 (by decide), g 34 (by decide), g 35 (by decide), g 36 (by decide), g 37 (by decide), m 57 (by decide), m 63 (by decide), m 65 (by decide), m 91 (by decide), e1_10, e66_1, e66_2]
    exact a5
  · simp only [s_nv, s_nr, s_nd, s_na, s_plt, s_wsp, s_upd, s_heir_S (g 32 (by decide)), g 32 (by decide), g 33 (by decide), g 34 (by decide), g 35 (by decide), g 36 (by decide), g 37 (by decide), m 57 (by decide), m 63 (by decide), m 65 (by decide), m 91 (by decide), e1_10, e66_1, e66_2]
    exact a6
  · simp only [s_nv, s_nr, s_nd, s_na, s_plt, s_wsp, s_upd, s_heir_S (g 32 (by decide)), g 32 (by decide), g 33 (by decide), g 34 (by decide), g 35 (by decide), g 36 (by decide), g 37 (by decide), m 57 (by decide), m 63 (by decide), m 65 (by decide), m 91 (by decide), e1_10, e66_1, e66_2]
    exact a7
theorem RMw.x29 {S S' : SP} {σ σ' : Mem} (g : ∀ k, k ∈ [32, 33, 34, 35, 36, 37] → S' k = S k) (m : ∀ k, k ∈ [102, 103, 104] → σ' k = σ k) (e94_5 : σ' 94 5 = σ 94 5) (e94_6 : σ' 94 6 = σ 94 6) (e94_7 : σ' 94 7 = σ 94 7) (w : RMw S σ) (h1 : σ' 94 4 = nI (s_na S')) (h2 : (∀ i, i < s_na S' → σ' 101 (2 * i) = nI (s_apk S' i) ∧ σ' 101 (2 * i + 1) = nI (s_arg S' i))) : RMw S' σ' := by
  unfold RMw at w ⊢
  obtain ⟨a1, a2, a3, a4, a5, a6⟩ := w
  refine ⟨h1, h2, ?_, ?_, ?_, ?_⟩
  · simp only [s_nv, s_nr, s_nd, s_na, s_plt, s_wsp, s_upd, s_heir_S (g 32 (by decide)), g 32 (by decide), g 33 (by decide), g 34 (by decide), g 35 (by decide), g 36 (by decide), g 37 (by decide), m 102 (by decide), m 103 (by decide), m 104 (by decide), e94_5, e94_6, e94_7]
    exact a3
  · simp only [s_nv, s_nr, s_nd, s_na, s_plt, s_wsp, s_upd, s_heir_S (g 32 (by decide)), g 32 (by decide), g 33 (by decide), g 34 (by decide), g 35 (by decide), g 36 (by decide), g 37 (by decide), m 102 (by decide), m 103 (by decide), m 104 (by decide), e94_5, e94_6, e94_7]
    exact a4
  · simp only [s_nv, s_nr, s_nd, s_na, s_plt, s_wsp, s_upd, s_heir_S (g 32 (by decide)), g 32 (by decide), g 33 (by decide), g 34 (by decide), g 35 (by decide), g 36 (by decide), g 37 (by decide), m 102 (by decide), m 103 (by decide), m 104 (by decide), e94_5, e94_6, e94_7]
    exact a5
  · simp only [s_nv, s_nr, s_nd, s_na, s_plt, s_wsp, s_upd, s_heir_S (g 32 (by decide)), g 32 (by decide), g 33 (by decide), g 34 (by decide), g 35 (by decide), g 36 (by decide), g 37 (by decide), m 102 (by decide), m 103 (by decide), m 104 (by decide), e94_5, e94_6, e94_7]
    exact a6
theorem WFw.x32 {S S' : SP} (g : ∀ k, k ∈ [0, 1, 17, 29, 30, 31, 33, 34, 35, 36, 37] → S' k = S k) (w : WFw S) (h3 : (∀ p, p < 6 → s_rep S' p ≤ 6 ∧ s_rep S' (s_heir S' p) = 0)) : WFw S' := by
  unfold WFw at w ⊢
  obtain ⟨a1, a2, a3, a4, a5, a6, a7, a8⟩ := w
  refine ⟨?_, ?_, h3, ?_, ?_, ?_, ?_, ?_⟩
  · simp only [s_nv, s_nr, s_nd, s_na, s_plt, s_wsp, s_upd, s_vs_S (g 0 (by decide)) (g 1 (by decide)), s_mem_S (g 0 (by decide)) (g 1 (by decide)), g 0 (by decide), g 1 (by decide), g 17 (by decide), g 29 (by decide), g 30 (by decide), g 31 (by decide), g 33 (by decide), g 34 (by decide), g 35 (by decide), g 36 (by decide), g 37 (by decide)]
    exact a1
  · simp only [s_nv, s_nr, s_nd, s_na, s_plt, s_wsp, s_upd, s_vs_S (g 0 (by decide)) (g 1 (by decide)), s_mem_S (g 0 (by decide)) (g 1 (by decide)), g 0 (by decide), g 1 (by decide), g 17 (by decide), g 29 (by decide), g 30 (by decide), g 31 (by decide), g 33 (by decide), g 34 (by decide), g 35 (by decide), g 36 (by decide), g 37 (by decide)]
    exact a2
  · simp only [s_nv, s_nr, s_nd, s_na, s_plt, s_wsp, s_upd, s_vs_S (g 0 (by decide)) (g 1 (by decide)), s_mem_S (g 0 (by decide)) (g 1 (by decide)), g 0 (by decide), g 1 (by decide), g 17 (by decide), g 29 (by decide), g 30 (by decide), g 31 (by decide), g 33 (by decide), g 34 (by decide), g 35 (by decide), g 36 (by decide), g 37 (by decide)]
    exact a4
  · simp only [s_nv, s_nr, s_nd, s_na, s_plt, s_wsp, s_upd, s_vs_S (g 0 (by decide)) (g 1 (by decide)), s_mem_S (g 0 (by decide)) (g 1 (by decide)), g 0 (by decide), g 1 (by decide), g 17 (by decide), g 29 (by decide), g 30 (by decide), g 31 (by decide), g 33 (by decide), g 34 (by decide), g 35 (by decide), g 36 (by decide), g 37 (by decide)]
    exact a5
  · simp only [s_nv, s_nr, s_nd, s_na, s_plt, s_wsp, s_upd, s_vs_S (g 0 (by decide)) (g 1 (by decide)), s_mem_S (g 0 (by decide)) (g 1 (by decide)), g 0 (by decide), g 1 (by decide), g 17 (by decide), g 29 (by decide), g 30 (by decide), g 31 (by decide), g 33 (by decide), g 34 (by decide), g 35 (by decide), g 36 (by decide), g 37 (by decide)]
    exact a6
  · simp only [s_nv, s_nr, s_nd, s_na, s_plt, s_wsp, s_upd, s_vs_S (g 0 (by decide)) (g 1 (by decide)), s_mem_S (g 0 (by decide)) (g 1 (by decide)), g 0 (by decide), g 1 (by decide), g 17 (by decide), g 29 (by decide), g 30 (by decide), g 31 (by decide), g 33 (by decide), g 34 (by decide), g 35 (by decide), g 36 (by decide), g 37 (by decide)]
    exact a7
  · simp only [s_nv, s_nr, s_nd, s_na, s_plt, s_wsp, s_upd, s_vs_S (g 0 (by decide)) (g 1 (by decide)), s_mem_S (g 0 (by decide)) (g 1 (by decide)), g 0 (by decide), g 1 (by decide), g 17 (by decide), g 29 (by decide), g 30 (by decide), g 31 (by decide), g 33 (by decide), g 34 (by decide), g 35 (by decide), g 36 (by decide), g 37 (by decide)]
    exact a8
theorem RCw.x32 {S S' : SP} {σ σ' : Mem} (g : ∀ k, k ∈ [29, 30, 31, 34, 35, 36, 37] → S' k = S k) (m : ∀ k, k ∈ [59, 61, 91] → σ' k = σ k) (e1_9 : σ' 1 9 = σ 1 9) (e1_10 : σ' 1 10 = σ 1 10) (e66_1 : σ' 66 1 = σ 66 1) (e66_2 : σ' 66 2 = σ 66 2) (w : RCw S σ) (h3 : (∀ p, p < 6 → σ' 63 p = oi (s_rep S' p) ∧ σ' 65 p = nI (s_heir S' p) ∧ σ' 57 p = oi (s_lock S' p))) : RCw S' σ' := by
  unfold RCw at w ⊢
  obtain ⟨a1, a2, a3, a4, a5, a6, a7⟩ := w
  refine ⟨?_, ?_, h3, ?_, ?_, ?_, ?_⟩
  · simp only [s_nv, s_nr, s_nd, s_na, s_plt, s_wsp, s_upd, g 29 (by decide), g 30 (by decide), g 31 (by decide), g 34 (by decide), g 35 (by decide), g 36 (by decide), g 37 (by decide), m 59 (by decide), m 61 (by decide), m 91 (by decide), e1_9, e1_10, e66_1, e66_2]
    exact a1
  · simp only [s_nv, s_nr, s_nd, s_na, s_plt, s_wsp, s_upd, g 29 (by decide), g 30 (by decide), g 31 (by decide), g 34 (by decide), g 35 (by decide), g 36 (by decide), g 37 (by decide), m 59 (by decide), m 61 (by decide), m 91 (by decide), e1_9, e1_10, e66_1, e66_2]
    exact a2
  · simp only [s_nv, s_nr, s_nd, s_na, s_plt, s_wsp, s_upd, g 29 (by decide), g 30 (by decide), g 31 (by decide), g 34 (by decide), g 35 (by decide), g 36 (by decide), g 37 (by decide), m 59 (by decide), m 61 (by decide), m 91 (by decide), e1_9, e1_10, e66_1, e66_2]
    exact a4
  · simp only [s_nv, s_nr, s_nd, s_na, s_plt, s_wsp, s_upd, g 29 (by decide), g 30 (by decide), g 31 (by decide), g 34 (by decide), g 35 (by decide), g 36 (by decide), g 37 (by decide), m 59 (by decide), m 61 (by decide), m 91 (by decide), e1_9, e1_10, e66_1, e66_2]
    exact a5
  · simp only [s_nv, s_nr, s_nd, s_na, s_plt, s_wsp, s_upd, g 29 (by decide), g 30 (by decide), g 31 (by decide), g 34 (by decide), g 35 (by decide), g 36 (by decide), g 37 (by decide), m 59 (by decide), m 61 (by decide), m 91 (by decide), e1_9, e1_10, e66_1, e66_2]
    exact a6
  · simp only [s_nv, s_nr, s_nd, s_na, s_plt, s_wsp, s_upd, g 29 (by decide), g 30 (by decide), g 31 (by decide), g 34 (by decide), g 35 (by decide), g 36 (by decide), g 37 (by decide), m 59 (by decide), m 61 (by decide), m 91 (by decide), e1_9, e1_10, e66_1, e66_2]
    exact a7
theorem RMw.x32 {S S' : SP} {σ σ' : Mem} (g : ∀ k, k ∈ [29, 30, 31, 34, 35, 36] → S' k = S k) (m : ∀ k, k ∈ [101] → σ' k = σ k) (e94_4 : σ' 94 4 = σ 94 4) (e94_5 : σ' 94 5 = σ 94 5) (e94_6 : σ' 94 6 = σ 94 6) (e94_7 : σ' 94 7 = σ 94 7) (w : RMw S σ) (h3 : (∀ p, p < 6 → σ' 102 p = oi (s_rep S' p) ∧ σ' 103 p = oi (s_lock S' p) ∧ σ' 104 p = oi (s_dsk S' p))) : RMw S' σ' := by
  unfold RMw at w ⊢
  obtain ⟨a1, a2, a3, a4, a5, a6⟩ := w
  refine ⟨?_, ?_, h3, ?_, ?_, ?_⟩
  · simp only [s_nv, s_nr, s_nd, s_na, s_plt, s_wsp, s_upd, g 29 (by decide), g 30 (by decide), g 31 (by decide), g 34 (by decide), g 35 (by decide), g 36 (by decide), m 101 (by decide), e94_4, e94_5, e94_6, e94_7]
    exact a1
  · simp only [s_nv, s_nr, s_nd, s_na, s_plt, s_wsp, s_upd, g 29 (by decide), g 30 (by decide), g 31 (by decide), g 34 (by decide), g 35 (by decide), g 36 (by decide), m 101 (by decide), e94_4, e94_5, e94_6, e94_7]
    exact a2
  · simp only [s_nv, s_nr, s_nd, s_na, s_plt, s_wsp, s_upd, g 29 (by decide), g 30 (by decide), g 31 (by decide), g 34 (by decide), g 35 (by decide), g 36 (by decide), m 101 (by decide), e94_4, e94_5, e94_6, e94_7]
    exact a4
  · simp only [s_nv, s_nr, s_nd, s_na, s_plt, s_wsp, s_upd, g 29 (by decide), g 30 (by decide), g 31 (by decide), g 34 (by decide), g 35 (by decide), g 36 (by decide), m 101 (by decide), e94_4, e94_5, e94_6, e94_7]
    exact a5
  · simp only [s_nv, s_nr, s_nd, s_na, s_plt, s_wsp, s_upd, g 29 (by decide), g 30 (by decide), g 31 (by decide), g 34 (by decide), g 35 (by decide), g 36 (by decide), m 101 (by decide), e94_4, e94_5, e94_6, e94_7]
    exact a6
theorem WFw.x33 {S S' : SP} (g : ∀ k, k ∈ [0, 17, 29, 30, 31, 32, 34, 35, 36, 37] → S' k = S k) (w : WFw S) (h4 : (∀ p, p < 6 → s_lock S' p ≤ s_nv S' ∧ (s_lock S' p ≠ 0 → s_own S' (s_lock S' p - 1) = p))) : WFw S' := by
  unfold WFw at w ⊢
  obtain ⟨a1, a2, a3, a4, a5, a6, a7, a8⟩ := w
  refine ⟨?_, ?_, ?_, h4, ?_, ?_, ?_, ?_⟩
  · simp only [s_nv, s_nr, s_nd, s_na, s_plt, s_wsp, s_upd, s_heir_S (g 32 (by decide)), g 0 (by decide), g 17 (by decide), g 29 (by decide), g 30 (by decide), g 31 (by decide), g 32 (by decide), g 34 (by decide), g 35 (by decide), g 36 (by decide), g 37 (by decide)]
    exact a1
  · simp only [s_nv, s_nr, s_nd, s_na, s_plt, s_wsp, s_upd, s_heir_S (g 32 (by decide)), g 0 (by decide), g 17 (by decide), g 29 (by decide), g 30 (by decide), g 31 (by decide), g 32 (by decide), g 34 (by decide), g 35 (by decide), g 36 (by decide), g 37 (by decide)]
    exact a2
  · simp only [s_nv, s_nr, s_nd, s_na, s_plt, s_wsp, s_upd, s_heir_S (g 32 (by decide)), g 0 (by decide), g 17 (by decide), g 29 (by decide), g 30 (by decide), g 31 (by decide), g 32 (by decide), g 34 (by decide), g 35 (by decide), g 36 (by decide), g 37 (by decide)]
    exact a3
  · simp only [s_nv, s_nr, s_nd, s_na, s_plt, s_wsp, s_upd, s_heir_S (g 32 (by decide)), g 0 (by decide), g 17 (by decide), g 29 (by decide), g 30 (by decide), g 31 (by decide), g 32 (by decide), g 34 (by decide), g 35 (by decide), g 36 (by decide), g 37 (by decide)]
    exact a5
  · simp only [s_nv, s_nr, s_nd, s_na, s_plt, s_wsp, s_upd, s_heir_S (g 32 (by decide)), g 0 (by decide), g 17 (by decide), g 29 (by decide), g 30 (by decide), g 31 (by decide), g 32 (by decide), g 34 (by decide), g 35 (by decide), g 36 (by decide), g 37 (by decide)]
    exact a6
  · simp only [s_nv, s_nr, s_nd, s_na, s_plt, s_wsp, s_upd, s_heir_S (g 32 (by decide)), g 0 (by decide), g 17 (by decide), g 29 (by decide), g 30 (by decide), g 31 (by decide), g 32 (by decide), g 34 (by decide), g 35 (by decide), g 36 (by decide), g 37 (by decide)]
    exact a7
  · simp only [s_nv, s_nr, s_nd, s_na, s_plt, s_wsp, s_upd, s_heir_S (g 32 (by decide)), g 0 (by decide), g 17 (by decide), g 29 (by decide), g 30 (by decide), g 31 (by decide), g 32 (by decide), g 34 (by decide), g 35 (by decide), g 36 (by decide), g 37 (by decide)]
    exact a8
theorem RCw.x33 {S S' : SP} {σ σ' : Mem} (g : ∀ k, k ∈ [29, 30, 31, 34, 35, 36, 37] → S' k = S k) (m : ∀ k, k ∈ [59, 61, 91] → σ' k = σ k) (e1_9 : σ' 1 9 = σ 1 9) (e1_10 : σ' 1 10 = σ 1 10) (e66_1 : σ' 66 1 = σ 66 1) (e66_2 : σ' 66 2 = σ 66 2) (w : RCw S σ) (h3 : (∀ p, p < 6 → σ' 63 p = oi (s_rep S' p) ∧ σ' 65 p = nI (s_heir S' p) ∧ σ' 57 p = oi (s_lock S' p))) : RCw S' σ' := by
  unfold RCw at w ⊢
  obtain ⟨a1, a2, a3, a4, a5, a6, a7⟩ := w
  refine ⟨?_, ?_, h3, ?_, ?_, ?_, ?_⟩
  · simp only [s_nv, s_nr, s_nd, s_na, s_plt, s_wsp, s_upd, g 29 (by decide), g 30 (by decide), g 31 (by decide), g 34 (by decide), g 35 (by decide), g 36 (by decide), g 37 (by decide), m 59 (by decide), m 61 (by decide), m 91 (by decide), e1_9, e1_10, e66_1, e66_2]
    exact a1
  · simp only [s_nv, s_nr, s_nd, s_na, s_plt, s_wsp, s_upd, g 29 (by decide), g 30 (by decide), g 31 (by decide), g 34 (by decide), g 35 (by decide), g 36 (by decide), g 37 (by decide), m 59 (by decide), m 61 (by decide), m 91 (by decide), e1_9, e1_10, e66_1, e66_2]
    exact a2
  · simp only [s_nv, s_nr, s_nd, s_na, s_plt, s_wsp, s_upd, g 29 (by decide), g 30 (by decide), g 31 (by decide), g 34 (by decide), g 35 (by decide), g 36 (by decide), g 37 (by decide), m 59 (by decide), m 61 (by decide), m 91 (by decide), e1_9, e1_10, e66_1, e66_2]
    exact a4
  · simp only [s_nv, s_nr, s_nd, s_na, s_plt, s_wsp, s_upd, g 29 (by decide), g 30 (by decide), g 31 (by decide), g 34 (by decide), g 35 (by decide), g 36 (by decide), g 37 (by decide), m 59 (by decide), m 61 (by decide), m 91 (by decide), e1_9, e1_10, e66_1, e66_2]
    exact a5
  · simp only [s_nv, s_nr, s_nd, s_na, s_plt, s_wsp, s_upd, g 29 (by decide), g 30 (by decide), g 31 (by decide), g 34 (by decide), g 35 (by decide), g 36 (by decide), g 37 (by decide), m 59 (by decide), m 61 (by decide), m 91 (by decide), e1_9, e1_10, e66_1, e66_2]
    exact a6
  · simp only [s_nv, s_nr, s_nd, s_na, s_plt, s_wsp, s_upd, g 29 (by decide), g 30 (by decide), g 31 (by decide), g 34 (by decide), g 35 (by decide), g 36 (by decide), g 37 (by decide), m 59 (by decide), m 61 (by decide), m 91 (by decide), e1_9, e1_10, e66_1, e66_2]
    exact a7
theorem RMw.x33 {S S' : SP} {σ σ' : Mem} (g : ∀ k, k ∈ [29, 30, 31, 34, 35, 36] → S' k = S k) (m : ∀ k, k ∈ [101] → σ' k = σ k) (e94_4 : σ' 94 4 = σ 94 4) (e94_5 : σ' 94 5 = σ 94 5) (e94_6 : σ' 94 6 = σ 94 6) (e94_7 : σ' 94 7 = σ 94 7) (w : RMw S σ) (h3 : (∀ p, p < 6 → σ' 102 p = oi (s_rep S' p) ∧ σ' 103 p = oi (s_lock S' p) ∧ σ' 104 p = oi (s_dsk S' p))) : RMw S' σ' := by
  unfold RMw at w ⊢
  obtain ⟨a1, a2, a3, a4, a5, a6⟩ := w
  refine ⟨?_, ?_, h3, ?_, ?_, ?_⟩
  · simp only [s_nv, s_nr, s_nd, s_na, s_plt, s_wsp, s_upd, g 29 (by decide), g 30 (by decide), g 31 (by decide), g 34 (by decide), g 35 (by decide), g 36 (by decide), m 101 (by decide), e94_4, e94_5, e94_6, e94_7]
    exact a1
  · simp only [s_nv, s_nr, s_nd, s_na, s_plt, s_wsp, s_upd, g 29 (by decide), g 30 (by decide), g 31 (by decide), g 34 (by decide), g 35 (by decide), g 36 (by decide), m 101 (by decide), e94_4, e94_5, e94_6, e94_7]
    exact a2
  · simp only [s_nv, s_nr, s_nd, s_na, s_plt, s_wsp, s_upd, g 29 (by decide), g 30 (by decide), g 31 (by decide), g 34 (by decide), g 35 (by decide), g 36 (by decide), m 101 (by decide), e94_4, e94_5, e94_6, e94_7]
    exact a4
  · simp only [s_nv, s_nr, s_nd, s_na, s_plt, s_wsp, s_upd, g 29 (by decide), g 30 (by decide), g 31 (by decide), g 34 (by decide), g 35 (by decide), g 36 (by decide), m 101 (by decide), e94_4, e94_5, e94_6, e94_7]
    exact a5
  · simp only [s_nv, s_nr, s_nd, s_na, s_plt, s_wsp, s_upd, g 29 (by decide), g 30 (by decide), g 31 (by decide), g 34 (by decide), g 35 (by decide), g 36 (by decide), m 101 (by decide), e94_4, e94_5, e94_6, e94_7]
    exact a6
theorem WFw.x34 {S S' : SP} (g : ∀ k, k ∈ [0, 1, 17, 29, 30, 31, 32, 33, 35, 36, 37] → S' k = S k) (w : WFw S) (h5 : s_plt S' ≤ 2) : WFw S' := by
  unfold WFw at w ⊢
  obtain ⟨a1, a2, a3, a4, a5, a6, a7, a8⟩ := w
  refine ⟨?_, ?_, ?_, ?_, h5, ?_, ?_, ?_⟩
  · simp only [s_nv, s_nr, s_nd, s_na, s_plt, s_wsp, s_upd, s_vs_S (g 0 (by decide)) (g 1 (by decide)), s_mem_S (g 0 (by decide)) (g 1 (by decide)), s_heir_S (g 32 (by decide)), g 0 (by decide), g 1 (by decide), g 17 (by decide), g 29 (by decide), g 30 (by decide), g 31 (by decide), g 32 (by decide), g 33 (by decide), g 35 (by decide), g 36 (by decide), g 37 (by decide)]
    exact a1
  · simp only [s_nv, s_nr, s_nd, s_na, s_plt, s_wsp, s_upd, s_vs_S (g 0 (by decide)) (g 1 (by decide)), s_mem_S (g 0 (by decide)) (g 1 (by decide)), s_heir_S (g 32 (by decide)), g 0 (by decide), g 1 (by decide), g 17 (by decide), g 29 (by decide), g 30 (by decide), g 31 (by decide), g 32 (by decide), g 33 (by decide), g 35 (by decide), g 36 (by decide), g 37 (by decide)]
    exact a2
  · simp only [s_nv, s_nr, s_nd, s_na, s_plt, s_wsp, s_upd, s_vs_S (g 0 (by decide)) (g 1 (by decide)), s_mem_S (g 0 (by decide)) (g 1 (by decide)), s_heir_S (g 32 (by decide)), g 0 (by decide), g 1 (by decide), g 17 (by decide), g 29 (by decide), g 30 (by decide), g 31 (by decide), g 32 (by decide), g 33 (by decide), g 35 (by decide), g 36 (by decide), g 37 (by decide)]
    exact a3
  · simp only [s_nv, s_nr, s_nd, s_na, s_plt, s_wsp, s_upd, s_vs_S (g 0 (by decide)) (g 1 (by decide)), s_mem_S (g 0 (by decide)) (g 1 (by decide)), s_heir_S (g 32 (by decide)), g 0 (by decide), g 1 (by decide), g 17 (by decide), g 29 (by decide), g 30 (by decide), g 31 (by decide), g 32 (by decide), g 33 (by decide), g 35 (by decide), g 36 (by decide), g 37 (by decide)]
    exact a4
  · simp only [s_nv, s_nr, s_nd, s_na, s_plt, s_wsp, s_upd, s_vs_S (g 0 (by decide)) (g 1 (by decide)), s_mem_S (g 0 (by decide)) (g 1 (by decide)), s_heir_S (g 32 (by decide)), g 0 (by decide), g 1 (by decide), g 17 (by decide), g 29 (by decide), g 30 (by decide), g 31 (by decide), g 32 (by decide), g 33 (by decide), g 35 (by decide), g 36 (by decide), g 37 (by decide)]
    exact a6
  · simp only [s_nv, s_nr, s_nd, s_na, s_plt, s_wsp, s_upd, s_vs_S (g 0 (by decide)) (g 1 (by decide)), s_mem_S (g 0 (by decide)) (g 1 (by decide)), s_heir_S (g 32 (by decide)), g 0 (by decide), g 1 (by decide), g 17 (by decide), g 29 (by decide), g 30 (by decide), g 31 (by decide), g 32 (by decide), g 33 (by decide), g 35 (by decide), g 36 (by decide), g 37 (by decide)]
    exact a7
  · simp only [s_nv, s_nr, s_nd, s_na, s_plt, s_wsp, s_upd, s_vs_S (g 0 (by decide)) (g 1 (by decide)), s_mem_S (g 0 (by decide)) (g 1 (by decide)), s_heir_S (g 32 (by decide)), g 0 (by decide), g 1 (by decide), g 17 (by decide), g 29 (by decide), g 30 (by decide), g 31 (by decide), g 32 (by decide), g 33 (by decide), g 35 (by decide), g 36 (by decide), g 37 (by decide)]
    exact a8
theorem RCw.x34 {S S' : SP} {σ σ' : Mem} (g : ∀ k, k ∈ [29, 30, 31, 32, 33, 35, 36, 37] → S' k = S k) (m : ∀ k, k ∈ [57, 59, 61, 63, 65, 91] → σ' k = σ k) (e1_9 : σ' 1 9 = σ 1 9) (e66_1 : σ' 66 1 = σ 66 1) (e66_2 : σ' 66 2 = σ 66 2) (w : RCw S σ) (h4 : σ' 1 10 = nI (s_plt S')) : RCw S' σ' := by
  unfold RCw at w ⊢
  obtain ⟨a1, a2, a3, a4, a5, a6, a7⟩ := w
  refine ⟨?_, ?_, ?_, h4, ?_, ?_, ?_⟩
  · simp only [s_nv, s_nr, s_nd, s_na, s_plt, s_wsp, s_upd, s_heir_S (g 32 (by decide)), g 29 (by decide), g 30 (by decide), g 31 (by decide), g 32 (by decide), g 33 (by decide), g 35 (by decide), g 36 (by decide), g 37 (by decide), m 57 (by decide), m 59 (by decide), m 61 (by decide), m 63 (by decide), m 65 (by decide), m 91 (by decide), e1_9, e66_1, e66_2]
    exact a1
  · simp only [s_nv, s_nr, s_nd, s_na, s_plt, s_wsp, s_upd, s_heir_S (g 32 (by decide)), g 29 (by decide), g 30 (by decide), g 31 (by decide), g 32 (by decide), g 33 (by decide), g 35 (by decide), g 36 (by decide), g 37 (by decide), m 57 (by decide), m 59 (by decide), m 61 (by decide), m 63 (by decide), m 65 (by decide), m 91 (by decide), e1_9, e66_1, e66_2]
    exact a2
  · simp only [s_nv, s_nr, s_nd, s_na, s_plt, s_wsp, s_upd, s_heir_S (g 32 (by decide)), g 29 (by decide), g 30 (by decide), g 31 (by decide), g 32 (by decide), g 33 (by decide), g 35 (by decide), g 36 (by decide), g 37 (by decide), m 57 (by decide), m 59 (by decide), m 61 (by decide), m 63 (by decide), m 65 (by decide), m 91 (by decide), e1_9, e66_1, e66_2]
    exact a3
  · simp only [s_nv, s_nr, s_nd, s_na, s_plt, s_wsp, s_upd, s_heir_S (g 32 (by decide)), g 29 (by decide), g 30 (by decide), g 31 (by decide), g 32 (by decide), g 33 (by decide), g 35 (by decide), g 36 (by decide), g 37 (by decide), m 57 (by decide), m 59 (by decide), m 61 (by decide), m 63 (by decide), m 65 (by decide), m 91 (by decide), e1_9, e66_1, e66_2]
    exact a5
  · simp only [s_nv, s_nr, s_nd, s_na, s_plt, s_wsp, s_upd, s_heir_S (g 32 (by decide)), g 29 (by decide), g 30 (by decide), g 31 (by decide), g 32 (by decide), g 33 (by decide), g 35 (by decide), g 36 (by decide), g 37 (by decide), m 57 (by decide), m 59 (by decide), m 61 (by decide), m 63 (by decide), m 65 (by decide), m 91 (by decide), e1_9, e66_1, e66_2]
    exact a6
  · simp only [s_nv, s_nr, s_nd, s_na, s_plt, s_wsp, s_upd, s_heir_S (g 32 (by decide)), g 29 (by decide), g 30 (by decide), g 31 (by decide), g 32 (by decide), g 33 (by decide), g 35 (by decide), g 36 (by decide), g 37 (by decide), m 57 (by decide), m 59 (by decide), m 61 (by decide), m 63 (by decide), m 65 (by decide), m 91 (by decide), e1_9, e66_1, e66_2]
    exact a7
theorem RMw.x34 {S S' : SP} {σ σ' : Mem} (g : ∀ k, k ∈ [29, 30, 31, 32, 33, 35, 36, 37] → S' k = S k) (m : ∀ k, k ∈ [101, 102, 103, 104] → σ' k = σ k) (e94_4 : σ' 94 4 = σ 94 4) (e94_6 : σ' 94 6 = σ 94 6) (e94_7 : σ' 94 7 = σ 94 7) (w : RMw S σ) (h4 : σ' 94 5 = nI (s_plt S')) : RMw S' σ' := by
  unfold RMw at w ⊢
  obtain ⟨a1, a2, a3, a4, a5, a6⟩ := w
  refine ⟨?_, ?_, ?_, h4, ?_, ?_⟩
  · simp only [s_nv, s_nr, s_nd, s_na, s_plt, s_wsp, s_upd, s_heir_S (g 32 (by decide)), g 29 (by decide), g 30 (by decide), g 31 (by decide), g 32 (by decide), g 33 (by decide), g 35 (by decide), g 36 (by decide), g 37 (by decide), m 101 (by decide), m 102 (by decide), m 103 (by decide), m 104 (by decide), e94_4, e94_6, e94_7]
    exact a1
  · simp only [s_nv, s_nr, s_nd, s_na, s_plt, s_wsp, s_upd, s_heir_S (g 32 (by decide)), g 29 (by decide), g 30 (by decide), g 31 (by decide), g 32 (by decide), g 33 (by decide), g 35 (by decide), g 36 (by decide), g 37 (by decide), m 101 (by decide), m 102 (by decide), m 103 (by decide), m 104 (by decide), e94_4, e94_6, e94_7]
    exact a2
  · simp only [s_nv, s_nr, s_nd, s_na, s_plt, s_wsp, s_upd, s_heir_S (g 32 (by decide)), g 29 (by decide), g 30 (by decide), g 31 (by decide), g 32 (by decide), g 33 (by decide), g 35 (by decide), g 36 (by decide), g 37 (by decide), m 101 (by decide), m 102 (by decide), m 103 (by decide), m 104 (by decide), e94_4, e94_6, e94_7]
    exact a3
  · simp only [s_nv, s_nr, s_nd, s_na, s_plt, s_wsp, s_upd, s_heir_S (g 32 (by decide)), g 29 (by decide), g 30 (by decide), g 31 (by decide), g 32 (by decide), g 33 (by decide), g 35 (by decide), g 36 (by decide), g 37 (by decide), m 101 (by decide), m 102 (by decide), m 103 (by decide), m 104 (by decide), e94_4, e94_6, e94_7]
    exact a5
  · simp only [s_nv, s_nr, s_nd, s_na, s_plt, s_wsp, s_upd, s_heir_S (g 32 (by decide)), g 29 (by decide), g 30 (by decide), g 31 (by decide), g 32 (by decide), g 33 (by decide), g 35 (by decide), g 36 (by decide), g 37 (by decide), m 101 (by decide), m 102 (by decide), m 103 (by decide), m 104 (by decide), e94_4, e94_6, e94_7]
    exact a6
theorem WFw.x35 {S S' : SP} (g : ∀ k, k ∈ [0, 1, 17, 29, 30, 31, 32, 33, 34, 37] → S' k = S k) (w : WFw S) (h6 : s_wsp S' ≤ 7) (h7 : s_upd S' ≤ 63) : WFw S' := by
  unfold WFw at w ⊢
  obtain ⟨a1, a2, a3, a4, a5, a6, a7, a8⟩ := w
  refine ⟨?_, ?_, ?_, ?_, ?_, h6, h7, ?_⟩
  · simp only [s_nv, s_nr, s_nd, s_na, s_plt, s_wsp, s_upd, s_vs_S (g 0 (by decide)) (g 1 (by decide)), s_mem_S (g 0 (by decide)) (g 1 (by decide)), s_heir_S (g 32 (by decide)), g 0 (by decide), g 1 (by decide), g 17 (by decide), g 29 (by decide), g 30 (by decide), g 31 (by decide), g 32 (by decide), g 33 (by decide), g 34 (by decide), g 37 (by decide)]
    exact a1
  · simp only [s_nv, s_nr, s_nd, s_na, s_plt, s_wsp, s_upd, s_vs_S (g 0 (by decide)) (g 1 (by decide)), s_mem_S (g 0 (by decide)) (g 1 (by decide)), s_heir_S (g 32 (by decide)), g 0 (by decide), g 1 (by decide), g 17 (by decide), g 29 (by decide), g 30 (by decide), g 31 (by decide), g 32 (by decide), g 33 (by decide), g 34 (by decide), g 37 (by decide)]
    exact a2
  · simp only [s_nv, s_nr, s_nd, s_na, s_plt, s_wsp, s_upd, s_vs_S (g 0 (by decide)) (g 1 (by decide)), s_mem_S (g 0 (by decide)) (g 1 (by decide)), s_heir_S (g 32 (by decide)), g 0 (by decide), g 1 (by decide), g 17 (by decide), g 29 (by decide), g 30 (by decide), g 31 (by decide), g 32 (by decide), g 33 (by decide), g 34 (by decide), g 37 (by decide)]
    exact a3
  · simp only [s_nv, s_nr, s_nd, s_na, s_plt, s_wsp, s_upd, s_vs_S (g 0 (by decide)) (g 1 (by decide)), s_mem_S (g 0 (by decide)) (g 1 (by decide)), s_heir_S (g 32 (by decide)), g 0 (by decide), g 1 (by decide), g 17 (by decide), g 29 (by decide), g 30 (by decide), g 31 (by decide), g 32 (by decide), g 33 (by decide), g 34 (by decide), g 37 (by decide)]
    exact a4
  · simp only [s_nv, s_nr, s_nd, s_na, s_plt, s_wsp, s_upd, s_vs_S (g 0 (by decide)) (g 1 (by decide)), s_mem_S (g 0 (by decide)) (g 1 (by decide)), s_heir_S (g 32 (by decide)), g 0 (by decide), g 1 (by decide), g 17 (by decide), g 29 (by decide), g 30 (by decide), g 31 (by decide), g 32 (by decide), g 33 (by decide), g 34 (by decide), g 37 (by decide)]
    exact a5
  · simp only [s_nv, s_nr, s_nd, s_na, s_plt, s_wsp, s_upd, s_vs_S (g 0 (by decide)) (g 1 (by decide)), s_mem_S (g 0 (by decide)) (g 1 (by decide)), s_heir_S (g 32 (by decide)), g 0 (by decide), g 1 (by decide), g 17 (by decide), g 29 (by decide), g 30 (by decide), g 31 (by decide), g 32 (by decide), g 33 (by decide), g 34 (by decide), g 37 (by decide)]
    exact a8
theorem RCw.x35 {S S' : SP} {σ σ' : Mem} (g : ∀ k, k ∈ [29, 30, 31, 32, 33, 34, 37] → S' k = S k) (m : ∀ k, k ∈ [57, 59, 61, 63, 65, 91] → σ' k = σ k) (e1_9 : σ' 1 9 = σ 1 9) (e1_10 : σ' 1 10 = σ 1 10) (w : RCw S σ) (h5 : σ' 66 1 = nI (s_wsp S')) (h6 : σ' 66 2 = nI (s_upd S')) : RCw S' σ' := by
  unfold RCw at w ⊢
  obtain ⟨a1, a2, a3, a4, a5, a6, a7⟩ := w
  refine ⟨?_, ?_, ?_, ?_, h5, h6, ?_⟩
  · simp only [s_nv, s_nr, s_nd, s_na, s_plt, s_wsp, s_upd, s_heir_S (g 32 (by decide)), g 29 (by decide), g 30 (by decide), g 31 (by decide), g 32 (by decide), g 33 (by decide), g 34 (by decide), g 37 (by decide), m 57 (by decide), m 59 (by decide), m 61 (by decide), m 63 (by decide), m 65 (by decide), m 91 (by decide), e1_9, e1_10]
    exact a1
  · simp only [s_nv, s_nr, s_nd, s_na, s_plt, s_wsp, s_upd, s_heir_S (g 32 (by decide)), g 29 (by decide), g 30 (by decide), g 31 (by decide), g 32 (by decide), g 33 (by decide), g 34 (by decide), g 37 (by decide), m 57 (by decide), m 59 (by decide), m 61 (by decide), m 63 (by decide), m 65 (by decide), m 91 (by decide), e1_9, e1_10]
    exact a2
  · simp only [s_nv, s_nr, s_nd, s_na, s_plt, s_wsp, s_upd, s_heir_S (g 32 (by decide)), g 29 (by decide), g 30 (by decide), g 31 (by decide), g 32 (by decide), g 33 (by decide), g 34 (by decide), g 37 (by decide), m 57 (by decide), m 59 (by decide), m 61 (by decide), m 63 (by decide), m 65 (by decide), m 91 (by decide), e1_9, e1_10]
    exact a3
  · simp only [s_nv, s_nr, s_nd, s_na, s_plt, s_wsp, s_upd, s_heir_S (g 32 (by decide)), g 29 (by decide), g 30 (by decide), g 31 (by decide), g 32 (by decide), g 33 (by decide), g 34 (by decide), g 37 (by decide), m 57 (by decide), m 59 (by decide), m 61 (by decide), m 63 (by decide), m 65 (by decide), m 91 (by decide), e1_9, e1_10]
    exact a4
  · simp only [s_nv, s_nr, s_nd, s_na, s_plt, s_wsp, s_upd, s_heir_S (g 32 (by decide)), g 29 (by decide), g 30 (by decide), g 31 (by decide), g 32 (by decide), g 33 (by decide), g 34 (by decide), g 37 (by decide), m 57 (by decide), m 59 (by decide), m 61 (by decide), m 63 (by decide), m 65 (by decide), m 91 (by decide), e1_9, e1_10]
    exact a7
theorem RMw.x35 {S S' : SP} {σ σ' : Mem} (g : ∀ k, k ∈ [29, 30, 31, 32, 33, 34, 37] → S' k = S k) (m : ∀ k, k ∈ [101, 102, 103, 104] → σ' k = σ k) (e94_4 : σ' 94 4 = σ 94 4) (e94_5 : σ' 94 5 = σ 94 5) (w : RMw S σ) (h5 : σ' 94 6 = nI (s_wsp S')) (h6 : σ' 94 7 = nI (s_upd S')) : RMw S' σ' := by
  unfold RMw at w ⊢
  obtain ⟨a1, a2, a3, a4, a5, a6⟩ := w
  refine ⟨?_, ?_, ?_, ?_, h5, h6⟩
  · simp only [s_nv, s_nr, s_nd, s_na, s_plt, s_wsp, s_upd, s_heir_S (g 32 (by decide)), g 29 (by decide), g 30 (by decide), g 31 (by decide), g 32 (by decide), g 33 (by decide), g 34 (by decide), g 37 (by decide), m 101 (by decide), m 102 (by decide), m 103 (by decide), m 104 (by decide), e94_4, e94_5]
    exact a1
  · simp only [s_nv, s_nr, s_nd, s_na, s_plt, s_wsp, s_upd, s_heir_S (g 32 (by decide)), g 29 (by decide), g 30 (by decide), g 31 (by decide), g 32 (by decide), g 33 (by decide), g 34 (by decide), g 37 (by decide), m 101 (by decide), m 102 (by decide), m 103 (by decide), m 104 (by decide), e94_4, e94_5]
    exact a2
  · simp only [s_nv, s_nr, s_nd, s_na, s_plt, s_wsp, s_upd, s_heir_S (g 32 (by decide)), g 29 (by decide), g 30 (by decide), g 31 (by decide), g 32 (by decide), g 33 (by decide), g 34 (by decide), g 37 (by decide), m 101 (by decide), m 102 (by decide), m 103 (by decide), m 104 (by decide), e94_4, e94_5]
    exact a3
  · simp only [s_nv, s_nr, s_nd, s_na, s_plt, s_wsp, s_upd, s_heir_S (g 32 (by decide)), g 29 (by decide), g 30 (by decide), g 31 (by decide), g 32 (by decide), g 33 (by decide), g 34 (by decide), g 37 (by decide), m 101 (by decide), m 102 (by decide), m 103 (by decide), m 104 (by decide), e94_4, e94_5]
    exact a4
theorem WFw.x37 {S S' : SP} (g : ∀ k, k ∈ [0, 1, 17, 29, 30, 31, 32, 33, 34, 35, 36] → S' k = S k) (w : WFw S) (h8 : (∀ p, p < 6 → s_dsk S' p ≤ s_nv S')) : WFw S' := by
  unfold WFw at w ⊢
  obtain ⟨a1, a2, a3, a4, a5, a6, a7, a8⟩ := w
  refine ⟨?_, ?_, ?_, ?_, ?_, ?_, ?_, h8⟩
  · simp only [s_nv, s_nr, s_nd, s_na, s_plt, s_wsp, s_upd, s_vs_S (g 0 (by decide)) (g 1 (by decide)), s_mem_S (g 0 (by decide)) (g 1 (by decide)), s_heir_S (g 32 (by decide)), g 0 (by decide), g 1 (by decide), g 17 (by decide), g 29 (by decide), g 30 (by decide), g 31 (by decide), g 32 (by decide), g 33 (by decide), g 34 (by decide), g 35 (by decide), g 36 (by decide)]
    exact a1
  · simp only [s_nv, s_nr, s_nd, s_na, s_plt, s_wsp, s_upd, s_vs_S (g 0 (by decide)) (g 1 (by decide)), s_mem_S (g 0 (by decide)) (g 1 (by decide)), s_heir_S (g 32 (by decide)), g 0 (by decide), g 1 (by decide), g 17 (by decide), g 29 (by decide), g 30 (by decide), g 31 (by decide), g 32 (by decide), g 33 (by decide), g 34 (by decide), g 35 (by decide), g 36 (by decide)]
    exact a2
  · simp only [s_nv, s_nr, s_nd, s_na, s_plt, s_wsp, s_upd, s_vs_S (g 0 (by decide)) (g 1 (by decide)), s_mem_S (g 0 (by decide)) (g 1 (by decide)), s_heir_S (g 32 (by decide)), g 0 (by decide), g 1 (by decide), g 17 (by decide), g 29 (by decide), g 30 (by decide), g 31 (by decide), g 32 (by decide), g 33 (by decide), g 34 (by decide), g 35 (by decide), g 36 (by decide)]
    exact a3
  · simp only [s_nv, s_nr, s_nd, s_na, s_plt, s_wsp, s_upd, s_vs_S (g 0 (by decide)) (g 1 (by decide)), s_mem_S (g 0 (by decide)) (g 1 (by decide)), s_heir_S (g 32 (by decide)), g 0 (by decide), g 1 (by decide), g 17 (by decide), g 29 (by decide), g 30 (by decide), g 31 (by decide), g 32 (by decide), g 33 (by decide), g 34 (by decide), g 35 (by decide), g 36 (by decide)]
    exact a4
  · simp only [s_nv, s_nr, s_nd, s_na, s_plt, s_wsp, s_upd, s_vs_S (g 0 (by decide)) (g 1 (by decide)), s_mem_S (g 0 (by decide)) (g 1 (by decide)), s_heir_S (g 32 (by decide)), g 0 (by decide), g 1 (by decide), g 17 (by decide), g 29 (by decide), g 30 (by decide), g 31 (by decide), g 32 (by decide), g 33 (by decide), g 34 (by decide), g 35 (by decide), g 36 (by decide)]
    exact a5
  · simp only [s_nv, s_nr, s_nd, s_na, s_plt, s_wsp, s_upd, s_vs_S (g 0 (by decide)) (g 1 (by decide)), s_mem_S (g 0 (by decide)) (g 1 (by decide)), s_heir_S (g 32 (by decide)), g 0 (by decide), g 1 (by decide), g 17 (by decide), g 29 (by decide), g 30 (by decide), g 31 (by decide), g 32 (by decide), g 33 (by decide), g 34 (by decide), g 35 (by decide), g 36 (by decide)]
    exact a6
  · simp only [s_nv, s_nr, s_nd, s_na, s_plt, s_wsp, s_upd, s_vs_S (g 0 (by decide)) (g 1 (by decide)), s_mem_S (g 0 (by decide)) (g 1 (by decide)), s_heir_S (g 32 (by decide)), g 0 (by decide), g 1 (by decide), g 17 (by decide), g 29 (by decide), g 30 (by decide), g 31 (by decide), g 32 (by decide), g 33 (by decide), g 34 (by decide), g 35 (by decide), g 36 (by decide)]
    exact a7
theorem RCw.x37 {S S' : SP} {σ σ' : Mem} (g : ∀ k, k ∈ [29, 30, 31, 32, 33, 34, 35, 36] → S' k = S k) (m : ∀ k, k ∈ [57, 59, 61, 63, 65] → σ' k = σ k) (e1_9 : σ' 1 9 = σ 1 9) (e1_10 : σ' 1 10 = σ 1 10) (e66_1 : σ' 66 1 = σ 66 1) (e66_2 : σ' 66 2 = σ 66 2) (w : RCw S σ) (h7 : (∀ p, p < 6 → σ' 91 p = oi (s_dsk S' p))) : RCw S' σ' := by
  unfold RCw at w ⊢
  obtain ⟨a1, a2, a3, a4, a5, a6, a7⟩ := w
  refine ⟨?_, ?_, ?_, ?_, ?_, ?_, h7⟩
  · simp only [s_nv, s_nr, s_nd, s_na, s_plt, s_wsp, s_upd, s_heir_S (g 32 (by decide)), g 29 (by decide), g 30 (by decide), g 31 (by decide), g 32 (by decide), g 33 (by decide), g 34 (by decide), g 35 (by decide), g 36 (by decide), m 57 (by decide), m 59 (by decide), m 61 (by decide), m 63 (by decide), m 65 (by decide), e1_9, e1_10, e66_1, e66_2]
    exact a1
  · simp only [s_nv, s_nr, s_nd, s_na, s_plt, s_wsp, s_upd, s_heir_S (g 32 (by decide)), g 29 (by decide), g 30 (by decide), g 31 (by decide), g 32 (by decide), g 33 (by decide), g 34 (by decide), g 35 (by decide), g 36 (by decide), m 57 (by decide), m 59 (by decide), m 61 (by decide), m 63 (by decide), m 65 (by decide), e1_9, e1_10, e66_1, e66_2]
    exact a2
  · simp only [s_nv, s_nr, s_nd, s_na, s_plt, s_wsp, s_upd, s_heir_S (g 32 (by decide)), g 29 (by decide), g 30 (by decide), g 31 (by decide), g 32 (by decide), g 33 (by decide), g 34 (by decide), g 35 (by decide), g 36 (by decide), m 57 (by decide), m 59 (by decide), m 61 (by decide), m 63 (by decide), m 65 (by decide), e1_9, e1_10, e66_1, e66_2]
    exact a3
  · simp only [s_nv, s_nr, s_nd, s_na, s_plt, s_wsp, s_upd, s_heir_S (g 32 (by decide)), g 29 (by decide), g 30 (by decide), g 31 (by decide), g 32 (by decide), g 33 (by decide), g 34 (by decide), g 35 (by decide), g 36 (by decide), m 57 (by decide), m 59 (by decide), m 61 (by decide), m 63 (by decide), m 65 (by decide), e1_9, e1_10, e66_1, e66_2]
    exact a4
  · simp only [s_nv, s_nr, s_nd, s_na, s_plt, s_wsp, s_upd, s_heir_S (g 32 (by decide)), g 29 (by decide), g 30 (by decide), g 31 (by decide), g 32 (by decide), g 33 (by decide), g 34 (by decide), g 35 (by decide), g 36 (by decide), m 57 (by decide), m 59 (by decide), m 61 (by decide), m 63 (by decide), m 65 (by decide), e1_9, e1_10, e66_1, e66_2]
    exact a5
  · simp only [s_nv, s_nr, s_nd, s_na, s_plt, s_wsp, s_upd, s_heir_S (g 32 (by decide)), g 29 (by decide), g 30 (by decide), g 31 (by decide), g 32 (by decide), g 33 (by decide), g 34 (by decide), g 35 (by decide), g 36 (by decide), m 57 (by decide), m 59 (by decide), m 61 (by decide), m 63 (by decide), m 65 (by decide), e1_9, e1_10, e66_1, e66_2]
    exact a6
theorem RMw.x37 {S S' : SP} {σ σ' : Mem} (g : ∀ k, k ∈ [29, 30, 31, 34, 35, 36] → S' k = S k) (m : ∀ k, k ∈ [101] → σ' k = σ k) (e94_4 : σ' 94 4 = σ 94 4) (e94_5 : σ' 94 5 = σ 94 5) (e94_6 : σ' 94 6 = σ 94 6) (e94_7 : σ' 94 7 = σ 94 7) (w : RMw S σ) (h3 : (∀ p, p < 6 → σ' 102 p = oi (s_rep S' p) ∧ σ' 103 p = oi (s_lock S' p) ∧ σ' 104 p = oi (s_dsk S' p))) : RMw S' σ' := by
  unfold RMw at w ⊢
  obtain ⟨a1, a2, a3, a4, a5, a6⟩ := w
  refine ⟨?_, ?_, h3, ?_, ?_, ?_⟩
  · simp only [s_nv, s_nr, s_nd, s_na, s_plt, s_wsp, s_upd, g 29 (by decide), g 30 (by decide), g 31 (by decide), g 34 (by decide), g 35 (by decide), g 36 (by decide), m 101 (by decide), e94_4, e94_5, e94_6, e94_7]
    exact a1
  · simp only [s_nv, s_nr, s_nd, s_na, s_plt, s_wsp, s_upd, g 29 (by decide), g 30 (by decide), g 31 (by decide), g 34 (by decide), g 35 (by decide), g 36 (by decide), m 101 (by decide), e94_4, e94_5, e94_6, e94_7]
    exact a2
  · simp only [s_nv, s_nr, s_nd, s_na, s_plt, s_wsp, s_upd, g 29 (by decide), g 30 (by decide), g 31 (by decide), g 34 (by decide), g 35 (by decide), g 36 (by decide), m 101 (by decide), e94_4, e94_5, e94_6, e94_7]
    exact a4
  · simp only [s_nv, s_nr, s_nd, s_na, s_plt, s_wsp, s_upd, g 29 (by decide), g 30 (by decide), g 31 (by decide), g 34 (by decide), g 35 (by decide), g 36 (by decide), m 101 (by decide), e94_4, e94_5, e94_6, e94_7]
    exact a5
  · simp only [s_nv, s_nr, s_nd, s_na, s_plt, s_wsp, s_upd, g 29 (by decide), g 30 (by decide), g 31 (by decide), g 34 (by decide), g 35 (by decide), g 36 (by decide), m 101 (by decide), e94_4, e94_5, e94_6, e94_7]
    exact a6
theorem WFw.x17 {S S' : SP} (g : ∀ k, k ∈ [0, 1, 29, 32, 33, 34, 35, 36, 37] → S' k = S k) (w : WFw S) (h2 : (∀ i, i < s_na S' → s_apk S' i < 6 ∧ s_arg S' i < s_nr S')) : WFw S' := by
  unfold WFw at w ⊢
  obtain ⟨a1, a2, a3, a4, a5, a6, a7, a8⟩ := w
  refine ⟨?_, h2, ?_, ?_, ?_, ?_, ?_, ?_⟩
  · simp only [s_nv, s_nr, s_nd, s_na, s_plt, s_wsp, s_upd, s_vs_S (g 0 (by decide)) (g 1 (by decide)), s_mem_S (g 0 (by decide)) (g 1 (by decide)), s_heir_S (g 32 (by decide)), g 0 (by decide), g 1 (by decide), g 29 (by decide), g 32 (by decide), g 33 (by decide), g 34 (by decide), g 35 (by decide), g 36 (by decide), g 37 (by decide)]
    exact a1
  · simp only [s_nv, s_nr, s_nd, s_na, s_plt, s_wsp, s_upd, s_vs_S (g 0 (by decide)) (g 1 (by decide)), s_mem_S (g 0 (by decide)) (g 1 (by decide)), s_heir_S (g 32 (by decide)), g 0 (by decide), g 1 (by decide), g 29 (by decide), g 32 (by decide), g 33 (by decide), g 34 (by decide), g 35 (by decide), g 36 (by decide), g 37 (by decide)]
    exact a3
  · simp only [s_nv, s_nr, s_nd, s_na, s_plt, s_wsp, s_upd, s_vs_S (g 0 (by decide)) (g 1 (by decide)), s_mem_S (g 0 (by decide)) (g 1 (by decide)), s_heir_S (g 32 (by decide)), g 0 (by decide), g 1 (by decide), g 29 (by decide), g 32 (by decide), g 33 (by decide), g 34 (by decide), g 35 (by decide), g 36 (by decide), g 37 (by decide)]
    exact a4
  · simp only [s_nv, s_nr, s_nd, s_na, s_plt, s_wsp, s_upd, s_vs_S (g 0 (by decide)) (g 1 (by decide)), s_mem_S (g 0 (by decide)) (g 1 (by decide)), s_heir_S (g 32 (by decide)), g 0 (by decide), g 1 (by decide), g 29 (by decide), g 32 (by decide), g 33 (by decide), g 34 (by decide), g 35 (by decide), g 36 (by decide), g 37 (by decide)]
    exact a5
  · simp only [s_nv, s_nr, s_nd, s_na, s_plt, s_wsp, s_upd, s_vs_S (g 0 (by decide)) (g 1 (by decide)), s_mem_S (g 0 (by decide)) (g 1 (by decide)), s_heir_S (g 32 (by decide)), g 0 (by decide), g 1 (by decide), g 29 (by decide), g 32 (by decide), g 33 (by decide), g 34 (by decide), g 35 (by decide), g 36 (by decide), g 37 (by decide)]
    exact a6
  · simp only [s_nv, s_nr, s_nd, s_na, s_plt, s_wsp, s_upd, s_vs_S (g 0 (by decide)) (g 1 (by decide)), s_mem_S (g 0 (by decide)) (g 1 (by decide)), s_heir_S (g 32 (by decide)), g 0 (by decide), g 1 (by decide), g 29 (by decide), g 32 (by decide), g 33 (by decide), g 34 (by decide), g 35 (by decide), g 36 (by decide), g 37 (by decide)]
    exact a7
  · simp only [s_nv, s_nr, s_nd, s_na, s_plt, s_wsp, s_upd, s_vs_S (g 0 (by decide)) (g 1 (by decide)), s_mem_S (g 0 (by decide)) (g 1 (by decide)), s_heir_S (g 32 (by decide)), g 0 (by decide), g 1 (by decide), g 29 (by decide), g 32 (by decide), g 33 (by decide), g 34 (by decide), g 35 (by decide), g 36 (by decide), g 37 (by decide)]
    exact a8
theorem WFw.x0 {S S' : SP} (g : ∀ k, k ∈ [17, 29, 30, 31, 32, 34, 35, 36] → S' k = S k) (w : WFw S) (h4 : (∀ p, p < 6 → s_lock S' p ≤ s_nv S' ∧ (s_lock S' p ≠ 0 → s_own S' (s_lock S' p - 1) = p))) (h8 : (∀ p, p < 6 → s_dsk S' p ≤ s_nv S')) : WFw S' := by
  unfold WFw at w ⊢
  obtain ⟨a1, a2, a3, a4, a5, a6, a7, a8⟩ := w
  refine ⟨?_, ?_, ?_, h4, ?_, ?_, ?_, h8⟩
  · simp only [s_nv, s_nr, s_nd, s_na, s_plt, s_wsp, s_upd, s_heir_S (g 32 (by decide)), g 17 (by decide), g 29 (by decide), g 30 (by decide), g 31 (by decide), g 32 (by decide), g 34 (by decide), g 35 (by decide), g 36 (by decide)]
    exact a1
  · simp only [s_nv, s_nr, s_nd, s_na, s_plt, s_wsp, s_upd, s_heir_S (g 32 (by decide)), g 17 (by decide), g 29 (by decide), g 30 (by decide), g 31 (by decide), g 32 (by decide), g 34 (by decide), g 35 (by decide), g 36 (by decide)]
    exact a2
  · simp only [s_nv, s_nr, s_nd, s_na, s_plt, s_wsp, s_upd, s_heir_S (g 32 (by decide)), g 17 (by decide), g 29 (by decide), g 30 (by decide), g 31 (by decide), g 32 (by decide), g 34 (by decide), g 35 (by decide), g 36 (by decide)]
    exact a3
  · simp only [s_nv, s_nr, s_nd, s_na, s_plt, s_wsp, s_upd, s_heir_S (g 32 (by decide)), g 17 (by decide), g 29 (by decide), g 30 (by decide), g 31 (by decide), g 32 (by decide), g 34 (by decide), g 35 (by decide), g 36 (by decide)]
    exact a5
  · simp only [s_nv, s_nr, s_nd, s_na, s_plt, s_wsp, s_upd, s_heir_S (g 32 (by decide)), g 17 (by decide), g 29 (by decide), g 30 (by decide), g 31 (by decide), g 32 (by decide), g 34 (by decide), g 35 (by decide), g 36 (by decide)]
    exact a6
  · simp only [s_nv, s_nr, s_nd, s_na, s_plt, s_wsp, s_upd, s_heir_S (g 32 (by decide)), g 17 (by decide), g 29 (by decide), g 30 (by decide), g 31 (by decide), g 32 (by decide), g 34 (by decide), g 35 (by decide), g 36 (by decide)]
    exact a7
