/-! ===== what does not speak of what changed stays ===== -/
theorem s_walk_S {S S' : SP} (h : S' 32 = S 32) : ∀ (n p : Nat), s_walk S' n p = s_walk S n p
  | 0, p => rfl
  | n + 1, p => by
    unfold s_walk
    rw [s_walk_S h n, show s_step S' p = s_step S p from by unfold s_step; simp only [s_nv, s_nr, s_nd, s_na, s_plt, s_wsp, s_upd, h]]
theorem s_heir_S {S S' : SP} (h : S' 32 = S 32) (p : Nat) : s_heir S' p = s_heir S p := s_walk_S h 6 p
theorem s_vs_S {S S' : SP} (h0 : S' 0 = S 0) (h1 : S' 1 = S 1) (p : Nat) : s_vs S' p = s_vs S p := by unfold s_vs; simp only [s_nv, s_nr, s_nd, s_na, s_plt, s_wsp, s_upd, h0, h1]
theorem s_mem_S {S S' : SP} (h0 : S' 0 = S 0) (h1 : S' 1 = S 1) (p i : Nat) : s_mem S' p i = s_mem S p i := by unfold s_mem; rw [s_vs_S h0 h1]
theorem s_first_S {S S' : SP} (h0 : S' 0 = S 0) (h1 : S' 1 = S 1) (h6 : S' 6 = S 6) : s_first S' = s_first S := by funext p; unfold s_first; simp only [s_nv, s_nr, s_nd, s_na, s_plt, s_wsp, s_upd, h0, h1, h6]
theorem s_rank_S {S S' : SP} (h2 : S' 2 = S 2) (h3 : S' 3 = S 3) (h4 : S' 4 = S 4) (h5 : S' 5 = S 5) (v : Nat) : s_rank S' v = s_rank S v := by unfold s_rank; simp only [s_nv, s_nr, s_nd, s_na, s_plt, s_wsp, s_upd, h2, h3, h4, h5]
theorem s_sum_S {S S' : SP} (h2 : S' 2 = S 2) (h3 : S' 3 = S 3) (h4 : S' 4 = S 4) (h5 : S' 5 = S 5) (v : Nat) : s_sum S' v = s_sum S v := by unfold s_sum; simp only [s_nv, s_nr, s_nd, s_na, s_plt, s_wsp, s_upd, h2, h3, h4, h5]
theorem WFv.S {S S' : SP} (g : ∀ k, k ∈ [0, 1, 2, 3, 4, 5, 6, 7, 8, 9, 10] → S' k = S k) (w : WFv S) : WFv S' := by
  unfold WFv at *
  simp only [s_nv, s_nr, s_nd, s_na, s_plt, s_wsp, s_upd, s_vs_S (g 0 (by decide)) (g 1 (by decide)), s_mem_S (g 0 (by decide)) (g 1 (by decide)), s_first_S (g 0 (by decide)) (g 1 (by decide)) (g 6 (by decide)), s_rank_S (g 2 (by decide)) (g 3 (by decide)) (g 4 (by decide)) (g 5 (by decide)), s_sum_S (g 2 (by decide)) (g 3 (by decide)) (g 4 (by decide)) (g 5 (by decide)), g 0 (by decide), g 1 (by decide), g 2 (by decide), g 3 (by decide), g 4 (by decide), g 5 (by decide), g 6 (by decide), g 7 (by decide), g 8 (by decide), g 9 (by decide), g 10 (by decide)]
  exact w
theorem RCv.S {S S' : SP} {σ σ' : Mem} (g : ∀ k, k ∈ [0, 1, 2, 3, 4, 5, 6, 7, 8, 9, 10] → S' k = S k) (m : ∀ k, k ∈ [2, 4, 6, 8, 10, 12, 14, 16] → σ' k = σ k) (w : RCv S σ) : RCv S' σ' := by
  unfold RCv at *
  simp only [s_nv, s_nr, s_nd, s_na, s_plt, s_wsp, s_upd, s_vs_S (g 0 (by decide)) (g 1 (by decide)), s_mem_S (g 0 (by decide)) (g 1 (by decide)), s_first_S (g 0 (by decide)) (g 1 (by decide)) (g 6 (by decide)), s_rank_S (g 2 (by decide)) (g 3 (by decide)) (g 4 (by decide)) (g 5 (by decide)), s_sum_S (g 2 (by decide)) (g 3 (by decide)) (g 4 (by decide)) (g 5 (by decide)), g 0 (by decide), g 1 (by decide), g 2 (by decide), g 3 (by decide), g 4 (by decide), g 5 (by decide), g 6 (by decide), g 7 (by decide), g 8 (by decide), g 9 (by decide), g 10 (by decide), m 2 (by decide), m 4 (by decide), m 6 (by decide), m 8 (by decide), m 10 (by decide), m 12 (by decide), m 14 (by decide), m 16 (by decide)]
  exact w
theorem RMv.S {S S' : SP} {σ σ' : Mem} (g : ∀ k, k ∈ [0, 1, 2, 3, 4, 5, 6, 7, 8, 9, 10] → S' k = S k) (m : ∀ k, k ∈ [95, 96] → σ' k = σ k) (m2 : ∀ j, j ∈ [1] → σ' 94 j = σ 94 j) (w : RMv S σ) : RMv S' σ' := by
  unfold RMv at *
  simp only [s_nv, s_nr, s_nd, s_na, s_plt, s_wsp, s_upd, g 0 (by decide), g 1 (by decide), g 2 (by decide), g 3 (by decide), g 4 (by decide), g 5 (by decide), g 6 (by decide), g 7 (by decide), g 8 (by decide), g 9 (by decide), g 10 (by decide), m 95 (by decide), m 96 (by decide), m2 1 (by decide)]
  exact w
theorem WFr.S {S S' : SP} (g : ∀ k, k ∈ [0, 2, 3, 4, 5, 17, 18, 19, 20, 21, 22, 23] → S' k = S k) (w : WFr S) : WFr S' := by
  unfold WFr s_inR at *
  simp only [s_nv, s_nr, s_nd, s_na, s_plt, s_wsp, s_upd, g 0 (by decide), g 2 (by decide), g 3 (by decide), g 4 (by decide), g 5 (by decide), g 17 (by decide), g 18 (by decide), g 19 (by decide), g 20 (by decide), g 21 (by decide), g 22 (by decide), g 23 (by decide)]
  exact w
theorem RCr.S {S S' : SP} {σ σ' : Mem} (g : ∀ k, k ∈ [0, 17, 18, 19, 20, 21, 22, 23] → S' k = S k) (m : ∀ k, k ∈ [17, 19, 21, 23, 25, 27, 29, 31] → σ' k = σ k) (w : RCr S σ) : RCr S' σ' := by
  unfold RCr s_from s_end s_tri at *
  simp only [s_nv, s_nr, s_nd, s_na, s_plt, s_wsp, s_upd, g 0 (by decide), g 17 (by decide), g 18 (by decide), g 19 (by decide), g 20 (by decide), g 21 (by decide), g 22 (by decide), g 23 (by decide), m 17 (by decide), m 19 (by decide), m 21 (by decide), m 23 (by decide), m 25 (by decide), m 27 (by decide), m 29 (by decide), m 31 (by decide)]
  exact w
theorem RMr.S {S S' : SP} {σ σ' : Mem} (g : ∀ k, k ∈ [0, 17, 18, 19, 20, 21, 22, 23] → S' k = S k) (m : ∀ k, k ∈ [98, 99] → σ' k = σ k) (m2 : ∀ j, j ∈ [2] → σ' 94 j = σ 94 j) (w : RMr S σ) : RMr S' σ' := by
  unfold RMr at *
  simp only [s_nv, s_nr, s_nd, s_na, s_plt, s_wsp, s_upd, g 0 (by decide), g 17 (by decide), g 18 (by decide), g 19 (by decide), g 20 (by decide), g 21 (by decide), g 22 (by decide), g 23 (by decide), m 98 (by decide), m 99 (by decide), m2 2 (by decide)]
  exact w
theorem WFn.S {S S' : SP} (g : ∀ k, k ∈ [0, 9, 11, 12, 13, 14, 15, 16, 17] → S' k = S k) (w : WFn S) : WFn S' := by
  unfold WFn at *
  simp only [s_nv, s_nr, s_nd, s_na, s_plt, s_wsp, s_upd, g 0 (by decide), g 9 (by decide), g 11 (by decide), g 12 (by decide), g 13 (by decide), g 14 (by decide), g 15 (by decide), g 16 (by decide), g 17 (by decide)]
  exact w
theorem RCn.S {S S' : SP} {σ σ' : Mem} (g : ∀ k, k ∈ [0, 9, 11, 12, 13, 14, 15, 16] → S' k = S k) (m : ∀ k, k ∈ [34, 36, 38, 40, 42, 44, 46] → σ' k = σ k) (w : RCn S σ) : RCn S' σ' := by
  unfold RCn at *
  simp only [s_nv, s_nr, s_nd, s_na, s_plt, s_wsp, s_upd, g 0 (by decide), g 9 (by decide), g 11 (by decide), g 12 (by decide), g 13 (by decide), g 14 (by decide), g 15 (by decide), g 16 (by decide), m 34 (by decide), m 36 (by decide), m 38 (by decide), m 40 (by decide), m 42 (by decide), m 44 (by decide), m 46 (by decide)]
  exact w
theorem RMn.S {S S' : SP} {σ σ' : Mem} (g : ∀ k, k ∈ [0, 9, 11, 12, 13, 14, 15, 16] → S' k = S k) (m : ∀ k, k ∈ [97] → σ' k = σ k) (w : RMn S σ) : RMn S' σ' := by
  unfold RMn at *
  simp only [s_nv, s_nr, s_nd, s_na, s_plt, s_wsp, s_upd, g 0 (by decide), g 9 (by decide), g 11 (by decide), g 12 (by decide), g 13 (by decide), g 14 (by decide), g 15 (by decide), g 16 (by decide), m 97 (by decide)]
  exact w
theorem WFw.S {S S' : SP} (g : ∀ k, k ∈ [0, 1, 17, 29, 30, 31, 32, 33, 34, 35, 36, 37] → S' k = S k) (w : WFw S) : WFw S' := by
  unfold WFw at *
  simp only [s_nv, s_nr, s_nd, s_na, s_plt, s_wsp, s_upd, s_heir_S (g 32 (by decide)), g 0 (by decide), g 1 (by decide), g 17 (by decide), g 29 (by decide), g 30 (by decide), g 31 (by decide), g 32 (by decide), g 33 (by decide), g 34 (by decide), g 35 (by decide), g 36 (by decide), g 37 (by decide)]
  exact w
theorem RCw.S {S S' : SP} {σ σ' : Mem} (g : ∀ k, k ∈ [29, 30, 31, 32, 33, 34, 35, 36, 37] → S' k = S k) (m : ∀ k, k ∈ [1, 57, 59, 61, 63, 65, 66, 91] → σ' k = σ k) (w : RCw S σ) : RCw S' σ' := by
  unfold RCw at *
  simp only [s_nv, s_nr, s_nd, s_na, s_plt, s_wsp, s_upd, s_heir_S (g 32 (by decide)), g 29 (by decide), g 30 (by decide), g 31 (by decide), g 32 (by decide), g 33 (by decide), g 34 (by decide), g 35 (by decide), g 36 (by decide), g 37 (by decide), m 1 (by decide), m 57 (by decide), m 59 (by decide), m 61 (by decide), m 63 (by decide), m 65 (by decide), m 66 (by decide), m 91 (by decide)]
  exact w
theorem RMw.S {S S' : SP} {σ σ' : Mem} (g : ∀ k, k ∈ [29, 30, 31, 32, 33, 34, 35, 36, 37] → S' k = S k) (m : ∀ k, k ∈ [101, 102, 103, 104] → σ' k = σ k) (m2 : ∀ j, j ∈ [4, 5, 6, 7] → σ' 94 j = σ 94 j) (w : RMw S σ) : RMw S' σ' := by
  unfold RMw at *
  simp only [s_nv, s_nr, s_nd, s_na, s_plt, s_wsp, s_upd, g 29 (by decide), g 30 (by decide), g 31 (by decide), g 32 (by decide), g 33 (by decide), g 34 (by decide), g 35 (by decide), g 36 (by decide), g 37 (by decide), m 101 (by decide), m 102 (by decide), m 103 (by decide), m 104 (by decide), m2 4 (by decide), m2 5 (by decide), m2 6 (by decide), m2 7 (by decide)]
  exact w
theorem WFd.S {S S' : SP} (g : ∀ k, k ∈ [17, 24, 25, 26, 27, 28] → S' k = S k) (w : WFd S) : WFd S' := by
  unfold WFd at *
  simp only [s_nv, s_nr, s_nd, s_na, s_plt, s_wsp, s_upd, g 17 (by decide), g 24 (by decide), g 25 (by decide), g 26 (by decide), g 27 (by decide), g 28 (by decide)]
  exact w
theorem RCd.S {S S' : SP} {σ σ' : Mem} (g : ∀ k, k ∈ [24, 25, 26, 27, 28] → S' k = S k) (m : ∀ k, k ∈ [47, 49, 51, 53, 55] → σ' k = σ k) (w : RCd S σ) : RCd S' σ' := by
  unfold RCd at *
  simp only [s_nv, s_nr, s_nd, s_na, s_plt, s_wsp, s_upd, g 24 (by decide), g 25 (by decide), g 26 (by decide), g 27 (by decide), g 28 (by decide), m 47 (by decide), m 49 (by decide), m 51 (by decide), m 53 (by decide), m 55 (by decide)]
  exact w
theorem RMd.S {S S' : SP} {σ σ' : Mem} (g : ∀ k, k ∈ [24, 25, 26, 27, 28] → S' k = S k) (m : ∀ k, k ∈ [100] → σ' k = σ k) (m2 : ∀ j, j ∈ [3] → σ' 94 j = σ 94 j) (w : RMd S σ) : RMd S' σ' := by
  unfold RMd at *
  simp only [s_nv, s_nr, s_nd, s_na, s_plt, s_wsp, s_upd, g 24 (by decide), g 25 (by decide), g 26 (by decide), g 27 (by decide), g 28 (by decide), m 100 (by decide), m2 3 (by decide)]
  exact w
