/-! ===== by name: what WF, RC and RM say ===== -/
section ACC
variable {S : SP} {σ : Mem}
theorem WF.nv (h : WF S) : s_nv S ≤ 24 := h.1.1
theorem WF.own (h : WF S) {v : Nat} (hv : v < s_nv S) : s_own S v < 6 := (h.1.2.1 v hv).1
theorem WF.abc (h : WF S) {v : Nat} (hv : v < s_nv S) : s_a S v ≤ 9 ∧ s_b S v ≤ 9 ∧ s_c S v ≤ 9 ∧ s_pre S v ≤ 9 ∧ s_plc S v ≤ 1 := (h.1.2.1 v hv).2
theorem WF.ynk (h : WF S) {v : Nat} (hv : v < 24) : s_ynk S v ≤ 1 := (h.1.2.2.1 v hv).1
theorem WF.plat (h : WF S) {v : Nat} (hv : v < 24) : s_plat S v ≤ 7 := (h.1.2.2.1 v hv).2.1
theorem WF.nn (h : WF S) {v : Nat} (hv : v < 24) : s_nn S v ≤ 5 := (h.1.2.2.1 v hv).2.2
theorem WF.fresh (h : WF S) {v : Nat} (h1 : s_nv S ≤ v) (hv : v < 24) : s_ynk S v = 0 ∧ s_plat S v = 7 ∧ s_nn S v = 0 := h.1.2.2.2.1 v h1 hv
theorem WF.br (h : WF S) {i : Nat} (hi : i < 72) : s_br S i ≤ 7 := h.1.2.2.2.2.1 i hi
theorem WF.br0 (h : WF S) {i : Nat} (hi : i < 72) (h1 : 3 * s_nv S ≤ i) : s_br S i = 0 := h.1.2.2.2.2.2.1 i hi h1
theorem WF.siz (h : WF S) {p : Nat} (hp : p < 6) : (s_vs S p).length ≤ 4 := h.1.2.2.2.2.2.2.1 p hp
theorem WF.inj (h : WF S) {v w : Nat} (hv : v < s_nv S) (hw : w < s_nv S) (h1 : s_own S v = s_own S w) (h2 : s_rank S v = s_rank S w) : v = w := h.1.2.2.2.2.2.2.2 v w hv hw h1 h2
theorem WF.nr (h : WF S) : s_nr S ≤ 30 := h.2.1.1
theorem WF.rng (h : WF S) {r : Nat} (hr : r < s_nr S) : s_rk S r ≤ 9 ∧ (s_rk S r < 8 → s_ra S r ≤ 9 ∧ s_rb S r ≤ 9 ∧ s_rc S r ≤ 9 ∧ s_rp S r ≤ 9 ∧ (s_rk S r = 3 ∨ s_rk S r = 6 ∨ s_rk S r = 7 → s_rp S r = 0) ∧ (s_rk S r = 6 → s_rb S r = 0) ∧ (s_rk S r = 6 ∨ s_rk S r = 7 → s_rc S r = 0)) ∧ (8 ≤ s_rk S r → s_ra S r < r ∧ s_rb S r < r) := h.2.1.2.1 r hr
theorem WF.has (h : WF S) {r v : Nat} (hr : r < s_nr S) (hv : v < s_nv S) : s_has S (24 * r + v) = (if s_inR S r v then 1 else 0) := h.2.1.2.2 r v hr hv
theorem WF.has1 (h : WF S) {r v : Nat} (hr : r < s_nr S) (hv : v < s_nv S) : s_has S (24 * r + v) ≤ 1 := by
  rw [h.has hr hv]
  split <;> omega
theorem WF.need (h : WF S) {v k : Nat} (hv : v < s_nv S) (hk : k < s_nn S v) : s_tgt S (5 * v + k) < 6 ∧ s_nrg S (5 * v + k) < s_nr S ∧ s_nkd S (5 * v + k) ≤ 2 ∧ s_nft S (5 * v + k) ≤ 3 ∧ s_npl S (5 * v + k) ≤ 7 ∧ s_nfs S (5 * v + k) ≤ 7 := h.2.2.1 v k hv hk
theorem WF.nd (h : WF S) : s_nd S ≤ 6 := h.2.2.2.1.1
theorem WF.dem (h : WF S) {d : Nat} (hd : d < s_nd S) : s_dws S d ≤ 2 ∧ s_dtg S d < 6 ∧ s_drg S d < s_nr S ∧ s_dfs S d ≤ 7 := h.2.2.2.1.2 d hd
theorem WF.na (h : WF S) : s_na S ≤ 8 := h.2.2.2.2.1
theorem WF.adv (h : WF S) {i : Nat} (hi : i < s_na S) : s_apk S i < 6 ∧ s_arg S i < s_nr S := h.2.2.2.2.2.1 i hi
theorem WF.rep (h : WF S) {p : Nat} (hp : p < 6) : s_rep S p ≤ 6 ∧ s_rep S (s_heir S p) = 0 := h.2.2.2.2.2.2.1 p hp
theorem WF.lock (h : WF S) {p : Nat} (hp : p < 6) : s_lock S p ≤ s_nv S ∧ (s_lock S p ≠ 0 → s_own S (s_lock S p - 1) = p) := h.2.2.2.2.2.2.2.1 p hp
theorem WF.plt (h : WF S) : s_plt S ≤ 2 := h.2.2.2.2.2.2.2.2.1
theorem WF.wsp (h : WF S) : s_wsp S ≤ 7 := h.2.2.2.2.2.2.2.2.2.1
theorem WF.upd (h : WF S) : s_upd S ≤ 63 := h.2.2.2.2.2.2.2.2.2.2.1
theorem WF.dsk (h : WF S) {p : Nat} (hp : p < 6) : s_dsk S p ≤ s_nv S := h.2.2.2.2.2.2.2.2.2.2.2 p hp
theorem RC.nv (h : RC S σ) : σ 2 10 = nI (s_nv S) := h.1.1
theorem RC.own (h : RC S σ) {v : Nat} (hv : v < s_nv S) : σ 4 v = nI (s_own S v) := h.1.2.1 v hv
theorem RC.rank (h : RC S σ) {v : Nat} (hv : v < s_nv S) : σ 6 v = nI (s_rank S v) := h.1.2.2.1 v hv
theorem RC.sum (h : RC S σ) {v : Nat} (hv : v < s_nv S) : σ 8 v = nI (s_sum S v) := h.1.2.2.2.1 v hv
theorem RC.plat (h : RC S σ) {v : Nat} (hv : v < 24) : σ 10 v = nI (s_plat S v) := h.1.2.2.2.2.1 v hv
theorem RC.br (h : RC S σ) {i : Nat} (hi : i < 72) : σ 12 i = nI (s_br S i) := h.1.2.2.2.2.2.1 i hi
theorem RC.siz (h : RC S σ) {p : Nat} (hp : p < 6) : σ 16 p = nI (s_vs S p).length := h.1.2.2.2.2.2.2.1 p hp
theorem RC.mem (h : RC S σ) {p i : Nat} (hp : p < 6) (hi : i < 4) : σ 14 (4 * p + i) = oi (s_mem S p i) := h.1.2.2.2.2.2.2.2.1 p i hp hi
theorem RC.ynk (h : RC S σ) : σ 2 7 = nI (setB 24 fun v => s_ynk S v == 1) := h.1.2.2.2.2.2.2.2.2.1
theorem RC.plc (h : RC S σ) : σ 2 8 = nI (setB (s_nv S) fun v => s_plc S v == 1) := h.1.2.2.2.2.2.2.2.2.2.1
theorem RC.first (h : RC S σ) : σ 2 9 = nI (setB 6 (s_first S)) := h.1.2.2.2.2.2.2.2.2.2.2
theorem RC.nr (h : RC S σ) : σ 17 7 = nI (s_nr S) := h.2.1.1
theorem RC.held (h : RC S σ) {r : Nat} (hr : r < s_nr S) : σ 31 r = nI (setB (s_nv S) fun v => s_has S (24 * r + v) == 1) := h.2.1.2.1 r hr
theorem RC.rfree (h : RC S σ) {r : Nat} (hr : s_nr S ≤ r) (h3 : r < 30) : σ 31 r = 0 ∧ σ 19 r = 3 ∧ σ 27 r = -1 ∧ σ 29 r = -1 := h.2.1.2.2.1 r hr h3
theorem RC.rlow (h : RC S σ) {r : Nat} (hr : r < s_nr S) (h3 : s_rk S r < 8) : σ 19 r = 3 ∧ σ 27 r = -1 ∧ σ 29 r = -1 ∧ σ 21 r = nI (s_from S r) ∧ σ 23 r = nI (s_end S r) ∧ σ 25 r = oi (s_tri S r) := h.2.1.2.2.2.1 r hr h3
theorem RC.rhigh (h : RC S σ) {r : Nat} (hr : r < s_nr S) (h3 : 8 ≤ s_rk S r) : σ 19 r = nI (s_rk S r) ∧ σ 27 r = nI (s_ra S r) ∧ σ 29 r = nI (s_rb S r) := h.2.1.2.2.2.2 r hr h3
theorem RC.nn (h : RC S σ) {v : Nat} (hv : v < 24) : σ 46 v = nI (s_nn S v) := h.2.2.1.1 v hv
theorem RC.need (h : RC S σ) {v k : Nat} (hv : v < s_nv S) (hk : k < s_nn S v) : σ 34 (5 * v + k) = nI (s_tgt S (5 * v + k)) ∧ σ 36 (5 * v + k) = nI (s_nrg S (5 * v + k)) ∧ σ 38 (5 * v + k) = nI (s_nkd S (5 * v + k)) ∧ σ 40 (5 * v + k) = oi (s_nft S (5 * v + k)) ∧ σ 42 (5 * v + k) = nI (s_npl S (5 * v + k)) ∧ σ 44 (5 * v + k) = nI (s_nfs S (5 * v + k)) := h.2.2.1.2 v k hv hk
theorem RC.nd (h : RC S σ) : σ 47 4 = nI (s_nd S) := h.2.2.2.1.1
theorem RC.dem (h : RC S σ) {d : Nat} (hd : d < s_nd S) : σ 49 d = nI (s_dws S d) ∧ σ 51 d = nI (s_dtg S d) ∧ σ 53 d = nI (s_drg S d) ∧ σ 55 d = nI (s_dfs S d) := h.2.2.2.1.2 d hd
theorem RC.na (h : RC S σ) : σ 1 9 = nI (s_na S) := h.2.2.2.2.1
theorem RC.adv (h : RC S σ) {i : Nat} (hi : i < s_na S) : σ 59 i = nI (s_apk S i) ∧ σ 61 i = nI (s_arg S i) := h.2.2.2.2.2.1 i hi
theorem RC.pkg (h : RC S σ) {p : Nat} (hp : p < 6) : σ 63 p = oi (s_rep S p) ∧ σ 65 p = nI (s_heir S p) ∧ σ 57 p = oi (s_lock S p) := h.2.2.2.2.2.2.1 p hp
theorem RC.plt (h : RC S σ) : σ 1 10 = nI (s_plt S) := h.2.2.2.2.2.2.2.1
theorem RC.wsp (h : RC S σ) : σ 66 1 = nI (s_wsp S) := h.2.2.2.2.2.2.2.2.1
theorem RC.upd (h : RC S σ) : σ 66 2 = nI (s_upd S) := h.2.2.2.2.2.2.2.2.2.1
theorem RC.dsk (h : RC S σ) {p : Nat} (hp : p < 6) : σ 91 p = oi (s_dsk S p) := h.2.2.2.2.2.2.2.2.2.2 p hp
theorem RM.nv (h : RM S σ) : σ 94 1 = nI (s_nv S) := h.1.1
theorem RM.ver (h : RM S σ) {v : Nat} (hv : v < s_nv S) : σ 95 (9 * v) = nI (s_own S v) ∧ σ 95 (9 * v + 1) = nI (s_a S v) ∧ σ 95 (9 * v + 2) = nI (s_b S v) ∧ σ 95 (9 * v + 3) = nI (s_c S v) ∧ σ 95 (9 * v + 4) = nI (s_pre S v) ∧ σ 95 (9 * v + 5) = nI (s_plc S v) ∧ σ 95 (9 * v + 7) = nI (s_plat S v) := h.1.2.1 v hv
theorem RM.ynk (h : RM S σ) {v : Nat} (hv : v < 24) : σ 95 (9 * v + 6) = nI (s_ynk S v) := (h.1.2.2.1 v hv).1
theorem RM.nn (h : RM S σ) {v : Nat} (hv : v < 24) : σ 95 (9 * v + 8) = nI (s_nn S v) := (h.1.2.2.1 v hv).2
theorem RM.br (h : RM S σ) {i : Nat} (hi : i < 72) : σ 96 i = nI (s_br S i) := h.1.2.2.2 i hi
theorem RM.nr (h : RM S σ) : σ 94 2 = nI (s_nr S) := h.2.1.1
theorem RM.rng (h : RM S σ) {r : Nat} (hr : r < s_nr S) : σ 98 (5 * r) = nI (s_rk S r) ∧ σ 98 (5 * r + 1) = nI (s_ra S r) ∧ σ 98 (5 * r + 2) = nI (s_rb S r) ∧ σ 98 (5 * r + 3) = nI (s_rc S r) ∧ σ 98 (5 * r + 4) = nI (s_rp S r) := h.2.1.2.1 r hr
theorem RM.has (h : RM S σ) {r v : Nat} (hr : r < s_nr S) (hv : v < s_nv S) : σ 99 (24 * r + v) = nI (s_has S (24 * r + v)) := h.2.1.2.2 r v hr hv
theorem RM.need (h : RM S σ) {v k : Nat} (hv : v < s_nv S) (hk : k < s_nn S v) : σ 97 (6 * (5 * v + k)) = nI (s_tgt S (5 * v + k)) ∧ σ 97 (6 * (5 * v + k) + 1) = nI (s_nrg S (5 * v + k)) ∧ σ 97 (6 * (5 * v + k) + 2) = nI (s_nkd S (5 * v + k)) ∧ σ 97 (6 * (5 * v + k) + 3) = oi (s_nft S (5 * v + k)) ∧ σ 97 (6 * (5 * v + k) + 4) = nI (s_npl S (5 * v + k)) ∧ σ 97 (6 * (5 * v + k) + 5) = nI (s_nfs S (5 * v + k)) := h.2.2.1 v k hv hk
theorem RM.nd (h : RM S σ) : σ 94 3 = nI (s_nd S) := h.2.2.2.1.1
theorem RM.dem (h : RM S σ) {d : Nat} (hd : d < s_nd S) : σ 100 (4 * d) = nI (s_dws S d) ∧ σ 100 (4 * d + 1) = nI (s_dtg S d) ∧ σ 100 (4 * d + 2) = nI (s_drg S d) ∧ σ 100 (4 * d + 3) = nI (s_dfs S d) := h.2.2.2.1.2 d hd
theorem RM.na (h : RM S σ) : σ 94 4 = nI (s_na S) := h.2.2.2.2.1
theorem RM.adv (h : RM S σ) {i : Nat} (hi : i < s_na S) : σ 101 (2 * i) = nI (s_apk S i) ∧ σ 101 (2 * i + 1) = nI (s_arg S i) := h.2.2.2.2.2.1 i hi
theorem RM.pkg (h : RM S σ) {p : Nat} (hp : p < 6) : σ 102 p = oi (s_rep S p) ∧ σ 103 p = oi (s_lock S p) ∧ σ 104 p = oi (s_dsk S p) := h.2.2.2.2.2.2.1 p hp
theorem RM.plt (h : RM S σ) : σ 94 5 = nI (s_plt S) := h.2.2.2.2.2.2.2.1
theorem RM.wsp (h : RM S σ) : σ 94 6 = nI (s_wsp S) := h.2.2.2.2.2.2.2.2.1
theorem RM.upd (h : RM S σ) : σ 94 7 = nI (s_upd S) := h.2.2.2.2.2.2.2.2.2
theorem rk4_lt {a b c p : Nat} (ha : a ≤ 10) (hb : b ≤ 10) (hc : c ≤ 10) (hp : p ≤ 9) : rk4 a b c p < 65536 := by
  unfold rk4
  split <;> omega
theorem WF.rank (h : WF S) {v : Nat} (hv : v < s_nv S) : s_rank S v < 65536 := by
  obtain ⟨h1, h2, h3, h4, -⟩ := h.abc hv
  exact rk4_lt (by omega) (by omega) (by omega) h4
theorem s_mem_lt (p i : Nat) : s_mem S p i ≤ s_nv S := by
  unfold s_mem
  cases h : (s_vs S p)[i]? with
  | none => exact Nat.zero_le _
  | some v =>
    have := List.mem_of_getElem? h
    unfold s_vs at this
    have := List.mem_range.mp (List.mem_filter.mp this).1
    exact this
theorem s_mem_own {p i v : Nat} (h : s_mem S p i = v + 1) : v < s_nv S ∧ s_own S v = p := by
  unfold s_mem at h
  cases h2 : (s_vs S p)[i]? with
  | none => rw [h2] at h; cases h
  | some w =>
    rw [h2] at h
    have e : w = v := by simpa using h
    subst e
    have := List.mem_of_getElem? h2
    unfold s_vs at this
    have h3 := List.mem_filter.mp this
    exact ⟨List.mem_range.mp h3.1, by simpa using h3.2⟩
theorem s_vs_mem {p v : Nat} : v ∈ s_vs S p ↔ v < s_nv S ∧ s_own S v = p := by
  unfold s_vs
  rw [List.mem_filter, List.mem_range]
  simp
theorem WF.mem_ex (hW : WF S) {v : Nat} (hv : v < s_nv S) : ∃ i, i < 4 ∧ s_mem S (s_own S v) i = v + 1 := by
  obtain ⟨i, hi, h⟩ := List.getElem_of_mem (s_vs_mem.mpr ⟨hv, rfl⟩ : v ∈ s_vs S (s_own S v))
  have h4 := hW.siz (hW.own hv)
  refine ⟨i, by omega, ?_⟩
  unfold s_mem
  rw [List.getElem?_eq_getElem hi, h]
end ACC
