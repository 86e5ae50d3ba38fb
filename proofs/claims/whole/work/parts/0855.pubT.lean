/-! ===== a new version: the numbers ===== -/
section PUBT
variable {S : SP} {σ : Mem}
/-- which ranges have a new version, out of its numbers alone -/
def inhF (S : SP) (va vb vc vp : Nat) : Nat → Nat → Bool
  | 0, _ => false
  | n + 1, r => if s_rk S r = 8 then inhF S va vb vc vp n (s_ra S r) && inhF S va vb vc vp n (s_rb S r) else if s_rk S r = 9 then inhF S va vb vc vp n (s_ra S r) || inhF S va vb vc vp n (s_rb S r) else s_reach (s_rk S r) (s_ra S r) (s_rb S r) (s_rc S r) (s_rp S r) va vb vc vp
def inh (S : SP) (va vb vc vp r : Nat) : Bool := inhF S va vb vc vp (r + 1) r
theorem inhF_ok (hW : WF S) {va vb vc vp : Nat} : ∀ (n m r : Nat), r < s_nr S → r < n → r < m → inhF S va vb vc vp n r = inhF S va vb vc vp m r
  | 0, _, _, _, h, _ => by omega
  | _ + 1, 0, _, _, _, h => by omega
  | n + 1, m + 1, r, hr, hn, hm => by
    unfold inhF
    by_cases g : 8 ≤ s_rk S r
    · obtain ⟨q1, q2⟩ := (hW.rng hr).2.2 g
      rw [inhF_ok hW n m (s_ra S r) (by omega) (by omega) (by omega), inhF_ok hW n m (s_rb S r) (by omega) (by omega) (by omega)]
    · rw [if_neg (show ¬ s_rk S r = 8 by omega), if_neg (show ¬ s_rk S r = 9 by omega), if_neg (show ¬ s_rk S r = 8 by omega), if_neg (show ¬ s_rk S r = 9 by omega)]
theorem inh_rec (hW : WF S) {va vb vc vp r : Nat} (hr : r < s_nr S) : inh S va vb vc vp r = if s_rk S r = 8 then inh S va vb vc vp (s_ra S r) && inh S va vb vc vp (s_rb S r) else if s_rk S r = 9 then inh S va vb vc vp (s_ra S r) || inh S va vb vc vp (s_rb S r) else s_reach (s_rk S r) (s_ra S r) (s_rb S r) (s_rc S r) (s_rp S r) va vb vc vp := by
  have h0 : inh S va vb vc vp r = if s_rk S r = 8 then inhF S va vb vc vp r (s_ra S r) && inhF S va vb vc vp r (s_rb S r) else if s_rk S r = 9 then inhF S va vb vc vp r (s_ra S r) || inhF S va vb vc vp r (s_rb S r) else s_reach (s_rk S r) (s_ra S r) (s_rb S r) (s_rc S r) (s_rp S r) va vb vc vp := rfl
  rw [h0]
  by_cases g : 8 ≤ s_rk S r
  · obtain ⟨q1, q2⟩ := (hW.rng hr).2.2 g
    unfold inh
    rw [inhF_ok hW r (s_ra S r + 1) (s_ra S r) (by omega) (by omega) (by omega), inhF_ok hW r (s_rb S r + 1) (s_rb S r) (by omega) (by omega) (by omega)]
  · rw [if_neg (show ¬ s_rk S r = 8 by omega), if_neg (show ¬ s_rk S r = 9 by omega), if_neg (show ¬ s_rk S r = 8 by omega), if_neg (show ¬ s_rk S r = 9 by omega)]
def pubT (S : SP) (p a b c q pl : Nat) : SP := stK (stK (stK (stK (stK (stK (stK (stK S 18 (fun x => if x % 24 = s_nv S then (if inh S a b c q (x / 24) = true then 1 else 0) else S 18 x)) 1 (fun v => if v = s_nv S then p else S 1 v)) 2 (fun v => if v = s_nv S then a else S 2 v)) 3 (fun v => if v = s_nv S then b else S 3 v)) 4 (fun v => if v = s_nv S then c else S 4 v)) 5 (fun v => if v = s_nv S then q else S 5 v)) 6 (fun v => if v = s_nv S then pl else S 6 v)) 0 (fun _ => s_nv S + 1)
theorem cntR_len (n : Nat) (f : Nat → Bool) : ((List.range n).filter f).length = cntR n f := by
  induction n with
  | zero => rfl
  | succ n ih =>
    rw [List.range_succ, List.filter_append, List.length_append, ih]
    cases h : f n with
    | false => rw [cntR_s0 h, List.filter_cons_of_neg (by rw [h]; decide)]; rfl
    | true => rw [cntR_s1 h, List.filter_cons_of_pos h]; rfl
theorem own_sum {f : Nat → Nat} : ∀ n, (∀ v, v < n → f v < 6) → cntR n (fun v => f v == 0) + cntR n (fun v => f v == 1) + cntR n (fun v => f v == 2) + cntR n (fun v => f v == 3) + cntR n (fun v => f v == 4) + cntR n (fun v => f v == 5) = n
  | 0, _ => rfl
  | n + 1, h => by
    have ih := own_sum (f := f) n (fun v hv => h v (by omega))
    have h6 := h n (by omega)
    have st : ∀ j, cntR (n + 1) (fun v => f v == j) = cntR n (fun v => f v == j) + (if f n = j then 1 else 0) := fun j => by
      show cntR n _ + (if (f n == j) = true then 1 else 0) = _
      by_cases e : f n = j
      · rw [if_pos (beq_iff_eq.mpr e), if_pos e]
      · rw [if_neg (by simp [e]), if_neg e]
    rw [st, st, st, st, st, st]
    rcases (show f n = 0 ∨ f n = 1 ∨ f n = 2 ∨ f n = 3 ∨ f n = 4 ∨ f n = 5 by omega) with e | e | e | e | e | e <;> rw [e] <;> simp <;> omega
/-- where a package isn't full, not all are -/
theorem room24 (hW : WF S) {p : Nat} (hp : p < 6) (h : (s_vs S p).length < 4) : s_nv S < 24 := by
  have hl : ∀ j, (s_vs S j).length = cntR (s_nv S) fun v => s_own S v == j := fun j => cntR_len _ _
  have hs := own_sum (f := s_own S) (s_nv S) (fun v hv => hW.own hv)
  have h0 := hW.siz (p := 0) (by omega)
  have h1 := hW.siz (p := 1) (by omega)
  have h2 := hW.siz (p := 2) (by omega)
  have h3 := hW.siz (p := 3) (by omega)
  have h4 := hW.siz (p := 4) (by omega)
  have h5 := hW.siz (p := 5) (by omega)
  rw [hl] at h h0 h1 h2 h3 h4 h5
  rcases (show p = 0 ∨ p = 1 ∨ p = 2 ∨ p = 3 ∨ p = 4 ∨ p = 5 by omega) with rfl | rfl | rfl | rfl | rfl | rfl <;> omega
variable {p a b c q pl : Nat}
theorem pubT_vs {j : Nat} : s_vs (pubT S p a b c q pl) j = s_vs S j ++ (if j = p then [s_nv S] else []) := by
  have e : ∀ v, s_own (pubT S p a b c q pl) v = if v = s_nv S then p else s_own S v := fun v => rfl
  show ((List.range (s_nv S + 1)).filter fun v => s_own (pubT S p a b c q pl) v == j) = _
  rw [List.range_succ, List.filter_append]
  have h1 : ((List.range (s_nv S)).filter fun v => s_own (pubT S p a b c q pl) v == j) = s_vs S j := by
    unfold s_vs
    refine List.filter_congr fun v hv => ?_
    have := List.mem_range.mp hv
    rw [e, if_neg (by omega)]
  rw [h1]
  congr 1
  by_cases g : j = p
  · rw [if_pos g, List.filter_cons_of_pos (by rw [e, if_pos rfl, g]; exact beq_self_eq_true p)]
    rfl
  · rw [if_neg g, List.filter_cons_of_neg (by rw [e, if_pos rfl]; simp; omega)]
    rfl
theorem pubT_rank {v : Nat} : s_rank (pubT S p a b c q pl) v = if v = s_nv S then rk4 a b c q else s_rank S v := by
  show rk4 (if v = s_nv S then a else S 2 v) (if v = s_nv S then b else S 3 v) (if v = s_nv S then c else S 4 v) (if v = s_nv S then q else S 5 v) = _
  by_cases e : v = s_nv S
  · simp only [if_pos e]
  · simp only [if_neg e]
    rfl
theorem pubT_has {r v : Nat} (hv : v < 24) : s_has (pubT S p a b c q pl) (24 * r + v) = if v = s_nv S then (if inh S a b c q r = true then 1 else 0) else s_has S (24 * r + v) := by
  show (if (24 * r + v) % 24 = s_nv S then (if inh S a b c q ((24 * r + v) / 24) = true then 1 else 0) else S 18 (24 * r + v)) = _
  rw [show (24 * r + v) % 24 = v by omega, show (24 * r + v) / 24 = r by omega]
theorem pubT_inR (hW : WF S) {r v : Nat} (hr : r < s_nr S) (hv : v < s_nv S) (h24 : s_nv S < 24) : s_inR (pubT S p a b c q pl) r v = s_inR S r v := by
  have ne : ¬ v = s_nv S := by omega
  have e2 : s_a (pubT S p a b c q pl) v = s_a S v := if_neg ne
  have e3 : s_b (pubT S p a b c q pl) v = s_b S v := if_neg ne
  have e4 : s_c (pubT S p a b c q pl) v = s_c S v := if_neg ne
  have e5 : s_pre (pubT S p a b c q pl) v = s_pre S v := if_neg ne
  unfold s_inR
  rw [pubT_has (by omega), pubT_has (by omega), if_neg ne, if_neg ne, e2, e3, e4, e5]
  rfl
theorem pubT_inN (hW : WF S) {r : Nat} (hr : r < s_nr S) (h24 : s_nv S < 24) : s_inR (pubT S p a b c q pl) r (s_nv S) = inh S a b c q r := by
  have e2 : s_a (pubT S p a b c q pl) (s_nv S) = a := if_pos rfl
  have e3 : s_b (pubT S p a b c q pl) (s_nv S) = b := if_pos rfl
  have e4 : s_c (pubT S p a b c q pl) (s_nv S) = c := if_pos rfl
  have e5 : s_pre (pubT S p a b c q pl) (s_nv S) = q := if_pos rfl
  have one : ∀ x : Bool, ((if x = true then 1 else 0 : Nat) == 1) = x := fun x => by cases x <;> rfl
  rw [inh_rec hW hr]
  unfold s_inR
  rw [pubT_has h24, pubT_has h24, if_pos rfl, if_pos rfl, e2, e3, e4, e5, one, one]
  rfl
theorem pubT_WF (hW : WF S) (h24 : s_nv S < 24) (hp : p < 6) (ha : a ≤ 9) (hb : b ≤ 9) (hc : c ≤ 9) (hq : q ≤ 9) (hpl : pl ≤ 1) (hl : (s_vs S p).length < 4) (hno : ∀ v, v < s_nv S → s_own S v = p → s_rank S v ≠ rk4 a b c q) : WF (pubT S p a b c q pl) := by
  obtain ⟨T, hT⟩ : ∃ T : SP, T = pubT S p a b c q pl := ⟨_, rfl⟩
  have G : gk [0, 1, 2, 3, 4, 5, 6, 18] S T := by
    rw [hT]
    exact (((((((gk_st (by decide)).st (by decide)).st (by decide)).st (by decide)).st (by decide)).st (by decide)).st (by decide)).st (by decide)
  have g0 : s_nv T = s_nv S + 1 := by rw [hT]; rfl
  have y1 : ∀ v, s_own T v = if v = s_nv S then p else s_own S v := fun v => by rw [hT]; rfl
  have y2 : ∀ v, s_a T v = if v = s_nv S then a else s_a S v := fun v => by rw [hT]; rfl
  have y3 : ∀ v, s_b T v = if v = s_nv S then b else s_b S v := fun v => by rw [hT]; rfl
  have y4 : ∀ v, s_c T v = if v = s_nv S then c else s_c S v := fun v => by rw [hT]; rfl
  have y5 : ∀ v, s_pre T v = if v = s_nv S then q else s_pre S v := fun v => by rw [hT]; rfl
  have y6 : ∀ v, s_plc T v = if v = s_nv S then pl else s_plc S v := fun v => by rw [hT]; rfl
  have yr : ∀ v, s_rank T v = if v = s_nv S then rk4 a b c q else s_rank S v := fun v => by rw [hT]; exact pubT_rank
  have k7 : s_ynk T = s_ynk S := G 7 (by decide)
  have k8 : s_plat T = s_plat S := G 8 (by decide)
  have k9 : s_nn T = s_nn S := G 9 (by decide)
  have k10 : s_br T = s_br S := G 10 (by decide)
  have g17 : s_nr T = s_nr S := by rw [s_nr, G 17 (by decide)]
  have nlt : ∀ v, v < s_nv S + 1 → ¬ v = s_nv S → v < s_nv S := fun v h1 h2 => by omega
  rw [← hT]
  refine ⟨⟨?_, ?_, ?_, ?_, ?_, ?_, ?_, ?_⟩, ⟨?_, ?_, ?_⟩, ?_, hW.2.2.2.1.S (G.on (by decide)), hW.2.2.2.2.x0 (G.on (by decide)) ?_ ?_⟩
  · rw [g0]
    omega
  · intro v hv
    rw [g0] at hv
    rw [y1, y2, y3, y4, y5, y6]
    by_cases e : v = s_nv S
    · simp only [if_pos e]
      exact ⟨hp, ha, hb, hc, hq, hpl⟩
    · simp only [if_neg e]
      exact hW.1.2.1 v (nlt v hv e)
  · rw [k7, k8, k9]
    exact hW.1.2.2.1
  · intro v hv hv2
    rw [g0] at hv
    rw [k7, k8, k9]
    exact hW.fresh (by omega) hv2
  · rw [k10]
    exact hW.1.2.2.2.2.1
  · intro i hi hi2
    rw [g0] at hi2
    rw [k10]
    exact hW.br0 hi (by omega)
  · intro j hj
    have h0 := hW.siz hj
    rw [hT, pubT_vs, List.length_append]
    by_cases e : j = p
    · rw [if_pos e, e]
      exact hl
    · rw [if_neg e]
      exact h0
  · intro v w hv hw h1 h2
    rw [g0] at hv hw
    rw [y1, y1] at h1
    rw [yr, yr] at h2
    by_cases ev : v = s_nv S
    · by_cases ew : w = s_nv S
      · rw [ev, ew]
      · rw [if_pos ev, if_neg ew] at h1 h2
        exact absurd h2.symm (hno w (nlt w hw ew) h1.symm)
    · by_cases ew : w = s_nv S
      · rw [if_neg ev, if_pos ew] at h1 h2
        exact absurd h2 (hno v (nlt v hv ev) h1)
      · rw [if_neg ev, if_neg ew] at h1 h2
        exact hW.inj (nlt v hv ev) (nlt w hw ew) h1 h2
  · rw [g17]
    exact hW.nr
  · intro r hr
    rw [g17] at hr
    rw [show s_rk T = s_rk S from G 19 (by decide), show s_ra T = s_ra S from G 20 (by decide), show s_rb T = s_rb S from G 21 (by decide), show s_rc T = s_rc S from G 22 (by decide), show s_rp T = s_rp S from G 23 (by decide)]
    exact hW.rng hr
  · intro r v hr hv
    rw [g17] at hr
    rw [g0] at hv
    rw [hT, pubT_has (show v < 24 by omega)]
    by_cases e : v = s_nv S
    · rw [if_pos e, e, pubT_inN hW hr h24]
    · rw [if_neg e, pubT_inR hW hr (nlt v hv e) h24]
      exact hW.has hr (nlt v hv e)
  · intro v j hv hj
    rw [g0] at hv
    rw [k9] at hj
    have hv2 : v < s_nv S := by
      by_cases e : v = s_nv S
      · have := (hW.fresh (v := v) (by omega) (by omega)).2.2
        omega
      · exact nlt v hv e
    rw [show s_tgt T = s_tgt S from G 11 (by decide), show s_nrg T = s_nrg S from G 12 (by decide), show s_nkd T = s_nkd S from G 13 (by decide), show s_nft T = s_nft S from G 14 (by decide), show s_npl T = s_npl S from G 15 (by decide), show s_nfs T = s_nfs S from G 16 (by decide), g17]
    exact hW.need hv2 hj
  · intro j hj
    obtain ⟨h1, h2⟩ := hW.lock hj
    rw [show s_lock T = s_lock S from G 33 (by decide), g0]
    refine ⟨by omega, fun h0 => ?_⟩
    rw [y1, if_neg (by omega)]
    exact h2 h0
  · intro j hj
    have := hW.dsk hj
    rw [show s_dsk T = s_dsk S from G 37 (by decide), g0]
    omega
end PUBT
