/-! ===== a new range: the numbers ===== -/
section ADDR
variable {S : SP} {σ : Mem}
theorem gk.st {K : List Nat} {S1 : SP} {k : Nat} {f : Nat → Nat} (h : gk K S S1) (hk : k ∈ K) : gk K S (stK S1 k f) := fun j hj => (stK_k (S := S1) (f := f) (show j ≠ k from fun e => hj (by rw [e]; exact hk))).trans (h j hj)
def addT (S : SP) (k a b c p : Nat) (inn : Nat → Bool) : SP := stK (stK (stK (stK (stK (stK (stK S 18 (fun x => if 24 * s_nr S ≤ x then (if inn (x - 24 * s_nr S) = true then 1 else 0) else S 18 x)) 19 (fun r => if r = s_nr S then k else S 19 r)) 20 (fun r => if r = s_nr S then a else S 20 r)) 21 (fun r => if r = s_nr S then b else S 21 r)) 22 (fun r => if r = s_nr S then c else S 22 r)) 23 (fun r => if r = s_nr S then p else S 23 r)) 17 (fun _ => s_nr S + 1)
variable {k a b c p : Nat} {inn : Nat → Bool}
theorem addT_has {x : Nat} (h : x < 24 * s_nr S) : s_has (addT S k a b c p inn) x = s_has S x := by
  show (if 24 * s_nr S ≤ x then (if inn (x - 24 * s_nr S) = true then 1 else 0) else S 18 x) = _
  rw [if_neg (by omega)]
theorem addT_hasN {v : Nat} : s_has (addT S k a b c p inn) (24 * s_nr S + v) = if inn v = true then 1 else 0 := by
  show (if 24 * s_nr S ≤ 24 * s_nr S + v then (if inn (24 * s_nr S + v - 24 * s_nr S) = true then 1 else 0) else S 18 _) = _
  rw [if_pos (by omega), Nat.add_sub_cancel_left]
theorem addT_flaw (hW : WF S) {v : Nat} (hv : v < 24) : s_flaw (addT S k a b c p inn) v = s_flaw S v := by
  have e : anyR (s_na S) (fun i => s_apk S i == s_own S v && s_has (addT S k a b c p inn) (24 * s_arg S i + v) == 1) = anyR (s_na S) (fun i => s_apk S i == s_own S v && s_has S (24 * s_arg S i + v) == 1) := anyR_congr fun i hi => by
    have := (hW.adv hi).2
    rw [addT_has (by omega)]
  show (if s_plc S v = 1 ∧ s_first S (s_own S v) = true then 1
    else if s_ynk S v = 1 ∧ s_lock S (s_own S v) ≠ v + 1 then 2
    else if (s_plat S v).testBit (s_plt S) = false then 3
    else if anyR (s_na S) (fun i => s_apk S i == s_own S v && s_has (addT S k a b c p inn) (24 * s_arg S i + v) == 1) = true then 4
    else 0) = _
  rw [e]
  rfl
theorem addT_cand (hW : WF S) {q x : Nat} : Cand (addT S k a b c p inn) q x ↔ Cand S q x := by
  have h24 := hW.nv
  unfold Cand
  constructor
  · rintro (h | ⟨h1, h2, h3⟩)
    · exact Or.inl h
    · have h1 : x - 1 < s_nv S := h1
      exact Or.inr ⟨h1, h2, by rw [← addT_flaw hW (show x - 1 < 24 by omega)]; exact h3⟩
  · rintro (h | ⟨h1, h2, h3⟩)
    · exact Or.inl h
    · exact Or.inr ⟨h1, h2, by rw [addT_flaw hW (show x - 1 < 24 by omega)]; exact h3⟩
theorem addT_sol (hW : WF S) {D : Nat} {f : Nat → Nat} : SolF (addT S k a b c p inn) D f ↔ SolF S D f := by
  have h24 := hW.nv
  have hle : (∀ q, q < 6 → Cand S q (f q)) → ∀ q, q < 6 → f q ≤ s_nv S := fun h q hq => by
    rcases h q hq with g | g
    · omega
    · have := g.1
      omega
  have hd : (∀ q, q < 6 → Cand S q (f q)) → ∀ d, d < s_nd S → f (s_heir S (s_dtg S d)) ≠ 0 → s_has (addT S k a b c p inn) (24 * s_drg S d + (f (s_heir S (s_dtg S d)) - 1)) = s_has S (24 * s_drg S d + (f (s_heir S (s_dtg S d)) - 1)) := fun h d hd h0 => by
    have h1 := hle h _ (s_heir_lt hW (hW.dem hd).2.1)
    have h2 := (hW.dem hd).2.2.1
    exact addT_has (by omega)
  have hn : (∀ q, q < 6 → Cand S q (f q)) → ∀ q, q < 6 → f q ≠ 0 → ∀ j, j < s_nn S (f q - 1) → f (s_heir S (s_tgt S (5 * (f q - 1) + j))) ≠ 0 → s_has (addT S k a b c p inn) (24 * s_nrg S (5 * (f q - 1) + j) + (f (s_heir S (s_tgt S (5 * (f q - 1) + j))) - 1)) = s_has S (24 * s_nrg S (5 * (f q - 1) + j) + (f (s_heir S (s_tgt S (5 * (f q - 1) + j))) - 1)) := fun h q hq h0 j hj h1 => by
    have g1 := hle h q hq
    have g2 := hW.need (show f q - 1 < s_nv S by omega) hj
    have g3 := hle h _ (s_heir_lt hW g2.1)
    have g4 := g2.2.1
    exact addT_has (by omega)
  constructor
  · rintro ⟨h1, h2, h3, h4⟩
    have c1 : ∀ q, q < 6 → Cand S q (f q) := fun q hq => (addT_cand hW).mp (h1 q hq)
    refine ⟨c1, fun d hd1 hb => ?_, fun q hq h0 j hj hc => ?_, h4⟩
    · obtain ⟨g1, g2⟩ := h2 d hd1 hb
      exact ⟨g1, (hd c1 d hd1 g1).symm.trans g2⟩
    · obtain ⟨g1, g2⟩ := h3 q hq h0 j hj hc
      exact ⟨g1, fun g3 => (hn c1 q hq h0 j hj g3).symm.trans (g2 g3)⟩
  · rintro ⟨h1, h2, h3, h4⟩
    refine ⟨fun q hq => (addT_cand hW).mpr (h1 q hq), fun d hd1 hb => ?_, fun q hq h0 j hj hc => ?_, h4⟩
    · obtain ⟨g1, g2⟩ := h2 d hd1 hb
      exact ⟨g1, (hd h1 d hd1 g1).trans g2⟩
    · obtain ⟨g1, g2⟩ := h3 q hq h0 j hj hc
      exact ⟨g1, fun g3 => (hn h1 q hq h0 j hj g3).trans (g2 g3)⟩
theorem addT_found (hW : WF S) (h : FoundOK S σ) : FoundOK (addT S k a b c p inn) σ := by
  obtain ⟨n, ⟨l, l1, l2, l3⟩, g2, g3, g4⟩ := h
  refine ⟨n, ⟨l, l1, fun x => ?_, l3⟩, g2, g3, fun h0 => ?_⟩
  · refine (l2 x).trans ⟨fun h => ⟨h.1, (addT_sol hW).mpr h.2⟩, fun h => ⟨h.1, (addT_sol hW).mp h.2⟩⟩
  · obtain ⟨f, ⟨f1, f2⟩, f3⟩ := g4 h0
    exact ⟨f, ⟨(addT_sol hW).mpr f1, fun f' hs hne => f2 f' ((addT_sol hW).mp hs) hne⟩, f3⟩
theorem addT_inR (hW : WF S) {r v : Nat} (hr : r < s_nr S) (hv : v < s_nv S) : s_inR (addT S k a b c p inn) r v = s_inR S r v := by
  have h24 := hW.nv
  obtain ⟨h9, hlo, hhi⟩ := hW.rng hr
  have e1 : s_rk (addT S k a b c p inn) r = s_rk S r := if_neg (by omega)
  have e2 : s_ra (addT S k a b c p inn) r = s_ra S r := if_neg (by omega)
  have e3 : s_rb (addT S k a b c p inn) r = s_rb S r := if_neg (by omega)
  have e4 : s_rc (addT S k a b c p inn) r = s_rc S r := if_neg (by omega)
  have e5 : s_rp (addT S k a b c p inn) r = s_rp S r := if_neg (by omega)
  unfold s_inR
  rw [e1, e2, e3, e4, e5]
  by_cases g : 8 ≤ s_rk S r
  · obtain ⟨q1, q2⟩ := hhi g
    rw [addT_has (x := 24 * s_ra S r + v) (by omega), addT_has (x := 24 * s_rb S r + v) (by omega)]
    rfl
  · rw [if_neg (show ¬ s_rk S r = 8 by omega), if_neg (show ¬ s_rk S r = 9 by omega), if_neg (show ¬ s_rk S r = 8 by omega), if_neg (show ¬ s_rk S r = 9 by omega)]
    rfl
/-- what a new range has -/
def innR (S : SP) (k a b c p v : Nat) : Bool :=
  if k = 8 then s_has S (24 * a + v) == 1 && s_has S (24 * b + v) == 1
  else if k = 9 then s_has S (24 * a + v) == 1 || s_has S (24 * b + v) == 1
  else s_reach k a b c p (s_a S v) (s_b S v) (s_c S v) (s_pre S v)
theorem addR_inv (hI : InvS S σ) {M : Mem} (hn : s_nr S < 30) (hk : k ≤ 9) (hlow : k < 8 → a ≤ 9 ∧ b ≤ 9 ∧ c ≤ 9 ∧ p ≤ 9 ∧ (k = 3 ∨ k = 6 ∨ k = 7 → p = 0) ∧ (k = 6 → b = 0) ∧ (k = 6 ∨ k = 7 → c = 0)) (hhigh : 8 ≤ k → a < s_nr S ∧ b < s_nr S) (hinn : ∀ v, v < s_nv S → inn v = innR S k a b c p v) (FR : fr [17, 19, 21, 23, 25, 27, 29, 31, 94, 98, 99] σ M) (E94 : c94 [0, 2] σ M) (m17 : M 17 7 = nI (s_nr S + 1)) (mo : ∀ q, q ∈ [19, 21, 23, 25, 27, 29, 31] → ∀ j, j ≠ s_nr S → M q j = σ q j) (m31 : M 31 (s_nr S) = nI (setB (s_nv S) inn)) (mlow : k < 8 → M 19 (s_nr S) = 3 ∧ M 27 (s_nr S) = -1 ∧ M 29 (s_nr S) = -1 ∧ M 21 (s_nr S) = nI (fromK k a b c p) ∧ M 23 (s_nr S) = nI (endK k a b c p) ∧ M 25 (s_nr S) = oi (triK a b c p)) (mhigh : 8 ≤ k → M 19 (s_nr S) = nI k ∧ M 27 (s_nr S) = nI a ∧ M 29 (s_nr S) = nI b) (m942 : M 94 2 = nI (s_nr S + 1)) (m98o : ∀ j, j < 5 * s_nr S → M 98 j = σ 98 j) (m98 : RgR M (s_nr S) k a b c p) (m99o : ∀ j, j < 24 * s_nr S → M 99 j = σ 99 j) (m99 : ∀ v, v < s_nv S → M 99 (24 * s_nr S + v) = b2i (inn v)) : Inv M := by
  obtain ⟨hW, hR, hM, hS, hC⟩ := id hI
  have h24 := hW.nv
  obtain ⟨T, hT⟩ : ∃ T : SP, T = addT S k a b c p inn := ⟨_, rfl⟩
  have G : gk [17, 18, 19, 20, 21, 22, 23] S T := by
    rw [hT]
    exact ((((((gk_st (by decide)).st (by decide)).st (by decide)).st (by decide)).st (by decide)).st (by decide)).st (by decide)
  have g0 : s_nv T = s_nv S := by rw [s_nv, G 0 (by decide)]
  have g17 : s_nr T = s_nr S + 1 := by rw [hT]; rfl
  have yk : ∀ r, s_rk T r = if r = s_nr S then k else s_rk S r := fun r => by rw [hT]; rfl
  have ya : ∀ r, s_ra T r = if r = s_nr S then a else s_ra S r := fun r => by rw [hT]; rfl
  have yb : ∀ r, s_rb T r = if r = s_nr S then b else s_rb S r := fun r => by rw [hT]; rfl
  have yc : ∀ r, s_rc T r = if r = s_nr S then c else s_rc S r := fun r => by rw [hT]; rfl
  have yp : ∀ r, s_rp T r = if r = s_nr S then p else s_rp S r := fun r => by rw [hT]; rfl
  have yh : ∀ x, x < 24 * s_nr S → s_has T x = s_has S x := fun x hx => by rw [hT]; exact addT_has hx
  have yn : ∀ v, s_has T (24 * s_nr S + v) = if inn v = true then 1 else 0 := fun v => by rw [hT]; exact addT_hasN
  have yf : ∀ r, s_from T r = fromK (s_rk T r) (s_ra T r) (s_rb T r) (s_rc T r) (s_rp T r) := fun r => rfl
  have ye : ∀ r, s_end T r = endK (s_rk T r) (s_ra T r) (s_rb T r) (s_rc T r) (s_rp T r) := fun r => rfl
  have yt : ∀ r, s_tri T r = triK (s_ra T r) (s_rb T r) (s_rc T r) (s_rp T r) := fun r => rfl
  have nlt : ∀ r, r < s_nr S + 1 → ¬ r = s_nr S → r < s_nr S := fun r h1 h2 => by omega
  refine ⟨T, ⟨hW.1.S (G.on (by decide)), ⟨?_, ?_, ?_⟩, ?_, ⟨?_, ?_⟩, hW.2.2.2.2.x17 (G.on (by decide)) ?_⟩, ⟨hR.1.S (G.on (by decide)) (mk_fr FR (by decide)), ⟨?_, ?_, ?_, ?_, ?_⟩, hR.2.2.1.S (G.on (by decide)) (mk_fr FR (by decide)), hR.2.2.2.1.S (G.on (by decide)) (mk_fr FR (by decide)), hR.2.2.2.2.S (G.on (by decide)) (mk_fr FR (by decide))⟩, ⟨hM.1.S (G.on (by decide)) (mk_fr FR (by decide)) (E94.on (by decide)), ⟨?_, ?_, ?_⟩, hM.2.2.1.S (G.on (by decide)) (mk_fr FR (by decide)), hM.2.2.2.1.S (G.on (by decide)) (mk_fr FR (by decide)) (E94.on (by decide)), hM.2.2.2.2.S (G.on (by decide)) (mk_fr FR (by decide)) (E94.on (by decide))⟩, hS.chg (G 37 (by decide)) (FR 93 (by decide)) (FR 105 (by decide)) (FR 112 (by decide)), ?_⟩
  · rw [g17]
    omega
  · intro r hr
    rw [g17] at hr
    rw [yk, ya, yb, yc, yp]
    by_cases e : r = s_nr S
    · simp only [if_pos e]
      refine ⟨hk, hlow, fun h => ?_⟩
      rw [e]
      exact hhigh h
    · simp only [if_neg e]
      exact hW.rng (nlt r hr e)
  · intro r v hr hv
    rw [g17] at hr
    rw [g0] at hv
    by_cases e : r = s_nr S
    · subst e
      rw [yn, hinn v hv]
      have : s_inR T (s_nr S) v = innR S k a b c p v := by
        unfold s_inR innR
        rw [yk, ya, yb, yc, yp, if_pos rfl, if_pos rfl, if_pos rfl, if_pos rfl, if_pos rfl, show s_a T = s_a S from G 2 (by decide), show s_b T = s_b S from G 3 (by decide), show s_c T = s_c S from G 4 (by decide), show s_pre T = s_pre S from G 5 (by decide)]
        by_cases g : 8 ≤ k
        · obtain ⟨q1, q2⟩ := hhigh g
          rw [yh (24 * a + v) (by omega), yh (24 * b + v) (by omega)]
        · rw [if_neg (show ¬ k = 8 by omega), if_neg (show ¬ k = 9 by omega), if_neg (show ¬ k = 8 by omega), if_neg (show ¬ k = 9 by omega)]
      rw [this]
    · have hr2 := nlt r hr e
      rw [yh _ (by omega), show s_inR T r v = s_inR S r v from by rw [hT]; exact addT_inR hW hr2 hv]
      exact hW.has hr2 hv
  · intro v j hv hj
    rw [g0] at hv
    have hj : j < s_nn S v := by
      rw [show s_nn T = s_nn S from G 9 (by decide)] at hj
      exact hj
    have := hW.need hv hj
    rw [show s_tgt T = s_tgt S from G 11 (by decide), show s_nrg T = s_nrg S from G 12 (by decide), show s_nkd T = s_nkd S from G 13 (by decide), show s_nft T = s_nft S from G 14 (by decide), show s_npl T = s_npl S from G 15 (by decide), show s_nfs T = s_nfs S from G 16 (by decide), g17]
    exact ⟨this.1, by have := this.2.1; omega, this.2.2⟩
  · rw [s_nd, G 24 (by decide)]
    exact hW.nd
  · intro d hd
    rw [s_nd, G 24 (by decide)] at hd
    have := hW.dem hd
    rw [show s_dws T = s_dws S from G 25 (by decide), show s_dtg T = s_dtg S from G 26 (by decide), show s_drg T = s_drg S from G 27 (by decide), show s_dfs T = s_dfs S from G 28 (by decide), g17]
    exact ⟨this.1, this.2.1, by have := this.2.2.1; omega, this.2.2.2⟩
  · intro i hi
    rw [s_na, G 29 (by decide)] at hi
    have := hW.adv hi
    rw [show s_apk T = s_apk S from G 30 (by decide), show s_arg T = s_arg S from G 31 (by decide), g17]
    exact ⟨this.1, by have := this.2; omega⟩
  · rw [g17]
    exact m17
  · intro r hr
    rw [g17] at hr
    rw [g0]
    by_cases e : r = s_nr S
    · subst e
      rw [m31]
      congr 1
      refine setB_congr fun v hv => ?_
      rw [yn]
      cases inn v <;> rfl
    · have hr2 := nlt r hr e
      rw [mo 31 (by decide) r e, hR.held hr2]
      congr 1
      refine setB_congr fun v hv => ?_
      rw [yh _ (by omega)]
  · intro r hr h30
    rw [g17] at hr
    have e : r ≠ s_nr S := by omega
    rw [mo 31 (by decide) r e, mo 19 (by decide) r e, mo 27 (by decide) r e, mo 29 (by decide) r e]
    exact hR.rfree (by omega) h30
  · intro r hr h8
    rw [g17] at hr
    rw [yf, ye, yt]
    rw [yk] at h8
    rw [yk, ya, yb, yc, yp]
    by_cases e : r = s_nr S
    · rw [if_pos e] at h8
      subst e
      simp only [if_true]
      exact mlow h8
    · rw [if_neg e] at h8
      simp only [if_neg e]
      rw [mo 19 (by decide) r e, mo 21 (by decide) r e, mo 23 (by decide) r e, mo 25 (by decide) r e, mo 27 (by decide) r e, mo 29 (by decide) r e]
      exact hR.rlow (nlt r hr e) h8
  · intro r hr h8
    rw [g17] at hr
    rw [yk] at h8
    rw [yk, ya, yb]
    by_cases e : r = s_nr S
    · rw [if_pos e] at h8
      subst e
      simp only [if_true]
      exact mhigh h8
    · rw [if_neg e] at h8
      simp only [if_neg e]
      rw [mo 19 (by decide) r e, mo 27 (by decide) r e, mo 29 (by decide) r e]
      exact hR.rhigh (nlt r hr e) h8
  · rw [g17]
    exact m942
  · intro r hr
    rw [g17] at hr
    rw [yk, ya, yb, yc, yp]
    by_cases e : r = s_nr S
    · subst e
      simp only [if_true]
      exact m98
    · have hr2 := nlt r hr e
      simp only [if_neg e]
      rw [m98o _ (by omega), m98o _ (by omega), m98o _ (by omega), m98o _ (by omega), m98o _ (by omega)]
      exact hM.rng hr2
  · intro r v hr hv
    rw [g17] at hr
    rw [g0] at hv
    by_cases e : r = s_nr S
    · subst e
      rw [yn, m99 v hv]
      cases inn v <;> rfl
    · have hr2 := nlt r hr e
      rw [m99o _ (by omega), yh _ (by omega)]
      exact hM.has hr2 hv
  · have h1 := hC.congr (E94 30 (by decide)) (E94 31 (by decide)) (FR 112 (by decide)) (FR 113 (by decide))
    rcases h1 with h | ⟨h, hF⟩
    · exact Or.inl h
    · refine Or.inr ⟨h, ?_⟩
      rw [hT]
      exact addT_found hW hF
end ADDR
