/-! ===== the class: to the next solution ===== -/
theorem dmd_DemOK {S : SP} (hW : WF S) {D : Nat} {c : Nat → Nat} (h : ∀ p, p < 6 → s_dmd S D p (c p) = true) : DemOK S D c := by
  intro d hd hb
  have wd := hW.dem hd
  have wh := s_heir_lt hW wd.2.1
  have := h _ wh
  unfold s_dmd at this
  rw [Bool.not_eq_true', anyR_f] at this
  have := this d hd
  rw [hb] at this
  simpa using this
theorem DemOK_dmd {S : SP} {D : Nat} {c : Nat → Nat} (h : DemOK S D c) (p : Nat) : s_dmd S D p (c p) = true := by
  unfold s_dmd
  rw [Bool.not_eq_true', anyR_f]
  intro d hd
  cases hb : D.testBit d with
  | false => rfl
  | true =>
    by_cases e : s_heir S (s_dtg S d) = p
    · subst e
      have := h d hd hb
      simp [this.1, this.2]
    · simp [e]
/-- what is on stays on where more is chosen -/
theorem On_mono {S : SP} {D : Nat} {c c' : Nat → Nat} (h : ∀ p, p < 6 → c p ≠ 0 → c' p = c p) {p f : Nat} (ho : On S D c p f) : On S D c' p f := by
  intro T hT
  refine ho T ⟨hT.1, fun q hq h0 => ?_, fun q hq h0 => ?_⟩
  · have := hT.2.1 q hq (by rw [h q hq h0]; exact h0)
    rw [h q hq h0] at this
    exact this
  · have := hT.2.2 q hq (by rw [h q hq h0]; exact h0)
    rw [h q hq h0] at this
    exact this
def GoodM (S : SP) (D M : Nat) (l : List Nat) : Prop := SolF S D (chL l) ∧ s_chg S (chL l) < M
section NEXT
variable {S : SP} {D M w : Nat} {O : Nat → List Nat} {c t : Nat → Nat} {σ : Mem}
theorem CS.RC {a : Nat} (h : CS S D M O a c t σ) : RC S σ := h.1
theorem CS.frm {a : Nat} {l : List Nat} {σ' : Mem} (h : CS S D M O a c t σ) (hf : fr l σ σ') (h1 : ∀ k ∈ cData, k ∉ l) (h2 : ∀ k ∈ [67, 71, 73, 75, 78], k ∉ l) : CS S D M O a c t σ' := by
  obtain ⟨g1, g2, g3, g4, g5, g6, g7, g8⟩ := h
  refine ⟨g1.fr hf h1, ?_, ?_, ?_, fun q hq => ⟨(g5 q hq).1.congr fun i _ => ?_, ?_⟩, fun q hq hq2 => ?_, fun q hq => ?_, g8⟩
  · rw [hf 67 (h2 67 (by simp))]
    exact g2
  · rw [hf 67 (h2 67 (by simp))]
    exact g3
  · rw [hf 67 (h2 67 (by simp))]
    exact g4
  · rw [hf 71 (h2 71 (by simp))]
  · rw [hf 73 (h2 73 (by simp))]
    exact (g5 q hq).2
  · rw [hf 75 (h2 75 (by simp))]
    exact g6 q hq hq2
  · rw [hf 78 (h2 78 (by simp))]
    exact g7 q hq
theorem CS.pick {a x : Nat} (h : CS S D M O (a + 1) c t σ) (ha : a < 6) (hx : x ≤ s_nv S) : CS S D M O (a + 1) (sN c a x) (sN t a (t a + 1)) (up (up σ 78 a (oi x)) 75 a (nI (t a + 1))) := by
  obtain ⟨g1, g2, g3, g4, g5, g6, g7, g8⟩ := h
  have e : ∀ k, k ≠ 78 → k ≠ 75 → (up (up σ 78 a (oi x)) 75 a (nI (t a + 1))) k = σ k := fun k h1 h2 => by rw [up_pl _ _ h2, up_pl _ _ h1]
  refine ⟨g1.fr (l := [78, 75]) ((fr.up (by simp)).trans (fr.up (by simp))) (by decide), ?_, ?_, ?_, fun q hq => ⟨(g5 q hq).1.congr fun i _ => ?_, ?_⟩, fun q hq hq2 => ?_, fun q hq => ?_, fun q => ⟨fun hq => ?_, ?_⟩⟩
  · rw [e 67 (by decide) (by decide)]
    exact g2
  · rw [e 67 (by decide) (by decide)]
    exact g3
  · rw [e 67 (by decide) (by decide)]
    exact g4
  · rw [e 71 (by decide) (by decide)]
  · rw [e 73 (by decide) (by decide)]
    exact (g5 q hq).2
  · by_cases e2 : q = a
    · subst e2
      rw [up_same, sN_same]
    · rw [up_off _ _ (Or.inr e2), up_pl _ _ (by decide), sN_off e2]
      exact g6 q hq hq2
  · rw [up_pl _ _ (by decide)]
    by_cases e2 : q = a
    · subst e2
      rw [up_same, sN_same]
    · rw [up_off _ _ (Or.inr e2), sN_off e2]
      exact g7 q hq
  · rw [sN_off (by omega)]
    exact (g8 q).1 hq
  · by_cases e2 : q = a
    · subst e2
      rw [sN_same]
      exact hx
    · rw [sN_off e2]
      exact (g8 q).2
theorem CS.adv {a : Nat} (h : CS S D M O (a + 1) c t σ) (ha : a < 5) : CS S D M O (a + 2) c (sN t (a + 1) 0) (up (up σ 67 9 (nI (a + 1))) 75 (a + 1) 0) := by
  obtain ⟨g1, g2, g3, g4, g5, g6, g7, g8⟩ := h
  have e : ∀ k, k ≠ 67 → k ≠ 75 → (up (up σ 67 9 (nI (a + 1))) 75 (a + 1) 0) k = σ k := fun k h1 h2 => by rw [up_pl _ _ h2, up_pl _ _ h1]
  refine ⟨g1.fr (l := [67, 75]) ((fr.up (by simp)).trans (fr.up (by simp))) (by decide), ?_, ?_, ?_, fun q hq => ⟨(g5 q hq).1.congr fun i _ => ?_, ?_⟩, fun q hq hq2 => ?_, fun q hq => ?_, fun q => ⟨fun hq => (g8 q).1 (by omega), (g8 q).2⟩⟩
  · rw [up_pl _ _ (by decide), up_off _ _ (Or.inr (by decide))]
    exact g2
  · rw [up_pl _ _ (by decide), up_off _ _ (Or.inr (by decide))]
    exact g3
  · rw [up_pl _ _ (by decide), up_same]
    rfl
  · rw [e 71 (by decide) (by decide)]
  · rw [e 73 (by decide) (by decide)]
    exact (g5 q hq).2
  · by_cases e2 : q = a + 1
    · subst e2
      rw [up_same, sN_same]
      rfl
    · rw [up_off _ _ (Or.inr e2), up_pl _ _ (by decide), sN_off e2]
      exact g6 q hq (by omega)
  · rw [e 78 (by decide) (by decide)]
    exact g7 q hq
theorem CS.back {a : Nat} (h : CS S D M O (a + 1) c t σ) : CS S D M O a (sN c a 0) t (up (up (up σ 78 a (oi 0)) 75 a (nI (t a + 1))) 67 9 (oi a)) := by
  obtain ⟨g1, g2, g3, g4, g5, g6, g7, g8⟩ := h
  have e : ∀ k, k ≠ 67 → k ≠ 75 → k ≠ 78 → (up (up (up σ 78 a (oi 0)) 75 a (nI (t a + 1))) 67 9 (oi a)) k = σ k := fun k h1 h2 h3 => by rw [up_pl _ _ h1, up_pl _ _ h2, up_pl _ _ h3]
  refine ⟨g1.fr (l := [67, 75, 78]) (((fr.up (by simp)).trans (fr.up (by simp))).trans (fr.up (by simp))) (by decide), ?_, ?_, ?_, fun q hq => ⟨(g5 q hq).1.congr fun i _ => ?_, ?_⟩, fun q hq hq2 => ?_, fun q hq => ?_, fun q => ⟨fun hq => ?_, ?_⟩⟩
  · rw [up_off _ _ (Or.inr (by decide)), up_pl _ _ (by decide), up_pl _ _ (by decide)]
    exact g2
  · rw [up_off _ _ (Or.inr (by decide)), up_pl _ _ (by decide), up_pl _ _ (by decide)]
    exact g3
  · exact up_same _ _ _ _
  · rw [e 71 (by decide) (by decide) (by decide)]
  · rw [e 73 (by decide) (by decide) (by decide)]
    exact (g5 q hq).2
  · rw [up_pl _ _ (by decide), up_off _ _ (Or.inr (by omega)), up_pl _ _ (by decide)]
    exact g6 q hq (by omega)
  · rw [up_pl _ _ (by decide), up_pl _ _ (by decide)]
    by_cases e2 : q = a
    · subst e2
      rw [up_same, sN_same]
    · rw [up_off _ _ (Or.inr e2), sN_off e2]
      exact g7 q hq
  · by_cases e2 : q = a
    · subst e2
      exact sN_same
    · rw [sN_off e2]
      exact (g8 q).1 (by omega)
  · by_cases e2 : q = a
    · subst e2
      rw [sN_same]
      omega
    · rw [sN_off e2]
      exact (g8 q).2
theorem c_pickNext0 {a : Nat} (h : CS S D M O (a + 1) c t σ) (ha : a < 6) (h5 : (O a).length ≤ 5) (ht : (O a).length ≤ t a) (ht2 : t a < 2 ^ 30) : m_X8_pickNext σ = some (0, up (up σ 78 a (oi 0)) 75 a (nI (t a + 1))) := by
  obtain ⟨g1, g2, g3, g4, g5, g6, g7, g8⟩ := h
  rw [oi_s] at g4
  have e9 : (up σ 78 a (-1)) 67 9 = nI a := by rw [up_pl _ _ (by decide), g4]
  unfold m_X8_pickNext m_X8_pickNext_32 m_X8_pickNext_67
  rw [g4, x_get ha (by decide), obind_some, g6 a ha (by omega)]
  simp only [g4, x_get ha (show 6 < 2 ^ 31 by decide), (g5 a ha).2, obind_some, e9, x_set ha (show 6 < 2 ^ 31 by decide), nI_1, zchk_0, oi_0]
  rw [if_pos (nI_le ht (by omega)), if_pos trivial]
theorem c_pickNext1 {a x : Nat} (h : CS S D M O (a + 1) c t σ) (ha : a < 6) (h5 : (O a).length ≤ 5) (hx : (O a)[t a]? = some x) : m_X8_pickNext σ = some (1, up (up σ 78 a (oi x)) 75 a (nI (t a + 1))) := by
  obtain ⟨g1, g2, g3, g4, g5, g6, g7, g8⟩ := h
  rw [oi_s] at g4
  have ht : t a < (O a).length := by
    rcases Nat.lt_or_ge (t a) (O a).length with h1 | h1
    · exact h1
    · rw [List.getElem?_eq_none h1] at hx
      cases hx
  have e9 : (up σ 78 a (oi x)) 67 9 = nI a := by rw [up_pl _ _ (by decide), g4]
  have e1 : m_X7_get 71 30 (nI a * 5 + nI (t a)) σ = some (oi x, σ) := by
    rw [mulr_nI (y := 5) 5 rfl, nI_add, x_get (by omega) (by decide), (g5 a ha).1 _ ht]
    simp only [List.getD, hx, Option.getD_some]
  unfold m_X8_pickNext m_X8_pickNext_32 m_X8_pickNext_67
  rw [g4, x_get ha (by decide), obind_some, g6 a ha (by omega)]
  simp only [g4, x_get ha (show 6 < 2 ^ 31 by decide), (g5 a ha).2, obind_some, e9, e1, x_set ha (show 6 < 2 ^ 31 by decide), nI_1, zchk_1]
  rw [if_neg (nI_ge ht (by omega)), if_neg (by decide)]
/-- what fails early fails for all that lie below -/
theorem cut_chg {a x : Nat} {l : List Nat} (ha : a < 6) (h : ∀ p, p ≤ a → chL l p = sN c a x p) (hm : M ≤ cntR (a + 1) fun p => s_kept S p && sN c a x p != s_lock S p) : ¬ GoodM S D M l := by
  intro hg
  have h2 := hg.2
  have e : cntR (a + 1) (fun p => s_kept S p && sN c a x p != s_lock S p) = cntR (a + 1) (fun p => s_kept S p && chL l p != s_lock S p) := cntR_congr fun i hi => by rw [h i (by omega)]
  have up1 : ∀ (f : Nat → Bool) (n m : Nat), cntR n f ≤ cntR (n + m) f := by
    intro f n m
    induction m with
    | zero => exact Nat.le_refl _
    | succ m ih =>
      refine Nat.le_trans ih ?_
      show cntR (n + m) f ≤ cntR (n + m) f + _
      omega
  have := up1 (fun p => s_kept S p && chL l p != s_lock S p) (a + 1) (5 - a)
  rw [show a + 1 + (5 - a) = 6 by omega] at this
  unfold s_chg at h2
  omega
theorem cut_stand (hW : WF S) {a x : Nat} {l : List Nat} {F : Nat → Nat} (ha : a < 6) (hz : ∀ q, a + 1 ≤ q → c q = 0) (hn : ∀ p, p < 6 → sN c a x p ≤ s_nv S) (h : ∀ p, p ≤ a → chL l p = sN c a x p) (hF : OnF S D (sN c a x) F) (hs : s_stand S F (sN c a x) a = false) : ¬ SolF S D (chL l) := by
  intro hg
  unfold s_stand at hs
  rw [Bool.not_eq_false', anyR_t] at hs
  obtain ⟨p, hp, hs⟩ := hs
  unfold s_hold at hs
  rw [Bool.not_eq_true', Bool.or_eq_false_iff, Bool.not_eq_false', anyR_t] at hs
  obtain ⟨h0, k, hk, hs⟩ := hs
  rw [Bool.and_eq_true, Bool.and_eq_true] at hs
  obtain ⟨⟨s1, s2⟩, s3⟩ := hs
  have h0 : sN c a x p ≠ 0 := by simpa using h0
  have hp6 : p < 6 := by omega
  have hv : sN c a x p - 1 < s_nv S := by have := hn p hp6; omega
  have wn := hW.need hv hk
  have e := h p (by omega)
  have hcn := (cnt_iff hF hp6 wn.2.2.2.1).mpr s2
  have hmono : ∀ q, q < 6 → sN c a x q ≠ 0 → chL l q = sN c a x q := fun q hq hq0 => by
    refine h q ?_
    rcases Nat.lt_or_ge a q with h1 | h1
    · rw [sN_off (by omega), hz q (by omega)] at hq0
      exact absurd rfl hq0
    · exact h1
  have hcn2 : CntT S (On S D (chL l)) p (5 * (sN c a x p - 1) + k) := ⟨hcn.1, hcn.2.imp (fun h => h) (fun h => On_mono hmono h)⟩
  have hsv := hg.2.2.1 p hp6 (by rw [e]; exact h0) k (by rw [e]; exact hk) (by rw [e]; exact hcn2)
  rw [e] at hsv
  have hsv2 := s_serv_iff.mpr hsv
  rw [h _ (of_decide_eq_true s1)] at hsv2
  rw [hsv2] at s3
  cases s3
theorem c_next_loop (hW : WF S) (hD : D < 64) (hM : M ≤ 7) (hO : ∀ p, p < 6 → OSp S D w p (O p)) : ∀ (f a : Nat) (c t : Nat → Nat) (σ : Mem) (m : Nat), CS S D M O a c t σ → a ≤ 6 → (∀ q, q < a → t q < 2 ^ 30) → (∀ l, l ∈ remU O c t a → ∀ p, p < 6 → chL l p ∈ O p) → muU O t a < f → m + muU O t a < 1000000 → ∃ σ' b, m_X8_next_2 f (nI m) σ = some (b2i b, σ') ∧ fr [67, 75, 78, 80] σ σ' ∧ σ' 67 7 = nI D ∧ (b = false → ∀ l, l ∈ remU O c t a → ¬ GoodM S D M l) ∧ (b = true → ∃ pre l R' t', remU O c t a = pre ++ l :: R' ∧ (∀ x, x ∈ pre → ¬ GoodM S D M x) ∧ GoodM S D M l ∧ CS S D M O 6 (chL l) t' σ' ∧ (∀ q, q < 6 → t' q < 2 ^ 30) ∧ remU O (chL l) t' 6 = R' ∧ muU O t' 6 ≤ muU O t a) := by
  intro f
  induction f with
  | zero => intro a c t σ m _ _ _ _ h; omega
  | succ f ih =>
    intro a c t σ m h ha ht hRO hf hm
    have hnm : ¬ (1000000 : Int32) ≤ nI m := nI_ge (b := 1000000) (by omega) (by decide)
    rcases Nat.eq_zero_or_pos a with h0 | h0
    · subst h0
      refine ⟨σ, false, ?_, fr.refl, h.2.1, fun _ l hl => (by cases hl), fun h => (by cases h)⟩
      rw [m_X8_next_2]
      rw [if_neg hnm, h.2.2.2.1, if_pos (by decide)]
      rfl
    · obtain ⟨a, rfl⟩ : ∃ k, a = k + 1 := ⟨a - 1, by omega⟩
      have ha6 : a < 6 := by omega
      have hO5 := (hO a ha6).1
      have hlt : ¬ σ 67 9 < 0 := by
        rw [h.2.2.2.1, oi_s]
        exact nI_pos (by omega)
      rcases Nat.lt_or_ge (t a) (O a).length with hl | hl
      · have hx : (O a)[t a]? = some ((O a)[t a]) := List.getElem?_eq_getElem hl
        obtain ⟨x, hxe⟩ : ∃ x, (O a)[t a] = x := ⟨_, rfl⟩
        rw [hxe] at hx
        have hxm : x ∈ O a := by rw [← hxe]; exact List.getElem_mem hl
        have hxc := ((hO a ha6).2.2 x).mp hxm
        have hxn : x ≤ s_nv S := by
          rcases hxc.1 with h1 | h1
          · omega
          · omega
        have hp := c_pickNext1 h ha6 hO5 hx
        have h1 := h.pick ha6 hxn
        have hR := remU_pick (c := c) hx
        have hmu := muU_pick hl
        have hRc : remU O c (sN t a (t a + 1)) (a + 1) = remU O (sN c a x) (sN t a (t a + 1)) (a + 1) := remU_congr (a + 1) (fun _ _ => rfl) (fun q hq => (sN_off (by omega)).symm)
        rw [hRc] at hR
        have ht1 : ∀ q, q < a + 1 → sN t a (t a + 1) q < 2 ^ 30 := fun q hq => by
          by_cases e : q = a
          · subst e
            rw [sN_same]
            omega
          · rw [sN_off e]
            exact ht q (by omega)
        have hsub : ∀ l, l ∈ remU O (sN c a x) (sN t a (t a + 1)) (a + 1) → ∀ p, p < 6 → chL l p ∈ O p := fun l hl => hRO l (by rw [hR]; exact List.mem_append_right _ hl)
        have hc78 : ∀ p, p < 6 → (up (up σ 78 a (oi x)) 75 a (nI (t a + 1))) 78 p = oi (sN c a x p) := h1.2.2.2.2.2.2.1
        have hcn : ∀ p, p < 6 → sN c a x p ≤ s_nv S := fun p _ => (h1.2.2.2.2.2.2.2 p).2
        have h24 := hW.nv
        have hch := c_changes hW h1.1 ha6 hc78 (fun p hp => by have := hcn p hp; omega)
        have h9 : (up (up σ 78 a (oi x)) 75 a (nI (t a + 1))) 67 9 = nI a := by
          have := h1.2.2.2.1
          rw [oi_s] at this
          exact this
        have h8 := h1.2.2.1
        have fr1 : fr [67, 75, 78, 80] σ (up (up σ 78 a (oi x)) 75 a (nI (t a + 1))) := (fr.up (by simp)).trans (fr.up (by simp))
        have hcnt := cntR_le (a + 1) fun p => s_kept S p && sN c a x p != s_lock S p
        -- what happens where all below is cut off
        have cut : ∀ σ2, fr [67, 75, 78, 80] (up (up σ 78 a (oi x)) 75 a (nI (t a + 1))) σ2 → CS S D M O (a + 1) (sN c a x) (sN t a (t a + 1)) σ2 → (∀ l, l ∈ subL O (5 - a) (preL c a ++ [x]) → ¬ GoodM S D M l) → m_X8_next_2 (f + 1) (nI m) σ = m_X8_next_2 f (nI (m + 1)) σ2 → ∃ σ' b, m_X8_next_2 (f + 1) (nI m) σ = some (b2i b, σ') ∧ fr [67, 75, 78, 80] σ σ' ∧ σ' 67 7 = nI D ∧ (b = false → ∀ l, l ∈ remU O c t (a + 1) → ¬ GoodM S D M l) ∧ (b = true → ∃ pre l R' t', remU O c t (a + 1) = pre ++ l :: R' ∧ (∀ x, x ∈ pre → ¬ GoodM S D M x) ∧ GoodM S D M l ∧ CS S D M O 6 (chL l) t' σ' ∧ (∀ q, q < 6 → t' q < 2 ^ 30) ∧ remU O (chL l) t' 6 = R' ∧ muU O t' 6 ≤ muU O t (a + 1)) := by
          intro σ2 hf2 h2 hng he
          obtain ⟨σ', b, q1, q2, q5, q3, q4⟩ := ih (a + 1) _ _ σ2 (m + 1) h2 ha ht1 hsub (by omega) (by omega)
          refine ⟨σ', b, by rw [he, q1], (fr1.trans hf2).trans q2, q5, fun hb l hl => ?_, fun hb => ?_⟩
          · rw [hR, List.mem_append] at hl
            rcases hl with hl | hl
            · exact hng l hl
            · exact q3 hb l hl
          · obtain ⟨pre, l, R', t', r1, r2, r3, r4, r5, r6, r7⟩ := q4 hb
            refine ⟨subL O (5 - a) (preL c a ++ [x]) ++ pre, l, R', t', by rw [hR, r1, List.append_assoc], fun y hy => ?_, r3, r4, r5, r6, by omega⟩
            rw [List.mem_append] at hy
            rcases hy with hy | hy
            · exact hng y hy
            · exact r2 y hy
        have head : m_X8_next_2 (f + 1) (nI m) σ = (if oi (cntR (a + 1) (fun p => s_kept S p && sN c a x p != s_lock S p) + 1) ≤ oi M then obind (m_X1_turnOn 78 80 (nI D) (up (up σ 78 a (oi x)) 75 a (nI (t a + 1)))) fun x3 => obind (m_X1_standsUpTo 78 80 (x3.2 67 9) x3.2) fun x4 => if x4.1 = 0 then m_X8_next_2 f (nI m + 1) x4.2 else if 5 ≤ (x4.2 67 9) then obind (m_X1_isPulled 78 80 (x4.2 67 7) x4.2) fun x5 => if x5.1 = 0 then m_X8_next_2 f (nI m + 1) x5.2 else some (1, x5.2) else obind (some (up x4.2 67 9 ((x4.2 67 9) + 1))) fun m6 => obind (m_X7_set 75 6 (m6 67 9) 0 m6) fun x7 => m_X8_next_2 f (nI m + 1) x7.2 else m_X8_next_2 f (nI m + 1) (up (up σ 78 a (oi x)) 75 a (nI (t a + 1)))) := by
          rw [m_X8_next_2]
          rw [if_neg hnm, if_neg hlt, hp, obind_some, if_neg (show ¬ (1 : Int32) = 0 by decide)]
          dsimp only
          rw [h9, hch, obind_some]
          dsimp only
          simp only [h8, h1.2.1, oi_s]
          rfl
        by_cases hcM : cntR (a + 1) (fun p => s_kept S p && sN c a x p != s_lock S p) < M
        · rw [if_pos ((oi_le (by omega) (by omega)).mpr (by omega))] at head
          obtain ⟨σ2, F, b1, b2, b3, b4⟩ := c_turnOn hW hD h1.1 (show (78 : Nat) ≠ 80 by decide) (by decide) hc78 hcn
          have h2 := h1.frm b3 (by decide) (by decide)
          have h92 : σ2 67 9 = nI a := by
            have := h2.2.2.2.1
            rw [oi_s] at this
            exact this
          rw [b1, obind_some] at head
          dsimp only at head
          rw [h92, c_standsUpTo hW b2 ha6, obind_some] at head
          dsimp only at head
          have fr2 : fr [67, 75, 78, 80] (up (up σ 78 a (oi x)) 75 a (nI (t a + 1))) σ2 := b3.mono (by simp)
          cases hs : s_stand S F (sN c a x) a with
          | false =>
            rw [hs, if_pos (show b2i false = 0 from rfl), nI_1] at head
            exact cut σ2 fr2 h2 (fun l hl hg => cut_stand hW ha6 (fun q hq => (h.2.2.2.2.2.2.2 q).1 hq) hcn (subL_pre ha6 hl) b4 hs hg.1) head
          | true =>
            rw [hs, if_neg (show ¬ b2i true = 0 by decide)] at head
            rcases Nat.lt_or_ge a 5 with h5 | h5
            · simp only [h92] at head
              rw [if_neg (show ¬ (5 : Int32) ≤ nI a from nI_ge (b := 5) h5 (by decide)), obind_some, nI_1, nI_1] at head
              have e9 : (up σ2 67 9 (nI (a + 1))) 67 9 = nI (a + 1) := up_same _ _ _ _
              rw [e9, show (0 : Int32) = nI 0 from rfl, x_set (show a + 1 < 6 by omega) (by decide), obind_some] at head
              have h3 := h2.adv h5
              have hO5' := (hO (a + 1) (by omega)).1
              have hmu2 := muU_adv (O := O) (t := sN t a (t a + 1)) h5 hO5'
              have hR2 : remU O c t (a + 1) = remU O (sN c a x) (sN (sN t a (t a + 1)) (a + 1) 0) (a + 2) := by
                rw [hR, ← hRc, remU_adv h5]
              obtain ⟨σ', b, q1, q2, q5, q3, q4⟩ := ih (a + 2) _ _ _ (m + 1) h3 (by omega) (fun q hq => by
                by_cases e : q = a + 1
                · subst e
                  rw [sN_same]
                  decide
                · rw [sN_off e]
                  exact ht1 q (by omega)) (fun l hl => hRO l (by rw [hR2]; exact hl)) (by omega) (by omega)
              refine ⟨σ', b, by rw [head]; exact q1, ((fr1.trans fr2).trans ((fr.up (by simp)).trans (fr.up (by simp)))).trans q2, q5, fun hb l hl => q3 hb l (by rw [← hR2]; exact hl), fun hb => ?_⟩
              obtain ⟨pre, l, R', t', r1, r2, r3, r4, r5, r6, r7⟩ := q4 hb
              exact ⟨pre, l, R', t', by rw [hR2, r1], r2, r3, r4, r5, r6, by omega⟩
            · have h5 : a = 5 := by omega
              subst h5
              simp only [h92] at head
              rw [if_pos (show (5 : Int32) ≤ nI 5 by decide), h2.2.1, c_isPulled hW hD b2, obind_some] at head
              dsimp only at head
              have hleaf : preL (sN c 5 x) 6 ∈ remU O c t (5 + 1) := by
                rw [hR, remU_leaf]
                simp
              have hfun : chL (preL (sN c 5 x) 6) = sN c 5 x := by
                funext p
                rcases Nat.lt_or_ge p 6 with h6 | h6
                · exact chL_pre h6
                · rw [sN_off (by omega), (h.2.2.2.2.2.2.2 p).1 (by omega)]
                  unfold chL
                  simp only [List.getD]
                  rw [List.getElem?_eq_none (by rw [preL_len]; exact h6)]
                  rfl
              have hin := hRO _ hleaf
              rw [hfun] at hin
              have hdem : DemOK S D (sN c 5 x) := dmd_DemOK hW fun p hp => (((hO p hp).2.2 _).mp (hin p hp)).2.1
              have hcand : ∀ p, p < 6 → Cand S p (sN c 5 x p) := fun p hp => (((hO p hp).2.2 _).mp (hin p hp)).1
              have hneed := (s_stand_iff hW b4 hcn).mp hs
              cases hpl : s_pulled S D F (sN c 5 x) with
              | false =>
                rw [hpl, if_pos (show b2i false = 0 from rfl), nI_1] at head
                refine cut σ2 fr2 h2 (fun l hl hg => ?_) head
                rw [remU_leaf, List.mem_singleton] at hl
                rw [hl] at hg
                have := hg.1.2.2.2
                rw [hfun] at this
                rw [(s_pulled_iff hW b4 hcn).mpr this] at hpl
                cases hpl
              | true =>
                rw [hpl, if_neg (show ¬ b2i true = 0 by decide)] at head
                refine ⟨σ2, true, head, fr1.trans fr2, h2.2.1, fun hb => (by cases hb), fun _ => ⟨[], preL (sN c 5 x) 6, remU O (sN c 5 x) (sN t 5 (t 5 + 1)) (5 + 1), sN t 5 (t 5 + 1), ?_, fun y hy => (by cases hy), ⟨?_, ?_⟩, ?_, ht1, by rw [hfun], (by have h6 : muU O (sN t 5 (t 5 + 1)) 6 = muU O (sN t 5 (t 5 + 1)) (5 + 1) := rfl; omega)⟩⟩
                · rw [hR, remU_leaf]
                  rfl
                · rw [hfun]
                  exact ⟨hcand, hdem, hneed, (s_pulled_iff hW b4 hcn).mp hpl⟩
                · rw [hfun]
                  exact hcM
                · rw [hfun]
                  exact h2
        · rw [if_neg (fun e => hcM (by have := (oi_le (by omega) (by omega)).mp e; omega)), nI_1] at head
          exact cut _ fr.refl h1 (fun l hl => cut_chg ha6 (subL_pre ha6 hl) (by omega)) head
      · have hp := c_pickNext0 h ha6 hO5 hl (ht a (by omega))
        have hR := remU_back (c := c) hl
        have hmu := muU_back (O := O) (t := t) (a := a)
        have hRc : remU O c t a = remU O (sN c a 0) t a := remU_congr a (fun _ _ => rfl) (fun q hq => (sN_off (by omega)).symm)
        have h2 := h.back
        obtain ⟨σ', b, q1, q2, q5, q3, q4⟩ := ih a _ _ _ (m + 1) h2 (by omega) (fun q hq => ht q (by omega)) (fun l hl2 => hRO l (by rw [hR, hRc]; exact hl2)) (by omega) (by omega)
        have e9 : (up (up σ 78 a (oi 0)) 75 a (nI (t a + 1))) 67 9 = nI a := by
          rw [up_pl _ _ (by decide), up_pl _ _ (by decide), h.2.2.2.1]
          rfl
        have em : nI a - 1 = oi a := by
          rcases Nat.eq_zero_or_pos a with h1 | h1
          · rw [h1]
            decide
          · obtain ⟨k, rfl⟩ : ∃ k, a = k + 1 := ⟨a - 1, by omega⟩
            rw [nI_pred, oi_s]
        refine ⟨σ', b, ?_, (((fr.up (by simp)).trans (fr.up (by simp))).trans (fr.up (by simp))).trans q2, q5, fun hb l hl2 => q3 hb l (by rw [← hRc, ← hR]; exact hl2), fun hb => ?_⟩
        · rw [m_X8_next_2]
          rw [if_neg hnm, if_neg hlt, hp, obind_some, if_pos rfl, obind_some]
          dsimp only
          rw [e9, em, nI_1]
          exact q1
        · obtain ⟨pre, l, R', t', r1, r2, r3, r4, r5, r6, r7⟩ := q4 hb
          exact ⟨pre, l, R', t', by rw [hR, hRc, r1], r2, r3, r4, r5, r6, by omega⟩
end NEXT
