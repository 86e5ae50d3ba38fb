/-! ===== publish: the class ===== -/
section PUBC
variable {S : SP} {σ : Mem}
theorem c_full (hW : WF S) (hR : RC S σ) {p : Nat} (hp : p < 6) : m_X9_isFull (nI p) σ = some (b2i (decide (4 ≤ (s_vs S p).length ∨ 24 ≤ s_nv S)), σ) := by
  have h24 := hW.nv
  have hl := hW.siz hp
  unfold m_X9_isFull
  rw [x_get hp (by decide), hR.siz hp, obind_s]
  by_cases h1 : 4 ≤ (s_vs S p).length
  · rw [if_pos (show 4 ≤ nI (s_vs S p).length from nI_le (a := 4) h1 (by omega)), decide_eq_true (Or.inl h1)]
    rfl
  · rw [if_neg (show ¬ 4 ≤ nI (s_vs S p).length from nI_ge (b := 4) (by omega) (by decide))]
    dsimp only
    have e : σ 2 10 < 24 ↔ s_nv S < 24 := by
      rw [hR.nv]
      exact nI_ltI (b := 24) (by omega) (by decide)
    by_cases h2 : s_nv S < 24
    · rw [if_pos (e.mpr h2), decide_eq_false (by omega)]
      rfl
    · rw [if_neg (fun g => h2 (e.mp g)), decide_eq_true (by omega)]
      rfl
theorem c_hasRank (hW : WF S) (hR : RC S σ) {p rk : Nat} (hp : p < 6) (hrk : rk < 2 ^ 30) : ∃ g : Bool, m_X9_hasRank (nI p) (nI rk) σ = some (b2i g, σ) ∧ (g = true ↔ ∃ v, v < s_nv S ∧ s_own S v = p ∧ s_rank S v = rk) := by
  have h24 := hW.nv
  obtain ⟨hit, hhit⟩ : ∃ hit : Nat → Bool, hit = fun i => s_mem S p i != 0 && s_rank S (s_mem S p i - 1) == rk := ⟨_, rfl⟩
  have key := up_fu (n := 4) (P := fun i f => (∀ j, j < i → hit j = false) → m_X9_hasRank_2 f (nI p) (nI rk) (nI i) σ = some (b2i (anyR 4 hit), σ)) (by decide) (fun f h => by
      rw [anyR_f.mpr h, m_X9_hasRank_2]
      rw [if_pos (show (4 : Int32) ≤ nI 4 by decide)]
      rfl) (fun i f hi ih h => by
      have hm := s_mem_lt (S := S) p i
      have go : hit i = false → m_X9_hasRank_2 f (nI p) (nI rk) (nI (i + 1)) σ = some (b2i (anyR 4 hit), σ) := fun hf => ih fun j hj => by
        by_cases e : j = i
        · rw [e]
          exact hf
        · exact h j (by omega)
      rw [m_X9_hasRank_2]
      rw [if_neg (show ¬ (4 : Int32) ≤ nI i from nI_ge (b := 4) hi (by decide)), c_member hW hR hp hi, obind_some]
      dsimp only
      by_cases h0 : s_mem S p i = 0
      · rw [h0, oi_0, x_getM, obind_some, if_neg (show ¬ (-1 : Int32) = nI rk from fun e => nI_nm1 (x := rk) (by omega) e.symm), nI_1]
        exact go (by rw [hhit]; simp [h0])
      · obtain ⟨u, hu⟩ : ∃ u, s_mem S p i = u + 1 := ⟨s_mem S p i - 1, by omega⟩
        have hun := (s_mem_own hu).1
        have hur := hW.rank hun
        rw [hu, oi_s, c_rank hW hR hun, obind_some]
        by_cases g : s_rank S u = rk
        · have ht : hit i = true := by rw [hhit]; simp [hu, g]
          rw [if_pos (show nI (s_rank S u) = nI rk by rw [g]), anyR_t.mpr ⟨i, hi, ht⟩]
          rfl
        · rw [if_neg (fun e => g ((nI_eq (by omega) (by omega)).mp e)), nI_1]
          exact go (by rw [hhit]; simp [hu, g])) 0 (Nat.zero_le _) (fun j hj => by omega)
  refine ⟨anyR 4 hit, key, ?_⟩
  rw [anyR_t]
  constructor
  · rintro ⟨i, hi, h⟩
    rw [hhit] at h
    simp at h
    obtain ⟨u, hu⟩ : ∃ u, s_mem S p i = u + 1 := ⟨s_mem S p i - 1, by omega⟩
    obtain ⟨g1, g2⟩ := s_mem_own hu
    rw [hu] at h
    exact ⟨u, g1, g2, h.2⟩
  · rintro ⟨v, h1, h2, h3⟩
    obtain ⟨i, hi, hm⟩ := hW.mem_ex h1
    rw [h2] at hm
    exact ⟨i, hi, by rw [hhit]; simp [hm, h3]⟩
/-- what the class lays for a new version -/
def pubA (σ : Mem) (nv len p rk sm pl : Nat) : Mem :=
  up (if pl = 0 then up (up (up (up (up (up σ 4 nv (nI p)) 6 nv (nI rk)) 8 nv (nI sm)) 14 (4 * p + len) (nI nv)) 16 p (nI (len + 1))) 2 9 (σ 2 9 ||| nI (2 ^ p))
    else up (up (up (up (up (up σ 4 nv (nI p)) 6 nv (nI rk)) 8 nv (nI sm)) 14 (4 * p + len) (nI nv)) 16 p (nI (len + 1))) 2 8 (σ 2 8 ||| nI (2 ^ nv))) 2 10 (nI (nv + 1))
theorem c_vadd (hW : WF S) (hR : RC S σ) {p rk os pl len : Nat} (hp : p < 6) (h24 : s_nv S < 24) (hlen : len = (s_vs S p).length) (hl4 : len < 4) (hpl : pl ≤ 1) (hos : os < 10000) : m_X9_add (nI p) (nI rk) (nI os) (nI pl) σ = some (nI (s_nv S), pubA σ (s_nv S) len p rk ((31 * s_nv S + os) % 9973) pl) := by
  have hsum : (31 : Int32) * nI (s_nv S) + nI os - (31 * nI (s_nv S) + nI os) / 9973 * 9973 = nI ((31 * s_nv S + os) % 9973) := by
    rw [mul_nI (y := 31) 31 rfl, nI_add]
    exact pk_rem (d := 9973) (by omega) (by decide) (by decide)
  have e16 : ∀ σ9 : Mem, σ9 16 = σ 16 → m_X7_get 16 6 (nI p) σ9 = some (nI len, σ9) := fun σ9 h => by
    rw [x_get hp (by decide), h, hR.siz hp, hlen]
  unfold m_X9_add
  rw [hR.nv, obind_s, x_set h24 (by decide), obind_s]
  dsimp only
  rw [x_set h24 (by decide), obind_s]
  dsimp only
  rw [hsum, x_set h24 (by decide), obind_s]
  dsimp only
  rw [e16 _ (by rw [up_pl _ _ (by decide), up_pl _ _ (by decide), up_pl _ _ (by decide)]), obind_s]
  dsimp only
  rw [mulr_nI (y := 4) 4 rfl, nI_add, x_set (show 4 * p + len < 24 by omega) (by decide), obind_s]
  dsimp only
  rw [e16 _ (by rw [up_pl _ _ (by decide), up_pl _ _ (by decide), up_pl _ _ (by decide), up_pl _ _ (by decide)]), obind_s]
  dsimp only
  rw [nI_1, x_set hp (by decide), obind_s]
  have q : ∀ j : Nat, (up (up (up (up (up σ 4 (s_nv S) (nI p)) 6 (s_nv S) (nI rk)) 8 (s_nv S) (nI ((31 * s_nv S + os) % 9973))) 14 (4 * p + len) (nI (s_nv S))) 16 p (nI (len + 1))) 2 j = σ 2 j := fun j => by
    rw [up_pl _ _ (by decide), up_pl _ _ (by decide), up_pl _ _ (by decide), up_pl _ _ (by decide), up_pl _ _ (by decide)]
  dsimp only
  rcases (show pl = 0 ∨ pl = 1 by omega) with rfl | rfl
  · rw [if_pos (show nI 0 = 0 from rfl), q, one_shl (show p < 31 by omega), obind_s]
    unfold m_X9_add_118 pubA
    rw [if_pos rfl, up_off _ _ (Or.inr (by decide)), q, hR.nv, nI_1, obind_s]
  · rw [if_neg (show ¬ nI 1 = 0 by decide), q, one_shl (show s_nv S < 31 by omega), obind_s]
    unfold m_X9_add_118 pubA
    rw [if_neg (by decide), up_off _ _ (Or.inr (by decide)), q, hR.nv, nI_1, obind_s]
theorem c_holdsG {a nr nv s : Nat} (h17 : σ 17 7 = nI nr) (hr : nr ≤ 30) (ha : a < nr) (h31 : σ 31 a = nI s) (hs : s < 2 ^ 31) (hv : nv < 31) : m_X6_holds (nI a) (nI nv) σ = some (b2i (s.testBit nv), σ) := by
  have e1 : m_X11_isUpTo (σ 17 7 - 1) (nI a) σ = some (1, σ) := by
    obtain ⟨k, hk⟩ : ∃ k, nr = k + 1 := ⟨nr - 1, by omega⟩
    rw [h17, hk, nI_pred, x_upTo (by omega) (by omega)]
    simp [b2i, show a ≤ k by omega]
  have e2 : m_X7_get 31 30 (nI a) σ = some (nI s, σ) := by rw [x_get (by omega) (by decide), h31]
  have e3 : m_X11_isIn (nI s) (nI nv) σ = some (b2i (s.testBit nv), σ) := x_isIn hs hv
  unfold m_X6_holds
  simp only [e1, e2, e3, obind_some, b2i_0]
  cases (s.testBit nv) <;> simp [b2i]
/-- the class looks at a new version: its ranges' sets -/
theorem c_take (hW : WF S) (hR : RC S σ) {a b c q : Nat} (h24 : s_nv S < 24) (ha : a ≤ 9) (hb : b ≤ 9) (hc : c ≤ 9) (hq : q ≤ 9) {m : Mem} (hm : ∀ k, k ∈ [17, 19, 21, 23, 25, 27, 29, 31] → m k = σ k) : ∃ M, m_X6_take (nI (s_nv S)) (nI (rk4 a b c q)) m = some (0, M) ∧ fr [31] m M ∧ (∀ r, r < s_nr S → M 31 r = nI (setB (s_nv S + 1) fun v => if v = s_nv S then inh S a b c q r else s_has S (24 * r + v) == 1)) ∧ ∀ r, s_nr S ≤ r → M 31 r = σ 31 r := by
  have h30 := hW.nr
  have hrk : rk4 a b c q < 65536 := rk4_lt (by omega) (by omega) (by omega) hq
  have m17 : m 17 7 = nI (s_nr S) := by rw [hm 17 (by decide)]; exact hR.nr
  obtain ⟨hx, hhx⟩ : ∃ hx : Nat → Nat → Bool, hx = fun r v => if v = s_nv S then inh S a b c q r else s_has S (24 * r + v) == 1 := ⟨_, rfl⟩
  have hset : ∀ r, setB (s_nv S + 1) (hx r) = setB (s_nv S) (fun v => s_has S (24 * r + v) == 1) ||| (if inh S a b c q r = true then 2 ^ s_nv S else 0) := fun r => by
    have h1 : setB (s_nv S + 1) (hx r) = setB (s_nv S) (hx r) ||| (if hx r (s_nv S) = true then 2 ^ s_nv S else 0) := rfl
    have hx1 : hx r (s_nv S) = inh S a b c q r := by
      rw [hhx]
      exact if_pos rfl
    have hx2 : ∀ v, v < s_nv S → hx r v = (s_has S (24 * r + v) == 1) := fun v hv => by
      rw [hhx]
      exact if_neg (by omega)
    rw [h1, hx1, setB_congr hx2]
  have hbit : ∀ r, (setB (s_nv S + 1) (hx r)).testBit (s_nv S) = inh S a b c q r := fun r => by
    rw [setB_bit, hhx]
    simp
  have hbnd : ∀ r, setB (s_nv S + 1) (hx r) < 2 ^ 31 := fun r => setB_small _ (by omega)
  have key := up_fu (n := s_nr S) (P := fun i f => ∀ σ1 : Mem, fr [31] m σ1 → (∀ r, r < i → σ1 31 r = nI (setB (s_nv S + 1) (hx r))) → (∀ r, i ≤ r → σ1 31 r = σ 31 r) → ∃ M, m_X6_take_2 f (nI (s_nv S)) (nI (rk4 a b c q)) (nI i) σ1 = some (0, M) ∧ fr [31] m M ∧ (∀ r, r < s_nr S → M 31 r = nI (setB (s_nv S + 1) (hx r))) ∧ ∀ r, s_nr S ≤ r → M 31 r = σ 31 r) (by omega) (fun f σ1 hf h h' => by
      refine ⟨σ1, ?_, hf, h, h'⟩
      rw [m_X6_take_2]
      rw [hf 17 (by decide), m17, if_pos (nI_le (Nat.le_refl _) (by omega))]) (fun i f hi ih σ1 hf h h' => by
      have s17 : σ1 17 7 = nI (s_nr S) := by rw [hf 17 (by decide)]; exact m17
      have rd : ∀ k, k ∈ [17, 19, 21, 23, 25, 27, 29] → σ1 k = σ k := fun k hk => by
        rw [hf k (by revert hk; simp; omega), hm k (by revert hk; simp; omega)]
      have i30 : i < 30 := by omega
      obtain ⟨k9, hlo, hhi⟩ := hW.rng hi
      have old := (h' i (Nat.le_refl _)).trans (hR.held hi)
      have fin : m_X6_take_2 (f + 1) (nI (s_nv S)) (nI (rk4 a b c q)) (nI i) σ1 = m_X6_take_106 (m_X6_take_2 f) (nI (s_nv S)) (nI (rk4 a b c q)) (nI i) (b2i (inh S a b c q i)) σ1 → ∃ M, m_X6_take_2 (f + 1) (nI (s_nv S)) (nI (rk4 a b c q)) (nI i) σ1 = some (0, M) ∧ fr [31] m M ∧ (∀ r, r < s_nr S → M 31 r = nI (setB (s_nv S + 1) (hx r))) ∧ ∀ r, s_nr S ≤ r → M 31 r = σ 31 r := by
        intro he
        unfold m_X6_take_106 at he
        have hs := hset i
        cases hin : inh S a b c q i with
        | false =>
          rw [hin, if_neg (by decide), Nat.or_zero] at hs
          rw [hin, if_pos (show b2i false = 0 from rfl), nI_1] at he
          rw [he]
          refine ih σ1 hf (fun r hr => ?_) (fun r hr => h' r (by omega))
          by_cases e : r = i
          · rw [e, hs]
            exact old
          · exact h r (by omega)
        | true =>
          rw [hin, if_pos rfl] at hs
          have hp2 : 2 ^ s_nv S < 2 ^ 31 := Nat.pow_lt_pow_right (by decide) (by omega)
          rw [hin, if_neg (show ¬ b2i true = 0 by decide), one_shl (show s_nv S < 31 by omega), x_merge i30 (by decide) old (setB_small _ (by omega)) hp2, obind_s, nI_1] at he
          dsimp only at he
          rw [he]
          refine ih _ (hf.trans (fr.up (by simp))) (fun r hr => ?_) (fun r hr => by rw [up_off _ _ (Or.inr (by omega))]; exact h' r (by omega))
          by_cases e : r = i
          · rw [e, up_same, hs]
          · rw [up_off _ _ (Or.inr e)]
            exact h r (by omega)
      have un : m_X6_take_2 (f + 1) (nI (s_nv S)) (nI (rk4 a b c q)) (nI i) σ1 = obind (m_X7_get 19 30 (nI i) σ1) fun x1 => obind (m_X7_get 27 30 (nI i) x1.2) fun x2 => obind (m_X6_holds x2.1 (nI (s_nv S)) x2.2) fun x3 => obind (m_X7_get 29 30 (nI i) x3.2) fun x4 => obind (m_X6_holds x4.1 (nI (s_nv S)) x4.2) fun x5 => if x1.1 = 8 then if x3.1 = 0 then m_X6_take_106 (m_X6_take_2 f) (nI (s_nv S)) (nI (rk4 a b c q)) (nI i) 0 x5.2 else if x5.1 = 0 then m_X6_take_106 (m_X6_take_2 f) (nI (s_nv S)) (nI (rk4 a b c q)) (nI i) 0 x5.2 else m_X6_take_106 (m_X6_take_2 f) (nI (s_nv S)) (nI (rk4 a b c q)) (nI i) 1 x5.2 else if x1.1 = 9 then if x3.1 = 0 then if x5.1 = 0 then m_X6_take_106 (m_X6_take_2 f) (nI (s_nv S)) (nI (rk4 a b c q)) (nI i) 0 x5.2 else m_X6_take_106 (m_X6_take_2 f) (nI (s_nv S)) (nI (rk4 a b c q)) (nI i) 1 x5.2 else m_X6_take_106 (m_X6_take_2 f) (nI (s_nv S)) (nI (rk4 a b c q)) (nI i) 1 x5.2 else obind (m_X6_reaches (nI i) (nI (rk4 a b c q)) x5.2) fun x6 => m_X6_take_106 (m_X6_take_2 f) (nI (s_nv S)) (nI (rk4 a b c q)) (nI i) x6.1 x6.2 := by
        rw [m_X6_take_2]
        rw [s17, if_neg (nI_ge hi (by omega))]
      have g19 : ∀ y, σ1 19 i = y → m_X7_get 19 30 (nI i) σ1 = some (y, σ1) := fun y hy => by rw [x_get i30 (by decide), hy]
      have g27 : ∀ y, σ1 27 i = y → m_X7_get 27 30 (nI i) σ1 = some (y, σ1) := fun y hy => by rw [x_get i30 (by decide), hy]
      have g29 : ∀ y, σ1 29 i = y → m_X7_get 29 30 (nI i) σ1 = some (y, σ1) := fun y hy => by rw [x_get i30 (by decide), hy]
      have hrec := inh_rec (va := a) (vb := b) (vc := c) (vp := q) hW hi
      by_cases g8 : 8 ≤ s_rk S i
      · obtain ⟨w1, w2⟩ := hhi g8
        obtain ⟨u1, u2, u3⟩ := hR.rhigh hi g8
        have ea : m_X6_holds (nI (s_ra S i)) (nI (s_nv S)) σ1 = some (b2i (inh S a b c q (s_ra S i)), σ1) := by
          rw [c_holdsG s17 h30 (by omega) (h _ w1) (hbnd _) (by omega), hbit]
        have eb : m_X6_holds (nI (s_rb S i)) (nI (s_nv S)) σ1 = some (b2i (inh S a b c q (s_rb S i)), σ1) := by
          rw [c_holdsG s17 h30 (by omega) (h _ w2) (hbnd _) (by omega), hbit]
        rw [g19 (nI (s_rk S i)) (by rw [rd 19 (by decide)]; exact u1), obind_s] at un
        dsimp only at un
        rw [g27 (nI (s_ra S i)) (by rw [rd 27 (by decide)]; exact u2), obind_s] at un
        dsimp only at un
        rw [ea, obind_s] at un
        dsimp only at un
        rw [g29 (nI (s_rb S i)) (by rw [rd 29 (by decide)]; exact u3), obind_s] at un
        dsimp only at un
        rw [eb, obind_s] at un
        refine fin ?_
        rw [un, hrec]
        rcases (show s_rk S i = 8 ∨ s_rk S i = 9 by omega) with e | e
        · rw [e, if_pos (show nI 8 = 8 from rfl), if_pos (show (8 : Nat) = 8 from rfl)]
          cases inh S a b c q (s_ra S i) <;> cases inh S a b c q (s_rb S i) <;> rfl
        · rw [e, if_neg (show ¬ nI 9 = 8 by decide), if_pos (show nI 9 = 9 from rfl), if_neg (show ¬ (9 : Nat) = 8 by decide), if_pos (show (9 : Nat) = 9 from rfl)]
          cases inh S a b c q (s_ra S i) <;> cases inh S a b c q (s_rb S i) <;> rfl
      · obtain ⟨u1, u2, u3, u4, u5, u6⟩ := hR.rlow hi (by omega)
        obtain ⟨l1, l2, l3, l4, l5, l6, l7⟩ := hlo (by omega)
        rw [g19 3 (by rw [rd 19 (by decide)]; exact u1), obind_s] at un
        dsimp only at un
        rw [g27 (-1) (by rw [rd 27 (by decide)]; exact u2), obind_s] at un
        dsimp only at un
        rw [c_holdsM, obind_s] at un
        dsimp only at un
        rw [g29 (-1) (by rw [rd 29 (by decide)]; exact u3), obind_s] at un
        dsimp only at un
        rw [c_holdsM, obind_s, if_neg (show ¬ (3 : Int32) = 8 by decide), if_neg (show ¬ (3 : Int32) = 9 by decide)] at un
        have hF := fromK_lt (k := s_rk S i) l1 l2 l3 l4
        have hE := endK_lt (k := s_rk S i) l1 l2 l3 l4
        have hT := triK_lt (p := s_rp S i) l1 l2 l3
        have er : m_X6_reaches (nI i) (nI (rk4 a b c q)) σ1 = some (b2i (rchK (fromK (s_rk S i) (s_ra S i) (s_rb S i) (s_rc S i) (s_rp S i)) (endK (s_rk S i) (s_ra S i) (s_rb S i) (s_rc S i) (s_rp S i)) (triK (s_ra S i) (s_rb S i) (s_rc S i) (s_rp S i)) (rk4 a b c q)), σ1) := c_reaches i30 (by rw [rd 21 (by decide)]; exact u4) (by rw [rd 23 (by decide)]; exact u5) (by rw [rd 25 (by decide)]; exact u6) (by omega) (by omega) (by omega) (by omega)
        rw [reach_eq (by omega) l1 l2 l3 l4 ha hb hc hq l5 l6 l7] at er
        dsimp only at un
        rw [er, obind_s] at un
        refine fin ?_
        rw [un, hrec, if_neg (show ¬ s_rk S i = 8 by omega), if_neg (show ¬ s_rk S i = 9 by omega)]) 0 (Nat.zero_le _) m fr.refl (fun r hr => by omega) (fun r _ => by rw [hm 31 (by decide)])
  obtain ⟨M, q1, q2, q3, q4⟩ := key
  refine ⟨M, ?_, q2, fun r hr => ?_, q4⟩
  · unfold m_X6_take
    exact q1
  · rw [q3 r hr, hhx]
end PUBC
