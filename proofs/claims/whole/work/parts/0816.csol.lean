/-! ===== the class: is a choice a solution ===== -/
theorem cnt_iff {S : SP} {D p w : Nat} {c F : Nat → Nat} (h : OnF S D c F) (hp : p < 6) (h3 : s_nft S w ≤ 3) : CntT S (On S D c) p w ↔ s_counts S w (F p) = true := by
  unfold s_counts CntT
  rw [Bool.and_eq_true, Bool.or_eq_true]
  constructor
  · rintro ⟨a, b⟩
    refine ⟨a, ?_⟩
    rcases b with b | b
    · exact Or.inl (by simpa using b)
    · by_cases h0 : s_nft S w = 0
      · exact Or.inl (by simpa using h0)
      · exact Or.inr ((h p hp _ (by omega)).mp b)
  · rintro ⟨a, b⟩
    refine ⟨a, ?_⟩
    rcases b with b | b
    · exact Or.inl (by simpa using b)
    · by_cases h0 : s_nft S w = 0
      · exact Or.inl h0
      · exact Or.inr ((h p hp _ (by omega)).mpr b)
def s_hold (S : SP) (F c : Nat → Nat) (l p : Nat) : Bool := c p == 0 || !anyR (s_nn S (c p - 1)) fun k => decide (s_heir S (s_tgt S (5 * (c p - 1) + k)) ≤ l) && s_counts S (5 * (c p - 1) + k) (F p) && !s_serv S (5 * (c p - 1) + k) (c (s_heir S (s_tgt S (5 * (c p - 1) + k))))
def s_stand (S : SP) (F c : Nat → Nat) (l : Nat) : Bool := !anyR (l + 1) fun p => !s_hold S F c l p
def s_pw (S : SP) (F c : Nat → Nat) (p : Nat) : Nat := if c p = 0 then 0 else s_plb S (c p - 1) (F p)
def s_pset (S : SP) (D : Nat) (F c : Nat → Nat) : Nat := its (fun p => p) (s_pw S F c) 6 6 (s_dset S D)
def s_pulled (S : SP) (D : Nat) (F c : Nat → Nat) : Bool := !anyR 6 fun p => c p != 0 && !(s_pset S D F c).testBit p
def s_meets (S : SP) (D : Nat) (c : Nat → Nat) : Bool := !anyR (s_nd S) fun d => D.testBit d && !(c (s_heir S (s_dtg S d)) != 0 && s_has S (24 * s_drg S d + (c (s_heir S (s_dtg S d)) - 1)) == 1)
theorem s_serv_iff {S : SP} {c : Nat → Nat} {w : Nat} : s_serv S w (c (s_heir S (s_tgt S w))) = true ↔ Served S c w := by
  unfold s_serv Served
  by_cases h : c (s_heir S (s_tgt S w)) = 0 <;> simp [h]
theorem s_meets_iff {S : SP} {D : Nat} {c : Nat → Nat} : s_meets S D c = true ↔ DemOK S D c := by
  unfold s_meets DemOK
  rw [Bool.not_eq_true', anyR_f]
  constructor
  · intro h d hd hb
    have := h d hd
    rw [hb] at this
    simpa using this
  · intro h d hd
    cases hb : D.testBit d with
    | false => rfl
    | true =>
      have := h d hd hb
      simp [this.1, this.2]
section SOLC
variable {S : SP} {D : Nat} {c F : Nat → Nat}
theorem s_stand_iff (hW : WF S) (hF : OnF S D c F) (hc : ∀ p, p < 6 → c p ≤ s_nv S) : s_stand S F c 5 = true ↔ NeedOK S D c := by
  unfold s_stand NeedOK
  rw [Bool.not_eq_true', anyR_f]
  constructor
  · intro h p hp h0 k hk hcn
    have hv : c p - 1 < s_nv S := by have := hc p hp; omega
    have wn := hW.need hv hk
    have wh := s_heir_lt hW wn.1
    have h1 := h p hp
    unfold s_hold at h1
    rw [Bool.not_eq_false', Bool.or_eq_true, Bool.not_eq_true', anyR_f] at h1
    rcases h1 with h1 | h1
    · exact absurd (by simpa using h1) h0
    · have h2 := h1 k hk
      rw [(cnt_iff hF hp wn.2.2.2.1).mp hcn, decide_eq_true (show s_heir S (s_tgt S (5 * (c p - 1) + k)) ≤ 5 by omega)] at h2
      exact s_serv_iff.mp (by simpa using h2)
  · intro h p hp
    unfold s_hold
    rw [Bool.not_eq_false', Bool.or_eq_true, Bool.not_eq_true', anyR_f]
    by_cases h0 : c p = 0
    · exact Or.inl (by simpa using h0)
    · refine Or.inr fun k hk => ?_
      have hv : c p - 1 < s_nv S := by have := hc p hp; omega
      have wn := hW.need hv hk
      cases hcn : s_counts S (5 * (c p - 1) + k) (F p) with
      | false => simp
      | true =>
        have := s_serv_iff.mpr (h p hp h0 k hk ((cnt_iff hF hp wn.2.2.2.1).mpr hcn))
        rw [this]
        simp
theorem s_pw_lt (hW : WF S) (hc : ∀ p, p < 6 → c p ≤ s_nv S) : ∀ p, p < 6 → s_pw S F c p < 2 ^ 6 := fun p hp => by
  unfold s_pw
  split
  · decide
  · exact s_plb_lt hW (by have := hc p hp; omega)
theorem s_plb_bit {v fs q : Nat} : (s_plb S v fs).testBit q = anyR (s_nn S v) fun k => s_nkd S (5 * v + k) != 2 && s_counts S (5 * v + k) fs && s_heir S (s_tgt S (5 * v + k)) == q := by
  unfold s_plb
  rw [orR_bit]
  refine anyR_congr fun k hk => ?_
  cases h : (s_nkd S (5 * v + k) != 2 && s_counts S (5 * v + k) fs) with
  | true => rw [if_pos rfl, p2_bit, Bool.true_and]; rfl
  | false => simp
theorem s_pset_iff (hW : WF S) (hF : OnF S D c F) (hc : ∀ p, p < 6 → c p ≤ s_nv S) {p : Nat} : (s_pset S D F c).testBit p = true ↔ Pul S D c p := by
  constructor
  · intro h Q hQ
    refine its_sound (Q := Q) (fun i hi hq q hb => ?_) (fun q hb => ?_) 6 p h
    · unfold s_pw at hb
      split at hb
      · simp at hb
      · rename_i h0
        rw [s_plb_bit] at hb
        obtain ⟨k, hk, hb⟩ := anyR_t.mp hb
        rw [Bool.and_eq_true, Bool.and_eq_true] at hb
        have hv : c i - 1 < s_nv S := by have := hc i hi; omega
        have := hQ.2 i hi h0 hq k hk ((cnt_iff hF hi (hW.need hv hk).2.2.2.1).mpr hb.1.2) (by simpa using hb.1.1)
        rw [show q = s_heir S (s_tgt S (5 * (c i - 1) + k)) from by have := hb.2; simp at this; exact this.symm]
        exact this
    · rw [s_dset_bit] at hb
      obtain ⟨d, hd, hb⟩ := anyR_t.mp hb
      rw [Bool.and_eq_true] at hb
      have := hQ.1 d hd hb.1
      rw [show q = s_heir S (s_dtg S d) from by have := hb.2; simp at this; exact this.symm]
      exact this
  · intro h
    have hcl := its_clo (key := fun p => p) (w := s_pw S F c) (n := 6) (s_pw_lt hW hc) (s_dset_lt hW D)
    refine h (fun q => (s_pset S D F c).testBit q = true) ⟨fun d hd hb => ?_, fun q hq h0 hb k hk hcn h2 => ?_⟩
    · refine its_mono 6 ?_
      rw [s_dset_bit]
      exact anyR_t.mpr ⟨d, hd, by simp [hb]⟩
    · refine hcl q hq hb _ ?_
      have hv : c q - 1 < s_nv S := by have := hc q hq; omega
      unfold s_pw
      rw [if_neg h0, s_plb_bit]
      refine anyR_t.mpr ⟨k, hk, ?_⟩
      rw [(cnt_iff hF hq (hW.need hv hk).2.2.2.1).mp hcn]
      simpa using h2
theorem s_pulled_iff (hW : WF S) (hF : OnF S D c F) (hc : ∀ p, p < 6 → c p ≤ s_nv S) : s_pulled S D F c = true ↔ ∀ p, p < 6 → c p ≠ 0 → Pul S D c p := by
  unfold s_pulled
  rw [Bool.not_eq_true', anyR_f]
  constructor
  · intro h p hp h0
    refine (s_pset_iff hW hF hc).mp ?_
    have := h p hp
    cases hb : (s_pset S D F c).testBit p with
    | true => rfl
    | false =>
      rw [hb] at this
      simp [h0] at this
  · intro h p hp
    by_cases h0 : c p = 0
    · simp [h0]
    · rw [(s_pset_iff hW hF hc).mpr (h p hp h0)]
      simp
end SOLC
section CLS5
variable {S : SP} {pa oa D : Nat} {c F : Nat → Nat} {σ : Mem}
theorem c_holdsNeeds (hW : WF S) (h : CH S pa oa c F σ) {p l : Nat} (hp : p < 6) (hl : l < 6) : m_X1_holdsNeeds pa oa (nI p) (nI l) σ = some (b2i (s_hold S F c l p), σ) := by
  have hcl := h.2.2.2.2.2.2 p hp
  have h24 := hW.nv
  have hR := h.1
  have hF := h.2.2.2.2.2.1 p hp
  unfold m_X1_holdsNeeds
  by_cases h0 : c p = 0
  · obtain ⟨g, hg⟩ : ∃ g, FU = g + 1 := ⟨3999999, rfl⟩
    rw [h.pick hp, obind_s, h0, show oi 0 = -1 from rfl, c_endM, obind_s, c_firstM, obind_s, hg]
    unfold m_X1_holdsNeeds_35
    rw [if_pos (show (-6 : Int32) ≤ -5 by decide)]
    unfold s_hold
    rw [h0]
    rfl
  · obtain ⟨v, hv⟩ : ∃ v, c p = v + 1 := ⟨c p - 1, by omega⟩
    have hvn : v < s_nv S := by omega
    have h5 := hW.nn (show v < 24 by omega)
    rw [h.pick hp, obind_s, hv, oi_s, c_end hW hR hvn, obind_s, c_first, obind_s]
    have e0 : s_hold S F c l p = !anyR (s_nn S v) fun k => decide (s_heir S (s_tgt S (5 * v + k)) ≤ l) && s_counts S (5 * v + k) (F p) && !s_serv S (5 * v + k) (c (s_heir S (s_tgt S (5 * v + k)))) := by
      unfold s_hold
      rw [hv, Nat.add_sub_cancel]
      simp
    rw [e0]
    have key := up_fu (n := s_nn S v) (P := fun i f => anyR i (fun k => decide (s_heir S (s_tgt S (5 * v + k)) ≤ l) && s_counts S (5 * v + k) (F p) && !s_serv S (5 * v + k) (c (s_heir S (s_tgt S (5 * v + k))))) = false → m_X1_holdsNeeds_35 pa oa f (nI p) (nI l) (nI (5 * v + s_nn S v)) (nI (5 * v + i)) σ = some (b2i (!anyR (s_nn S v) fun k => decide (s_heir S (s_tgt S (5 * v + k)) ≤ l) && s_counts S (5 * v + k) (F p) && !s_serv S (5 * v + k) (c (s_heir S (s_tgt S (5 * v + k))))), σ)) (by omega) (fun f hh => by
        unfold m_X1_holdsNeeds_35
        rw [if_pos (nI_le (Nat.le_refl _) (by omega)), hh]
        rfl) (fun i f hi ih hh => by
        have wn := hW.need hvn hi
        have wh := s_heir_lt hW wn.1
        have hct := h.2.2.2.2.2.2 _ wh
        rw [anyR_s, hh, Bool.false_or, ← Nat.add_assoc] at ih
        unfold m_X1_holdsNeeds_35
        rw [if_neg (nI_ge (show 5 * v + i < 5 * v + s_nn S v by omega) (by omega))]
        simp only [c_targetOfNeed hW hR hvn hi, h.on hp, c_counts hW hR hvn hi (show F p < 2 ^ 31 by omega), h.pick wh, c_isServed hW hR hvn hi hct, obind_some, b2i_0, nI_1]
        by_cases g1 : s_heir S (s_tgt S (5 * v + i)) ≤ l
        · rw [if_neg (fun e => by have := (nI_ltI (show l < 2 ^ 31 by omega) (show s_heir S (s_tgt S (5 * v + i)) < 2 ^ 31 by omega)).mp e; omega)]
          cases g2 : s_counts S (5 * v + i) (F p) with
          | false =>
            rw [if_pos rfl]
            exact ih (by simp [g2])
          | true =>
            rw [if_neg (by simp)]
            cases g3 : s_serv S (5 * v + i) (c (s_heir S (s_tgt S (5 * v + i)))) with
            | true =>
              rw [if_neg (by simp)]
              exact ih (by simp [g3])
            | false =>
              rw [if_pos rfl, anyR_t.mpr ⟨i, hi, by simp [g1, g2, g3]⟩]
              rfl
        · rw [if_pos ((nI_ltI (show l < 2 ^ 31 by omega) (show s_heir S (s_tgt S (5 * v + i)) < 2 ^ 31 by omega)).mpr (by omega))]
          exact ih (by simp [g1])) 0 (Nat.zero_le _) rfl
    rw [Nat.add_zero] at key
    exact key
theorem c_standsUpTo (hW : WF S) (h : CH S pa oa c F σ) {l : Nat} (hl : l < 6) : m_X1_standsUpTo pa oa (nI l) σ = some (b2i (s_stand S F c l), σ) := by
  unfold s_stand
  refine up_fu (n := l + 1) (P := fun i f => anyR i (fun p => !s_hold S F c l p) = false → m_X1_standsUpTo_2 pa oa f (nI l) (nI i) σ = some (b2i (!anyR (l + 1) fun p => !s_hold S F c l p), σ)) (by omega) (fun f hh => ?_) (fun i f hi ih hh => ?_) 0 (Nat.zero_le _) rfl
  · unfold m_X1_standsUpTo_2
    rw [if_pos ((nI_ltI (by omega) (by omega)).mpr (Nat.lt_succ_self l)), hh]
    rfl
  · rw [anyR_s, hh, Bool.false_or] at ih
    unfold m_X1_standsUpTo_2
    rw [if_neg (fun e => by have := (nI_ltI (show l < 2 ^ 31 by omega) (show i < 2 ^ 31 by omega)).mp e; omega), c_holdsNeeds hW h (show i < 6 by omega) hl]
    simp only [obind_some, b2i_0, nI_1]
    cases g : s_hold S F c l i with
    | true =>
      rw [if_neg (by simp)]
      exact ih (by simp [g])
    | false =>
      rw [if_pos rfl, anyR_t.mpr ⟨i, hi, by simp [g]⟩]
      rfl
theorem c_isPulled (hW : WF S) (hD : D < 64) (h : CH S pa oa c F σ) : m_X1_isPulled pa oa (nI D) σ = some (b2i (s_pulled S D F c), σ) := by
  have hR := h.1
  have hcl := h.2.2.2.2.2.2
  have hF := h.2.2.2.2.2.1
  have h24 := hW.nv
  have hw := s_pw_lt (F := F) hW hcl
  have hset := its_lt (key := fun p => p) hw (s_dset_lt hW D)
  have fin : m_X1_isPulled_78 pa oa FU (nI (s_pset S D F c)) 0 σ = some (b2i (s_pulled S D F c), σ) := by
    have hs : s_pset S D F c < 2 ^ 6 := hset 6
    unfold s_pulled
    refine up_fu (n := 6) (P := fun i f => anyR i (fun p => c p != 0 && !(s_pset S D F c).testBit p) = false → m_X1_isPulled_78 pa oa f (nI (s_pset S D F c)) (nI i) σ = some (b2i (!anyR 6 fun p => c p != 0 && !(s_pset S D F c).testBit p), σ)) (by decide) (fun f hh => ?_) (fun i f hi ih hh => ?_) 0 (Nat.zero_le _) rfl
    · unfold m_X1_isPulled_78
      rw [if_pos (show (6 : Int32) ≤ nI 6 by decide), hh]
      rfl
    · rw [anyR_s, hh, Bool.false_or] at ih
      have hci := hcl i hi
      unfold m_X1_isPulled_78
      rw [if_neg (show ¬ (6 : Int32) ≤ nI i from nI_ge (b := 6) hi (by decide)), h.pick hi]
      simp only [obind_some, b2i_0, nI_1, oi_m1 (show c i < 2 ^ 31 by omega), x_isIn (show s_pset S D F c < 2 ^ 31 by omega) (show i < 31 by omega)]
      by_cases g1 : c i = 0
      · rw [if_pos g1]
        exact ih (by simp [g1])
      · rw [if_neg g1]
        cases g2 : (s_pset S D F c).testBit i with
        | true =>
          rw [if_neg (by simp)]
          exact ih (by simp [g2])
        | false =>
          rw [if_pos rfl, anyR_t.mpr ⟨i, hi, by simp [g1, g2]⟩]
          rfl
  have round : ∀ (f11 : Int32 → Int32 → Mem → Option (Int32 × Mem)) (P r : Nat), P < 2 ^ 6 → m_X1_isPulled_20 pa oa f11 FU (nI P) (nI r) 0 σ = f11 (nI (rndS (fun p => p) (s_pw S F c) 6 P)) (nI (r + 1)) σ := by
    intro f11 P r hP
    refine up_fu (n := 6) (P := fun i f => m_X1_isPulled_20 pa oa f11 f (nI (rndS (fun p => p) (s_pw S F c) i P)) (nI r) (nI i) σ = f11 (nI (rndS (fun p => p) (s_pw S F c) 6 P)) (nI (r + 1)) σ) (by decide) (fun f => ?_) (fun i f hi ih => ?_) 0 (Nat.zero_le _)
    · unfold m_X1_isPulled_20
      rw [if_pos (show (6 : Int32) ≤ nI 6 by decide), nI_1]
    · have hlt : rndS (fun p => p) (s_pw S F c) i P < 2 ^ 6 := rnd_lt i (fun j hj => hw j (by omega)) hP
      have hci := hcl i hi
      have hFi := hF i hi
      have e4 : m_X10_pulledBy (oi (c i)) (nI (F i)) σ = some (nI (s_pw S F c i), σ) := by
        unfold s_pw
        by_cases g1 : c i = 0
        · rw [g1, oi_0, c_pulledByM]
          rfl
        · obtain ⟨v, hv⟩ : ∃ v, c i = v + 1 := ⟨c i - 1, by omega⟩
          rw [if_neg g1, hv, oi_s, Nat.add_sub_cancel, c_pulledBy hW hR (by omega) (by omega)]
      have hstp : rndS (fun p => p) (s_pw S F c) (i + 1) P = stp (fun p => p) (s_pw S F c) (rndS (fun p => p) (s_pw S F c) i P) i := rfl
      rw [hstp] at ih
      unfold stp at ih
      unfold m_X1_isPulled_20
      rw [if_neg (show ¬ (6 : Int32) ≤ nI i from nI_ge (b := 6) hi (by decide))]
      simp only [x_isIn (show rndS (fun p => p) (s_pw S F c) i P < 2 ^ 31 by omega) (show i < 31 by omega), h.pick hi, h.on hi, e4, obind_some, b2i_0, nI_1, nI_or]
      cases g : (rndS (fun p => p) (s_pw S F c) i P).testBit i with
      | true =>
        rw [g] at ih
        simpa using ih
      | false =>
        rw [g] at ih
        simpa using ih
  unfold m_X1_isPulled
  rw [c_demanded hW hR hD, obind_s]
  refine up_fu (n := 6) (P := fun r f => m_X1_isPulled_11 pa oa f (nI (its (fun p => p) (s_pw S F c) 6 r (s_dset S D))) (nI r) σ = some (b2i (s_pulled S D F c), σ)) (by decide) (fun f => ?_) (fun r f hr ih => ?_) 0 (Nat.zero_le _)
  · unfold m_X1_isPulled_11
    rw [if_pos (show (6 : Int32) ≤ nI 6 by decide)]
    exact fin
  · unfold m_X1_isPulled_11
    rw [if_neg (show ¬ (6 : Int32) ≤ nI r from nI_ge (b := 6) hr (by decide)), round _ _ _ (hset r)]
    exact ih
theorem c_meets (hW : WF S) (hD : D < 64) (hR : RC S σ) (hc : ∀ p, p < 6 → σ pa p = oi (c p)) (hn : ∀ p, p < 6 → c p ≤ s_nv S) : m_X1_meets pa oa (nI D) σ = some (b2i (s_meets S D c), σ) := by
  have h6 := hW.nd
  have h24 := hW.nv
  unfold s_meets
  refine up_fu (n := s_nd S) (P := fun i f => anyR i (fun d => D.testBit d && !(c (s_heir S (s_dtg S d)) != 0 && s_has S (24 * s_drg S d + (c (s_heir S (s_dtg S d)) - 1)) == 1)) = false → m_X1_meets_2 pa oa f (nI D) (nI i) σ = some (b2i (!anyR (s_nd S) fun d => D.testBit d && !(c (s_heir S (s_dtg S d)) != 0 && s_has S (24 * s_drg S d + (c (s_heir S (s_dtg S d)) - 1)) == 1)), σ)) (by omega) (fun f hh => ?_) (fun i f hi ih hh => ?_) 0 (Nat.zero_le _) rfl
  · unfold m_X1_meets_2
    rw [hR.nd, if_pos (nI_le (Nat.le_refl _) (by omega)), hh]
    rfl
  · have wd := hW.dem hi
    have wh := s_heir_lt hW wd.2.1
    have hct := hn _ wh
    have e1 : m_X7_get 53 6 (nI i) σ = some (nI (s_drg S i), σ) := by rw [x_get (by omega) (by decide), (hR.dem hi).2.2.1]
    have e2 : m_X7_get pa 6 (nI (s_heir S (s_dtg S i))) σ = some (oi (c (s_heir S (s_dtg S i))), σ) := by rw [x_get wh (by decide), hc _ wh]
    have e3 : m_X6_holds (nI (s_drg S i)) (oi (c (s_heir S (s_dtg S i)))) σ = some (b2i (c (s_heir S (s_dtg S i)) != 0 && s_has S (24 * s_drg S i + (c (s_heir S (s_dtg S i)) - 1)) == 1), σ) := by
      by_cases g : c (s_heir S (s_dtg S i)) = 0
      · rw [g, oi_0]
        unfold m_X6_holds
        have h30 := hW.nr
        obtain ⟨k, hk⟩ : ∃ k, s_nr S = k + 1 := ⟨s_nr S - 1, by omega⟩
        rw [hR.nr, hk, nI_pred, x_upTo (by omega) (by omega)]
        simp [obind_some, x_get (σ := σ) (a := 31) (show s_drg S i < 30 by omega) (by decide), x_isInM, b2i]
      · obtain ⟨v, hv⟩ : ∃ v, c (s_heir S (s_dtg S i)) = v + 1 := ⟨c (s_heir S (s_dtg S i)) - 1, by omega⟩
        rw [hv, oi_s, c_holds hW hR wd.2.2.1 (by omega)]
        simp
    rw [anyR_s, hh, Bool.false_or] at ih
    unfold m_X1_meets_2
    rw [hR.nd, if_neg (nI_ge hi (by omega))]
    simp only [c_targetOfDemand hW hR hi, e1, e2, e3, x_isIn (show D < 2 ^ 31 by omega) (show i < 31 by omega), obind_some, b2i_0, nI_1]
    cases g1 : D.testBit i with
    | false =>
      rw [if_pos rfl]
      exact ih (by simp [g1])
    | true =>
      rw [if_neg (by simp)]
      cases g2 : (c (s_heir S (s_dtg S i)) != 0 && s_has S (24 * s_drg S i + (c (s_heir S (s_dtg S i)) - 1)) == 1) with
      | true =>
        rw [if_neg (by simp)]
        exact ih (by rw [g2]; simp)
      | false =>
        rw [if_pos rfl, anyR_t.mpr ⟨i, hi, by rw [g1, g2]; rfl⟩]
        rfl
/-- the class's test of a whole choice -/
theorem c_isSolution (hW : WF S) (hD : D < 64) (hR : RC S σ) (h1 : pa ≠ oa) (h2 : ∀ k ∈ cData, k ∉ [oa]) (hc : ∀ p, p < 6 → σ pa p = oi (c p)) (hcd : ∀ p, p < 6 → Cand S p (c p)) : ∃ σ' b, m_X1_isSolution pa oa (nI D) σ = some (b2i b, σ') ∧ fr [oa] σ σ' ∧ (b = true ↔ SolF S D c) := by
  have hn : ∀ p, p < 6 → c p ≤ s_nv S := fun p hp => by
    rcases hcd p hp with h | h
    · omega
    · omega
  unfold m_X1_isSolution
  rw [c_meets hW hD hR hc hn, obind_some]
  cases g1 : s_meets S D c with
  | false =>
    refine ⟨σ, false, by rw [if_pos (show b2i false = 0 from rfl)]; rfl, fr.refl, ⟨fun h => (by cases h), fun h => ?_⟩⟩
    have := s_meets_iff.mpr h.2.1
    rw [g1] at this
    cases this
  | true =>
    obtain ⟨σ', F, q1, q2, q3, q4⟩ := c_turnOn hW hD hR h1 h2 hc hn
    have d1 := s_meets_iff.mp g1
    rw [if_neg (show ¬ b2i true = 0 by decide), q1, obind_some, show (5 : Int32) = nI 5 from rfl, c_standsUpTo hW q2 (by decide), obind_some]
    cases g2 : s_stand S F c 5 with
    | false =>
      refine ⟨σ', false, by rw [if_pos (show b2i false = 0 from rfl)]; rfl, q3, ⟨fun h => (by cases h), fun h => ?_⟩⟩
      have := (s_stand_iff hW q4 hn).mpr h.2.2.1
      rw [g2] at this
      cases this
    | true =>
      have d2 := (s_stand_iff hW q4 hn).mp g2
      rw [if_neg (show ¬ b2i true = 0 by decide), c_isPulled hW hD q2, obind_some]
      cases g3 : s_pulled S D F c with
      | false =>
        refine ⟨σ', false, by rw [if_pos (show b2i false = 0 from rfl)]; rfl, q3, ⟨fun h => (by cases h), fun h => ?_⟩⟩
        have := (s_pulled_iff hW q4 hn).mpr h.2.2.2
        rw [g3] at this
        cases this
      | true =>
        have d3 := (s_pulled_iff hW q4 hn).mp g3
        exact ⟨σ', true, by rw [if_neg (show ¬ b2i true = 0 by decide)]; rfl, q3, ⟨fun _ => ⟨hcd, d1, d2, d3⟩, fun _ => rfl⟩⟩
end CLS5
