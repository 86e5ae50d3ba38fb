/-! ===== the reference: what a search begins with ===== -/
def s_rA (S : SP) (v : Nat) : Nat := orR (s_nn S v) fun k => 2 ^ s_heir S (s_tgt S (5 * v + k))
section RBEG
variable {S : SP} {σ : Mem} {D w : Nat}
theorem s_rA_lt (hW : WF S) : ∀ v, v < s_nv S → s_rA S v < 2 ^ 6 := fun _ hv => orR_lt fun _ hk => p2_lt (s_heir_lt hW (hW.need hv hk).1)
theorem r_reached75 (hW : WF S) (hR : RM S σ) {v : Nat} (hv : v < s_nv S) {f55 : Int32 → Int32 → Mem → Option (Int32 × Mem)} {f64 : Int32 → Int32 → Int32 → Mem → Option (Int32 × Mem)} {y : Int32} {P : Nat} (hP : P < 2 ^ 6) : m_X12_reached_75 f55 f64 FU (nI P) y (nI v) 0 σ = f64 (nI (stp (s_own S) (s_rA S) P v)) y (nI (v + 1)) σ := by
  have h24 := hW.nv
  have h5 := hW.nn (show v < 24 by omega)
  have ho := hW.own hv
  obtain ⟨-, -, -, -, -, -, -, -, e8⟩ := r_rd hW.1 hR.1 hv
  unfold stp
  cases hb : P.testBit (s_own S v) with
  | false =>
    rw [if_neg (by decide)]
    obtain ⟨g, hg⟩ : ∃ g, FU = g + 1 := ⟨3999999, rfl⟩
    rw [hg, m_X12_reached_75]
    rw [e8, obind_some]
    by_cases h0 : s_nn S v = 0
    · rw [if_pos (show nI (s_nn S v) ≤ 0 by rw [h0]; decide), nI_1]
    · rw [if_neg (show ¬ nI (s_nn S v) ≤ 0 from nI_ge (a := 0) (by omega) (by omega)), r_packageOf hW.1 hR.1 hv, obind_some, if_neg (fun e => by
        have := (bit_iff (show P < 2 ^ 31 by omega) (show s_own S v < 31 by omega)).mp e
        rw [hb] at this
        cases this), nI_1]
  | true =>
    rw [if_pos rfl]
    unfold s_rA
    have key := up_fu (n := s_nn S v) (P := fun i f => m_X12_reached_75 f55 f64 f (nI (P ||| orR i fun k => 2 ^ s_heir S (s_tgt S (5 * v + k)))) y (nI v) (nI i) σ = f64 (nI (P ||| orR (s_nn S v) fun k => 2 ^ s_heir S (s_tgt S (5 * v + k)))) y (nI (v + 1)) σ) (by omega) (fun f => by
        rw [m_X12_reached_75]
        rw [e8, obind_some, if_pos (nI_le (Nat.le_refl _) (by omega)), nI_1]) (fun i f hi ih => by
        have wn := hW.need hv hi
        have wh := s_heir_lt hW wn.1
        have hlt : P ||| (orR i fun k => 2 ^ s_heir S (s_tgt S (5 * v + k))) < 2 ^ 6 := Nat.or_lt_two_pow hP (orR_lt fun k hk => p2_lt (s_heir_lt hW (hW.need hv (by omega)).1))
        obtain ⟨n0, -⟩ := r_need hW hR hv hi
        have hbit : (P ||| orR i fun k => 2 ^ s_heir S (s_tgt S (5 * v + k))).testBit (s_own S v) = true := by rw [Nat.testBit_or, hb, Bool.true_or]
        rw [m_X12_reached_75]
        rw [e8, obind_some, if_neg (nI_ge hi (by omega)), r_packageOf hW.1 hR.1 hv, obind_some, if_pos ((bit_iff (by omega) (by omega)).mpr hbit), n0, obind_some, r_standsFor hW hR wn.1, obind_some, obind_some, one_shl (by omega), nI_or, Nat.or_assoc, nI_1]
        exact ih) 0 (Nat.zero_le _)
    rw [show (P ||| orR 0 fun k => 2 ^ s_heir S (s_tgt S (5 * v + k))) = P from by simp [orR]] at key
    exact key
theorem r_reached64 (hW : WF S) (hR : RM S σ) {f55 : Int32 → Int32 → Mem → Option (Int32 × Mem)} {y : Int32} {P : Nat} (hP : P < 2 ^ 6) : m_X12_reached_64 f55 FU (nI P) y 0 σ = f55 (nI (rndS (s_own S) (s_rA S) (s_nv S) P)) y σ := by
  have h24 := hW.nv
  refine up_fu (n := s_nv S) (P := fun i f => m_X12_reached_64 f55 f (nI (rndS (s_own S) (s_rA S) i P)) y (nI i) σ = f55 (nI (rndS (s_own S) (s_rA S) (s_nv S) P)) y σ) (by omega) (fun f => ?_) (fun i f hi ih => ?_) 0 (Nat.zero_le _)
  · rw [m_X12_reached_64]
    rw [hR.nv, if_pos (nI_le (Nat.le_refl _) (by omega))]
  · rw [m_X12_reached_64]
    rw [hR.nv, if_neg (nI_ge hi (by omega)), r_reached75 hW hR hi (rnd_lt i (fun j hj => s_rA_lt hW j (by omega)) hP)]
    exact ih
theorem r_reached55 (hW : WF S) (hR : RM S σ) : ∀ (k r f : Nat), r + k = 7 → k < f → ∀ (P : Nat) (y : Int32), P < 2 ^ 6 → r ≤ cnt6 P → ¬ y = nI P → ∃ P', m_X12_reached_55 f (nI P) y σ = some (nI P', σ) ∧ P' < 2 ^ 6 ∧ clo (s_own S) (s_rA S) (s_nv S) P' ∧ ∀ q, P.testBit q = true → P'.testBit q = true := by
  refine up_ind2 (n := 7) (P := fun r f => ∀ (P : Nat) (y : Int32), P < 2 ^ 6 → r ≤ cnt6 P → ¬ y = nI P → ∃ P', m_X12_reached_55 f (nI P) y σ = some (nI P', σ) ∧ P' < 2 ^ 6 ∧ clo (s_own S) (s_rA S) (s_nv S) P' ∧ ∀ q, P.testBit q = true → P'.testBit q = true) (fun f P y hP hc _ => ?_) (fun r f hr hf ih P y hP hc hy => ?_)
  · have := cntR_le 6 fun p => P.testBit p
    unfold cnt6 at hc
    omega
  · have hP1 := rnd_lt (key := s_own S) (s_nv S) (s_rA_lt hW) hP
    have e : m_X12_reached_55 (f + 1) (nI P) y σ = m_X12_reached_55 f (nI (rndS (s_own S) (s_rA S) (s_nv S) P)) (nI P) σ := by
      rw [m_X12_reached_55]
      rw [if_neg hy, r_reached64 hW hR hP]
    rcases rnd_grow (key := s_own S) (s_nv S) (s_rA_lt hW) hP with h | h
    · obtain ⟨g, rfl⟩ : ∃ g, f = g + 1 := ⟨f - 1, by omega⟩
      refine ⟨P, ?_, hP, h, fun q h => h⟩
      rw [e, clo_rnd _ h, m_X12_reached_55]
      rw [if_pos rfl]
    · obtain ⟨P', q1, q2, q3, q4⟩ := ih _ (nI P) hP1 (by omega) (fun e2 => by
        rw [← (nI_eq (show P < 2 ^ 31 by omega) (show rndS (s_own S) (s_rA S) (s_nv S) P < 2 ^ 31 by omega)).mp e2] at h
        exact Nat.lt_irrefl _ h)
      exact ⟨P', by rw [e, q1], q2, q3, fun q hq => q4 q (rnd_mono _ hq)⟩
theorem r_reached (hW : WF S) (hR : RM S σ) (hD : D < 64) (h25 : σ 94 25 = nI D) : ∃ P, m_X12_reached σ = some (nI P, σ) ∧ P < 2 ^ 6 ∧ ∀ c : Nat → Nat, (∀ p, p < 6 → Cand S p (c p)) → ∀ p, Pul S D c p → P.testBit p = true := by
  have h6 := hW.nd
  have hds := s_dset_lt hW D
  obtain ⟨P', q1, q2, q3, q4⟩ := r_reached55 hW hR 7 0 FU (by omega) (by rw [FU_eq]; omega) (s_dset S D) (-1) hds (Nat.zero_le _) (fun e => nI_nm1 (show s_dset S D < 2 ^ 31 by omega) e.symm)
  refine ⟨P', ?_, q2, fun c hc p h => ?_⟩
  · refine up_fu (n := s_nd S) (P := fun i f => m_X12_reached_4 f (nI (orR i fun d => if D.testBit d = true then 2 ^ s_heir S (s_dtg S d) else 0)) (nI i) σ = some (nI P', σ)) (by omega) (fun f => ?_) (fun i f hi ih => ?_) 0 (Nat.zero_le _)
    · rw [m_X12_reached_4]
      rw [hR.nd, if_pos (nI_le (Nat.le_refl _) (by omega))]
      exact q1
    · have wd := hW.dem hi
      have wh := s_heir_lt hW wd.2.1
      obtain ⟨-, d1, -⟩ := r_dem hW hR hi
      rw [m_X12_reached_4]
      unfold m_X12_reached_45
      rw [hR.nd, if_neg (nI_ge hi (by omega)), h25]
      simp only [d1, r_standsFor hW hR wd.2.1, obind_some, nI_1, bit_iff (show D < 2 ^ 31 by omega) (show i < 31 by omega), one_shl (show s_heir S (s_dtg S i) < 31 by omega), nI_or]
      cases hb : D.testBit i with
      | true =>
        simp only [orR, hb, if_true] at ih
        rw [if_pos rfl]
        exact ih
      | false =>
        simp only [orR, hb, Bool.false_eq_true, if_false, Nat.or_zero] at ih
        rw [if_neg (by decide), show ∀ x : Int32, x ||| 0 = x from fun x => by simp]
        exact ih
  · refine h (fun q => P'.testBit q = true) ⟨fun d hd hb => ?_, fun q hq h0 hb k hk hcn h2 => ?_⟩
    · refine q4 _ ?_
      rw [s_dset_bit]
      exact anyR_t.mpr ⟨d, hd, by simp [hb]⟩
    · rcases hc q hq with h1 | ⟨h1, h3, h4⟩
      · exact absurd h1 h0
      · refine q3 (c q - 1) h1 (by rw [h3]; exact hb) _ ?_
        unfold s_rA
        rw [orR_bit]
        exact anyR_t.mpr ⟨k, hk, by rw [p2_bit]; simp⟩
/-! the candidates -/
def s_wR (S : SP) (x : Nat) : Nat := if x = 0 then 0 else s_rank S (x - 1) + 1
def okM (S : SP) (D w P p x : Nat) : Prop := Cand S p x ∧ s_dmd S D p x = true ∧ (isW S w p = true → x = w) ∧ (x ≠ 0 → P.testBit p = true)
def OffM (σ : Mem) (p : Nat) (L : List Nat) : Prop := RoL σ 109 (5 * p) L ∧ σ 110 p = nI L.length
def OSpM (S : SP) (D w P p : Nat) (L : List Nat) : Prop := L.length ≤ 5 ∧ dsc (s_wR S) L ∧ ∀ x, x ∈ L ↔ okM S D w P p x
def FM (p : Nat) (σ σ' : Mem) : Prop := fr [109, 110] σ σ' ∧ (∀ j, (j < 5 * p ∨ 5 * p + 5 ≤ j) → σ' 109 j = σ 109 j) ∧ ∀ q, q ≠ p → σ' 110 q = σ 110 q
theorem FM.refl {p : Nat} : FM p σ σ := ⟨fr.refl, fun _ _ => rfl, fun _ _ => rfl⟩
theorem FM.trans {p : Nat} {σ' σ'' : Mem} (h : FM p σ σ') (h' : FM p σ' σ'') : FM p σ σ'' := ⟨h.1.trans h'.1, fun j hj => (h'.2.1 j hj).trans (h.2.1 j hj), fun q hq => (h'.2.2 q hq).trans (h.2.2 q hq)⟩
theorem FM.off {p j : Nat} {x : Int32} (h : 5 * p ≤ j) (h' : j < 5 * p + 5) : FM p σ (up σ 109 j x) := ⟨fr.up (by simp), fun k hk => up_off _ _ (Or.inr (by omega)), fun q _ => by rw [up_pl _ _ (by decide)]⟩
theorem FM.cnt {p : Nat} {x : Int32} : FM p σ (up σ 110 p x) := ⟨fr.up (by simp), fun k _ => by rw [up_pl _ _ (by decide)], fun q hq => up_off _ _ (Or.inr hq)⟩
theorem nd_lenN : ∀ {l l' : List Nat}, l.Nodup → (∀ x, x ∈ l → x ∈ l') → l.length ≤ l'.length
  | [], l', _, _ => Nat.zero_le _
  | a :: l, l', h, hs => by
    rw [List.nodup_cons] at h
    have ha := hs a (by simp)
    have h1 := nd_lenN (l := l) (l' := l'.erase a) h.2 (fun x hx => by
      have hne : x ≠ a := fun e => h.1 (e ▸ hx)
      exact (List.mem_erase_of_ne hne).mpr (hs x (by simp [hx])))
    rw [List.length_erase_of_mem ha] at h1
    have : 0 < l'.length := List.length_pos_of_mem ha
    rw [List.length_cons]
    omega
theorem dsc_nd {wt : Nat → Nat} {L : List Nat} (h : dsc wt L) : L.Nodup := by
  refine List.Pairwise.imp ?_ h
  intro a b h e
  rw [e] at h
  exact Nat.lt_irrefl _ h
theorem wR_inj (hW : WF S) {p x y : Nat} (hx : Cand S p x) (hy : Cand S p y) (h : s_wR S x = s_wR S y) : x = y := by
  unfold s_wR at h
  rcases hx with hx | ⟨hx, hx2, -⟩
  · rcases hy with hy | ⟨hy, hy2, -⟩
    · omega
    · rw [if_pos hx] at h
      split at h <;> omega
  · rcases hy with hy | ⟨hy, hy2, -⟩
    · rw [if_pos hy] at h
      split at h <;> omega
    · by_cases e1 : x = 0
      · rw [if_pos e1] at h
        split at h <;> omega
      · by_cases e2 : y = 0
        · rw [if_neg e1, if_pos e2] at h
          omega
        · rw [if_neg e1, if_neg e2] at h
          have := hW.inj hx hy (by rw [hx2, hy2]) (by omega)
          omega
theorem r_ins (hW : WF S) {p v P : Nat} (hp : p < 6) (hv : v < s_nv S) {f7 : Int32 → Int32 → Mem → Option (Int32 × Mem)} {f45 : Int32 → Int32 → Int32 → Int32 → Int32 → Mem → Option (Int32 × Mem)} {n : Nat} {v4 : Int32} : ∀ (A B : List Nat) (f : Nat) (σ : Mem), A.length < f → RM S σ → RoL σ 109 (5 * p) A.reverse → RoL σ 109 (5 * p + A.length + 1) B → A.length + B.length = n → n ≤ 4 → (∀ y, y ∈ A → y ≠ 0 ∧ y ≤ s_nv S) → ∃ σ', m_X12_begin_109 f7 f45 f (nI P) (nI p) (nI n) v4 (nI v) (nI A.length) σ = f45 (nI P) (nI p) (nI (n + 1)) v4 (nI (v + 1)) σ' ∧ RoL σ' 109 (5 * p) (insR (s_wR S) (v + 1) A B) ∧ FM p σ σ'
  | [], B, f, σ, hf, hR, hA, hB, hl, hn, hy => by
    obtain ⟨g, rfl⟩ : ∃ g, f = g + 1 := ⟨f - 1, by simp at hf; omega⟩
    simp only [List.length_nil, Nat.add_zero, Nat.zero_add] at *
    refine ⟨up σ 109 (5 * p) (nI v), ?_, ?_, FM.off (Nat.le_refl _) (by omega)⟩
    · rw [m_X12_begin_109]
      unfold m_X12_begin_166
      rw [if_pos (show nI 0 ≤ 0 by decide), mul_nI (y := 5) 5 rfl, nI_add, Nat.add_zero, ast_nI (by omega) (by decide), obind_some, nI_1, nI_1]
    · unfold insR
      refine RoL.cons (by rw [oi_s]; exact up_same _ _ _ _) (hB.congr fun i hi => up_off _ _ (Or.inr (by omega)))
  | y :: A, B, f, σ, hf, hR, hA, hB, hl, hn, hy => by
    obtain ⟨g, rfl⟩ : ∃ g, f = g + 1 := ⟨f - 1, by omega⟩
    have h24 := hW.nv
    simp only [List.length_cons] at *
    rw [List.reverse_cons] at hA
    have hy1 := hy y (by simp)
    obtain ⟨u, rfl⟩ : ∃ u, y = u + 1 := ⟨y - 1, by omega⟩
    have hun : u < s_nv S := by omega
    have hlast := hA.last
    rw [List.length_reverse, oi_s] at hlast
    have e1 : ald σ 109 30 (5 * nI p + nI (A.length + 1) - 1) = some (nI u) := by
      rw [mul_nI (y := 5) 5 rfl, nI_add, ← Nat.add_assoc, nI_pred, ald_nI (by omega) (by decide), hlast]
    have e9 : 5 * nI p + nI (A.length + 1) = nI (5 * p + (A.length + 1)) := by rw [mul_nI (y := 5) 5 rfl, nI_add]
    obtain ⟨x, e2, hx1, hx2, hx3⟩ := r_compared hW.1 hR.1 hun hv
    have hwr : s_wR S (u + 1) < s_wR S (v + 1) ↔ s_rank S u < s_rank S v := by
      unfold s_wR
      rw [if_neg (by omega), if_neg (by omega), Nat.add_sub_cancel, Nat.add_sub_cancel]
      omega
    have hge : 0 ≤ x ↔ ¬ s_rank S u < s_rank S v := by
      rw [← hx1, Int32.le_iff_toInt_le, Int32.lt_iff_toInt_lt]
      omega
    by_cases hw : s_wR S (u + 1) < s_wR S (v + 1)
    · obtain ⟨σ', q1, q2, q3⟩ := r_ins (n := n) (v4 := v4) (P := P) (f7 := f7) (f45 := f45) hW hp hv A ((u + 1) :: B) g (up σ 109 (5 * p + (A.length + 1)) (nI u)) (by omega) (hR.fr (fr.up (l := [109]) (by simp)) (by decide) (by decide)) (hA.left.congr fun i hi => up_off _ _ (Or.inr (by rw [List.length_reverse] at hi; omega))) (RoL.cons (by rw [oi_s]; exact up_same _ _ _ _) (RoL.congr (by rw [show 5 * p + A.length + 1 + 1 = 5 * p + (A.length + 1) + 1 by omega]; exact hB) fun i hi => up_off _ _ (Or.inr (by omega)))) (by simp only [List.length_cons]; omega) hn (fun z hz => hy z (by simp [hz]))
      refine ⟨σ', ?_, ?_, (FM.off (by omega) (by omega)).trans q3⟩
      · rw [m_X12_begin_109]
        rw [if_neg (show ¬ nI (A.length + 1) ≤ 0 from nI_ge (a := 0) (by omega) (by omega)), e1, obind_some, e2, obind_some, if_neg (fun h => hge.mp h (hwr.mp hw)), e1, obind_some, e9, ast_nI (by omega) (by decide), obind_some, pk_m1]
        exact q1
      · rw [insR, if_pos hw]
        exact q2
    · refine ⟨up σ 109 (5 * p + (A.length + 1)) (nI v), ?_, ?_, FM.off (by omega) (by omega)⟩
      · rw [m_X12_begin_109]
        unfold m_X12_begin_166
        rw [if_neg (show ¬ nI (A.length + 1) ≤ 0 from nI_ge (a := 0) (by omega) (by omega)), e1, obind_some, e2, obind_some, if_pos (hge.mpr fun h => hw (hwr.mpr h)), e9, ast_nI (by omega) (by decide), obind_some, nI_1, nI_1]
      · rw [insR, if_neg hw, List.reverse_cons]
        refine RoL.app (hA.congr fun i hi => ?_) (RoL.cons ?_ (RoL.congr (b := 5 * p + (A.reverse ++ [u + 1]).length + 1) (by simpa using hB) fun i hi => ?_))
        · refine up_off _ _ (Or.inr ?_)
          simp at hi
          omega
        · simp only [List.length_append, List.length_reverse, List.length_cons, List.length_nil]
          rw [oi_s]
          exact up_same _ _ _ _
        · refine up_off _ _ (Or.inr ?_)
          simp
          omega
end RBEG
