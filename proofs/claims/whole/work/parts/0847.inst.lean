/-! ===== install, pending ===== -/
section DISK
variable {S : SP} {σ : Mem}
def smS (S : SP) (x : Nat) : Int32 := if x = 0 then -1 else nI (s_sum S (x - 1))
/-- whether a package's row on the disk is not what it should be -/
def wrD (S : SP) (d x : Nat) (e : Int32) : Bool := !(decide (d = x) && (decide (x = 0) || decide (e = smS S x)))
theorem wrD_eq {d x : Nat} {e e' : Int32} (h : d ≠ 0 → e = e') : wrD S d x e = wrD S d x e' := by
  by_cases h0 : d = 0
  · unfold wrD
    by_cases h1 : d = x
    · have h2 : x = 0 := by omega
      simp [h2]
    · simp [h1]
  · rw [h h0]
theorem c_sums (hW : WF S) (hR : RC S σ) {x : Nat} (hx : x ≤ s_nv S) : m_X7_get 8 24 (oi x) σ = some (smS S x, σ) := by
  have h24 := hW.nv
  unfold smS
  by_cases h0 : x = 0
  · rw [if_pos h0, h0, oi_0, x_getM]
  · obtain ⟨v, rfl⟩ : ∃ v, x = v + 1 := ⟨x - 1, by omega⟩
    rw [if_neg h0, oi_s, x_get (by omega) (by decide), hR.sum (by omega), Nat.add_sub_cancel]
theorem c_differs {p d x : Nat} {e : Int32} (hp : p < 6) (hd : d < 2 ^ 31) (hx : x < 2 ^ 31) (h91 : σ 91 p = oi d) (h93 : σ 93 p = e) : m_X3_differs (nI p) (oi x) (smS S x) σ = some (b2i (wrD S d x e), σ) := by
  unfold m_X3_differs wrD
  rw [x_get hp (by decide), h91, obind_s]
  dsimp only
  by_cases h1 : d = x
  · rw [if_pos (show oi d = oi x by rw [h1])]
    by_cases h0 : x = 0
    · rw [if_pos (show oi x = -1 by rw [h0]; rfl)]
      simp [h1, h0, b2i]
    · rw [if_neg (fun e => h0 ((oi_m1 hx).mp e)), x_get hp (by decide), h93, obind_s]
      dsimp only
      by_cases h2 : e = smS S x
      · rw [if_pos h2]
        simp [h1, h2, b2i]
      · rw [if_neg h2]
        simp [h1, h0, h2, b2i]
  · rw [if_neg (fun e => h1 ((oi_inj hd hx).mp e))]
    simp [h1, b2i]
theorem r_sumOf (hW : WF S) (hR : RMv S σ) {v : Nat} (hv : v < s_nv S) : m_X12_sumOf (nI v) σ = some (nI (s_sum S v), σ) := by
  have h24 := hW.nv
  obtain ⟨ha, hb, hc, hp, -⟩ := hW.abc hv
  obtain ⟨e0, e1, e2, e3, e4, -⟩ := r_rd hW.1 hR hv
  unfold m_X12_sumOf
  rw [obind_s, e1, obind_s, e2, obind_s, e3, obind_s, e4, obind_s]
  have h : 31 * nI v + 7 * nI (s_a S v) + 5 * nI (s_b S v) + 3 * nI (s_c S v) + nI (s_pre S v) + 1 = nI (31 * v + 7 * s_a S v + 5 * s_b S v + 3 * s_c S v + s_pre S v + 1) := by
    rw [mul_nI (y := 31) 31 rfl, mul_nI (y := 7) 7 rfl, mul_nI (y := 5) 5 rfl, mul_nI (y := 3) 3 rfl, nI_add, nI_add, nI_add, nI_add, nI_1]
  rw [h]
  have h2 : nI (31 * v + 7 * s_a S v + 5 * s_b S v + 3 * s_c S v + s_pre S v + 1) - nI (31 * v + 7 * s_a S v + 5 * s_b S v + 3 * s_c S v + s_pre S v + 1) / 9973 * 9973 = nI ((31 * v + 7 * s_a S v + 5 * s_b S v + 3 * s_c S v + s_pre S v + 1) % 9973) := pk_rem (d := 9973) (by omega) (by decide) (by decide)
  rw [h2]
  rfl
theorem r_sumAny {v : Nat} (hv : v < 24) : ∃ y, m_X12_sumOf (nI v) σ = some (y, σ) := by
  unfold m_X12_sumOf
  rw [obind_s, mul_nI (y := 9) 9 rfl, add_nI (y := 1) 1 rfl, add_nI (y := 2) 2 rfl, add_nI (y := 3) 3 rfl, add_nI (y := 4) 4 rfl, ald_nI (by omega) (by decide), obind_s, ald_nI (by omega) (by decide), obind_s, ald_nI (by omega) (by decide), obind_s, ald_nI (by omega) (by decide), obind_s]
  exact ⟨_, rfl⟩
theorem r_isRight (hW : WF S) (hR : RMv S σ) {p d x : Nat} {e : Int32} (hp : p < 6) (hd : d < 2 ^ 31) (hx : x ≤ s_nv S) (h104 : σ 104 p = oi d) (h112 : σ 112 p = oi x) (h105 : σ 105 p = e) : m_X12_isRightOnDisk (nI p) σ = some (b2i (!wrD S d x e), σ) := by
  have h24 := hW.nv
  unfold m_X12_isRightOnDisk wrD
  rw [ald_nI hp (by decide), h104, obind_s, ald_nI hp (by decide), h112, obind_s]
  by_cases h1 : d = x
  · rw [if_pos (show oi d = oi x by rw [h1]), obind_s]
    by_cases h0 : x = 0
    · rw [if_pos (show oi x = -1 by rw [h0]; rfl)]
      simp [h1, h0, b2i]
    · obtain ⟨v, rfl⟩ : ∃ v, x = v + 1 := ⟨x - 1, by omega⟩
      rw [if_neg (fun e => h0 ((oi_m1 (by omega)).mp e)), ald_nI hp (by decide), h105, obind_s, obind_s, oi_s, r_sumOf hW hR (by omega), obind_s]
      have hs : smS S (v + 1) = nI (s_sum S v) := by
        unfold smS
        rw [if_neg h0, Nat.add_sub_cancel]
      rw [hs]
      dsimp only
      by_cases h2 : e = nI (s_sum S v)
      · rw [if_pos h2]
        simp [h1, h2, b2i]
      · rw [if_neg h2]
        simp [h1, h2, b2i]
  · rw [if_neg (fun e => h1 ((oi_inj hd (by omega)).mp e))]
    simp [h1, b2i]
theorem r_isRightAny {p x : Nat} (hp : p < 6) (hx : x ≤ 24) (h112 : σ 112 p = oi x) : ∃ g, m_X12_isRightOnDisk (nI p) σ = some (b2i g, σ) := by
  unfold m_X12_isRightOnDisk
  rw [ald_nI hp (by decide), obind_s, ald_nI hp (by decide), h112, obind_s]
  by_cases h1 : σ 104 p = oi x
  · rw [if_pos h1, obind_s]
    by_cases h0 : x = 0
    · rw [if_pos (show oi x = -1 by rw [h0]; rfl)]
      exact ⟨true, rfl⟩
    · obtain ⟨v, rfl⟩ : ∃ v, x = v + 1 := ⟨x - 1, by omega⟩
      obtain ⟨y, hy⟩ := r_sumAny (σ := σ) (v := v) (by omega)
      rw [if_neg (fun e => h0 ((oi_m1 (by omega)).mp e)), ald_nI hp (by decide), obind_s, obind_s, oi_s, hy, obind_s]
      dsimp only
      by_cases h2 : σ 105 p = y
      · rw [if_pos h2]
        exact ⟨true, rfl⟩
      · rw [if_neg h2]
        exact ⟨false, rfl⟩
  · rw [if_neg h1]
    exact ⟨false, rfl⟩
/-- how many are made among the first ones, where w tells which are wanted and st are made at most -/
def mkI (w : Nat → Bool) (st : Nat) : Nat → Nat
  | 0 => 0
  | i + 1 => mkI w st i + (if (w i && decide (mkI w st i < st)) = true then 1 else 0)
theorem mkI_stop {w : Nat → Bool} {st i : Nat} (h : st ≤ mkI w st i) : ∀ j, i ≤ j → mkI w st j = mkI w st i := by
  intro j hj
  obtain ⟨k, rfl⟩ : ∃ k, j = i + k := ⟨j - i, by omega⟩
  clear hj
  induction k with
  | zero => rfl
  | succ k ih =>
    have hstep : mkI w st (i + (k + 1)) = mkI w st (i + k) + (if (w (i + k) && decide (mkI w st (i + k) < st)) = true then 1 else 0) := rfl
    rw [hstep, ih, decide_eq_false (by omega), Bool.and_false, if_neg (by decide), Nat.add_zero (mkI w st i)]
theorem mkI_le {w : Nat → Bool} {st : Nat} : ∀ i, mkI w st i ≤ i
  | 0 => Nat.le_refl _
  | i + 1 => by
    have := mkI_le (w := w) (st := st) i
    show mkI w st i + _ ≤ _
    split <;> omega
theorem mkI_all {w : Nat → Bool} {st : Nat} : ∀ i, i ≤ st → mkI w st i = cntR i w
  | 0, _ => rfl
  | i + 1, h => by
    have h1 := mkI_all (w := w) (st := st) i (by omega)
    have h2 := mkI_le (w := w) (st := st) i
    show mkI w st i + _ = cntR i w + _
    rw [h1]
    have h3 : decide (cntR i w < st) = true := decide_eq_true (by rw [← h1]; omega)
    rw [h3, Bool.and_true]
def chD (w : Nat → Bool) (st p : Nat) : Bool := w p && decide (mkI w st p < st)
theorem c_inst_loop (hW : WF S) (hR : RC S σ) {c d : Nat → Nat} {w : Nat → Bool} {st : Nat} (hst : st ≤ 10) (hc : ∀ p, p < 6 → σ 69 p = oi (c p)) (hn : ∀ p, p < 6 → c p ≤ s_nv S) (hdl : ∀ p, p < 6 → d p ≤ s_nv S) (hd : ∀ p, p < 6 → σ 91 p = oi (d p)) (hw : ∀ p, p < 6 → w p = wrD S (d p) (c p) (σ 93 p)) : ∃ σ', m_X11_install_47 FU (nI st) 0 0 σ = some ((0, nI (mkI w st 6)), σ') ∧ fr [91, 93] σ σ' ∧ ∀ p, p < 6 → σ' 91 p = oi (if chD w st p = true then c p else d p) ∧ σ' 93 p = if chD w st p = true then smS S (c p) else σ 93 p := by
  have h24 := hW.nv
  have key := up_fu (n := 6) (P := fun i f => ∀ σ1 : Mem, fr [91, 93] σ σ1 → (∀ p, p < i → p < 6 → σ1 91 p = oi (if chD w st p = true then c p else d p) ∧ σ1 93 p = if chD w st p = true then smS S (c p) else σ 93 p) → (∀ p, i ≤ p → p < 6 → σ1 91 p = oi (d p) ∧ σ1 93 p = σ 93 p) → ∃ σ', m_X11_install_47 f (nI st) (nI (mkI w st i)) (nI i) σ1 = some ((0, nI (mkI w st 6)), σ') ∧ fr [91, 93] σ σ' ∧ ∀ p, p < 6 → σ' 91 p = oi (if chD w st p = true then c p else d p) ∧ σ' 93 p = if chD w st p = true then smS S (c p) else σ 93 p) (by decide) (fun f σ1 hf h h' => by
      refine ⟨σ1, ?_, hf, fun p hp => h p hp hp⟩
      rw [m_X11_install_47]
      rw [if_pos (show (6 : Int32) ≤ nI 6 by decide)]) (fun i f hi ih σ1 hf h h' => by
      have hmi := mkI_le (w := w) (st := st) i
      by_cases hs : st ≤ mkI w st i
      · refine ⟨σ1, ?_, hf, fun p hp => ?_⟩
        · rw [m_X11_install_47]
          rw [if_neg (show ¬ (6 : Int32) ≤ nI i from nI_ge (b := 6) hi (by decide)), if_pos (nI_le hs (by omega)), mkI_stop hs 6 (by omega)]
        · by_cases hpi : p < i
          · exact h p hpi hp
          · have hch : chD w st p = false := by
              unfold chD
              rw [mkI_stop hs p (by omega), decide_eq_false (by omega), Bool.and_false]
            rw [hch, if_neg (by decide), if_neg (by decide)]
            exact h' p (by omega) hp
      · obtain ⟨g1, g2⟩ := h' i (Nat.le_refl _) hi
        have hdi := hdl i hi
        have hci := hn i hi
        have e1 : m_X7_get 69 6 (nI i) σ1 = some (oi (c i), σ1) := by rw [x_get hi (by decide), hf 69 (by decide), hc i hi]
        have e2 : m_X7_get 8 24 (oi (c i)) σ1 = some (smS S (c i), σ1) := by
          have h8 : σ1 8 = σ 8 := hf 8 (by decide)
          unfold smS
          by_cases h0 : c i = 0
          · rw [if_pos h0, h0, oi_0, x_getM]
          · obtain ⟨v, hv⟩ : ∃ v, c i = v + 1 := ⟨c i - 1, by omega⟩
            rw [if_neg h0, hv, oi_s, x_get (by omega) (by decide), h8, hR.sum (by omega), Nat.add_sub_cancel]
        have e3 : m_X3_differs (nI i) (oi (c i)) (smS S (c i)) σ1 = some (b2i (w i), σ1) := by
          rw [hw i hi]
          exact c_differs hi (by omega) (by omega) g1 g2
        have un : m_X11_install_47 (f + 1) (nI st) (nI (mkI w st i)) (nI i) σ1 = if b2i (w i) = 0 then m_X11_install_47 f (nI st) (nI (mkI w st i)) (nI (i + 1)) σ1 else m_X11_install_47 f (nI st) (nI (mkI w st i + 1)) (nI (i + 1)) (up (up σ1 91 i (oi (c i))) 93 i (smS S (c i))) := by
          rw [m_X11_install_47]
          rw [if_neg (show ¬ (6 : Int32) ≤ nI i from nI_ge (b := 6) hi (by decide)), if_neg (nI_ge (by omega) (by omega)), e1, obind_some]
          dsimp only
          rw [e2, obind_some]
          dsimp only
          rw [e3, obind_some]
          unfold m_X3_put
          rw [x_set hi (by decide), obind_s]
          dsimp only
          rw [x_set hi (by decide), obind_s, obind_s, nI_1, nI_1]
        have hm1 : mkI w st (i + 1) = mkI w st i + (if w i = true then 1 else 0) := by
          show mkI w st i + _ = _
          rw [decide_eq_true (show mkI w st i < st by omega), Bool.and_true]
        have hch : chD w st i = w i := by
          unfold chD
          rw [decide_eq_true (show mkI w st i < st by omega), Bool.and_true]
        cases hwi : w i with
        | false =>
          rw [hwi, if_neg (by decide), Nat.add_zero (mkI w st i)] at hm1
          obtain ⟨σ', q1, q2, q3⟩ := ih σ1 hf (fun p hp hp6 => by
            by_cases e : p = i
            · rw [e, hch, hwi, if_neg (by decide), if_neg (by decide)]
              exact ⟨g1, g2⟩
            · exact h p (by omega) hp6) (fun p hp hp6 => h' p (by omega) hp6)
          refine ⟨σ', ?_, q2, q3⟩
          rw [un, hwi, if_pos (show b2i false = 0 from rfl), ← hm1]
          exact q1
        | true =>
          rw [hwi, if_pos rfl] at hm1
          obtain ⟨σ', q1, q2, q3⟩ := ih (up (up σ1 91 i (oi (c i))) 93 i (smS S (c i))) (hf.trans ((fr.up (by simp)).trans (fr.up (by simp)))) (fun p hp hp6 => by
            by_cases e : p = i
            · rw [e, hch, hwi, if_pos rfl, if_pos rfl, up_same, up_pl _ _ (by decide), up_same]
              exact ⟨rfl, rfl⟩
            · rw [up_off _ _ (Or.inr e), up_off _ _ (Or.inr e), up_off _ _ (Or.inr e), up_off _ _ (Or.inr e)]
              exact h p (by omega) hp6) (fun p hp hp6 => by
            rw [up_off _ _ (Or.inr (by omega)), up_off _ _ (Or.inr (by omega)), up_off _ _ (Or.inr (by omega)), up_off _ _ (Or.inr (by omega))]
            exact h' p (by omega) hp6)
          refine ⟨σ', ?_, q2, q3⟩
          rw [un, hwi, if_neg (show ¬ b2i true = 0 by decide), ← hm1]
          exact q1) 0 (Nat.zero_le _) σ fr.refl (fun p hp => by omega) (fun p _ hp => ⟨hd p hp, rfl⟩)
  exact key
theorem r_inst_loop (hW : WF S) (hR : RMv S σ) {c d : Nat → Nat} {w : Nat → Bool} {st : Nat} (hst : st ≤ 10) (hc : ∀ p, p < 6 → σ 112 p = oi (c p)) (hn : ∀ p, p < 6 → c p ≤ s_nv S) (hdl : ∀ p, p < 6 → d p ≤ s_nv S) (hd : ∀ p, p < 6 → σ 104 p = oi (d p)) (hw : ∀ p, p < 6 → w p = wrD S (d p) (c p) (σ 105 p)) : ∃ σ', m_X12_install_43 FU (nI st) 0 0 σ = some (nI (mkI w st 6), σ') ∧ fr [104, 105] σ σ' ∧ ∀ p, p < 6 → σ' 104 p = oi (if chD w st p = true then c p else d p) ∧ σ' 105 p = if chD w st p = true then (if c p = 0 then 0 else smS S (c p)) else σ 105 p := by
  have h24 := hW.nv
  have key := up_fu (n := 6) (P := fun i f => ∀ σ1 : Mem, fr [104, 105] σ σ1 → (∀ p, p < i → p < 6 → σ1 104 p = oi (if chD w st p = true then c p else d p) ∧ σ1 105 p = if chD w st p = true then (if c p = 0 then 0 else smS S (c p)) else σ 105 p) → (∀ p, i ≤ p → p < 6 → σ1 104 p = oi (d p) ∧ σ1 105 p = σ 105 p) → ∃ σ', m_X12_install_43 f (nI st) (nI (mkI w st i)) (nI i) σ1 = some (nI (mkI w st 6), σ') ∧ fr [104, 105] σ σ' ∧ ∀ p, p < 6 → σ' 104 p = oi (if chD w st p = true then c p else d p) ∧ σ' 105 p = if chD w st p = true then (if c p = 0 then 0 else smS S (c p)) else σ 105 p) (by decide) (fun f σ1 hf h h' => by
      refine ⟨σ1, ?_, hf, fun p hp => h p hp hp⟩
      rw [m_X12_install_43]
      rw [if_pos (show (6 : Int32) ≤ nI 6 by decide)]) (fun i f hi ih σ1 hf h h' => by
      have hmi := mkI_le (w := w) (st := st) i
      by_cases hs : st ≤ mkI w st i
      · refine ⟨σ1, ?_, hf, fun p hp => ?_⟩
        · rw [m_X12_install_43]
          rw [if_neg (show ¬ (6 : Int32) ≤ nI i from nI_ge (b := 6) hi (by decide)), if_pos (nI_le hs (by omega)), mkI_stop hs 6 (by omega)]
        · by_cases hpi : p < i
          · exact h p hpi hp
          · have hch : chD w st p = false := by
              unfold chD
              rw [mkI_stop hs p (by omega), decide_eq_false (by omega), Bool.and_false]
            rw [hch, if_neg (by decide), if_neg (by decide)]
            exact h' p (by omega) hp
      · obtain ⟨g1, g2⟩ := h' i (Nat.le_refl _) hi
        have hdi := hdl i hi
        have hci := hn i hi
        have k112 : σ1 112 i = oi (c i) := by rw [hf 112 (by decide), hc i hi]
        have hRv : RMv S σ1 := RMv.S (fun _ _ => rfl) (mk_fr hf (by decide)) (fun j _ => by rw [hf 94 (by decide)]) hR
        have e3 : m_X12_isRightOnDisk (nI i) σ1 = some (b2i (!w i), σ1) := by
          rw [hw i hi]
          exact r_isRight hW hRv hi (by omega) hci g1 k112 g2
        have un : m_X12_install_43 (f + 1) (nI st) (nI (mkI w st i)) (nI i) σ1 = if w i = true then m_X12_install_43 f (nI st) (nI (mkI w st i + 1)) (nI (i + 1)) (up (up σ1 104 i (oi (c i))) 105 i (if c i = 0 then 0 else smS S (c i))) else m_X12_install_43 f (nI st) (nI (mkI w st i)) (nI (i + 1)) σ1 := by
          rw [m_X12_install_43]
          rw [if_neg (show ¬ (6 : Int32) ≤ nI i from nI_ge (b := 6) hi (by decide)), if_neg (nI_ge (by omega) (by omega)), e3, obind_some]
          cases hwi : w i with
          | false => rw [if_neg (show ¬ b2i (!false) = 0 by decide), if_neg (by decide), nI_1]
          | true =>
            rw [if_pos (show b2i (!true) = 0 from rfl), if_pos rfl]
            dsimp only
            have k2 : (up σ1 104 i (oi (c i))) 112 i = oi (c i) := by rw [up_pl _ _ (by decide)]; exact k112
            rw [ald_nI hi (by decide), k112, obind_s, ast_nI hi (by decide), obind_s, ald_nI hi (by decide), k2, obind_s]
            by_cases h0 : c i = 0
            · rw [if_pos (show oi (c i) = -1 by rw [h0]; rfl), if_pos h0]
              unfold m_X12_install_103
              rw [ast_nI hi (by decide), obind_s, nI_1, nI_1]
            · obtain ⟨v, hv⟩ : ∃ v, c i = v + 1 := ⟨c i - 1, by omega⟩
              have hRu : RMv S (up σ1 104 i (oi (c i))) := RMv.S (fun _ _ => rfl) (fun k hk => up_pl _ _ (by revert hk; simp; omega)) (fun j _ => by rw [up_pl _ _ (by decide)]) hRv
              rw [if_neg (fun e => h0 ((oi_m1 (by omega)).mp e)), if_neg h0, obind_s]
              have hs : smS S (c i) = nI (s_sum S v) := by
                unfold smS
                rw [if_neg h0, hv, Nat.add_sub_cancel]
              have e4 : m_X12_sumOf (oi (c i)) (up σ1 104 i (oi (c i))) = some (nI (s_sum S v), up σ1 104 i (oi (c i))) := by
                have := r_sumOf hW hRu (v := v) (by omega)
                rw [← oi_s v, ← hv] at this
                exact this
              rw [e4, obind_s]
              unfold m_X12_install_103
              dsimp only
              rw [ast_nI hi (by decide), obind_s, nI_1, nI_1, hs]
        have hm1 : mkI w st (i + 1) = mkI w st i + (if w i = true then 1 else 0) := by
          show mkI w st i + _ = _
          rw [decide_eq_true (show mkI w st i < st by omega), Bool.and_true]
        have hch : chD w st i = w i := by
          unfold chD
          rw [decide_eq_true (show mkI w st i < st by omega), Bool.and_true]
        cases hwi : w i with
        | false =>
          rw [hwi, if_neg (by decide), Nat.add_zero (mkI w st i)] at hm1
          obtain ⟨σ', q1, q2, q3⟩ := ih σ1 hf (fun p hp hp6 => by
            by_cases e : p = i
            · rw [e, hch, hwi, if_neg (by decide), if_neg (by decide)]
              exact ⟨g1, g2⟩
            · exact h p (by omega) hp6) (fun p hp hp6 => h' p (by omega) hp6)
          refine ⟨σ', ?_, q2, q3⟩
          rw [un, hwi, if_neg (by decide), ← hm1]
          exact q1
        | true =>
          rw [hwi, if_pos rfl] at hm1
          obtain ⟨σ', q1, q2, q3⟩ := ih (up (up σ1 104 i (oi (c i))) 105 i (if c i = 0 then 0 else smS S (c i))) (hf.trans ((fr.up (by simp)).trans (fr.up (by simp)))) (fun p hp hp6 => by
            by_cases e : p = i
            · rw [e, hch, hwi, if_pos rfl, if_pos rfl, up_same, up_pl _ _ (by decide), up_same]
              exact ⟨rfl, rfl⟩
            · rw [up_off _ _ (Or.inr e), up_off _ _ (Or.inr e), up_off _ _ (Or.inr e), up_off _ _ (Or.inr e)]
              exact h p (by omega) hp6) (fun p hp hp6 => by
            rw [up_off _ _ (Or.inr (by omega)), up_off _ _ (Or.inr (by omega)), up_off _ _ (Or.inr (by omega)), up_off _ _ (Or.inr (by omega))]
            exact h' p (by omega) hp6)
          refine ⟨σ', ?_, q2, q3⟩
          rw [un, hwi, if_pos rfl, ← hm1]
          exact q1) 0 (Nat.zero_le _) σ fr.refl (fun p hp => by omega) (fun p _ hp => ⟨hd p hp, rfl⟩)
  exact key
theorem found37 {f : Nat → Nat} : FoundOK (stK S 37 f) σ ↔ FoundOK S σ := Iff.rfl
def inS : List Nat := [67, 69, 71, 73, 75, 78, 80, 91, 93, 94, 104, 105, 106, 107, 108, 109, 110, 111, 112, 113]
theorem op_install : OP_install Inv := by
  intro v1 σ τ ⟨S, hI⟩
  obtain ⟨hW, hR, hM, hS, hC⟩ := id hI
  have h24 := hW.nv
  have bad : (v1 < 1 ∨ ¬ v1 ≤ 10) → ∃ (k : Int32) (τ' : Nat → Int64) (σ1 : Mem) (bb : Int32) (m2 m3 : Mem), w_install v1 σ τ = some ((k, τ'), σ1) ∧ m_X12_install v1 σ1 = some (bb, m2) ∧ m_X12_thrown m2 = some (k, m3) ∧ (k = 0 → τ' 0 = bb.toInt64) ∧ Inv m3 := fun hbad => by
    obtain ⟨σ2, n, c', b1, b2, b3, b4, b5, b6, b7⟩ := find_ref hI
    refine op_thr (mdl := m_X12_install v1) (j := 1) (k := 1) (σ1 := σ) (m := σ2) (v := 0) (bb := 0) ?_ rfl (by decide) ?_ ⟨S, b2.thrown 1⟩
    · unfold m_X11_install
      by_cases h1 : v1 < 1
      · rw [if_pos h1]
      · rcases hbad with h | h
        · exact absurd h h1
        · rw [if_neg h1, if_neg h]
    · unfold m_X12_install m_X12_in
      rw [b1, obind_s]
      dsimp only
      by_cases h1 : v1 < 1
      · rw [if_pos h1, obind_s, if_pos rfl]
        unfold m_X12_install_31
        rw [r_wellK ne10, obind_s, if_pos rfl]
      · rcases hbad with h | h
        · exact absurd h h1
        · have h2 : (10 : Int32) < v1 := Int32.not_le.mp h
          rw [if_neg h1, if_pos h2, obind_s, if_pos rfl]
          unfold m_X12_install_31
          rw [r_wellK ne10, obind_s, if_pos rfl]
  by_cases hlo : v1 < 1
  · exact bad (Or.inl hlo)
  by_cases hhi : v1 ≤ 10
  · obtain ⟨st, hst, rfl⟩ : ∃ st, st < 11 ∧ v1 = nI st := by
      rcases pk_ix v1 (n := 11) (by decide) with h | h | h
      · refine absurd ?_ hlo
        rw [Int32.lt_iff_toInt_lt] at h ⊢
        rw [show (0 : Int32).toInt = 0 from by decide] at h
        rw [show (1 : Int32).toInt = 1 from by decide]
        omega
      · refine absurd hhi ?_
        rw [Int32.le_iff_toInt_le] at h ⊢
        rw [nI_toInt (by decide)] at h
        rw [show (10 : Int32).toInt = 10 from by decide]
        omega
      · exact h
    have hst1 : 1 ≤ st := by
      by_cases h : st = 0
      · rw [h] at hlo
        exact absurd (by decide) hlo
      · omega
    obtain ⟨σ1, b, c, a1, a2, a3, a4, a5, a6⟩ := find_cls hI
    have ch : m_X11_install (nI st) σ = if b2i b = 0 then some ((3, 0), σ1) else m_X11_install_47 FU (nI st) 0 0 σ1 := by
      unfold m_X11_install
      rw [if_neg hlo, if_pos hhi, a1, obind_s]
    have mhd : ∀ σ9 σ2, m_X12_find σ9 = some (0, σ2) → m_X12_install (nI st) σ9 = if σ2 94 30 = 0 then m_X12_install_31 (nI st) 2 σ2 else m_X12_install_31 (nI st) 0 σ2 := fun σ9 σ2 h => by
      unfold m_X12_install m_X12_in
      rw [h, obind_s]
      dsimp only
      rw [if_neg hlo, if_neg (fun e => absurd hhi (Int32.not_le.mpr e)), obind_s, if_neg (show ¬ (1 : Int32) = 0 from ne10)]
    cases hb : b with
    | false =>
      obtain ⟨σ2, n, c', b1, b2, b3, b4, b5, b6, b7⟩ := find_ref a2
      have hn : σ2 94 30 = 0 := by
        rw [b4]
        exact (nI_z (by omega)).mpr ((b6.zero hW).mpr (a6 hb))
      refine op_thr (mdl := m_X12_install (nI st)) (j := 2) (k := 2) (σ1 := σ1) (m := σ2) (v := 0) (bb := 0) ?_ rfl (by decide) ?_ ⟨S, b2.thrown 2⟩
      · rw [ch, hb, if_pos (show b2i false = 0 from rfl)]
      · rw [mhd σ1 σ2 b1, if_pos hn]
        unfold m_X12_install_31
        rw [r_wellK ne20, obind_s, if_pos rfl]
    | true =>
      obtain ⟨g1, g2⟩ := a5 hb
      have hcn : ∀ p, p < 6 → c p ≤ s_nv S := fun p hp => by
        rcases g1.1.1 p hp with h | h
        · omega
        · have := h.1
          omega
      obtain ⟨-, hR1, hM1, hS1, hC1⟩ := id a2
      obtain ⟨w, hw⟩ : ∃ w : Nat → Bool, w = fun p => wrD S (s_dsk S p) (c p) (σ1 93 p) := ⟨_, rfl⟩
      obtain ⟨σ3, q1, q2, q3⟩ := c_inst_loop (d := s_dsk S) (w := w) (st := st) hW hR1 (by omega) g2 hcn (fun p hp => hW.dsk hp) (fun p hp => hR1.dsk hp) (fun p hp => by rw [hw])
      have hM3 := hM1.fr q2 (by decide) (by decide)
      have e94 : σ3 94 = σ1 94 := q2 94 (by decide)
      have hC3 : Cache S σ3 := hC1.congr (by rw [e94]) (by rw [e94]) (q2 112 (by decide)) (q2 113 (by decide))
      obtain ⟨σ2, n, c', b1, b2, b3, b4, b5, b6, b7, b8, b9⟩ := find_ref0 hW hM3 hC3 (hS1.2.congr (q2 112 (by decide)))
      rcases agree hW a5 a6 b8 b9 with ⟨-, hn, k1, k2, k3, k4⟩ | ⟨hb2, -⟩
      · have n0 : ¬ σ2 94 30 = 0 := fun e => hn ((nI_z (by omega)).mp (b6 ▸ e))
        have hM2 : RM S (up σ2 94 0 0) := (hM3.frR b2).congr (fun k hk => up_pl _ _ (fun e => by subst e; revert hk; decide)) (fun j hj => up_off _ _ (Or.inr (fun e => by subst e; revert hj; decide)))
        have s105 : (up σ2 94 0 0) 105 = σ1 105 := by rw [up_pl _ _ (by decide), b2.1 105 (by decide), q2 105 (by decide)]
        obtain ⟨σ4, r1, r2, r3⟩ := r_inst_loop (σ := up σ2 94 0 0) (d := s_dsk S) (w := w) (st := st) hW hM2.1 (by omega) (fun p hp => by rw [up_pl _ _ (by decide)]; exact (k4 p hp).1) k2 (fun p hp => hW.dsk hp) (fun p hp => (hM2.pkg hp).2.2) (fun p hp => by
          rw [hw, s105]
          exact wrD_eq fun h0 => hS1.1 p hp h0)
        obtain ⟨T, hT⟩ : ∃ T : SP, T = stK S 37 (fun p => if chD w st p = true then c p else s_dsk S p) := ⟨_, rfl⟩
        have G : gk [37] S T := by rw [hT]; exact gk_st (by decide)
        have t37 : ∀ p, s_dsk T p = if chD w st p = true then c p else s_dsk S p := fun p => by
          rw [hT]
          show stK S 37 _ 37 p = _
          rw [stK_same]
        have F3 : fr inS σ σ3 := (a3.mono (by decide)).trans (q2.mono (by decide))
        have F2 : fr inS σ σ2 := F3.trans (fun k hk => b2.1 k (fun h => hk (by revert h; unfold rfS inS; simp; omega)))
        have FR : fr inS σ σ4 := (fr_u F2 (by decide)).trans (r2.mono (by decide))
        have z94 : σ1 94 = σ 94 := a3 94 (by decide)
        have E94 : c94 [0, 25, 26, 29, 30, 31] σ σ4 := by
          have h1 : c94 [0, 25, 26, 29, 30, 31] σ σ2 := fun j hj => by
            rw [b2.2 j (fun h => hj (by revert h; unfold rfN; simp; omega)), e94, z94]
          exact (h1.u (by decide)).w r2 (by decide)
        have k91 : ∀ p, p < 6 → σ4 91 p = oi (s_dsk T p) ∧ σ4 93 p = if chD w st p = true then smS S (c p) else σ1 93 p := fun p hp => by
          rw [t37, r2 91 (by decide), up_pl _ _ (by decide), b2.1 91 (by decide), r2 93 (by decide), up_pl _ _ (by decide), b2.1 93 (by decide)]
          exact q3 p hp
        have e30 : σ4 94 30 = σ2 94 30 := by rw [r2 94 (by decide), up_off _ _ (Or.inr (by decide))]
        have e31 : σ4 94 31 = σ2 94 31 := by rw [r2 94 (by decide), up_off _ _ (Or.inr (by decide))]
        have e112 : σ4 112 = σ2 112 := by rw [r2 112 (by decide), up_pl _ _ (by decide)]
        have e113 : σ4 113 = σ2 113 := by rw [r2 113 (by decide), up_pl _ _ (by decide)]
        refine op_ok (mdl := m_X12_install (nI st)) (v := nI (mkI w st 6)) (σ1 := σ3) (m := σ4) ?_ ?_ ?_ ⟨T, ⟨hW.1.S (G.on (by decide)), hW.2.1.S (G.on (by decide)), hW.2.2.1.S (G.on (by decide)), hW.2.2.2.1.S (G.on (by decide)), hW.2.2.2.2.x37 (G.on (by decide)) ?_⟩, ⟨hR.1.S (G.on (by decide)) (mk_fr FR (by decide)), hR.2.1.S (G.on (by decide)) (mk_fr FR (by decide)), hR.2.2.1.S (G.on (by decide)) (mk_fr FR (by decide)), hR.2.2.2.1.S (G.on (by decide)) (mk_fr FR (by decide)), hR.2.2.2.2.x37 (G.on (by decide)) (mk_fr FR (by decide)) (by rw [FR 1 (by decide)]) (by rw [FR 1 (by decide)]) (by rw [FR 66 (by decide)]) (by rw [FR 66 (by decide)]) ?_⟩, ⟨hM.1.S (G.on (by decide)) (mk_fr FR (by decide)) (E94.on (by decide)), hM.2.1.S (G.on (by decide)) (mk_fr FR (by decide)) (E94.on (by decide)), hM.2.2.1.S (G.on (by decide)) (mk_fr FR (by decide)), hM.2.2.2.1.S (G.on (by decide)) (mk_fr FR (by decide)) (E94.on (by decide)), hM.2.2.2.2.x37 (G.on (by decide)) (mk_fr FR (by decide)) (E94 4 (by decide)) (E94 5 (by decide)) (E94 6 (by decide)) (E94 7 (by decide)) ?_⟩, ⟨fun p hp hd => ?_, b5.congr e112⟩, Or.inr ⟨?_, ?_⟩⟩
        · rw [ch, hb, if_neg (show ¬ b2i true = 0 by decide)]
          exact q1
        · rw [mhd σ3 σ2 b1, if_neg n0]
          unfold m_X12_install_31
          rw [r_well0, obind_s, if_neg ne10]
          exact r1
        · rw [r2 94 (by decide), up_same]
        · intro p hp
          rw [t37, show s_nv T = s_nv S from by rw [s_nv, G 0 (by decide)]]
          split
          · exact k2 p hp
          · exact hW.dsk hp
        · exact fun p hp => (k91 p hp).1
        · intro p hp
          obtain ⟨u1, u2, u3⟩ := hM.pkg hp
          rw [t37, show s_rep T = s_rep S from G 32 (by decide), show s_lock T = s_lock S from G 33 (by decide), FR 102 (by decide), FR 103 (by decide)]
          exact ⟨u1, u2, (r3 p hp).1⟩
        · have hd2 := t37 p ▸ hd
          rw [(k91 p hp).2, (r3 p hp).2, s105]
          by_cases hcd : chD w st p = true
          · rw [if_pos hcd] at hd2
            rw [if_pos hcd, if_pos hcd, if_neg hd2]
          · rw [if_neg hcd] at hd2
            rw [if_neg hcd, if_neg hcd]
            exact hS1.1 p hp hd2
        · rw [e31]
          exact b3
        · rw [hT]
          have h9 : FoundOK S σ4 := by
            unfold FoundOK at b4 ⊢
            rw [e30, e112, e113]
            exact b4
          exact found37.mpr h9
      · rw [hb] at hb2
        cases hb2
  · exact bad (Or.inr hhi)
end DISK
