/-! ===== range, join ===== -/
section RANGE
variable {S : SP} {σ : Mem}
/-! the class: the loop over the versions -/
theorem c_add39 {nv nr fr0 en tri : Nat} {rk : Nat → Nat} (hnv : nv ≤ 24) (hr : nr < 30) (h2 : σ 2 10 = nI nv) (h6 : ∀ v, v < nv → σ 6 v = nI (rk v)) (h17 : σ 17 7 = nI nr) (h21 : σ 21 nr = nI fr0) (h23 : σ 23 nr = nI en) (h25 : σ 25 nr = oi tri) (h31 : σ 31 nr = 0) (b1 : fr0 < 2 ^ 20) (b2 : en < 2 ^ 20) (b3 : tri < 2 ^ 20) (b4 : ∀ v, v < nv → rk v < 2 ^ 20) : ∃ M, m_X6_add_39 FU (nI nr) 0 σ = some (nI nr, M) ∧ fr [17, 31] σ M ∧ M 17 7 = nI (nr + 1) ∧ (∀ j, j ≠ nr → M 31 j = σ 31 j) ∧ M 31 nr = nI (setB nv fun v => rchK fr0 en tri (rk v)) := by
  have key := up_fu (n := nv) (P := fun i f => ∀ σ1 : Mem, fr [31] σ σ1 → (∀ j, j ≠ nr → σ1 31 j = σ 31 j) → σ1 31 nr = nI (setB i fun v => rchK fr0 en tri (rk v)) → ∃ M, m_X6_add_39 f (nI nr) (nI i) σ1 = some (nI nr, M) ∧ fr [17, 31] σ M ∧ M 17 7 = nI (nr + 1) ∧ (∀ j, j ≠ nr → M 31 j = σ 31 j) ∧ M 31 nr = nI (setB nv fun v => rchK fr0 en tri (rk v))) (by omega) (fun f σ1 hf ho hs => by
      have e17 : σ1 17 7 = nI nr := by rw [hf 17 (by decide)]; exact h17
      refine ⟨up σ1 17 7 (nI (nr + 1)), ?_, fr_u (hf.mono (by decide)) (by decide), up_same _ _ _ _, fun j hj => by rw [up_pl _ _ (by decide)]; exact ho j hj, by rw [up_pl _ _ (by decide)]; exact hs⟩
      rw [m_X6_add_39]
      rw [hf 2 (by decide), h2, if_pos (nI_le (Nat.le_refl _) (by omega)), obind_some, e17, nI_1]) (fun i f hi ih σ1 hf ho hs => by
      have hb := b4 i hi
      have e6 : m_X7_get 6 24 (nI i) σ1 = some (nI (rk i), σ1) := by rw [x_get (by omega) (by decide), hf 6 (by decide), h6 i hi]
      have e3 : m_X6_reaches (nI nr) (nI (rk i)) σ1 = some (b2i (rchK fr0 en tri (rk i)), σ1) := c_reaches hr (by rw [hf 21 (by decide)]; exact h21) (by rw [hf 23 (by decide)]; exact h23) (by rw [hf 25 (by decide)]; exact h25) b1 b2 b3 hb
      have hsl := setB_small (n := i) (fun v => rchK fr0 en tri (rk v)) (by omega)
      have un : m_X6_add_39 (f + 1) (nI nr) (nI i) σ1 = if b2i (rchK fr0 en tri (rk i)) = 0 then m_X6_add_39 f (nI nr) (nI (i + 1)) σ1 else m_X6_add_39 f (nI nr) (nI (i + 1)) (up σ1 31 nr (nI (setB i (fun v => rchK fr0 en tri (rk v)) ||| 2 ^ i))) := by
        have hp2 : 2 ^ i < 2 ^ 31 := Nat.pow_lt_pow_right (by decide) (by omega)
        rw [m_X6_add_39]
        rw [hf 2 (by decide), h2, if_neg (nI_ge hi (by omega)), e6, obind_some]
        dsimp only
        rw [e3, obind_some, one_shl (show i < 31 by omega), x_merge hr (by decide) hs hsl hp2, obind_some, nI_1]
      have hset : setB (i + 1) (fun v => rchK fr0 en tri (rk v)) = setB i (fun v => rchK fr0 en tri (rk v)) ||| (if rchK fr0 en tri (rk i) = true then 2 ^ i else 0) := rfl
      cases hrc : rchK fr0 en tri (rk i) with
      | false =>
        rw [hrc, if_neg (by decide), Nat.or_zero] at hset
        rw [un, hrc, if_pos (show b2i false = 0 from rfl)]
        exact ih σ1 hf ho (by rw [hset]; exact hs)
      | true =>
        rw [hrc, if_pos rfl] at hset
        rw [un, hrc, if_neg (show ¬ b2i true = 0 by decide)]
        exact ih _ (hf.trans (fr.up (by simp))) (fun j hj => by rw [up_off _ _ (Or.inr hj)]; exact ho j hj) (by rw [up_same, hset])) 0 (Nat.zero_le _) σ fr.refl (fun j _ => rfl) (by rw [h31]; rfl)
  exact key
/-! the reference: a range's row is laid and filled -/
theorem r_addRange (hR : RMv S σ) {nr k a b c p : Nat} {inn : Nat → Bool} (hnv : s_nv S ≤ 24) (hn : nr < 30) (h2 : σ 94 2 = nI nr) (hin : ∀ M : Mem, fr [94, 98, 99] σ M → RMv S M → RgR M nr k a b c p → (∀ j, j < 24 * nr → M 99 j = σ 99 j) → ∀ v, v < s_nv S → m_X12_isIn (nI nr) (nI v) M = some (b2i (inn v), M)) : ∃ M, m_X12_addRange (nI k) (nI a) (nI b) (nI c) (nI p) σ = some (nI nr, M) ∧ fr [94, 98, 99] σ M ∧ c94 [2] σ M ∧ M 94 2 = nI (nr + 1) ∧ (∀ j, j < 5 * nr → M 98 j = σ 98 j) ∧ RgR M nr k a b c p ∧ (∀ j, j < 24 * nr → M 99 j = σ 99 j) ∧ ∀ v, v < s_nv S → M 99 (24 * nr + v) = b2i (inn v) := by
  obtain ⟨m7, hm7⟩ : ∃ m7 : Mem, m7 = up (up (up (up (up (up σ 98 (5 * nr) (nI k)) 98 (5 * nr + 1) (nI a)) 98 (5 * nr + 2) (nI b)) 98 (5 * nr + 3) (nI c)) 98 (5 * nr + 4) (nI p)) 94 2 (nI (nr + 1)) := ⟨_, rfl⟩
  have F7 : fr [94, 98] σ m7 := by rw [hm7]; exact fr_u (fr_u (fr_u (fr_u (fr_u (fr_u fr.refl (by decide)) (by decide)) (by decide)) (by decide)) (by decide)) (by decide)
  have e98 : m7 98 = (up (up (up (up (up σ 98 (5 * nr) (nI k)) 98 (5 * nr + 1) (nI a)) 98 (5 * nr + 2) (nI b)) 98 (5 * nr + 3) (nI c)) 98 (5 * nr + 4) (nI p)) 98 := by rw [hm7, up_pl _ _ (by decide)]
  have RG : RgR m7 nr k a b c p := by
    unfold RgR
    rw [e98]
    refine ⟨?_, ?_, ?_, ?_, ?_⟩
    · rw [up_off _ _ (Or.inr (by omega)), up_off _ _ (Or.inr (by omega)), up_off _ _ (Or.inr (by omega)), up_off _ _ (Or.inr (by omega)), up_same]
    · rw [up_off _ _ (Or.inr (by omega)), up_off _ _ (Or.inr (by omega)), up_off _ _ (Or.inr (by omega)), up_same]
    · rw [up_off _ _ (Or.inr (by omega)), up_off _ _ (Or.inr (by omega)), up_same]
    · rw [up_off _ _ (Or.inr (by omega)), up_same]
    · rw [up_same]
  have o98 : ∀ j, j < 5 * nr → m7 98 j = σ 98 j := fun j hj => by
    rw [e98, up_off _ _ (Or.inr (by omega)), up_off _ _ (Or.inr (by omega)), up_off _ _ (Or.inr (by omega)), up_off _ _ (Or.inr (by omega)), up_off _ _ (Or.inr (by omega))]
  have C7 : c94 [2] σ m7 := by
    rw [hm7]
    exact (((((c94.refl.v (by decide)).v (by decide)).v (by decide)).v (by decide)).v (by decide)).u (by decide)
  have m72 : m7 94 2 = nI (nr + 1) := by rw [hm7, up_same]
  have m71 : m7 94 1 = nI (s_nv S) := by rw [C7 1 (by decide)]; exact hR.1
  have key := up_fu (n := s_nv S) (P := fun i f => ∀ σ1 : Mem, fr [99] m7 σ1 → (∀ j, j < 24 * nr → σ1 99 j = σ 99 j) → (∀ v, v < i → σ1 99 (24 * nr + v) = b2i (inn v)) → ∃ M, m_X12_fill_2 f (nI nr) (nI i) σ1 = some (0, M) ∧ fr [99] m7 M ∧ (∀ j, j < 24 * nr → M 99 j = σ 99 j) ∧ ∀ v, v < s_nv S → M 99 (24 * nr + v) = b2i (inn v)) (by omega) (fun f σ1 hf ho hs => by
      refine ⟨σ1, ?_, hf, ho, hs⟩
      rw [m_X12_fill_2]
      rw [hf 94 (by decide), m71, if_pos (nI_le (Nat.le_refl _) (by omega))]) (fun i f hi ih σ1 hf ho hs => by
      have F1 : fr [94, 98, 99] σ σ1 := (F7.mono (by decide)).trans (hf.mono (by decide))
      have hR1 : RMv S σ1 := RMv.S (fun _ _ => rfl) (mk_fr F1 (by decide)) (fun j hj => by rw [hf 94 (by decide)]; exact C7 j (by revert hj; simp; omega)) hR
      have RG1 : RgR σ1 nr k a b c p := by
        unfold RgR at RG ⊢
        rw [hf 98 (by decide)]
        exact RG
      have ein := hin σ1 F1 hR1 RG1 ho i hi
      obtain ⟨M, q1, q2, q3, q4⟩ := ih (up σ1 99 (24 * nr + i) (b2i (inn i))) (hf.trans (fr.up (by simp))) (fun j hj => by rw [up_off _ _ (Or.inr (by omega))]; exact ho j hj) (fun v hv => by
        by_cases e : v = i
        · rw [e, up_same]
        · rw [up_off _ _ (Or.inr (by omega))]
          exact hs v (by omega))
      refine ⟨M, ?_, q2, q3, q4⟩
      rw [m_X12_fill_2]
      rw [hf 94 (by decide), m71, if_neg (nI_ge hi (by omega)), ein, obind_some]
      dsimp only
      rw [zchk_b, obind_some, mul_nI (y := 24) 24 rfl, nI_add, ast_nI (by omega) (by decide), obind_some, nI_1]
      exact q1) 0 (Nat.zero_le _) m7 fr.refl (fun j _ => by rw [F7 99 (by decide)]) (fun v hv => by omega)
  obtain ⟨M, q1, q2, q3, q4⟩ := key
  refine ⟨M, ?_, (F7.mono (by decide)).trans (q2.mono (by decide)), C7.w q2 (by decide), by rw [q2 94 (by decide)]; exact m72, fun j hj => by rw [q2 98 (by decide)]; exact o98 j hj, by unfold RgR at RG ⊢; rw [q2 98 (by decide)]; exact RG, q3, q4⟩
  have ix : (5 : Int32) * σ 94 2 = nI (5 * nr) := by rw [h2, mul_nI (y := 5) 5 rfl]
  have e2 : (up (up (up (up (up σ 98 (5 * nr) (nI k)) 98 (5 * nr + 1) (nI a)) 98 (5 * nr + 2) (nI b)) 98 (5 * nr + 3) (nI c)) 98 (5 * nr + 4) (nI p)) 94 2 = nI nr := by
    rw [up_pl _ _ (by decide), up_pl _ _ (by decide), up_pl _ _ (by decide), up_pl _ _ (by decide), up_pl _ _ (by decide), h2]
  unfold m_X12_addRange
  rw [obind_s, ix, ast_nI (by omega) (by decide), obind_s, add_nI (y := 1) 1 rfl, ast_nI (by omega) (by decide), obind_s, add_nI (y := 2) 2 rfl, ast_nI (by omega) (by decide), obind_s, add_nI (y := 3) 3 rfl, ast_nI (by omega) (by decide), obind_s, add_nI (y := 4) 4 rfl, ast_nI (by omega) (by decide), obind_s, obind_s, e2, nI_1, ← hm7, m72, nI_pred]
  unfold m_X12_fill
  rw [show m_X12_fill_2 FU (nI nr) 0 m7 = some (0, M) from q1, obind_s]
  dsimp only
  rw [q2 94 (by decide), m72, nI_pred]
/-! the class's ends -/
theorem c_endOf {k a b c p : Nat} (hk : k < 8) (ha : a ≤ 9) (hb : b ≤ 9) (hc : c ≤ 9) (hp : p ≤ 9) : m_X11_endOf (nI k) (nI a) (nI b) (nI c) (nI (rk4 a b c p)) σ = some (nI (endK k a b c p), σ) := by
  rcases (show k = 0 ∨ k = 1 ∨ k = 2 ∨ k = 3 ∨ k = 4 ∨ k = 5 ∨ k = 6 ∨ k = 7 by omega) with rfl | rfl | rfl | rfl | rfl | rfl | rfl | rfl
  · unfold m_X11_endOf
    rw [if_pos (show nI 0 = 0 from rfl), nI_1]
    rfl
  · unfold m_X11_endOf
    rw [if_neg (show ¬ nI 1 = 0 by decide), if_pos (show nI 1 = 1 from rfl)]
    rfl
  · unfold m_X11_endOf
    rw [if_neg (show ¬ nI 2 = 0 by decide), if_neg (show ¬ nI 2 = 1 by decide), if_pos (show nI 2 = 2 from rfl)]
    rfl
  · unfold m_X11_endOf
    rw [if_neg (show ¬ nI 3 = 0 by decide), if_neg (show ¬ nI 3 = 1 by decide), if_neg (show ¬ nI 3 = 2 by decide), if_pos (show nI 3 = 3 from rfl)]
    rfl
  · unfold m_X11_endOf
    rw [if_neg (show ¬ nI 4 = 0 by decide), if_neg (show ¬ nI 4 = 1 by decide), if_neg (show ¬ nI 4 = 2 by decide), if_neg (show ¬ nI 4 = 3 by decide), if_pos (show nI 4 = 4 from rfl)]
    unfold m_X11_endOfCompatible
    have he : endK 4 a b c p = (if 0 < a then rk4 (a + 1) 0 0 0 else if 0 < b then rk4 0 (b + 1) 0 0 else rk4 0 0 (c + 1) 0) := rfl
    rw [he]
    by_cases g1 : 0 < a
    · rw [if_neg (show ¬ nI a ≤ 0 from nI_ge (a := 0) g1 (by omega)), nI_1, if_pos g1, show (0 : Int32) = nI 0 from rfl, c_rankOf (by omega) (by omega) (by omega) (by omega), obind_s, obind_s]
    · rw [if_pos (show nI a ≤ 0 from nI_le (b := 0) (by omega) (by decide)), if_neg g1]
      by_cases g2 : 0 < b
      · rw [if_neg (show ¬ nI b ≤ 0 from nI_ge (a := 0) g2 (by omega)), nI_1, if_pos g2, show (0 : Int32) = nI 0 from rfl, c_rankOf (by omega) (by omega) (by omega) (by omega), obind_s, obind_s]
      · rw [if_pos (show nI b ≤ 0 from nI_le (b := 0) (by omega) (by decide)), nI_1, if_neg g2, show (0 : Int32) = nI 0 from rfl, c_rankOf (by omega) (by omega) (by omega) (by omega), obind_s, obind_s]
  · unfold m_X11_endOf
    rw [if_neg (show ¬ nI 5 = 0 by decide), if_neg (show ¬ nI 5 = 1 by decide), if_neg (show ¬ nI 5 = 2 by decide), if_neg (show ¬ nI 5 = 3 by decide), if_neg (show ¬ nI 5 = 4 by decide), if_pos (show nI 5 = 5 from rfl)]
    rw [nI_1, show (0 : Int32) = nI 0 from rfl, c_rankOf (by omega) (by omega) (by omega) (by omega), obind_s]
    rfl
  · unfold m_X11_endOf
    rw [if_neg (show ¬ nI 6 = 0 by decide), if_neg (show ¬ nI 6 = 1 by decide), if_neg (show ¬ nI 6 = 2 by decide), if_neg (show ¬ nI 6 = 3 by decide), if_neg (show ¬ nI 6 = 4 by decide), if_neg (show ¬ nI 6 = 5 by decide), if_pos (show nI 6 = 6 from rfl)]
    rw [nI_1, show (0 : Int32) = nI 0 from rfl, c_rankOf (by omega) (by omega) (by omega) (by omega), obind_s]
    rfl
  · unfold m_X11_endOf
    rw [if_neg (show ¬ nI 7 = 0 by decide), if_neg (show ¬ nI 7 = 1 by decide), if_neg (show ¬ nI 7 = 2 by decide), if_neg (show ¬ nI 7 = 3 by decide), if_neg (show ¬ nI 7 = 4 by decide), if_neg (show ¬ nI 7 = 5 by decide), if_neg (show ¬ nI 7 = 6 by decide), if_pos (show nI 7 = 7 from rfl)]
    rw [nI_1, show (0 : Int32) = nI 0 from rfl, c_rankOf (by omega) (by omega) (by omega) (by omega), obind_s]
    rfl
/-! the heads -/
def dA (k : Nat) : Nat := if k = 3 then 0 else 9
def dB (k : Nat) : Nat := if k = 3 ∨ k = 6 then 0 else 9
def dC (k : Nat) : Nat := if k = 3 ∨ k = 6 ∨ k = 7 then 0 else 9
def rgK (k : Nat) (v2 v3 v4 v5 : Int32) (σ : Mem) : Option ((Nat × Int32) × Mem) :=
  obind (m_X11_rankOf v2 v3 v4 v5 σ) fun x3 =>
  if nI k = 2 then m_X11_range_163 (nI k) v2 v3 v4 v5 x3.1 0 x3.2
  else if nI k = 3 then m_X11_range_163 (nI k) v2 v3 v4 v5 x3.1 0 x3.2
  else m_X11_range_163 (nI k) v2 v3 v4 v5 x3.1 x3.1 x3.2
theorem c_rangeHead {k nr : Nat} (hk : k < 8) (hn : nr ≤ 30) (h17 : σ 17 7 = nI nr) {v2 v3 v4 v5 : Int32} : m_X11_range (nI k) v2 v3 v4 v5 σ = if inN v2 (dA k + 1) = false then some ((2, 0), σ) else if inN v3 (dB k + 1) = false then some ((2, 0), σ) else if inN v4 (dC k + 1) = false then some ((2, 0), σ) else if inN v5 (dC k + 1) = false then some ((2, 0), σ) else if nr < 30 then rgK k v2 v3 v4 v5 σ else some ((3, 0), σ) := by
  have h8 : inN (nI k) 8 = true := by rw [inN_nI (by decide) (by omega), decide_eq_true hk]
  have e3 : nI k = 3 ↔ k = 3 := nI_eq (b := 3) (by omega) (by decide)
  have e6 : nI k = 6 ↔ k = 6 := nI_eq (b := 6) (by omega) (by decide)
  have e7 : nI k = 7 ↔ k = 7 := nI_eq (b := 7) (by omega) (by decide)
  have hfull : m_X6_isFull σ = some (b2i (!decide (nr < 30)), σ) := by
    unfold m_X6_isFull
    rw [h17]
    by_cases h : nr < 30
    · rw [if_pos (show nI nr < 30 from nI_lt (b := 30) h (by decide)), decide_eq_true h]
      rfl
    · rw [if_neg (show ¬ nI nr < 30 from nI_nlt (b := 30) (by omega) (by omega)), decide_eq_false h]
      rfl
  have hfin : ∀ s0 : Int32, ∀ d : Nat, s0 = nI d → d + 1 < 2 ^ 31 → m_X11_range_95 (nI k) v2 v3 v4 v5 s0 σ = if inN v5 (d + 1) = false then some ((2, 0), σ) else if nr < 30 then rgK k v2 v3 v4 v5 σ else some ((3, 0), σ) := fun s0 d hs hd => by
    unfold m_X11_range_95 rgK
    rw [c_up d hd hs, obind_s]
    cases inN v5 (d + 1) with
    | false => rw [if_pos (show b2i false = 0 from rfl), if_pos rfl]
    | true =>
      rw [if_neg (show ¬ b2i true = 0 by decide), if_neg (by decide)]
      dsimp only
      rw [hfull, obind_s]
      by_cases h : nr < 30
      · rw [decide_eq_true h, if_pos h, if_pos (show b2i (!true) = 0 from rfl)]
      · rw [decide_eq_false h, if_neg h, if_neg (show ¬ b2i (!false) = 0 by decide)]
  have h74 : ∀ s0 : Int32, ∀ d : Nat, s0 = nI d → d + 1 < 2 ^ 31 → m_X11_range_74 (nI k) v2 v3 v4 v5 s0 σ = if inN v4 (d + 1) = false then some ((2, 0), σ) else if inN v5 (dC k + 1) = false then some ((2, 0), σ) else if nr < 30 then rgK k v2 v3 v4 v5 σ else some ((3, 0), σ) := fun s0 d hs hd => by
    unfold m_X11_range_74
    rw [c_up d hd hs, obind_s]
    cases inN v4 (d + 1) with
    | false => rw [if_pos (show b2i false = 0 from rfl), if_pos rfl]
    | true =>
      rw [if_neg (show ¬ b2i true = 0 by decide), if_neg (show ¬ true = false by decide)]
      unfold m_X11_hasWholeVersion dC
      dsimp only
      by_cases g3 : k = 3
      · rw [if_pos (e3.mpr g3), if_pos (Or.inl g3), obind_s, if_pos rfl]
        exact hfin 0 0 rfl (by decide)
      · by_cases g6 : k = 6
        · rw [if_neg (fun e => g3 (e3.mp e)), if_pos (e6.mpr g6), if_pos (Or.inr (Or.inl g6)), obind_s, if_pos rfl]
          exact hfin 0 0 rfl (by decide)
        · by_cases g7 : k = 7
          · rw [if_neg (fun e => g3 (e3.mp e)), if_neg (fun e => g6 (e6.mp e)), if_pos (e7.mpr g7), if_pos (Or.inr (Or.inr g7)), obind_s, if_pos rfl]
            exact hfin 0 0 rfl (by decide)
          · rw [if_neg (fun e => g3 (e3.mp e)), if_neg (fun e => g6 (e6.mp e)), if_neg (fun e => g7 (e7.mp e)), if_neg (show ¬ (k = 3 ∨ k = 6 ∨ k = 7) by omega), obind_s, if_neg (show ¬ (1 : Int32) = 0 from ne10)]
            exact hfin 9 9 rfl (by decide)
  have h54 : ∀ s0 : Int32, ∀ d : Nat, s0 = nI d → d + 1 < 2 ^ 31 → m_X11_range_54 (nI k) v2 v3 v4 v5 s0 σ = if inN v3 (d + 1) = false then some ((2, 0), σ) else if inN v4 (dC k + 1) = false then some ((2, 0), σ) else if inN v5 (dC k + 1) = false then some ((2, 0), σ) else if nr < 30 then rgK k v2 v3 v4 v5 σ else some ((3, 0), σ) := fun s0 d hs hd => by
    unfold m_X11_range_54
    rw [c_up d hd hs, obind_s]
    cases inN v3 (d + 1) with
    | false => rw [if_pos (show b2i false = 0 from rfl), if_pos rfl]
    | true =>
      rw [if_neg (show ¬ b2i true = 0 by decide), if_neg (show ¬ true = false by decide)]
      have hw : ∃ x : Int32, m_X11_hasWholeVersion (nI k) σ = some (x, σ) ∧ ((x = 0 ∧ dC k = 0) ∨ (¬ x = 0 ∧ dC k = 9)) := by
        unfold m_X11_hasWholeVersion dC
        by_cases g3 : k = 3
        · exact ⟨0, by rw [if_pos (e3.mpr g3)], Or.inl ⟨rfl, if_pos (Or.inl g3)⟩⟩
        · by_cases g6 : k = 6
          · exact ⟨0, by rw [if_neg (fun e => g3 (e3.mp e)), if_pos (e6.mpr g6)], Or.inl ⟨rfl, if_pos (Or.inr (Or.inl g6))⟩⟩
          · by_cases g7 : k = 7
            · exact ⟨0, by rw [if_neg (fun e => g3 (e3.mp e)), if_neg (fun e => g6 (e6.mp e)), if_pos (e7.mpr g7)], Or.inl ⟨rfl, if_pos (Or.inr (Or.inr g7))⟩⟩
            · exact ⟨1, by rw [if_neg (fun e => g3 (e3.mp e)), if_neg (fun e => g6 (e6.mp e)), if_neg (fun e => g7 (e7.mp e))], Or.inr ⟨ne10, if_neg (by omega)⟩⟩
      obtain ⟨x, hx, hx2⟩ := hw
      dsimp only
      rw [hx, obind_s]
      rcases hx2 with ⟨g1, g2⟩ | ⟨g1, g2⟩
      · rw [if_pos g1, h74 0 0 rfl (by decide), g2]
      · rw [if_neg g1, h74 9 9 rfl (by decide), g2]
  have h30 : ∀ s0 : Int32, ∀ d : Nat, s0 = nI d → d + 1 < 2 ^ 31 → m_X11_range_30 (nI k) v2 v3 v4 v5 s0 σ = if inN v2 (d + 1) = false then some ((2, 0), σ) else if inN v3 (dB k + 1) = false then some ((2, 0), σ) else if inN v4 (dC k + 1) = false then some ((2, 0), σ) else if inN v5 (dC k + 1) = false then some ((2, 0), σ) else if nr < 30 then rgK k v2 v3 v4 v5 σ else some ((3, 0), σ) := fun s0 d hs hd => by
    unfold m_X11_range_30
    rw [c_up d hd hs, obind_s]
    cases inN v2 (d + 1) with
    | false => rw [if_pos (show b2i false = 0 from rfl), if_pos rfl]
    | true =>
      rw [if_neg (show ¬ b2i true = 0 by decide), if_neg (show ¬ true = false by decide)]
      dsimp only
      by_cases g3 : k = 3
      · rw [if_pos (e3.mpr g3), h54 0 0 rfl (by decide), show dB k = 0 from if_pos (Or.inl g3)]
      · by_cases g6 : k = 6
        · rw [if_neg (fun e => g3 (e3.mp e)), if_pos (e6.mpr g6), h54 0 0 rfl (by decide), show dB k = 0 from if_pos (Or.inr g6)]
        · rw [if_neg (fun e => g3 (e3.mp e)), if_neg (fun e => g6 (e6.mp e)), h54 9 9 rfl (by decide), show dB k = 9 from if_neg (by omega)]
  unfold m_X11_range
  rw [c_up 7 (by decide) (show (7 : Int32) = nI 7 from rfl), h8, obind_s, if_neg (show ¬ b2i true = 0 by decide)]
  dsimp only
  by_cases g3 : k = 3
  · rw [if_pos (e3.mpr g3), h30 0 0 rfl (by decide), show dA k = 0 from if_pos g3]
  · rw [if_neg (fun e => g3 (e3.mp e)), h30 9 9 rfl (by decide), show dA k = 9 from if_neg g3]
theorem r_rangeHead {k nr : Nat} (hk : k < 8) (h2 : σ 94 2 = nI nr) (hn : nr ≤ 30) {v2 v3 v4 v5 : Int32} : m_X12_range (nI k) v2 v3 v4 v5 σ = if inN v2 (dA k + 1) = false then m_X12_range_171 (nI k) v2 v3 v4 v5 2 σ else if inN v3 (dB k + 1) = false then m_X12_range_171 (nI k) v2 v3 v4 v5 2 σ else if inN v4 (dC k + 1) = false then m_X12_range_171 (nI k) v2 v3 v4 v5 2 σ else if inN v5 (dC k + 1) = false then m_X12_range_171 (nI k) v2 v3 v4 v5 2 σ else if nr = 30 then m_X12_range_171 (nI k) v2 v3 v4 v5 3 σ else m_X12_range_171 (nI k) v2 v3 v4 v5 0 σ := by
  have h8 : inN (nI k) 8 = true := by rw [inN_nI (by decide) (by omega), decide_eq_true hk]
  have e3 : nI k = 3 ↔ k = 3 := nI_eq (b := 3) (by omega) (by decide)
  have e6 : nI k = 6 ↔ k = 6 := nI_eq (b := 6) (by omega) (by decide)
  have e7 : nI k = 7 ↔ k = 7 := nI_eq (b := 7) (by omega) (by decide)
  have e30 : σ 94 2 = 30 ↔ nr = 30 := by
    rw [h2]
    exact nI_eq (b := 30) (by omega) (by decide)
  have h130 : m_X12_range_130 (nI k) v2 v3 v4 v5 σ = m_X12_range_171 (nI k) v2 v3 v4 v5 2 σ := by
    unfold m_X12_range_130 m_X12_range_131
    rw [r_inN (n := 7) (by decide) (show (7 : Int32) = nI 7 from rfl), h8, obind_s, if_neg (show ¬ b2i true = 0 by decide), if_pos rfl]
  have h131 : m_X12_range_131 (nI k) v2 v3 v4 v5 1 σ = if nr = 30 then m_X12_range_171 (nI k) v2 v3 v4 v5 3 σ else m_X12_range_171 (nI k) v2 v3 v4 v5 0 σ := by
    unfold m_X12_range_131
    rw [r_inN (n := 7) (by decide) (show (7 : Int32) = nI 7 from rfl), h8, obind_s, if_neg (show ¬ b2i true = 0 by decide), if_neg ne10]
    by_cases h : nr = 30
    · rw [if_pos (show (b2i true, σ).2 94 2 = 30 from e30.mpr h), if_pos h]
    · rw [if_neg (show ¬ (b2i true, σ).2 94 2 = 30 from fun e => h (e30.mp e)), if_neg h]
  have h120 : ∀ s0 : Int32, ∀ d : Nat, s0 = nI d → d + 1 < 2 ^ 31 → m_X12_range_120 (nI k) v2 v3 v4 v5 v5 0 s0 σ = if inN v5 (d + 1) = false then m_X12_range_171 (nI k) v2 v3 v4 v5 2 σ else if nr = 30 then m_X12_range_171 (nI k) v2 v3 v4 v5 3 σ else m_X12_range_171 (nI k) v2 v3 v4 v5 0 σ := fun s0 d hs hd => by
    unfold m_X12_range_120
    rw [r_inN hd hs, obind_s]
    cases inN v5 (d + 1) with
    | false =>
      rw [if_pos (show b2i false = 0 from rfl), if_pos rfl]
      exact h130
    | true =>
      rw [if_neg (show ¬ b2i true = 0 by decide), if_neg (show ¬ true = false by decide)]
      exact h131
  have h100 : ∀ (s0 v8 : Int32) (d : Nat), s0 = nI d → d + 1 < 2 ^ 31 → ((v8 = 0 ∧ dC k = 0) ∨ (¬ v8 = 0 ∧ dC k = 9)) → m_X12_range_100 (nI k) v2 v3 v4 v5 v8 v4 0 s0 σ = if inN v4 (d + 1) = false then m_X12_range_171 (nI k) v2 v3 v4 v5 2 σ else if inN v5 (dC k + 1) = false then m_X12_range_171 (nI k) v2 v3 v4 v5 2 σ else if nr = 30 then m_X12_range_171 (nI k) v2 v3 v4 v5 3 σ else m_X12_range_171 (nI k) v2 v3 v4 v5 0 σ := fun s0 v8 d hs hd h8 => by
    unfold m_X12_range_100
    rw [r_inN hd hs, obind_s]
    cases inN v4 (d + 1) with
    | false =>
      rw [if_pos (show b2i false = 0 from rfl), if_pos rfl]
      exact h130
    | true =>
      rw [if_neg (show ¬ b2i true = 0 by decide), if_neg (show ¬ true = false by decide)]
      dsimp only
      rcases h8 with ⟨g1, g2⟩ | ⟨g1, g2⟩
      · rw [if_pos g1, h120 0 0 rfl (by decide), g2]
      · rw [if_neg g1, h120 9 9 rfl (by decide), g2]
  have h80 : ∀ (s0 v8 : Int32) (d : Nat), s0 = nI d → d + 1 < 2 ^ 31 → ((v8 = 0 ∧ dC k = 0) ∨ (¬ v8 = 0 ∧ dC k = 9)) → m_X12_range_80 (nI k) v2 v3 v4 v5 v8 v3 0 s0 σ = if inN v3 (d + 1) = false then m_X12_range_171 (nI k) v2 v3 v4 v5 2 σ else if inN v4 (dC k + 1) = false then m_X12_range_171 (nI k) v2 v3 v4 v5 2 σ else if inN v5 (dC k + 1) = false then m_X12_range_171 (nI k) v2 v3 v4 v5 2 σ else if nr = 30 then m_X12_range_171 (nI k) v2 v3 v4 v5 3 σ else m_X12_range_171 (nI k) v2 v3 v4 v5 0 σ := fun s0 v8 d hs hd h8 => by
    unfold m_X12_range_80
    rw [r_inN hd hs, obind_s]
    cases inN v3 (d + 1) with
    | false =>
      rw [if_pos (show b2i false = 0 from rfl), if_pos rfl]
      exact h130
    | true =>
      rw [if_neg (show ¬ b2i true = 0 by decide), if_neg (show ¬ true = false by decide)]
      dsimp only
      rcases id h8 with ⟨g1, g2⟩ | ⟨g1, g2⟩
      · rw [if_pos g1, h100 0 v8 0 rfl (by decide) h8, g2]
      · rw [if_neg g1, h100 9 v8 9 rfl (by decide) h8, g2]
  have h61 : ∀ (s0 v7 v8 : Int32) (d : Nat), s0 = nI d → d + 1 < 2 ^ 31 → ((v7 = 0 ∧ dB k = 0) ∨ (¬ v7 = 0 ∧ dB k = 9)) → ((v8 = 0 ∧ dC k = 0) ∨ (¬ v8 = 0 ∧ dC k = 9)) → m_X12_range_61 (nI k) v2 v3 v4 v5 v7 v8 v2 0 s0 σ = if inN v2 (d + 1) = false then m_X12_range_171 (nI k) v2 v3 v4 v5 2 σ else if inN v3 (dB k + 1) = false then m_X12_range_171 (nI k) v2 v3 v4 v5 2 σ else if inN v4 (dC k + 1) = false then m_X12_range_171 (nI k) v2 v3 v4 v5 2 σ else if inN v5 (dC k + 1) = false then m_X12_range_171 (nI k) v2 v3 v4 v5 2 σ else if nr = 30 then m_X12_range_171 (nI k) v2 v3 v4 v5 3 σ else m_X12_range_171 (nI k) v2 v3 v4 v5 0 σ := fun s0 v7 v8 d hs hd h7 h8 => by
    unfold m_X12_range_61
    rw [r_inN hd hs, obind_s]
    cases inN v2 (d + 1) with
    | false =>
      rw [if_pos (show b2i false = 0 from rfl), if_pos rfl]
      exact h130
    | true =>
      rw [if_neg (show ¬ b2i true = 0 by decide), if_neg (show ¬ true = false by decide)]
      dsimp only
      rcases id h7 with ⟨g1, g2⟩ | ⟨g1, g2⟩
      · rw [if_pos g1, h80 0 v8 0 rfl (by decide) h8, g2]
      · rw [if_neg g1, h80 9 v8 9 rfl (by decide) h8, g2]
  unfold m_X12_range
  by_cases g3 : k = 3
  · rw [if_pos (e3.mpr g3)]
    unfold m_X12_range_10
    rw [if_pos rfl]
    unfold m_X12_range_27 m_X12_range_28
    rw [if_pos rfl]
    unfold m_X12_range_45 m_X12_range_46
    rw [if_pos rfl, h61 0 0 0 0 rfl (by decide) (Or.inl ⟨rfl, if_pos (Or.inl g3)⟩) (Or.inl ⟨rfl, if_pos (Or.inl g3)⟩), show dA k = 0 from if_pos g3]
  · rw [if_neg (fun e => g3 (e3.mp e))]
    unfold m_X12_range_10
    rw [if_neg ne10]
    by_cases g6 : k = 6
    · rw [if_pos (e6.mpr g6)]
      unfold m_X12_range_27 m_X12_range_28
      rw [if_pos rfl]
      unfold m_X12_range_45 m_X12_range_46
      rw [if_neg ne10, h61 9 0 0 9 rfl (by decide) (Or.inl ⟨rfl, if_pos (Or.inr g6)⟩) (Or.inl ⟨rfl, if_pos (Or.inr (Or.inl g6))⟩), show dA k = 9 from if_neg g3]
    · rw [if_neg (fun e => g6 (e6.mp e))]
      unfold m_X12_range_28
      rw [if_neg ne10]
      by_cases g7 : k = 7
      · rw [if_pos (e7.mpr g7)]
        unfold m_X12_range_45 m_X12_range_46
        rw [if_neg ne10, h61 9 1 0 9 rfl (by decide) (Or.inr ⟨ne10, if_neg (by omega)⟩) (Or.inl ⟨rfl, if_pos (Or.inr (Or.inr g7))⟩), show dA k = 9 from if_neg g3]
      · rw [if_neg (fun e => g7 (e7.mp e))]
        unfold m_X12_range_46
        rw [if_neg ne10, h61 9 1 1 9 rfl (by decide) (Or.inr ⟨ne10, if_neg (by omega)⟩) (Or.inr ⟨ne10, if_neg (by omega)⟩), show dA k = 9 from if_neg g3]
end RANGE
