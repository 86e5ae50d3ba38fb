/-! ===== pending ===== -/
section PEND
variable {S : SP} {σ : Mem}
theorem cntR_s1 {n : Nat} {f : Nat → Bool} (h : f n = true) : cntR (n + 1) f = cntR n f + 1 := by
  show cntR n f + (if f n = true then 1 else 0) = _
  rw [if_pos h]
theorem cntR_s0 {n : Nat} {f : Nat → Bool} (h : f n = false) : cntR (n + 1) f = cntR n f := by
  show cntR n f + (if f n = true then 1 else 0) = _
  rw [h]
  rfl
theorem c_pend (hW : WF S) (hR : RC S σ) {c : Nat → Nat} {w : Nat → Bool} (hc : ∀ p, p < 6 → σ 69 p = oi (c p)) (hn : ∀ p, p < 6 → c p ≤ s_nv S) (hw : ∀ p, p < 6 → w p = wrD S (s_dsk S p) (c p) (σ 93 p)) : m_X11_pending_16 FU 0 0 σ = some (nI (cntR 6 w), σ) := by
  have h24 := hW.nv
  have key := up_fu (n := 6) (P := fun i f => m_X11_pending_16 f (nI (cntR i w)) (nI i) σ = some (nI (cntR 6 w), σ)) (by decide) (fun f => by
      rw [m_X11_pending_16]
      rw [if_pos (show (6 : Int32) ≤ nI 6 by decide)]) (fun i f hi ih => by
      have hci := hn i hi
      have hdi := hW.dsk hi
      have e1 : m_X7_get 69 6 (nI i) σ = some (oi (c i), σ) := by rw [x_get hi (by decide), hc i hi]
      have e3 : m_X3_differs (nI i) (oi (c i)) (smS S (c i)) σ = some (b2i (w i), σ) := by
        rw [hw i hi]
        exact c_differs hi (by omega) (by omega) (hR.dsk hi) rfl
      rw [m_X11_pending_16]
      rw [if_neg (show ¬ (6 : Int32) ≤ nI i from nI_ge (b := 6) hi (by decide)), e1, obind_some]
      dsimp only
      rw [c_sums hW hR hci, obind_some]
      dsimp only
      rw [e3, obind_some, nI_1 i]
      cases hwi : w i with
      | false =>
        rw [cntR_s0 hwi] at ih
        rw [if_pos (show b2i false = 0 from rfl)]
        exact ih
      | true =>
        rw [cntR_s1 hwi] at ih
        rw [if_neg (show ¬ b2i true = 0 by decide), nI_1]
        exact ih) 0 (Nat.zero_le _)
  exact key
theorem r_pend (hW : WF S) (hR : RM S σ) {c : Nat → Nat} {w : Nat → Bool} (h30 : ¬ σ 94 30 = 0) (hc : ∀ p, p < 6 → σ 112 p = oi (c p)) (hn : ∀ p, p < 6 → c p ≤ s_nv S) (hw : ∀ p, p < 6 → w p = wrD S (s_dsk S p) (c p) (σ 105 p)) : m_X12_pending_13 FU 0 0 σ = some (nI (cntR 6 w), σ) := by
  have h24 := hW.nv
  have key := up_fu (n := 6) (P := fun i f => m_X12_pending_13 f (nI (cntR i w)) (nI i) σ = some (nI (cntR 6 w), σ)) (by decide) (fun f => by
      rw [m_X12_pending_13]
      rw [if_pos (show (6 : Int32) ≤ nI 6 by decide), if_neg h30]) (fun i f hi ih => by
      have hci := hn i hi
      have hdi := hW.dsk hi
      have e3 : m_X12_isRightOnDisk (nI i) σ = some (b2i (!w i), σ) := by
        rw [hw i hi]
        exact r_isRight hW hR.1 hi (by omega) hci (hR.pkg hi).2.2 (hc i hi) rfl
      rw [m_X12_pending_13]
      rw [if_neg (show ¬ (6 : Int32) ≤ nI i from nI_ge (b := 6) hi (by decide)), e3, obind_some]
      unfold m_X12_pending_33
      cases hwi : w i with
      | false =>
        rw [cntR_s0 hwi] at ih
        rw [if_neg (show ¬ b2i (!false) = 0 by decide), obind_s, nI_1 i, show nI (cntR i w) + 0 = nI (cntR i w) from nI_add _ 0]
        exact ih
      | true =>
        rw [cntR_s1 hwi] at ih
        rw [if_pos (show b2i (!true) = 0 from rfl), obind_s, nI_1 i, nI_1]
        exact ih) 0 (Nat.zero_le _)
  exact key
theorem r_pend0 (hB : RB σ) (h30 : σ 94 30 = 0) : m_X12_pending_13 FU 0 0 σ = some (-1, σ) := by
  have key := up_fu (n := 6) (P := fun i f => ∀ x, m_X12_pending_13 f x (nI i) σ = some (-1, σ)) (by decide) (fun f x => by
      rw [m_X12_pending_13]
      rw [if_pos (show (6 : Int32) ≤ nI 6 by decide), if_pos h30]) (fun i f hi ih x => by
      obtain ⟨y, hy, hB2⟩ := hB i hi
      obtain ⟨g, hg⟩ := r_isRightAny hi hy hB2
      rw [m_X12_pending_13]
      rw [if_neg (show ¬ (6 : Int32) ≤ nI i from nI_ge (b := 6) hi (by decide)), hg, obind_some]
      unfold m_X12_pending_33
      rw [obind_s, obind_s, nI_1 i]
      dsimp only
      rw [ih, ih]
      split <;> rfl) 0 (Nat.zero_le _)
  exact key 0
theorem op_pending : OP_pending Inv := by
  intro σ ⟨S, hI⟩
  obtain ⟨hW, hR, hM, hS, hC⟩ := id hI
  have h24 := hW.nv
  obtain ⟨σ1, b, c, a1, a2, a3, a4, a5, a6⟩ := find_cls hI
  obtain ⟨σ2, n, c', b1, b2, b3, b4, b5, b6, b7⟩ := find_ref (a2.thrown 0)
  have n0 : σ2 94 30 = 0 ↔ n = 0 := by rw [b4]; exact nI_z (by omega)
  have mh : m_X12_pending σ1 = m_X12_pending_13 FU 0 0 σ2 := by
    unfold m_X12_pending
    rw [obind_s, b1, obind_s]
  have ch : m_X11_pending σ = if b2i b = 0 then some (-1, σ1) else m_X11_pending_16 FU 0 0 σ1 := by
    unfold m_X11_pending
    rw [a1, obind_s]
  rcases agree hW a5 a6 b6 b7 with ⟨hb, hn, k1, k2, k3, k4⟩ | ⟨hb, hn⟩
  · obtain ⟨w, hw⟩ : ∃ w : Nat → Bool, w = fun p => wrD S (s_dsk S p) (c p) (σ1 93 p) := ⟨_, rfl⟩
    refine ⟨nI (cntR 6 w), σ1, σ2, ?_, ?_, S, b2⟩
    · rw [ch, hb, if_neg (show ¬ b2i true = 0 by decide)]
      exact c_pend hW a2.2.1 k3 k2 (fun p hp => by rw [hw])
    · rw [mh]
      refine r_pend hW b2.2.2.1 (fun e => hn (n0.mp e)) (fun p hp => (k4 p hp).1) k2 (fun p hp => ?_)
      rw [hw, b3.1 105 (by decide), up_pl _ _ (by decide)]
      exact wrD_eq fun h0 => a2.2.2.2.1.1 p hp h0
  · refine ⟨-1, σ1, σ2, ?_, ?_, S, b2⟩
    · rw [ch, hb, if_pos (show b2i false = 0 from rfl)]
    · rw [mh]
      exact r_pend0 b2.2.2.2.1.2 (n0.mpr hn)
end PEND
