

set_option maxRecDepth 1000000 in
set_option maxHeartbeats 4000000 in
theorem whole_of {Inv : Mem → Prop} (hO : OPS Inv) (hJ : Inv σ0) {p : Program} {e : Env} {s : State} {m : MethodId} {below : List Frame} {meth : Method} {c : Code} (l : Launch) (hflags : l.flags = flags0) {b L : Nat} {xs : Nat → Int32} (hL : L ≤ 4096) (C0 : lw_At p s m meth c b L xs) : W p l e room_1 s m #[Value.ref b] below meth c s.heap [] 0 0 (lw_Z below #[Value.ref b] s) (entryFrame m ([Value.ref b] : List Value).toArray 7) := by
  obtain ⟨hx, hb, hr, hml, hown, hts0, hXs, hbl, hlk, hgv⟩ := C0
  have hts : ∀ w ∈ BIG, w.before #[Value.ref b] s = true := fun w h => hts0 w (big_in w h)
  obtain ⟨D, hD⟩ := st_known hts
  obtain ⟨cI, hI1, hI2⟩ := st_arr (ty := .int) (by intro C h; cases h) (hts _ ar_int)
  obtain ⟨cB, hB1, hB2⟩ := st_arr (ty := .boolean) (by intro C h; cases h) (hts _ ar_bool)
  obtain ⟨cL, hL1, hL2⟩ := st_arr (ty := .long) (by intro C h; cases h) (hts _ ar_long)
  have hlt : l.stackTraces = false := by
    unfold Launch.stackTraces
    rw [hflags]
    decide +kernel
  obtain ⟨g0, hg0⟩ : ∃ g0 : GX, g0 = (D, cI, cB, cL, (fun _ => 0), s.heap.size, fun _ => 0) := ⟨_, rfl⟩
  have hK : va_K D vwCl [(cI, .int), (cB, .boolean), (cL, .long)] s := ⟨hD, fun k q hq => by
    match k with
    | 0 => cases hq; exact ⟨hI1, hI2⟩
    | 1 => cases hq; exact ⟨hB1, hB2⟩
    | 2 => cases hq; exact ⟨hL1, hL2⟩
    | k + 3 => simp at hq⟩
  have hNN : NN s := fun q hq => va_Nw.of rfl (hts0 _ (nest_in q hq))
  have hNG : NG s := fun q hq => va_Nw.of rfl (hts0 _ (nestG_in q hq))
  have hEN : EN s := fun q hq => va_Nc.of (flat_of_before _ hgv _ (nc_in q hq))
  rw [lg_entry_eq]
  have hl := lv_entry ([Value.ref b]) (n := 7) (Nat.le_of_ble_eq_true rfl)
  generalize (lg_sl ([Value.ref b]) ++ List.replicate (7 - (lg_sl ([Value.ref b])).length) Slot.unset).toArray = ls at hl ⊢
  have hl : lv_has ls 7 [(0, .ref b)] := hl
  have hA : ∀ q, s.heap.size ≤ q → (fun q => s.heap.size ≤ q) q := fun q h => h
  have hP : va_P D vwCl [] s.heap := fun k q h => by simp at h
  have hDD : va_D (fun q => s.heap.size ≤ q) [] := ⟨fun i j p q h => by simp at h, fun k q h => by simp at h⟩
  have hS : va_S (fun q => s.heap.size ≤ q) s.heap s.heap [] := va_S.rf
  refine va_new (ci := 11) (fs := [.null, .null, .null, .null, .null]) (C := RX11) (T := TX11) (N := 5) hx hb hts bgc_11 tyX11 tyX11_ok hown (hts _ (bg 70 (by decide +kernel) rfl)) (hts _ (bg 71 (by decide +kernel) rfl)) (hts _ (bg 49 (by decide +kernel) rfl)) hK hP hDD hS hA rfl (fun j hj => by rcases (show j = 0 ∨ j = 1 ∨ j = 2 ∨ j = 3 ∨ j = 4 by omega) with rfl | rfl | rfl | rfl | rfl <;> rfl) (Nat.le_of_ble_eq_true rfl) (Nat.le_of_ble_eq_true rfl) dL_law_0 (fun q0 H1 hP1 hD1 hS1 => ?_)
  refine lv_dup hx hb dL_law_3 rfl ?_
  have hP1' : va_P (gD g0) vwCl (gw g0 (fun _ => q0) [.inl (11, [.null, .null, .null, .null, .null])]) H1 := by rw [hg0]; exact hP1
  have hD1' : va_D (gA g0) (gw g0 (fun _ => q0) [.inl (11, [.null, .null, .null, .null, .null])]) := by rw [hg0]; exact hD1
  have hHG : ∀ (ρ : Nat → Nat) (ws : List GE) (H : Heap) (locs : List Loc), va_P (gD g0) vwCl (gw g0 ρ ws) H → va_D (gA g0) (gw g0 ρ ws) → va_S (fun q => s.heap.size ≤ q) s.heap H locs → ∀ U : State, U.heap = H → s.WarmedH U.vm → HG g0 ρ ws U := fun ρ ws H locs h1 h2 h3 U hU hW => ⟨by rw [hU]; exact h1, by rw [hg0]; exact va_K.moved hW.alike hK, h2, hNN.warm hW, hNG.warm hW, fun q hq => by rw [hg0]; show s.heap.size ≤ q; have := h3.1; rw [hU] at hq; omega⟩
  have hS1' : va_S (gA g0) s.heap H1 [] := by rw [hg0]; exact hS1
  refine va_callv (va_runI (As := []) (rest := [.ref q0]) (Ts := BIG) ⟨hx, hb, hml, hown, hts⟩ (cg_X11_init_0 l g0 (fun _ => q0)) (cwI 0 hts (big_code (bg 74 (by decide +kernel) rfl)) rfl rfl rfl (hts _ (bg 49 (by decide +kernel) rfl)) (hts _ (bg 72 (by decide +kernel) rfl)) (hts _ (bg 73 (by decide +kernel) rfl)) rfl (by decide +kernel) ⟨Nat.le_of_ble_eq_true rfl, Nat.le_of_ble_eq_true rfl⟩) ⟨HG.blind, fun U hU hW => ⟨rfl, hHG _ _ _ _ hP1' hD1' hS1 U hU hW⟩⟩ rfl rfl hl.1 rfl (lv_room (Nat.le_of_ble_eq_true rfl)) dL_law_4 ⟨Nat.le_of_ble_eq_true rfl, Nat.le_of_ble_eq_true rfl⟩) hS1' (fun q _ h => h) (fun q h => h) (fun ρ2 t H2 locs2 ht hvm hv hB hz hk hS2 => ?_)
  obtain ⟨hP2, hD2⟩ := hB
  rw [ht] at hP2
  have hP2 : va_P (gD g0) vwCl (gw g0 ρ2 W1L) H2 := hP2
  have hD2 : va_D (gA g0) (gw g0 ρ2 W1L) := hD2
  have hρ2 : ρ2 0 = q0 := hv 0 (Nat.zero_lt_one)
  refine lv_astore_n hx hb dL_law_7 rfl hl (by decide) rfl (fun ls hl => ?_)
  have hP2a : va_P D vwCl (gw g0 ρ2 W1L) H2 := by rw [hg0] at hP2 ⊢; exact hP2
  have hD2a : va_D (fun q => s.heap.size ≤ q) (gw g0 ρ2 W1L) := by rw [hg0] at hD2 ⊢; exact hD2
  have hS2a : va_S (fun q => s.heap.size ≤ q) s.heap H2 locs2 := by rw [hg0] at hS2; exact hS2
  refine va_new (ci := 12) (fs := fs12) (C := RX12) (T := TX12) (N := 32) hx hb hts bgc_12 tyX12 tyX12_ok hown (hts _ (bg 1127 (by decide +kernel) rfl)) (hts _ (bg 1128 (by decide +kernel) rfl)) (hts _ (bg 62 (by decide +kernel) rfl)) hK hP2a hD2a hS2a hA rfl (fun j hj => by rcases (show j = 0 ∨ j = 1 ∨ j = 2 ∨ j = 3 ∨ j = 4 ∨ j = 5 ∨ j = 6 ∨ j = 7 ∨ j = 8 ∨ j = 9 ∨ j = 10 ∨ j = 11 ∨ j = 12 ∨ j = 13 ∨ j = 14 ∨ j = 15 ∨ j = 16 ∨ j = 17 ∨ j = 18 ∨ j = 19 ∨ j = 20 ∨ j = 21 ∨ j = 22 ∨ j = 23 ∨ j = 24 ∨ j = 25 ∨ j = 26 ∨ j = 27 ∨ j = 28 ∨ j = 29 ∨ j = 30 ∨ j = 31 by omega) with rfl | rfl | rfl | rfl | rfl | rfl | rfl | rfl | rfl | rfl | rfl | rfl | rfl | rfl | rfl | rfl | rfl | rfl | rfl | rfl | rfl | rfl | rfl | rfl | rfl | rfl | rfl | rfl | rfl | rfl | rfl | rfl <;> rfl) (Nat.le_of_ble_eq_true rfl) (Nat.le_of_ble_eq_true rfl) dL_law_8 (fun q1 H3 hP3 hD3 hS3 => ?_)
  refine lv_dup hx hb dL_law_11 rfl ?_
  obtain ⟨ρ3, hρ3⟩ : ∃ ρ3 : Nat → Nat, ρ3 = fun j => if j = 94 then q1 else ρ2 j := ⟨_, rfl⟩
  have ha3 : ∀ j, j < W1L.length → ρ3 j = ρ2 j := fun j hj => by
    have h94 : W1L.length = 94 := rfl
    rw [hρ3]
    simp [show j ≠ 94 by omega]
  have hq1 : ρ3 94 = q1 := by rw [hρ3]; rfl
  have e3 : gw g0 ρ2 W1L ++ [(q1, .inr (12, fs12))] = gw g0 ρ3 (W1L ++ [.inl (12, fs12)]) := by
    rw [← gw_push, gw_agree ha3 rfl, show W1L.length = 94 from rfl, hq1]
    rfl
  have hP3' : va_P (gD g0) vwCl (gw g0 ρ3 (W1L ++ [.inl (12, fs12)])) H3 := by rw [← e3]; rw [hg0] at hP3 ⊢; exact hP3
  have hD3' : va_D (gA g0) (gw g0 ρ3 (W1L ++ [.inl (12, fs12)])) := by rw [← e3]; rw [hg0] at hD3 ⊢; exact hD3
  have hS3' : va_S (gA g0) s.heap H3 locs2 := by rw [hg0]; exact hS3
  rw [← hq1]
  refine va_callv (va_runI (As := []) (rest := [.ref (ρ3 94)]) (Ts := BIG) ⟨hx, hb, hml, hown, hts⟩ (cg_X12_init_0 l g0 ρ3) (cwI 0 hts (big_code (bg 1131 (by decide +kernel) rfl)) rfl rfl rfl (hts _ (bg 62 (by decide +kernel) rfl)) (hts _ (bg 1129 (by decide +kernel) rfl)) (hts _ (bg 1130 (by decide +kernel) rfl)) rfl (by decide +kernel) ⟨Nat.le_of_ble_eq_true rfl, Nat.le_of_ble_eq_true rfl⟩) ⟨HG.blind, fun U hU hW => ⟨rfl, hHG _ _ _ _ hP3' hD3' hS3 U hU hW⟩⟩ rfl rfl hl.1 rfl (lv_room (Nat.le_of_ble_eq_true rfl)) dL_law_12 ⟨Nat.le_of_ble_eq_true rfl, Nat.le_of_ble_eq_true rfl⟩) hS3' (fun q _ h => h) (fun q h => h) (fun ρ4 t H4 locs4 ht hvm hv hB hz hk hS4 => ?_)
  obtain ⟨hP4, hD4⟩ := hB
  rw [ht] at hP4
  have hP4 : va_P (gD g0) vwCl (gw g0 ρ4 W2L) H4 := hP4
  have hD4 : va_D (gA g0) (gw g0 ρ4 W2L) := hD4
  have hρ4 : ∀ k, k < 95 → ρ4 k = ρ3 k := hv
  refine lv_astore_n hx hb dL_law_15 rfl hl (by decide) rfl (fun ls hl => ?_)
  refine lv_iconst (v := 1) hx hb dL_law_16 (by decide) ?_
  have hP4a : va_P D vwCl (gw g0 ρ4 W2L) H4 := by rw [hg0] at hP4 ⊢; exact hP4
  have hD4a : va_D (fun q => s.heap.size ≤ q) (gw g0 ρ4 W2L) := by rw [hg0] at hD4 ⊢; exact hD4
  have hS4a : va_S (fun q => s.heap.size ≤ q) s.heap H4 locs4 := by rw [hg0] at hS4; exact hS4
  refine va_newa (atype := .long) (ty := .long) (a0 := (1, .inr (.inl fun _ => 0))) (N' := 1) hx hb (hts _ ar_long) rfl hK hP4a hD4a hS4a hA (fun cA => rfl) (by decide) (by decide) (Nat.le_of_ble_eq_true rfl) (Nat.le_of_ble_eq_true rfl) (Nat.le_of_ble_eq_true rfl) dL_law_17 (fun q2 cA H5 hK5 hP5 hD5 hS5 => ?_)
  have hcA : cA = cL := Option.some.inj ((hK5.2 3 (cA, .long) rfl).2.symm.trans hL2)
  subst hcA
  refine lv_astore_n hx hb dL_law_19 rfl hl (by decide) rfl (fun ls hl => ?_)
  refine lv_iconst (v := 0) hx hb dL_law_20 (by decide) ?_
  refine lv_istore hx hb dL_law_21 hl (by decide) rfl (fun ls hl => ?_)
  have hl : lv_has ls 7 [(4, .int 0), (3, .ref q2), (2, .ref (ρ3 94)), (1, .ref q0), (0, .ref b)] := hl
  have e5 : gw g0 ρ4 W2L ++ [(q2, .inl (cA, 1, .inr (.inl fun _ => 0)))] = wd (D, cI, cB, cA, (fun k => if k = 114 then q2 else if k = 115 then b else ρ4 k), s.heap.size, fun _ => 0) σ0 := by
    have h9 : gw g0 ρ4 W2L = gw (D, cI, cB, cA, ρ4, s.heap.size, fun _ => 0) ρ4 W2L := by
      rw [hg0]
      rfl
    rw [h9]
    exact wd_start D cI cB cA ρ4 q2 b s.heap.size
  rw [e5] at hP5 hD5
  obtain ⟨g, hg⟩ : ∃ g : GX, g = (D, cI, cB, cA, (fun k => if k = 114 then q2 else if k = 115 then b else ρ4 k), s.heap.size, fun _ => 0) := ⟨_, rfl⟩
  have hg114 : gr g 114 = q2 := by rw [hg]; rfl
  have hg115 : gr g 115 = b := by rw [hg]; rfl
  have hg0' : gr g 0 = q0 := by
    rw [hg]
    show ρ4 0 = q0
    rw [hρ4 0 (by decide), hρ3]
    exact hρ2
  have hg94 : gr g 94 = ρ3 94 := by
    rw [hg]
    exact hρ4 94 (by decide)
  have hlv : lvO (gr g) ls [some (.ref 115), some (.ref 0), some (.ref 94), some (.ref 114), some (.int (nI 0)), none, none] := by
    refine ⟨hl.1, hl.2.1, fun i v hi => ?_⟩
    match i with
    | 0 => cases hi; exact ⟨by rw [lv_at hl 4 rfl]; simp only [cv, hg115], rfl⟩
    | 1 => cases hi; exact ⟨by rw [lv_at hl 3 rfl]; simp only [cv, hg0'], rfl⟩
    | 2 => cases hi; exact ⟨by rw [lv_at hl 2 rfl]; simp only [cv, hg94], rfl⟩
    | 3 => cases hi; exact ⟨by rw [lv_at hl 1 rfl]; simp only [cv, hg114], rfl⟩
    | 4 => cases hi; exact ⟨by rw [lv_at hl 0 rfl]; rfl, rfl⟩
    | 5 => cases hi
    | 6 => cases hi
    | i + 7 => simp at hi
  have hKg : va_K (gD g) vwCl (gT g) s := by rw [hg]; exact hK
  have hgb : gb g = s.heap.size := by rw [hg]
  have hEX : EX g s := st_EX hgb hts0 hgv
  obtain ⟨X, hX0⟩ : ∃ X : AX, X = (p, l, e, room_1, s, m, #[Value.ref b], below, meth, c, g, lw_Z below #[Value.ref b] s, 115, 3460) := ⟨_, rfl⟩
  have hX : CX X code 7 RL := by
    rw [hX0]
    exact ⟨hx, hb, hml, hown, hts, hKg, hNN, hlk, fun q h => by show gb g ≤ q; rw [hgb]; exact h⟩
  have hR : LR X := by
    rw [hX0]
    exact ⟨rfl, rfl, rfl, rfl, hEX, hEN, hlt⟩
  have hI : LI X L b xs := by
    rw [hX0]
    exact ⟨hXs, hbl, hgb, hg115, hL⟩
  have key := law_loop hO (L / 8) 0 X σ0 hX hR hI (Nat.zero_le _) (by omega) (by rw [hX0]; show 115 + L / 8 ≤ 1178; omega) (by rw [hX0]; show 3460 + 6 * (L / 8) ≤ 10586; omega) hJ (fun i' τ' ce sl σ3 hce hsl => ?_)
  · rw [hX0] at key
    have hP6 : va_P (gD g) vwCl (wd g σ0) H5 := by rw [hg]; exact hP5
    have hD6 : va_D (gA g) (wd g σ0) := by rw [hg]; exact hD5
    have hS6 : va_S (gA g) s.heap H5 locs4 := by rw [hg]; exact hS5
    exact key rfl H5 locs4 ls hlv hP6 hD6 hS6
  · refine a_ic 1 hX.l dL_law_1904 (by decide) rfl ?_
    intro ho H locs lsA h1 h2 h3 h4
    rw [hX0] at h4 ⊢
    have hS7 : ∀ q ∈ locs, s.heap.size ≤ q.base := fun q hq => by
      have := h4.2.2 q hq
      have h9 : gb g ≤ q.base := this
      rw [hgb] at h9
      exact h9
    exact va_forget hS7 (W.widen hce hsl (lw_ret hx hb hr hlk dL_law_1905))
