/-! ===== the claim's room (288 cells, 954 slots) is smaller than what the law's first object takes (94 cells, 1413 slots) ===== -/
/-- a room that holds one object: what the walk below takes of a larger machine -/
def room_b : Room := { frames := 11, cells := 1000, slots := 10000, locals := 432 }
theorem set_sum : ∀ (M : List Nat) (i k : Nat), M[i]? = some k → (M.set i 0).sum + k = M.sum
  | [], i, k, h => by simp at h
  | a :: t, 0, k, h => by
    have h : a = k := by simpa using h
    subst h
    simp only [List.set_cons_zero, List.sum_cons]
    omega
  | a :: t, i + 1, k, h => by
    have := set_sum t i k (by simpa using h)
    simp only [List.set_cons_succ, List.sum_cons]
    omega
theorem many_sum : ∀ (ps : List (Nat × Nat)) (M : List Nat), (∀ (i j : Nat) (p q : Nat × Nat), ps[i]? = some p → ps[j]? = some q → p.1 = q.1 → i = j) → (∀ (i : Nat) (p : Nat × Nat), ps[i]? = some p → ∃ k, M[p.1]? = some k ∧ p.2 ≤ k) → (ps.map Prod.snd).sum ≤ M.sum
  | [], M, _, _ => by simp
  | p :: t, M, hd, hm => by
    obtain ⟨k, hk, hle⟩ := hm 0 p rfl
    have h1 := set_sum M p.1 k hk
    have h2 := many_sum t (M.set p.1 0) (fun i j a b ha hb e => by
      have := hd (i + 1) (j + 1) a b (by simpa using ha) (by simpa using hb) e
      omega) (fun i q hq => by
      obtain ⟨k', hk', hle'⟩ := hm (i + 1) q (by simpa using hq)
      have hne : p.1 ≠ q.1 := fun e => by
        have := hd 0 (i + 1) p q rfl (by simpa using hq) e
        omega
      refine ⟨k', ?_, hle'⟩
      rw [List.getElem?_set, if_neg hne]
      exact hk')
    simp only [List.map_cons, List.sum_cons]
    omega
def szE (q : Nat × va_E) : Nat := match q.2 with
  | .inl a => a.2.1
  | .inr _ => 0
theorem cell_size (cA : ClassId) (x : vp_A) : (vp_cell cA x).slots.size = x.1 := by
  obtain ⟨n, f | f | f | f | f⟩ := x <;> exact arrV_size _ _ _
/-- the arrays of a world that lies behind n take so many slots there -/
theorem world_sum {D : va_G} {cl : List vw_C} {ws : va_W} {H : Heap} {n : Nat} (hP : va_P D cl ws H) (hD : va_D (fun q => n ≤ q) ws) : (ws.map szE).sum ≤ ((H.toList.drop n).map (·.slots.size)).sum := by
  have key := many_sum (ws.map fun q => (q.1 - n, szE q)) ((H.toList.drop n).map (·.slots.size)) (fun i j p q hi hj e => ?_) (fun i p hi => ?_)
  · rw [List.map_map] at key
    exact key
  · rw [List.getElem?_map] at hi hj
    obtain ⟨p', hp', rfl⟩ := Option.map_eq_some_iff.mp hi
    obtain ⟨q', hq', rfl⟩ := Option.map_eq_some_iff.mp hj
    have h1 : n ≤ p'.1 := hD.2 i p' hp'
    have h2 : n ≤ q'.1 := hD.2 j q' hq'
    have e : p'.1 - n = q'.1 - n := e
    exact hD.1 i j p' q' hp' hq' (by omega)
  · rw [List.getElem?_map] at hi
    obtain ⟨p', hp', rfl⟩ := Option.map_eq_some_iff.mp hi
    have h1 : n ≤ p'.1 := hD.2 i p' hp'
    have h2 := hP i p' hp'
    have hlt := h2.lt
    have hget : ((H.toList.drop n).map (·.slots.size))[p'.1 - n]? = (H[p'.1]?).map (·.slots.size) := by
      rw [List.getElem?_map, List.getElem?_drop, show n + (p'.1 - n) = p'.1 by omega, Array.getElem?_toList]
    obtain ⟨a, e⟩ := p'
    cases e with
    | inl x =>
      have h2 : H[a]? = some (vp_cell x.1 x.2) := h2
      refine ⟨(vp_cell x.1 x.2).slots.size, ?_, Nat.le_of_eq (cell_size x.1 x.2).symm⟩
      rw [hget, h2]
      rfl
    | inr o =>
      refine ⟨(H[a]'hlt).slots.size, ?_, Nat.zero_le _⟩
      rw [hget, Array.getElem?_eq_getElem hlt]
      rfl
def szG (e : GE) : Nat := match e with
  | .inl _ => 0
  | .inr a => a.2.1
theorem szE_gE (g : GX) (ρ : Nat → Nat) (q : Nat) (e : GE) : szE (q, gE g ρ e) = szG e := by
  rcases e with o | ⟨t, a⟩
  · rfl
  · match t with
    | 0 => rfl
    | _ + 1 => rfl
theorem sz_gwL (g : GX) (ρ : Nat → Nat) : ∀ (L : List GE) (b : Nat), (gwL g ρ b L).map szE = L.map szG
  | [], _ => rfl
  | e :: t, b => by
    simp only [gwL, List.map_cons, szE_gE, sz_gwL g ρ t]
theorem w1_szG : (W1L.map szG).sum = 1300 := by decide +kernel
theorem w1_sum (g : GX) (ρ : Nat → Nat) : ((gw g ρ W1L).map szE).sum = 1300 := by
  rw [sz_gwL]
  exact w1_szG
set_option maxRecDepth 1000000 in
set_option maxHeartbeats 4000000 in
/-- behind the first 'new Resolverium()' of the law: 1300 slots more at the least (its arrays alone) -/
theorem one_object {p : Program} {e : Env} {s : State} {m : MethodId} {below : List Frame} {meth : Method} {c : Code} (l : Launch) {b L : Nat} {xs : Nat → Int32} (C0 : lw_At p s m meth c b L xs) : W p l e room_b s m #[Value.ref b] below meth c s.heap [] 0 0 (fun t => s.slotsUsed + 1300 ≤ t.slotsUsed) (entryFrame m ([Value.ref b] : List Value).toArray 8) := by
  obtain ⟨hx, hb, hr, hml, hown, hts0, hXs, hbl, hlk, hgv⟩ := C0
  have hts : ∀ w ∈ BIG, w.before #[Value.ref b] s = true := fun w h => hts0 w (big_in w h)
  obtain ⟨D, hD⟩ := st_known hts
  obtain ⟨cI, hI1, hI2⟩ := st_arr (ty := .int) (by intro C h; cases h) (hts _ ar_int)
  obtain ⟨g0, hg0⟩ : ∃ g0 : GX, g0 = (D, cI, 0, 0, (fun _ => 0), s.heap.size, fun _ => 0) := ⟨_, rfl⟩
  have hK : va_K D vwCl [(cI, .int)] s := ⟨hD, fun k q hq => by
    match k with
    | 0 => cases hq; exact ⟨hI1, hI2⟩
    | k + 1 => simp at hq⟩
  have hNN : NN s := fun q hq => va_Nw.of rfl (hts0 _ (nest_in q hq))
  have hNG : NG s := fun q hq => va_Nw.of rfl (hts0 _ (nestG_in q hq))
  rw [lg_entry_eq]
  have hl := lv_entry ([Value.ref b]) (n := 8) (Nat.le_of_ble_eq_true rfl)
  generalize (lg_sl ([Value.ref b]) ++ List.replicate (8 - (lg_sl ([Value.ref b])).length) Slot.unset).toArray = ls at hl ⊢
  have hl : lv_has ls 8 [(0, .ref b)] := hl
  have hA : ∀ q, s.heap.size ≤ q → (fun q => s.heap.size ≤ q) q := fun q h => h
  have hP : va_P D vwCl [] s.heap := fun k q h => by simp at h
  have hDD : va_D (fun q => s.heap.size ≤ q) [] := ⟨fun i j p q h => by simp at h, fun k q h => by simp at h⟩
  have hS : va_S (fun q => s.heap.size ≤ q) s.heap s.heap [] := va_S.rf
  refine va_new (ci := 11) (fs := [.null, .null, .null, .null, .null]) (C := RX11) (T := TX11) (N := 5) hx hb hts bgc_11 tyX11 tyX11_ok hown (hts _ (bg 36 (by decide +kernel) rfl)) (hts _ (bg 37 (by decide +kernel) rfl)) (hts _ (bg 16 (by decide +kernel) rfl)) hK hP hDD hS hA rfl (fun j hj => by rcases (show j = 0 ∨ j = 1 ∨ j = 2 ∨ j = 3 ∨ j = 4 by omega) with rfl | rfl | rfl | rfl | rfl <;> rfl) (Nat.le_of_ble_eq_true rfl) (Nat.le_of_ble_eq_true rfl) dL_law_0 (fun q0 H1 hP1 hD1 hS1 => ?_)
  refine lv_dup hx hb dL_law_3 rfl ?_
  have hP1' : va_P (gD g0) vwCl (gw g0 (fun _ => q0) [.inl (11, [.null, .null, .null, .null, .null])]) H1 := by rw [hg0]; exact hP1
  have hD1' : va_D (gA g0) (gw g0 (fun _ => q0) [.inl (11, [.null, .null, .null, .null, .null])]) := by rw [hg0]; exact hD1
  have hHG : ∀ (ρ : Nat → Nat) (ws : List GE) (H : Heap) (locs : List Loc), va_P (gD g0) vwCl (gw g0 ρ ws) H → va_D (gA g0) (gw g0 ρ ws) → va_S (fun q => s.heap.size ≤ q) s.heap H locs → ∀ U : State, U.heap = H → s.WarmedH U.vm → HG g0 ρ ws U := fun ρ ws H locs h1 h2 h3 U hU hW => ⟨by rw [hU]; exact h1, by rw [hg0]; exact va_K.moved hW.alike hK, h2, hNN.warm hW, hNG.warm hW, fun q hq => by rw [hg0]; show s.heap.size ≤ q; have := h3.1; rw [hU] at hq; omega⟩
  have hS1' : va_S (gA g0) s.heap H1 [] := by rw [hg0]; exact hS1
  refine va_callv (va_runI (As := []) (rest := [.ref q0]) (Ts := BIG) ⟨hx, hb, hml, hown, hts⟩ (cg_X11_init_0 l g0 (fun _ => q0)) (cwI 0 hts (big_code (bg 40 (by decide +kernel) rfl)) rfl rfl rfl (hts _ (bg 16 (by decide +kernel) rfl)) (hts _ (bg 38 (by decide +kernel) rfl)) (hts _ (bg 39 (by decide +kernel) rfl)) rfl (by decide +kernel) ⟨Nat.le_of_ble_eq_true rfl, Nat.le_of_ble_eq_true rfl⟩) ⟨HG.blind, fun U hU hW => ⟨rfl, hHG _ _ _ _ hP1' hD1' hS1 U hU hW⟩⟩ rfl rfl hl.1 rfl (lv_room (Nat.le_of_ble_eq_true rfl)) dL_law_4 ⟨Nat.le_of_ble_eq_true rfl, Nat.le_of_ble_eq_true rfl⟩) hS1' (fun q _ h => h) (fun q h => h) (fun ρ2 t H2 locs2 ht hvm hv hB hz hk hS2 => ?_)
  obtain ⟨hP2, hD2⟩ := hB
  rw [ht] at hP2
  have hP2 : va_P (gD g0) vwCl (gw g0 ρ2 W1L) H2 := hP2
  have hD2 : va_D (gA g0) (gw g0 ρ2 W1L) := hD2
  have hD3 : va_D (fun q => s.heap.size ≤ q) (gw g0 ρ2 W1L) := by
    rw [hg0] at hD2 ⊢
    exact hD2
  have hsum := world_sum hP2 hD3
  rw [w1_sum] at hsum
  intro T hT X
  refine ⟨_, Steps.refl _, ?_⟩
  show s.slotsUsed + 1300 ≤ T.slotsUsed
  have h9 : T.slotsUsed = s.slotsUsed + ((T.heap.toList.drop s.heap.size).map (·.slots.size)).sum := X.same.2.2.2.1
  rw [h9, hT]
  omega
set_option maxHeartbeats 4000000 in
/-- from the law's call on: a state of the run in which so much is taken -/
theorem room_run {l : Launch} {p : Program} {e : Env} (ha : l.admits e) (hc : FairCas e.choices) (hk : FairClock e.choices) {s : State} {m : MethodId} {b : Addr} {xs : List Int32} {below : List Frame} (hf : s.frames = .invoking m #[.ref b] :: below)
    (happ : (headSpec (Cond.code x code maxLocals ret :: tables_1) room_b).appliesLoose x e.platform s = true) (hP : lw_P b xs #[.ref b] s) : ∃ t, Steps p.tables e below s t ∧ s.slotsUsed + 1300 ≤ t.slotsUsed := by
  obtain ⟨hrun, hable, halone, hname, hhears, hinit, hroom, hpre⟩ := (Spec.appliesLoose_iff hf).mp happ
  obtain ⟨meth, c, hmeth, hcode, hbytes, hlocals, hret, hlocks, -, -⟩ := Cond.code_spec hname (atoms_spec (ws := Cond.code x code maxLocals ret :: tables_1) hpre _ List.mem_cons_self)
  have hcur := State.cur_lt_of_frames hf
  have hf1 : (s.setFrames (.java (entryFrame m #[.ref b] maxLocals) :: below)).frames = .java (entryFrame m #[.ref b] maxLocals) :: below := State.frames_setFrames _ hcur
  have ht1 := State.topJava?_of_frames hf1
  have hplain : (s.setFrames (.java (entryFrame m #[.ref b] maxLocals) :: below)).plainMethod m := State.plainMethod.of_named (s := s) (plainFor_of_name (by decide)) hname hmeth
  have hAt : At (s.setFrames (.java (entryFrame m #[.ref b] maxLocals) :: below)) m c below :=
    ⟨by rw [ht1]; rfl, ⟨[], by rw [hf1]; rfl⟩, hrun, by simpa using hable, by simpa using halone, by rw [State.code?_eq]; simp [State.setFrames, hmeth, hcode], hplain⟩
  have hstep : (stepThread p.tables e s).1 = (s.setFrames (.java (entryFrame m #[.ref b] maxLocals) :: below)).setTop (entryFrame m #[.ref b] maxLocals) := by
    have hfull : e.platform.stackFull (s.setFrames below).me (s.setFrames below).frames c.maxLocals = false := by
      obtain ⟨-, q1, -, q2⟩ := State.hasRoom_stack hroom
      rw [hf, List.length_cons] at q1
      rw [State.localsInUse_invoking hf hmeth hcode] at q2
      have hw := stackUse_le_stackWeight below
      rw [State.frames_setFrames _ hcur]
      exact Platform.stackFull_eq_false (by rw [State.stackLimits_setFrames]; omega) (by rw [State.stackLimits_setFrames]; omega)
    rw [stepThread_invoking hf, (doInvoke_java (s := s.setFrames below) (e := e) (meth := meth) (code := c) hmeth hcode hlocks hfull).1, State.setTop_self ht1]
    simp only [State.pushFrame, State.frames_setFrames _ hcur, State.setFrames_setFrames, hlocals, entryFrame]
  have B : BodyLoose p l x (headSpec (Cond.code x code maxLocals ret :: tables_1) room_b) code maxLocals ret e s m #[.ref b] below meth c (s.setFrames (.java (entryFrame m #[.ref b] maxLocals) :: below)) :=
    ⟨ha, hc, hk, by cases p <;> rfl, hf, hname, hhears, hinit, hroom, hpre, hmeth, hret, hlocks, hbytes, rfl, hAt⟩
  obtain ⟨-, hxx, hbd, hgv⟩ := hP
  obtain ⟨scr, harrAt, hlist, hof, hsmall⟩ := hxx
  obtain ⟨hcb, hkn, -, -⟩ := State.arrayAt?_spec harrAt
  have hown : s.vm.findClass R_law = some m.cls := findClass_of_methodNamed hname
  have hts0 : ∀ c ∈ (Cond.code x code maxLocals ret :: tables_1), c.before #[Value.ref b] s = true := atoms_spec (ws := Cond.code x code maxLocals ret :: tables_1) hpre
  have hts : ∀ w ∈ lw_tbl, w.before #[Value.ref b] s = true := k2_hts_sels lw_privs (fun w hw => hts0 w (List.mem_cons_of_mem _ hw)) lw_privs_ok
  have X₀ : Stand p l e room_b s m #[Value.ref b] below meth c (s.setFrames (.java (entryFrame m #[.ref b] maxLocals) :: below)) [] 0 0 := Stand.of_body B
  have hsz : scr.slots.size = xs.length := by rw [← Array.length_toList, hlist, List.length_map]
  have hval : ∀ j : Nat, j < xs.length → scr.slots[j]? = some (.int (xs.getD j 0)) := fun j hj => by
    rw [← Array.getElem?_toList, hlist]
    simp [hj]
  have hbl : b < s.heap.size := (Array.getElem?_eq_some_iff.mp hcb).1
  have hX : va_X b xs.length (fun j => xs.getD j 0) s s.heap := ⟨scr, hcb, hof, hkn, hsz, hval⟩
  obtain ⟨t, h1, h2⟩ := one_object (p := p) (e := e) (below := below) l (b := b) (L := xs.length) (xs := fun j => xs.getD j 0) ⟨B.exec, hbytes, hret, hlocals, hown, hts, hX, hbl, hlocks, hgv⟩ (s.setFrames (.java (entryFrame m #[.ref b] maxLocals) :: below)) rfl X₀
  exact ⟨t, Steps.head ⟨hrun, hable, halone⟩ ⟨[.invoking m #[.ref b]], hf, by simp, by simp⟩ (hstep ▸ h1), h2⟩
/-- The claim asks that no more than 954 slots are new at the end of the law's call; but its first object alone takes more. So it is false of every start; and there is a start ('witness_1'). -/
theorem room_falls (hw : WitnessClaimed_1) : ¬ Claimed_1_1 := by
  intro h
  obtain ⟨p, e, s, m, args, below, hL, hW, ha, hle, hc, hk, hf, hfit, hheap, happ, hca, hre, hpr⟩ := hw
  obtain ⟨b, xs, hP⟩ := lw_pre_spec hpr hre
  obtain ⟨rfl, -⟩ := id hP
  obtain ⟨r1, r2, r3, r4, r5, r6, r7, r8⟩ := (Spec.applies_iff hf).mp happ
  obtain ⟨u1, -, u3, -⟩ := State.hasRoom_stack r7
  obtain ⟨l1, l2, l3, l4⟩ := hle
  rw [l1] at u1
  rw [l4] at u3
  have u5 : s.localsInUse + 432 + stackMargin ≤ realStackBytes / 8 := State.hasRoom_real r7
  have u1 : s.frames.length + 11 ≤ launch0.maxFrames := u1
  have u3 : s.localsInUse + 432 ≤ launch0.maxStackSlots - stackMargin := u3
  have htrue : s.slotsTrue = true := by
    simp only [State.hasRoom, Bool.and_eq_true] at r7
    exact r7.2
  obtain ⟨e', he'⟩ : ∃ e' : Env, e' = launch0.env 0 (s.heap.size + 1000) (s.slotsUsed + 10000) := ⟨_, rfl⟩
  have ha' : launch0.admits e' := by rw [he']; exact launch0.admits_env _ _ _
  have hcas : FairCas e'.choices := by rw [he']; exact fairChoices_fair.cas
  have hclk : FairClock e'.choices := by rw [he']; exact fairChoices_fair.clock
  have hroom : ∀ r : Room, r.frames = 11 → r.locals = 432 → r.cells ≤ 1000 → r.slots ≤ 10000 → s.hasRoom e'.platform r = true := fun r q1 q2 q3 q4 => by
    rw [he']
    refine State.hasRoom_of (State.hasRoom_plain r7) ?_ ?_ ?_ ?_ htrue ?_
    · rw [q1]; exact Nat.le_trans u1 (Nat.le_max_left _ _)
    · rw [q2]; exact Nat.le_trans u3 (Nat.le_max_left _ _)
    · exact Nat.le_trans (Nat.add_le_add_left q3 _) (Nat.le_max_right _ _)
    · exact Nat.le_trans (Nat.add_le_add_left q4 _) (Nat.le_max_right _ _)
    · rw [q2]; exact u5
  have happ1 : (headSpec (Cond.code x code maxLocals ret :: tables_1) room_1).applies x e'.platform s = true :=
    (Spec.applies_iff hf).mpr ⟨r1, r2, r3, r4, r5, r6, hroom room_1 rfl rfl (Nat.le_of_ble_eq_true rfl) (Nat.le_of_ble_eq_true rfl), r8⟩
  have hb1 : room_b.frames = 11 := by simp [room_b]
  have hb2 : room_b.locals = 432 := by simp [room_b]
  have hb3 : room_b.cells ≤ 1000 := by simp [room_b]
  have hb4 : room_b.slots ≤ 10000 := by simp [room_b]
  have happb : (headSpec (Cond.code x code maxLocals ret :: tables_1) room_b).applies x e'.platform s = true :=
    (Spec.applies_iff hf).mpr ⟨r1, r2, r3, r4, r5, r6, hroom room_b hb1 hb2 hb3 hb4, r8⟩
  have happ2 : (headSpec (Cond.code x code maxLocals ret :: tables_1) room_b).appliesLoose x e'.platform s = true := ((Spec.applies_iff_loose hf).mp happb).1
  obtain ⟨n, o, h1, h2, h3, h4⟩ := h launch0 rfl hL hW p e' ha' hcas hclk s m #[.ref b] below hf hfit hheap happ1 ⟨trivial, hre, hpr⟩
  have hF : Framed s o (stepsAlone p.tables e' n s) _ 288 954 := h4.2
  have e1 : (stepsAlone p.tables e' n s).slotsUsed = s.slotsUsed + (((stepsAlone p.tables e' n s).heap.toList.drop s.heap.size).map (·.slots.size)).sum := hF.2.2.2.2.2.1
  have e2 : (((stepsAlone p.tables e' n s).heap.toList.drop s.heap.size).map (·.slots.size)).sum ≤ 954 := hF.2.2.2.2.2.2.1
  obtain ⟨t, ⟨k, hk1, hk2⟩, hs⟩ := room_run (p := p) ha' hcas hclk hf happ2 hP
  by_cases hkn : k ≤ n
  · have h9 := (stepsAlone_heap_grows_add p.tables e' k (n - k) s).2
    rw [show k + (n - k) = n by omega, hk1] at h9
    omega
  · exact h3.not_within (hk2 n (by omega))
theorem i_vc_falls (hw : WitnessClaimed_1) : ¬ (Claimed_1_1 ∧ Claimed_1_2) := fun h => room_falls hw h.1
