set_option maxRecDepth 100000 in
set_option maxHeartbeats 2000000 in
theorem a_X7_exchange_0 {X : AX} {r0 : Int32 × Mem} (hX : CX X cX7_exchange 4 RX7) (hR : (aR X).frames = 1 ∧ (aR X).locals = 22 ∧ aCe X ≤ (aR X).cells ∧ aSl X ≤ (aR X).slots) (hQ : QI X r0) (hr : (aMeth X).sig.returnType = (some .int)) (p a n : Nat) (hp : shp[p]? = some (.inl (7, [some a]))) (ha : shp[a]? = some (.inr (0, n))) (v1 v2 : Int32) (σ : Mem) : AWo X r0 0 [some (.ref p), some (.int v1), some (.int v2), none] [] σ (m_X7_exchange a n v1 v2 σ) := by
  unfold m_X7_exchange
  refine a_al0 hX dX7_exchange_0 rfl ?_
  refine a_il1 hX dX7_exchange_1 rfl ?_
  refine a_callI hX hR ml_X7_21 (ci_X7_get _ p a n hp ha _ _) hp rfl rfl rfl (by decide) (Nat.le_of_ble_eq_true rfl) rfl dX7_exchange_2 rfl (fun x1 => ?_)
  refine a_is3 hX dX7_exchange_5 rfl ?_
  refine a_al0 hX dX7_exchange_6 rfl ?_
  refine a_il1 hX dX7_exchange_7 rfl ?_
  refine a_il2 hX dX7_exchange_8 rfl ?_
  refine a_callV hX hR ml_X7_25 (ci_X7_set _ p a n hp ha _ _ _) hp rfl rfl rfl (by decide) (Nat.le_of_ble_eq_true rfl) rfl dX7_exchange_9 rfl (fun x2 => ?_)
  refine a_il3 hX dX7_exchange_12 rfl ?_
  exact a_iret hX hQ hr dX7_exchange_13

set_option maxRecDepth 100000 in
theorem ci_X7_exchange (l : Launch) (p a n : Nat) (hp : shp[p]? = some (.inl (7, [some a]))) (ha : shp[a]? = some (.inr (0, n))) (v1 v2 : Int32) (σ : Mem) : CI l yX7_exchange cX7_exchange 4 (some .int) 1 22 [.ref p, .int v1, .int v2] σ (m_X7_exchange a n v1 v2 σ) :=
  ci_of (by decide) (by simp [Value.category]) (by simp) (fun X r hl hX hR hQ hr => a_X7_exchange_0 hX hR hQ hr p a n hp ha v1 v2 σ)

set_option maxRecDepth 100000 in
set_option maxHeartbeats 2000000 in
theorem a_X7_count_4 {X : AX} {r0 : Int32 × Mem} (hX : CX X cX7_count 4 RX7) (hR : (aR X).frames = 0 ∧ (aR X).locals = 0 ∧ aCe X ≤ (aR X).cells ∧ aSl X ≤ (aR X).slots) (hQ : QI X r0) (hr : (aMeth X).sig.returnType = (some .int)) (p a n : Nat) (hp : shp[p]? = some (.inl (7, [some a]))) (ha : shp[a]? = some (.inr (0, n))) : ∀ (fuel : Nat) (v1 v2 v3 : Int32) (σ : Mem), AWo X r0 4 [some (.ref p), some (.int v1), some (.int v2), some (.int v3)] [] σ (m_X7_count_4 a n fuel v1 v2 v3 σ) := by
  intro fuel
  induction fuel with
  | zero => intro v1 v2 v3 σ; exact a_none
  | succ fuel ih =>
    intro v1 v2 v3 σ
    show AWo X r0 4 [some (.ref p), some (.int v1), some (.int v2), some (.int v3)] [] σ (m_X7_count_4 a n (fuel + 1) v1 v2 v3 σ)
    unfold m_X7_count_4
    refine a_il3 hX dX7_count_4 rfl ?_
    refine a_al0 hX dX7_count_5 rfl ?_
    refine a_getR hX fl_X7_9 hp rfl dX7_count_6 rfl ?_
    refine a_alen (Int32.ofNat n) hX ha (by decide) rfl dX7_count_9 rfl ?_
    refine a_icmp_ge hX dX7_count_10 rfl rfl ?_ ?_
    · refine a_il2 hX dX7_count_32 rfl ?_
      exact a_iret hX hQ hr dX7_count_33
    · refine a_al0 hX dX7_count_13 rfl ?_
      refine a_getR hX fl_X7_9 hp rfl dX7_count_14 rfl ?_
      refine a_il3 hX dX7_count_17 rfl ?_
      refine a_ald hX ha dX7_count_18 rfl (fun x1 => ?_)
      refine a_il1 hX dX7_count_19 rfl ?_
      refine a_icmp_ne hX dX7_count_20 rfl rfl ?_ ?_
      · refine a_inc3 1 hX dX7_count_26 (by decide) rfl ?_
        refine a_goto hX dX7_count_29 rfl ?_
        exact a_sub (ih v1 v2 (v3 + 1) (σ)) (ls_s (ls_s (ls_s (ls_s ls_0))))
      · refine a_inc2 1 hX dX7_count_23 (by decide) rfl ?_
        refine a_inc3 1 hX dX7_count_26 (by decide) rfl ?_
        refine a_goto hX dX7_count_29 rfl ?_
        exact a_sub (ih v1 (v2 + 1) (v3 + 1) (σ)) (ls_s (ls_s (ls_s (ls_s ls_0))))

set_option maxRecDepth 100000 in
set_option maxHeartbeats 2000000 in
theorem a_X7_count_0 {X : AX} {r0 : Int32 × Mem} (hX : CX X cX7_count 4 RX7) (hR : (aR X).frames = 0 ∧ (aR X).locals = 0 ∧ aCe X ≤ (aR X).cells ∧ aSl X ≤ (aR X).slots) (hQ : QI X r0) (hr : (aMeth X).sig.returnType = (some .int)) (p a n : Nat) (hp : shp[p]? = some (.inl (7, [some a]))) (ha : shp[a]? = some (.inr (0, n))) (v1 : Int32) (σ : Mem) : AWo X r0 0 [some (.ref p), some (.int v1), none, none] [] σ (m_X7_count a n v1 σ) := by
  unfold m_X7_count
  refine a_ic 0 hX dX7_count_0 (by decide) rfl ?_
  refine a_is2 hX dX7_count_1 rfl ?_
  refine a_ic 0 hX dX7_count_2 (by decide) rfl ?_
  refine a_is3 hX dX7_count_3 rfl ?_
  exact a_sub (a_X7_count_4 hX hR hQ hr p a n hp ha FU v1 0 0 (σ)) (ls_s (ls_s (ls_s (ls_s ls_0))))

set_option maxRecDepth 100000 in
theorem ci_X7_count (l : Launch) (p a n : Nat) (hp : shp[p]? = some (.inl (7, [some a]))) (ha : shp[a]? = some (.inr (0, n))) (v1 : Int32) (σ : Mem) : CI l yX7_count cX7_count 4 (some .int) 0 0 [.ref p, .int v1] σ (m_X7_count a n v1 σ) :=
  ci_of (by decide) (by simp [Value.category]) (by simp) (fun X r hl hX hR hQ hr => a_X7_count_0 hX hR hQ hr p a n hp ha v1 σ)

set_option maxRecDepth 100000 in
set_option maxHeartbeats 2000000 in
theorem a_X8_reachable_23 {X : AX} {r0 : Int32 × Mem} (hX : CX X cX8_reachable 5 RX8) (hR : (aR X).frames = 3 ∧ (aR X).locals = 69 ∧ aCe X ≤ (aR X).cells ∧ aSl X ≤ (aR X).slots) (hQ : QI X r0) (hr : (aMeth X).sig.returnType = (some .int)) (f14 : Int32 → Int32 → Int32 → Mem → Option (Int32 × Mem)) (hf14 : ∀ (v1 v2 v3 : Int32) (σ : Mem), AWo X r0 14 [some (.ref 67), some (.int v1), some (.int v2), some (.int v3), none] [] σ (f14 v1 v2 v3 σ)) : ∀ (fuel : Nat) (v1 v2 v3 v4 : Int32) (σ : Mem), AWo X r0 23 [some (.ref 67), some (.int v1), some (.int v2), some (.int v3), some (.int v4)] [] σ (m_X8_reachable_23 f14 fuel v1 v2 v3 v4 σ) := by
  intro fuel
  induction fuel with
  | zero => intro v1 v2 v3 v4 σ; exact a_none
  | succ fuel ih =>
    intro v1 v2 v3 v4 σ
    show AWo X r0 23 [some (.ref 67), some (.int v1), some (.int v2), some (.int v3), some (.int v4)] [] σ (m_X8_reachable_23 f14 (fuel + 1) v1 v2 v3 v4 σ)
    unfold m_X8_reachable_23
    refine a_il4 hX dX8_reachable_23 rfl ?_
    refine a_al0 hX dX8_reachable_25 rfl ?_
    refine a_getR hX fl_X8_29 s_67 rfl dX8_reachable_26 rfl ?_
    refine a_getR hX fl_X8_109 s_1 rfl dX8_reachable_29 rfl ?_
    refine a_getI hX fl_X8_137 s_2 rfl dX8_reachable_32 rfl ?_
    refine a_icmp_ge hX dX8_reachable_35 rfl rfl ?_ ?_
    · refine a_inc3 1 hX dX8_reachable_89 (by decide) rfl ?_
      refine a_goto hX dX8_reachable_92 rfl ?_
      exact a_sub (hf14 v1 v2 (v3 + 1) (σ)) (ls_s (ls_s (ls_s (ls_s (ls_n ls_0)))))
    · refine a_il1 hX dX8_reachable_38 rfl ?_
      refine a_il4 hX dX8_reachable_39 rfl ?_
      refine a_callNI hX hR ml_X8_101 (ci_X11_isIn _ _ _ _) rfl rfl (by decide) (Nat.le_of_ble_eq_true rfl) rfl dX8_reachable_41 rfl (fun x1 => ?_)
      refine a_if_eq hX dX8_reachable_44 rfl rfl ?_ ?_
      · refine a_inc4 1 hX dX8_reachable_83 (by decide) rfl ?_
        refine a_goto hX dX8_reachable_86 rfl ?_
        exact a_sub (ih v1 v2 v3 (v4 + 1) x1.2) (ls_s (ls_s (ls_s (ls_s (ls_s ls_0)))))
      · refine a_il2 hX dX8_reachable_47 rfl ?_
        refine a_al0 hX dX8_reachable_48 rfl ?_
        refine a_getR hX fl_X8_29 s_67 rfl dX8_reachable_49 rfl ?_
        refine a_getR hX fl_X8_109 s_1 rfl dX8_reachable_52 rfl ?_
        refine a_getR hX fl_X8_113 s_2 rfl dX8_reachable_55 rfl ?_
        refine a_il4 hX dX8_reachable_58 rfl ?_
        refine a_callI hX hR ml_X8_86 (ci_X7_get _ 3 4 24 s_3 s_4 _ _) s_3 rfl rfl rfl (by decide) (Nat.le_of_ble_eq_true rfl) rfl dX8_reachable_60 rfl (fun x2 => ?_)
        refine a_callNI hX hR ml_X8_101 (ci_X11_isIn _ _ _ _) rfl rfl (by decide) (Nat.le_of_ble_eq_true rfl) rfl dX8_reachable_63 rfl (fun x3 => ?_)
        refine a_if_eq hX dX8_reachable_66 rfl rfl ?_ ?_
        · refine a_inc4 1 hX dX8_reachable_83 (by decide) rfl ?_
          refine a_goto hX dX8_reachable_86 rfl ?_
          exact a_sub (ih v1 v2 v3 (v4 + 1) x3.2) (ls_s (ls_s (ls_s (ls_s (ls_s ls_0)))))
        · refine a_il2 hX dX8_reachable_69 rfl ?_
          refine a_al0 hX dX8_reachable_70 rfl ?_
          refine a_getR hX fl_X8_29 s_67 rfl dX8_reachable_71 rfl ?_
          refine a_il4 hX dX8_reachable_74 rfl ?_
          refine a_bi 7 hX dX8_reachable_76 (by decide) rfl ?_
          refine a_callI hX hR ml_X8_140 (ci_X10_pulledBy _ _ _ _) s_1 rfl rfl rfl (by decide) (Nat.le_of_ble_eq_true rfl) rfl dX8_reachable_78 rfl (fun x4 => ?_)
          refine a_ior hX dX8_reachable_81 rfl ?_
          refine a_name (fun y5 => ?_)
          refine a_is2 hX dX8_reachable_82 rfl ?_
          refine a_inc4 1 hX dX8_reachable_83 (by decide) rfl ?_
          refine a_goto hX dX8_reachable_86 rfl ?_
          exact a_sub (ih v1 y5 v3 (v4 + 1) x4.2) (ls_s (ls_s (ls_s (ls_s (ls_s ls_0)))))

set_option maxRecDepth 100000 in
set_option maxHeartbeats 2000000 in
theorem a_X8_reachable_14 {X : AX} {r0 : Int32 × Mem} (hX : CX X cX8_reachable 5 RX8) (hR : (aR X).frames = 3 ∧ (aR X).locals = 69 ∧ aCe X ≤ (aR X).cells ∧ aSl X ≤ (aR X).slots) (hQ : QI X r0) (hr : (aMeth X).sig.returnType = (some .int)) : ∀ (fuel : Nat) (v1 v2 v3 : Int32) (σ : Mem), AWo X r0 14 [some (.ref 67), some (.int v1), some (.int v2), some (.int v3), none] [] σ (m_X8_reachable_14 fuel v1 v2 v3 σ) := by
  intro fuel
  induction fuel with
  | zero => intro v1 v2 v3 σ; exact a_none
  | succ fuel ih =>
    intro v1 v2 v3 σ
    show AWo X r0 14 [some (.ref 67), some (.int v1), some (.int v2), some (.int v3), none] [] σ (m_X8_reachable_14 (fuel + 1) v1 v2 v3 σ)
    unfold m_X8_reachable_14
    refine a_il3 hX dX8_reachable_14 rfl ?_
    refine a_bi 6 hX dX8_reachable_15 (by decide) rfl ?_
    refine a_icmp_ge hX dX8_reachable_17 rfl rfl ?_ ?_
    · refine a_il2 hX dX8_reachable_95 rfl ?_
      exact a_iret hX hQ hr dX8_reachable_96
    · refine a_ic 0 hX dX8_reachable_20 (by decide) rfl ?_
      refine a_is4 hX dX8_reachable_21 rfl ?_
      exact a_sub (a_X8_reachable_23 hX hR hQ hr (m_X8_reachable_14 fuel) ih FU v1 v2 v3 0 (σ)) (ls_s (ls_s (ls_s (ls_s (ls_s ls_0)))))

set_option maxRecDepth 100000 in
set_option maxHeartbeats 2000000 in
theorem a_X8_reachable_0 {X : AX} {r0 : Int32 × Mem} (hX : CX X cX8_reachable 5 RX8) (hR : (aR X).frames = 3 ∧ (aR X).locals = 69 ∧ aCe X ≤ (aR X).cells ∧ aSl X ≤ (aR X).slots) (hQ : QI X r0) (hr : (aMeth X).sig.returnType = (some .int)) (v1 : Int32) (σ : Mem) : AWo X r0 0 [some (.ref 67), some (.int v1), none, none, none] [] σ (m_X8_reachable v1 σ) := by
  unfold m_X8_reachable
  refine a_al0 hX dX8_reachable_0 rfl ?_
  refine a_getR hX fl_X8_29 s_67 rfl dX8_reachable_1 rfl ?_
  refine a_al0 hX dX8_reachable_4 rfl ?_
  refine a_getI hX fl_X8_78 s_67 rfl dX8_reachable_5 rfl ?_
  refine a_callI hX hR ml_X8_131 (ci_X10_demanded _ _ _) s_1 rfl rfl rfl (by decide) (Nat.le_of_ble_eq_true rfl) rfl dX8_reachable_8 rfl (fun x1 => ?_)
  refine a_is2 hX dX8_reachable_11 rfl ?_
  refine a_ic 0 hX dX8_reachable_12 (by decide) rfl ?_
  refine a_is3 hX dX8_reachable_13 rfl ?_
  exact a_sub (a_X8_reachable_14 hX hR hQ hr FU v1 x1.1 0 x1.2) (ls_s (ls_s (ls_s (ls_s (ls_n ls_0)))))

set_option maxRecDepth 100000 in
theorem ci_X8_reachable (l : Launch) (v1 : Int32) (σ : Mem) : CI l yX8_reachable cX8_reachable 5 (some .int) 3 69 [.ref 67, .int v1] σ (m_X8_reachable v1 σ) :=
  ci_of (by decide) (by simp [Value.category]) (by simp) (fun X r hl hX hR hQ hr => a_X8_reachable_0 hX hR hQ hr v1 σ)

set_option maxRecDepth 100000 in
set_option maxHeartbeats 2000000 in
theorem a_X10_refuses_15 {X : AX} {r0 : Int32 × Mem} (hX : CX X cX10_refuses 5 RX10) (hR : (aR X).frames = 2 ∧ (aR X).locals = 43 ∧ aCe X ≤ (aR X).cells ∧ aSl X ≤ (aR X).slots) (hQ : QI X r0) (hr : (aMeth X).sig.returnType = (some .boolean)) : ∀ (fuel : Nat) (v1 v2 v3 v4 : Int32) (σ : Mem), AWo X r0 15 [some (.ref 1), some (.int v1), some (.int v2), some (.int v3), some (.int v4)] [] σ (m_X10_refuses_15 fuel v1 v2 v3 v4 σ) := by
  intro fuel
  induction fuel with
  | zero => intro v1 v2 v3 v4 σ; exact a_none
  | succ fuel ih =>
    intro v1 v2 v3 v4 σ
    show AWo X r0 15 [some (.ref 1), some (.int v1), some (.int v2), some (.int v3), some (.int v4)] [] σ (m_X10_refuses_15 (fuel + 1) v1 v2 v3 v4 σ)
    unfold m_X10_refuses_15
    refine a_il4 hX dX10_refuses_15 rfl ?_
    refine a_al0 hX dX10_refuses_17 rfl ?_
    refine a_getR hX fl_X10_35 s_1 rfl dX10_refuses_18 rfl ?_
    refine a_getI hX fl_X10_136 s_47 rfl dX10_refuses_21 rfl ?_
    refine a_icmp_ge hX dX10_refuses_24 rfl rfl ?_ ?_
    · refine a_ic 0 hX dX10_refuses_77 (by decide) rfl ?_
      exact a_zret0 (by decide) hX hQ hr dX10_refuses_78
    · refine a_il1 hX dX10_refuses_27 rfl ?_
      refine a_il4 hX dX10_refuses_28 rfl ?_
      refine a_callNI hX hR ml_X10_87 (ci_X11_isIn _ _ _ _) rfl rfl (by decide) (Nat.le_of_ble_eq_true rfl) rfl dX10_refuses_30 rfl (fun x1 => ?_)
      refine a_if_eq hX dX10_refuses_33 rfl rfl ?_ ?_
      · refine a_inc4 1 hX dX10_refuses_71 (by decide) rfl ?_
        refine a_goto hX dX10_refuses_74 rfl ?_
        exact a_sub (ih v1 v2 v3 (v4 + 1) x1.2) (ls_s (ls_s (ls_s (ls_s (ls_s ls_0)))))
      · refine a_al0 hX dX10_refuses_36 rfl ?_
        refine a_il4 hX dX10_refuses_37 rfl ?_
        refine a_callI hX hR ml_X10_137 (ci_X10_targetOfDemand _ _ _) s_1 rfl rfl rfl (by decide) (Nat.le_of_ble_eq_true rfl) rfl dX10_refuses_39 rfl (fun x2 => ?_)
        refine a_il3 hX dX10_refuses_42 rfl ?_
        refine a_icmp_ne hX dX10_refuses_43 rfl rfl ?_ ?_
        · refine a_inc4 1 hX dX10_refuses_71 (by decide) rfl ?_
          refine a_goto hX dX10_refuses_74 rfl ?_
          exact a_sub (ih v1 v2 v3 (v4 + 1) x2.2) (ls_s (ls_s (ls_s (ls_s (ls_s ls_0)))))
        · refine a_al0 hX dX10_refuses_46 rfl ?_
          refine a_getR hX fl_X10_21 s_1 rfl dX10_refuses_47 rfl ?_
          refine a_al0 hX dX10_refuses_50 rfl ?_
          refine a_getR hX fl_X10_35 s_1 rfl dX10_refuses_51 rfl ?_
          refine a_getR hX fl_X10_140 s_47 rfl dX10_refuses_54 rfl ?_
          refine a_il4 hX dX10_refuses_57 rfl ?_
          refine a_callI hX hR ml_X10_70 (ci_X7_get _ 52 53 6 s_52 s_53 _ _) s_52 rfl rfl rfl (by decide) (Nat.le_of_ble_eq_true rfl) rfl dX10_refuses_59 rfl (fun x3 => ?_)
          refine a_il2 hX dX10_refuses_62 rfl ?_
          refine a_callI hX hR ml_X10_91 (ci_X6_holds _ _ _ _) s_17 rfl rfl rfl (by decide) (Nat.le_of_ble_eq_true rfl) rfl dX10_refuses_63 rfl (fun x4 => ?_)
          refine a_if_ne hX dX10_refuses_66 rfl rfl ?_ ?_
          · refine a_inc4 1 hX dX10_refuses_71 (by decide) rfl ?_
            refine a_goto hX dX10_refuses_74 rfl ?_
            exact a_sub (ih v1 v2 v3 (v4 + 1) x4.2) (ls_s (ls_s (ls_s (ls_s (ls_s ls_0)))))
          · refine a_ic 1 hX dX10_refuses_69 (by decide) rfl ?_
            exact a_zret0 (by decide) hX hQ hr dX10_refuses_70

set_option maxRecDepth 100000 in
set_option maxHeartbeats 2000000 in
theorem a_X10_refuses_0 {X : AX} {r0 : Int32 × Mem} (hX : CX X cX10_refuses 5 RX10) (hR : (aR X).frames = 2 ∧ (aR X).locals = 43 ∧ aCe X ≤ (aR X).cells ∧ aSl X ≤ (aR X).slots) (hQ : QI X r0) (hr : (aMeth X).sig.returnType = (some .boolean)) (v1 v2 : Int32) (σ : Mem) : AWo X r0 0 [some (.ref 1), some (.int v1), some (.int v2), none, none] [] σ (m_X10_refuses v1 v2 σ) := by
  unfold m_X10_refuses
  refine a_al0 hX dX10_refuses_0 rfl ?_
  refine a_getR hX fl_X10_12 s_1 rfl dX10_refuses_1 rfl ?_
  refine a_getR hX fl_X10_67 s_2 rfl dX10_refuses_4 rfl ?_
  refine a_il2 hX dX10_refuses_7 rfl ?_
  refine a_callI hX hR ml_X10_70 (ci_X7_get _ 3 4 24 s_3 s_4 _ _) s_3 rfl rfl rfl (by decide) (Nat.le_of_ble_eq_true rfl) rfl dX10_refuses_8 rfl (fun x1 => ?_)
  refine a_is3 hX dX10_refuses_11 rfl ?_
  refine a_ic 0 hX dX10_refuses_12 (by decide) rfl ?_
  refine a_is4 hX dX10_refuses_13 rfl ?_
  exact a_sub (a_X10_refuses_15 hX hR hQ hr FU v1 v2 x1.1 0 x1.2) (ls_s (ls_s (ls_s (ls_s (ls_s ls_0)))))

set_option maxRecDepth 100000 in
theorem ci_X10_refuses (l : Launch) (v1 v2 : Int32) (σ : Mem) : CI l yX10_refuses cX10_refuses 5 (some .boolean) 2 43 [.ref 1, .int v1, .int v2] σ (m_X10_refuses v1 v2 σ) :=
  ci_of (by decide) (by simp [Value.category]) (by simp) (fun X r hl hX hR hQ hr => a_X10_refuses_0 hX hR hQ hr v1 v2 σ)

set_option maxRecDepth 100000 in
set_option maxHeartbeats 2000000 in
theorem a_X8_offer_82 {X : AX} {r0 : Int32 × Mem} (hX : CX X cX8_offer 6 RX8) (hR : (aR X).frames = 2 ∧ (aR X).locals = 44 ∧ aCe X ≤ (aR X).cells ∧ aSl X ≤ (aR X).slots) (hQ : QV X r0) (hr : (aMeth X).sig.returnType = none) (v1 v2 v3 : Int32) (σ : Mem) : AWo X r0 82 [some (.ref 67), some (.int v1), some (.int v2), some (.int v3), none, none] [] σ (m_X8_offer_82 v1 v2 v3 σ) := by
  unfold m_X8_offer_82
  refine a_al0 hX dX8_offer_82 rfl ?_
  refine a_getR hX fl_X8_20 s_67 rfl dX8_offer_83 rfl ?_
  refine a_il3 hX dX8_offer_86 rfl ?_
  refine a_il2 hX dX8_offer_87 rfl ?_
  refine a_callV hX hR ml_X8_118 (ci_X7_set _ 70 71 30 s_70 s_71 _ _ _) s_70 rfl rfl rfl (by decide) (Nat.le_of_ble_eq_true rfl) rfl dX8_offer_88 rfl (fun x1 => ?_)
  refine a_al0 hX dX8_offer_91 rfl ?_
  refine a_getR hX fl_X8_23 s_67 rfl dX8_offer_92 rfl ?_
  refine a_il1 hX dX8_offer_95 rfl ?_
  refine a_al0 hX dX8_offer_96 rfl ?_
  refine a_getR hX fl_X8_23 s_67 rfl dX8_offer_97 rfl ?_
  refine a_il1 hX dX8_offer_100 rfl ?_
  refine a_callI hX hR ml_X8_86 (ci_X7_get _ 72 73 6 s_72 s_73 _ _) s_72 rfl rfl rfl (by decide) (Nat.le_of_ble_eq_true rfl) rfl dX8_offer_101 rfl (fun x2 => ?_)
  refine a_ic 1 hX dX8_offer_104 (by decide) rfl ?_
  refine a_iadd hX dX8_offer_105 rfl ?_
  refine a_callV hX hR ml_X8_118 (ci_X7_set _ 72 73 6 s_72 s_73 _ _ _) s_72 rfl rfl rfl (by decide) (Nat.le_of_ble_eq_true rfl) rfl dX8_offer_106 rfl (fun x3 => ?_)
  exact a_vret hX hQ hr dX8_offer_109

set_option maxRecDepth 100000 in
set_option maxHeartbeats 2000000 in
theorem a_X8_offer_29 {X : AX} {r0 : Int32 × Mem} (hX : CX X cX8_offer 6 RX8) (hR : (aR X).frames = 2 ∧ (aR X).locals = 44 ∧ aCe X ≤ (aR X).cells ∧ aSl X ≤ (aR X).slots) (hQ : QV X r0) (hr : (aMeth X).sig.returnType = none) : ∀ (fuel : Nat) (v1 v2 v3 v4 v5 : Int32) (σ : Mem), AWo X r0 29 [some (.ref 67), some (.int v1), some (.int v2), some (.int v3), some (.int v4), some (.int v5)] [] σ (m_X8_offer_29 fuel v1 v2 v3 v4 v5 σ) := by
  intro fuel
  induction fuel with
  | zero => intro v1 v2 v3 v4 v5 σ; exact a_none
  | succ fuel ih =>
    intro v1 v2 v3 v4 v5 σ
    show AWo X r0 29 [some (.ref 67), some (.int v1), some (.int v2), some (.int v3), some (.int v4), some (.int v5)] [] σ (m_X8_offer_29 (fuel + 1) v1 v2 v3 v4 v5 σ)
    unfold m_X8_offer_29
    refine a_il3 hX dX8_offer_29 rfl ?_
    refine a_il4 hX dX8_offer_30 rfl ?_
    refine a_icmp_le hX dX8_offer_32 rfl rfl ?_ ?_
    · exact a_sub (a_X8_offer_82 hX hR hQ hr v1 v2 v3 (σ)) (ls_s (ls_s (ls_s (ls_s (ls_n (ls_n ls_0))))))
    · refine a_al0 hX dX8_offer_35 rfl ?_
      refine a_getR hX fl_X8_33 s_67 rfl dX8_offer_36 rfl ?_
      refine a_il1 hX dX8_offer_39 rfl ?_
      refine a_al0 hX dX8_offer_40 rfl ?_
      refine a_getR hX fl_X8_20 s_67 rfl dX8_offer_41 rfl ?_
      refine a_il3 hX dX8_offer_44 rfl ?_
      refine a_ic 1 hX dX8_offer_45 (by decide) rfl ?_
      refine a_isub hX dX8_offer_46 rfl ?_
      refine a_callI hX hR ml_X8_86 (ci_X7_get _ 70 71 30 s_70 s_71 _ _) s_70 rfl rfl rfl (by decide) (Nat.le_of_ble_eq_true rfl) rfl dX8_offer_47 rfl (fun x1 => ?_)
      refine a_callI hX hR ml_X8_134 (ci_X5_worth _ _ _ _) s_66 rfl rfl rfl (by decide) (Nat.le_of_ble_eq_true rfl) rfl dX8_offer_50 rfl (fun x2 => ?_)
      refine a_il5 hX dX8_offer_53 rfl ?_
      refine a_icmp_ge hX dX8_offer_55 rfl rfl ?_ ?_
      · exact a_sub (a_X8_offer_82 hX hR hQ hr v1 v2 v3 x2.2) (ls_s (ls_s (ls_s (ls_s (ls_n (ls_n ls_0))))))
      · refine a_al0 hX dX8_offer_58 rfl ?_
        refine a_getR hX fl_X8_20 s_67 rfl dX8_offer_59 rfl ?_
        refine a_il3 hX dX8_offer_62 rfl ?_
        refine a_al0 hX dX8_offer_63 rfl ?_
        refine a_getR hX fl_X8_20 s_67 rfl dX8_offer_64 rfl ?_
        refine a_il3 hX dX8_offer_67 rfl ?_
        refine a_ic 1 hX dX8_offer_68 (by decide) rfl ?_
        refine a_isub hX dX8_offer_69 rfl ?_
        refine a_callI hX hR ml_X8_86 (ci_X7_get _ 70 71 30 s_70 s_71 _ _) s_70 rfl rfl rfl (by decide) (Nat.le_of_ble_eq_true rfl) rfl dX8_offer_70 rfl (fun x3 => ?_)
        refine a_callV hX hR ml_X8_118 (ci_X7_set _ 70 71 30 s_70 s_71 _ _ _) s_70 rfl rfl rfl (by decide) (Nat.le_of_ble_eq_true rfl) rfl dX8_offer_73 rfl (fun x4 => ?_)
        refine a_inc3 (-1) hX dX8_offer_76 (by decide) rfl ?_
        refine a_goto hX dX8_offer_79 rfl ?_
        exact a_sub (ih v1 v2 (v3 + (-1)) v4 v5 x4.2) (ls_s (ls_s (ls_s (ls_s (ls_s (ls_s ls_0))))))

set_option maxRecDepth 100000 in
set_option maxHeartbeats 2000000 in
theorem a_X8_offer_0 {X : AX} {r0 : Int32 × Mem} (hX : CX X cX8_offer 6 RX8) (hR : (aR X).frames = 2 ∧ (aR X).locals = 44 ∧ aCe X ≤ (aR X).cells ∧ aSl X ≤ (aR X).slots) (hQ : QV X r0) (hr : (aMeth X).sig.returnType = none) (v1 v2 : Int32) (σ : Mem) : AWo X r0 0 [some (.ref 67), some (.int v1), some (.int v2), none, none, none] [] σ (m_X8_offer v1 v2 σ) := by
  unfold m_X8_offer
  refine a_il1 hX dX8_offer_0 rfl ?_
  refine a_ic 5 hX dX8_offer_1 (by decide) rfl ?_
  refine a_imul hX dX8_offer_2 rfl ?_
  refine a_al0 hX dX8_offer_3 rfl ?_
  refine a_getR hX fl_X8_23 s_67 rfl dX8_offer_4 rfl ?_
  refine a_il1 hX dX8_offer_7 rfl ?_
  refine a_callI hX hR ml_X8_86 (ci_X7_get _ 72 73 6 s_72 s_73 _ _) s_72 rfl rfl rfl (by decide) (Nat.le_of_ble_eq_true rfl) rfl dX8_offer_8 rfl (fun x1 => ?_)
  refine a_iadd hX dX8_offer_11 rfl ?_
  refine a_name (fun y2 => ?_)
  refine a_is3 hX dX8_offer_12 rfl ?_
  refine a_il1 hX dX8_offer_13 rfl ?_
  refine a_ic 5 hX dX8_offer_14 (by decide) rfl ?_
  refine a_imul hX dX8_offer_15 rfl ?_
  refine a_name (fun y3 => ?_)
  refine a_is4 hX dX8_offer_16 rfl ?_
  refine a_al0 hX dX8_offer_18 rfl ?_
  refine a_getR hX fl_X8_33 s_67 rfl dX8_offer_19 rfl ?_
  refine a_il1 hX dX8_offer_22 rfl ?_
  refine a_il2 hX dX8_offer_23 rfl ?_
  refine a_callI hX hR ml_X8_134 (ci_X5_worth _ _ _ _) s_66 rfl rfl rfl (by decide) (Nat.le_of_ble_eq_true rfl) rfl dX8_offer_24 rfl (fun x4 => ?_)
  refine a_is5 hX dX8_offer_27 rfl ?_
  exact a_sub (a_X8_offer_29 hX hR hQ hr FU v1 v2 y2 y3 x4.1 x4.2) (ls_s (ls_s (ls_s (ls_s (ls_s (ls_s ls_0))))))

set_option maxRecDepth 100000 in
theorem ci_X8_offer (l : Launch) (v1 v2 : Int32) (σ : Mem) : CV l yX8_offer cX8_offer 6 2 44 [.ref 67, .int v1, .int v2] σ (m_X8_offer v1 v2 σ) :=
  cv_of (by decide) (by simp [Value.category]) (by simp) (fun X r hl hX hR hQ hr => a_X8_offer_0 hX hR hQ hr v1 v2 σ)

set_option maxRecDepth 100000 in
set_option maxHeartbeats 2000000 in
theorem a_X8_offerAll_78 {X : AX} {r0 : Int32 × Mem} (hX : CX X cX8_offerAll 7 RX8) (hR : (aR X).frames = 3 ∧ (aR X).locals = 69 ∧ aCe X ≤ (aR X).cells ∧ aSl X ≤ (aR X).slots) (hQ : QV X r0) (hr : (aMeth X).sig.returnType = none) (f37 : Int32 → Int32 → Int32 → Int32 → Int32 → Mem → Option (Int32 × Mem)) (hf37 : ∀ (v1 v2 v3 v4 v5 : Int32) (σ : Mem), AWo X r0 37 [some (.ref 67), some (.int v1), some (.int v2), some (.int v3), some (.int v4), some (.int v5), none] [] σ (f37 v1 v2 v3 v4 v5 σ)) (v1 v2 v3 v4 v5 v6 : Int32) (σ : Mem) : AWo X r0 78 [some (.ref 67), some (.int v1), some (.int v2), some (.int v3), some (.int v4), some (.int v5), some (.int v6)] [] σ (m_X8_offerAll_78 f37 v1 v2 v3 v4 v5 v6 σ) := by
  unfold m_X8_offerAll_78
  refine a_al0 hX dX8_offerAll_78 rfl ?_
  refine a_getR hX fl_X8_29 s_67 rfl dX8_offerAll_79 rfl ?_
  refine a_al0 hX dX8_offerAll_82 rfl ?_
  refine a_getI hX fl_X8_78 s_67 rfl dX8_offerAll_83 rfl ?_
  refine a_il6 hX dX8_offerAll_86 rfl ?_
  refine a_callI hX hR ml_X8_125 (ci_X10_refuses _ _ _ _) s_1 rfl rfl rfl (by decide) (Nat.le_of_ble_eq_true rfl) rfl dX8_offerAll_88 rfl (fun x1 => ?_)
  refine a_if_ne hX dX8_offerAll_91 rfl rfl ?_ ?_
  · refine a_inc5 1 hX dX8_offerAll_101 (by decide) rfl ?_
    refine a_goto hX dX8_offerAll_104 rfl ?_
    exact a_sub (hf37 v1 v2 v3 v4 (v5 + 1) x1.2) (ls_s (ls_s (ls_s (ls_s (ls_s (ls_s (ls_n ls_0)))))))
  · refine a_al0 hX dX8_offerAll_94 rfl ?_
    refine a_il1 hX dX8_offerAll_95 rfl ?_
    refine a_il6 hX dX8_offerAll_96 rfl ?_
    refine a_callV hX hR ml_X8_128 (ci_X8_offer _ _ _ _) s_67 rfl rfl rfl (by decide) (Nat.le_of_ble_eq_true rfl) rfl dX8_offerAll_98 rfl (fun x2 => ?_)
    refine a_inc5 1 hX dX8_offerAll_101 (by decide) rfl ?_
    refine a_goto hX dX8_offerAll_104 rfl ?_
    exact a_sub (hf37 v1 v2 v3 v4 (v5 + 1) x2.2) (ls_s (ls_s (ls_s (ls_s (ls_s (ls_s (ls_n ls_0)))))))

set_option maxRecDepth 100000 in
set_option maxHeartbeats 2000000 in
theorem a_X8_offerAll_37 {X : AX} {r0 : Int32 × Mem} (hX : CX X cX8_offerAll 7 RX8) (hR : (aR X).frames = 3 ∧ (aR X).locals = 69 ∧ aCe X ≤ (aR X).cells ∧ aSl X ≤ (aR X).slots) (hQ : QV X r0) (hr : (aMeth X).sig.returnType = none) : ∀ (fuel : Nat) (v1 v2 v3 v4 v5 : Int32) (σ : Mem), AWo X r0 37 [some (.ref 67), some (.int v1), some (.int v2), some (.int v3), some (.int v4), some (.int v5), none] [] σ (m_X8_offerAll_37 fuel v1 v2 v3 v4 v5 σ) := by
  intro fuel
  induction fuel with
  | zero => intro v1 v2 v3 v4 v5 σ; exact a_none
  | succ fuel ih =>
    intro v1 v2 v3 v4 v5 σ
    show AWo X r0 37 [some (.ref 67), some (.int v1), some (.int v2), some (.int v3), some (.int v4), some (.int v5), none] [] σ (m_X8_offerAll_37 (fuel + 1) v1 v2 v3 v4 v5 σ)
    unfold m_X8_offerAll_37
    refine a_il5 hX dX8_offerAll_37 rfl ?_
    refine a_ic 4 hX dX8_offerAll_39 (by decide) rfl ?_
    refine a_icmp_ge hX dX8_offerAll_40 rfl rfl ?_ ?_
    · refine a_il4 hX dX8_offerAll_107 rfl ?_
      refine a_if_ne hX dX8_offerAll_109 rfl rfl ?_ ?_
      · exact a_vret hX hQ hr dX8_offerAll_136
      · refine a_al0 hX dX8_offerAll_112 rfl ?_
        refine a_getR hX fl_X8_29 s_67 rfl dX8_offerAll_113 rfl ?_
        refine a_al0 hX dX8_offerAll_116 rfl ?_
        refine a_getI hX fl_X8_78 s_67 rfl dX8_offerAll_117 rfl ?_
        refine a_callI hX hR ml_X8_131 (ci_X10_demanded _ _ _) s_1 rfl rfl rfl (by decide) (Nat.le_of_ble_eq_true rfl) rfl dX8_offerAll_120 rfl (fun x1 => ?_)
        refine a_il1 hX dX8_offerAll_123 rfl ?_
        refine a_callNI hX hR ml_X8_101 (ci_X11_isIn _ _ _ _) rfl rfl (by decide) (Nat.le_of_ble_eq_true rfl) rfl dX8_offerAll_124 rfl (fun x2 => ?_)
        refine a_if_ne hX dX8_offerAll_127 rfl rfl ?_ ?_
        · exact a_vret hX hQ hr dX8_offerAll_136
        · refine a_al0 hX dX8_offerAll_130 rfl ?_
          refine a_il1 hX dX8_offerAll_131 rfl ?_
          refine a_ic (-1) hX dX8_offerAll_132 (by decide) rfl ?_
          refine a_callV hX hR ml_X8_128 (ci_X8_offer _ _ _ _) s_67 rfl rfl rfl (by decide) (Nat.le_of_ble_eq_true rfl) rfl dX8_offerAll_133 rfl (fun x3 => ?_)
          exact a_vret hX hQ hr dX8_offerAll_136
    · refine a_al0 hX dX8_offerAll_43 rfl ?_
      refine a_getR hX fl_X8_29 s_67 rfl dX8_offerAll_44 rfl ?_
      refine a_getR hX fl_X8_109 s_1 rfl dX8_offerAll_47 rfl ?_
      refine a_il1 hX dX8_offerAll_50 rfl ?_
      refine a_il5 hX dX8_offerAll_51 rfl ?_
      refine a_callI hX hR ml_X8_121 (ci_X9_member _ _ _ _) s_2 rfl rfl rfl (by decide) (Nat.le_of_ble_eq_true rfl) rfl dX8_offerAll_53 rfl (fun x4 => ?_)
      refine a_is6 hX dX8_offerAll_56 rfl ?_
      refine a_il2 hX dX8_offerAll_58 rfl ?_
      refine a_il6 hX dX8_offerAll_59 rfl ?_
      refine a_callNI hX hR ml_X8_101 (ci_X11_isIn _ _ _ _) rfl rfl (by decide) (Nat.le_of_ble_eq_true rfl) rfl dX8_offerAll_61 rfl (fun x5 => ?_)
      refine a_if_eq hX dX8_offerAll_64 rfl rfl ?_ ?_
      · refine a_inc5 1 hX dX8_offerAll_101 (by decide) rfl ?_
        refine a_goto hX dX8_offerAll_104 rfl ?_
        exact a_sub (ih v1 v2 v3 v4 (v5 + 1) x5.2) (ls_s (ls_s (ls_s (ls_s (ls_s (ls_s (ls_n ls_0)))))))
      · refine a_il4 hX dX8_offerAll_67 rfl ?_
        refine a_if_eq hX dX8_offerAll_69 rfl rfl ?_ ?_
        · exact a_sub (a_X8_offerAll_78 hX hR hQ hr (m_X8_offerAll_37 fuel) ih v1 v2 v3 v4 v5 x4.1 x5.2) (ls_s (ls_s (ls_s (ls_s (ls_s (ls_s (ls_s ls_0)))))))
        · refine a_il6 hX dX8_offerAll_72 rfl ?_
          refine a_il3 hX dX8_offerAll_74 rfl ?_
          refine a_icmp_ne hX dX8_offerAll_75 rfl rfl ?_ ?_
          · refine a_inc5 1 hX dX8_offerAll_101 (by decide) rfl ?_
            refine a_goto hX dX8_offerAll_104 rfl ?_
            exact a_sub (ih v1 v2 v3 v4 (v5 + 1) x5.2) (ls_s (ls_s (ls_s (ls_s (ls_s (ls_s (ls_n ls_0)))))))
          · exact a_sub (a_X8_offerAll_78 hX hR hQ hr (m_X8_offerAll_37 fuel) ih v1 v2 v3 v4 v5 x4.1 x5.2) (ls_s (ls_s (ls_s (ls_s (ls_s (ls_s (ls_s ls_0)))))))

set_option maxRecDepth 100000 in
set_option maxHeartbeats 2000000 in
theorem a_X8_offerAll_23 {X : AX} {r0 : Int32 × Mem} (hX : CX X cX8_offerAll 7 RX8) (hR : (aR X).frames = 3 ∧ (aR X).locals = 69 ∧ aCe X ≤ (aR X).cells ∧ aSl X ≤ (aR X).slots) (hQ : QV X r0) (hr : (aMeth X).sig.returnType = none) (v1 v2 v3 s0 : Int32) (σ : Mem) : AWo X r0 23 [some (.ref 67), some (.int v1), some (.int v2), some (.int v3), none, none, none] [.int s0] σ (m_X8_offerAll_23 v1 v2 v3 s0 σ) := by
  unfold m_X8_offerAll_23
  refine a_is4 hX dX8_offerAll_23 rfl ?_
  refine a_al0 hX dX8_offerAll_25 rfl ?_
  refine a_getR hX fl_X8_23 s_67 rfl dX8_offerAll_26 rfl ?_
  refine a_il1 hX dX8_offerAll_29 rfl ?_
  refine a_ic 0 hX dX8_offerAll_30 (by decide) rfl ?_
  refine a_callV hX hR ml_X8_118 (ci_X7_set _ 72 73 6 s_72 s_73 _ _ _) s_72 rfl rfl rfl (by decide) (Nat.le_of_ble_eq_true rfl) rfl dX8_offerAll_31 rfl (fun x1 => ?_)
  refine a_ic 0 hX dX8_offerAll_34 (by decide) rfl ?_
  refine a_is5 hX dX8_offerAll_35 rfl ?_
  exact a_sub (a_X8_offerAll_37 hX hR hQ hr FU v1 v2 v3 s0 0 x1.2) (ls_s (ls_s (ls_s (ls_s (ls_s (ls_s (ls_n ls_0)))))))

set_option maxRecDepth 100000 in
set_option maxHeartbeats 2000000 in
theorem a_X8_offerAll_0 {X : AX} {r0 : Int32 × Mem} (hX : CX X cX8_offerAll 7 RX8) (hR : (aR X).frames = 3 ∧ (aR X).locals = 69 ∧ aCe X ≤ (aR X).cells ∧ aSl X ≤ (aR X).slots) (hQ : QV X r0) (hr : (aMeth X).sig.returnType = none) (v1 v2 v3 : Int32) (σ : Mem) : AWo X r0 0 [some (.ref 67), some (.int v1), some (.int v2), some (.int v3), none, none, none] [] σ (m_X8_offerAll v1 v2 v3 σ) := by
  unfold m_X8_offerAll
  refine a_al0 hX dX8_offerAll_0 rfl ?_
  refine a_getR hX fl_X8_29 s_67 rfl dX8_offerAll_1 rfl ?_
  refine a_getR hX fl_X8_109 s_1 rfl dX8_offerAll_4 rfl ?_
  refine a_getR hX fl_X8_113 s_2 rfl dX8_offerAll_7 rfl ?_
  refine a_il3 hX dX8_offerAll_10 rfl ?_
  refine a_callI hX hR ml_X8_86 (ci_X7_get _ 3 4 24 s_3 s_4 _ _) s_3 rfl rfl rfl (by decide) (Nat.le_of_ble_eq_true rfl) rfl dX8_offerAll_11 rfl (fun x1 => ?_)
  refine a_il1 hX dX8_offerAll_14 rfl ?_
  refine a_icmp_ne hX dX8_offerAll_15 rfl rfl ?_ ?_
  · refine a_ic 0 hX dX8_offerAll_22 (by decide) rfl ?_
    exact a_sub (a_X8_offerAll_23 hX hR hQ hr v1 v2 v3 0 x1.2) (ls_s (ls_s (ls_s (ls_s (ls_n (ls_n (ls_n ls_0)))))))
  · refine a_ic 1 hX dX8_offerAll_18 (by decide) rfl ?_
    refine a_goto hX dX8_offerAll_19 rfl ?_
    exact a_sub (a_X8_offerAll_23 hX hR hQ hr v1 v2 v3 1 x1.2) (ls_s (ls_s (ls_s (ls_s (ls_n (ls_n (ls_n ls_0)))))))

set_option maxRecDepth 100000 in
theorem ci_X8_offerAll (l : Launch) (v1 v2 v3 : Int32) (σ : Mem) : CV l yX8_offerAll cX8_offerAll 7 3 69 [.ref 67, .int v1, .int v2, .int v3] σ (m_X8_offerAll v1 v2 v3 σ) :=
  cv_of (by decide) (by simp [Value.category]) (by simp) (fun X r hl hX hR hQ hr => a_X8_offerAll_0 hX hR hQ hr v1 v2 v3 σ)

set_option maxRecDepth 100000 in
set_option maxHeartbeats 2000000 in
theorem a_X8_begin_78 {X : AX} {r0 : Int32 × Mem} (hX : CX X cX8_begin 6 RX8) (hR : (aR X).frames = 4 ∧ (aR X).locals = 95 ∧ aCe X ≤ (aR X).cells ∧ aSl X ≤ (aR X).slots) (hQ : QV X r0) (hr : (aMeth X).sig.returnType = none) (f53 : Int32 → Int32 → Int32 → Int32 → Mem → Option (Int32 × Mem)) (hf53 : ∀ (v2 v3 v4 v5 : Int32) (σ : Mem), AWo X r0 53 [some (.ref 67), none, some (.int v2), some (.int v3), some (.int v4), some (.int v5)] [] σ (f53 v2 v3 v4 v5 σ)) (v2 v3 v4 v5 s1 s2 : Int32) (σ : Mem) : AWo X r0 78 [some (.ref 67), none, some (.int v2), some (.int v3), some (.int v4), some (.int v5)] [.int s2, .int s1, .ref 67] σ (m_X8_begin_78 f53 v2 v3 v4 v5 s1 s2 σ) := by
  unfold m_X8_begin_78
  refine a_il2 hX dX8_begin_78 rfl ?_
  refine a_callV hX hR ml_X8_105 (ci_X8_offerAll _ _ _ _ _) s_67 rfl rfl rfl (by decide) (Nat.le_of_ble_eq_true rfl) rfl dX8_begin_79 rfl (fun x1 => ?_)
  refine a_inc5 1 hX dX8_begin_82 (by decide) rfl ?_
  refine a_goto hX dX8_begin_85 rfl ?_
  exact a_sub (hf53 v2 v3 v4 (v5 + 1) x1.2) (ls_s (ls_n (ls_s (ls_s (ls_s (ls_s ls_0))))))

set_option maxRecDepth 100000 in
set_option maxHeartbeats 2000000 in
theorem a_X8_begin_53 {X : AX} {r0 : Int32 × Mem} (hX : CX X cX8_begin 6 RX8) (hR : (aR X).frames = 4 ∧ (aR X).locals = 95 ∧ aCe X ≤ (aR X).cells ∧ aSl X ≤ (aR X).slots) (hQ : QV X r0) (hr : (aMeth X).sig.returnType = none) : ∀ (fuel : Nat) (v2 v3 v4 v5 : Int32) (σ : Mem), AWo X r0 53 [some (.ref 67), none, some (.int v2), some (.int v3), some (.int v4), some (.int v5)] [] σ (m_X8_begin_53 fuel v2 v3 v4 v5 σ) := by
  intro fuel
  induction fuel with
  | zero => intro v2 v3 v4 v5 σ; exact a_none
  | succ fuel ih =>
    intro v2 v3 v4 v5 σ
    show AWo X r0 53 [some (.ref 67), none, some (.int v2), some (.int v3), some (.int v4), some (.int v5)] [] σ (m_X8_begin_53 (fuel + 1) v2 v3 v4 v5 σ)
    unfold m_X8_begin_53
    refine a_il5 hX dX8_begin_53 rfl ?_
    refine a_bi 6 hX dX8_begin_55 (by decide) rfl ?_
    refine a_icmp_ge hX dX8_begin_57 rfl rfl ?_ ?_
    · exact a_vret hX hQ hr dX8_begin_88
    · refine a_al0 hX dX8_begin_60 rfl ?_
      refine a_il5 hX dX8_begin_61 rfl ?_
      refine a_il4 hX dX8_begin_63 rfl ?_
      refine a_il5 hX dX8_begin_65 rfl ?_
      refine a_callNI hX hR ml_X8_101 (ci_X11_isIn _ _ _ _) rfl rfl (by decide) (Nat.le_of_ble_eq_true rfl) rfl dX8_begin_67 rfl (fun x1 => ?_)
      refine a_if_eq hX dX8_begin_70 rfl rfl ?_ ?_
      · refine a_ic 0 hX dX8_begin_77 (by decide) rfl ?_
        exact a_sub (a_X8_begin_78 hX hR hQ hr (m_X8_begin_53 fuel) ih v2 v3 v4 v5 v5 0 x1.2) (ls_s (ls_n (ls_s (ls_s (ls_s (ls_s ls_0))))))
      · refine a_il3 hX dX8_begin_73 rfl ?_
        refine a_goto hX dX8_begin_74 rfl ?_
        exact a_sub (a_X8_begin_78 hX hR hQ hr (m_X8_begin_53 fuel) ih v2 v3 v4 v5 v5 v3 x1.2) (ls_s (ls_n (ls_s (ls_s (ls_s (ls_s ls_0))))))

set_option maxRecDepth 100000 in
set_option maxHeartbeats 2000000 in
theorem a_X8_begin_0 {X : AX} {r0 : Int32 × Mem} (hX : CX X cX8_begin 6 RX8) (hR : (aR X).frames = 4 ∧ (aR X).locals = 95 ∧ aCe X ≤ (aR X).cells ∧ aSl X ≤ (aR X).slots) (hQ : QV X r0) (hr : (aMeth X).sig.returnType = none) (v1 v2 : Int32) (σ : Mem) : AWo X r0 0 [some (.ref 67), some (.int v1), some (.int v2), none, none, none] [] σ (m_X8_begin v1 v2 σ) := by
  unfold m_X8_begin
  refine a_al0 hX dX8_begin_0 rfl ?_
  refine a_il1 hX dX8_begin_1 rfl ?_
  refine a_putI hX fp_X8_78 s_67 rfl dX8_begin_2 rfl ?_
  refine a_nameM (fun m1 => ?_)
  refine a_al0 hX dX8_begin_5 rfl ?_
  refine a_bi 6 hX dX8_begin_6 (by decide) rfl ?_
  refine a_putI hX fp_X8_74 s_67 rfl dX8_begin_8 rfl ?_
  refine a_nameM (fun m2 => ?_)
  refine a_al0 hX dX8_begin_11 rfl ?_
  refine a_ic 0 hX dX8_begin_12 (by decide) rfl ?_
  refine a_putI hX fp_X8_90 s_67 rfl dX8_begin_13 rfl ?_
  refine a_nameM (fun m3 => ?_)
  refine a_al0 hX dX8_begin_16 rfl ?_
  refine a_getR hX fl_X8_26 s_67 rfl dX8_begin_17 rfl ?_
  refine a_ic 0 hX dX8_begin_20 (by decide) rfl ?_
  refine a_callV hX hR ml_X8_55 (ci_X7_fill _ 74 75 6 s_74 s_75 _ _) s_74 rfl rfl rfl (by decide) (Nat.le_of_ble_eq_true rfl) rfl dX8_begin_21 rfl (fun x4 => ?_)
  refine a_al0 hX dX8_begin_24 rfl ?_
  refine a_getR hX fl_X8_42 s_67 rfl dX8_begin_25 rfl ?_
  refine a_getR hX fl_X8_63 s_76 rfl dX8_begin_28 rfl ?_
  refine a_ic (-1) hX dX8_begin_31 (by decide) rfl ?_
  refine a_callV hX hR ml_X8_55 (ci_X7_fill _ 77 78 6 s_77 s_78 _ _) s_77 rfl rfl rfl (by decide) (Nat.le_of_ble_eq_true rfl) rfl dX8_begin_32 rfl (fun x5 => ?_)
  refine a_al0 hX dX8_begin_35 rfl ?_
  refine a_getR hX fl_X8_29 s_67 rfl dX8_begin_36 rfl ?_
  refine a_callI hX hR ml_X8_93 (ci_X10_usable _ _) s_1 rfl rfl rfl (by decide) (Nat.le_of_ble_eq_true rfl) rfl dX8_begin_39 rfl (fun x6 => ?_)
  refine a_is3 hX dX8_begin_42 rfl ?_
  refine a_al0 hX dX8_begin_43 rfl ?_
  refine a_il3 hX dX8_begin_44 rfl ?_
  refine a_callI hX hR ml_X8_98 (ci_X8_reachable _ _ _) s_67 rfl rfl rfl (by decide) (Nat.le_of_ble_eq_true rfl) rfl dX8_begin_45 rfl (fun x7 => ?_)
  refine a_is4 hX dX8_begin_48 rfl ?_
  refine a_ic 0 hX dX8_begin_50 (by decide) rfl ?_
  refine a_is5 hX dX8_begin_51 rfl ?_
  exact a_sub (a_X8_begin_53 hX hR hQ hr FU v2 x6.1 x7.1 0 x7.2) (ls_s (ls_n (ls_s (ls_s (ls_s (ls_s ls_0))))))

set_option maxRecDepth 100000 in
theorem ci_X8_begin (l : Launch) (v1 v2 : Int32) (σ : Mem) : CV l yX8_begin cX8_begin 6 4 95 [.ref 67, .int v1, .int v2] σ (m_X8_begin v1 v2 σ) :=
  cv_of (by decide) (by simp [Value.category]) (by simp) (fun X r hl hX hR hQ hr => a_X8_begin_0 hX hR hQ hr v1 v2 σ)

set_option maxRecDepth 100000 in
set_option maxHeartbeats 2000000 in
theorem a_X8_pickNext_67 {X : AX} {r0 : Int32 × Mem} (hX : CX X cX8_pickNext 3 RX8) (hR : (aR X).frames = 1 ∧ (aR X).locals = 22 ∧ aCe X ≤ (aR X).cells ∧ aSl X ≤ (aR X).slots) (hQ : QI X r0) (hr : (aMeth X).sig.returnType = (some .boolean)) (v1 v2 s1 s2 : Int32) (σ : Mem) : AWo X r0 67 [some (.ref 67), some (.int v1), some (.int v2)] [.int s2, .int s1, .ref 77] σ (m_X8_pickNext_67 v1 v2 s1 s2 σ) := by
  unfold m_X8_pickNext_67
  refine a_callV hX hR ml_X8_118 (ci_X7_set _ 77 78 6 s_77 s_78 _ _ _) s_77 rfl rfl rfl (by decide) (Nat.le_of_ble_eq_true rfl) rfl dX8_pickNext_67 rfl (fun x1 => ?_)
  refine a_al0 hX dX8_pickNext_70 rfl ?_
  refine a_getR hX fl_X8_26 s_67 rfl dX8_pickNext_71 rfl ?_
  refine a_al0 hX dX8_pickNext_74 rfl ?_
  refine a_getI hX fl_X8_90 s_67 rfl dX8_pickNext_75 rfl ?_
  refine a_il1 hX dX8_pickNext_78 rfl ?_
  refine a_ic 1 hX dX8_pickNext_79 (by decide) rfl ?_
  refine a_iadd hX dX8_pickNext_80 rfl ?_
  refine a_callV hX hR ml_X8_118 (ci_X7_set _ 74 75 6 s_74 s_75 _ _ _) s_74 rfl rfl rfl (by decide) (Nat.le_of_ble_eq_true rfl) rfl dX8_pickNext_81 rfl (fun x2 => ?_)
  refine a_il2 hX dX8_pickNext_84 rfl ?_
  exact a_zret hX hQ hr dX8_pickNext_85

set_option maxRecDepth 100000 in
set_option maxHeartbeats 2000000 in
theorem a_X8_pickNext_32 {X : AX} {r0 : Int32 × Mem} (hX : CX X cX8_pickNext 3 RX8) (hR : (aR X).frames = 1 ∧ (aR X).locals = 22 ∧ aCe X ≤ (aR X).cells ∧ aSl X ≤ (aR X).slots) (hQ : QI X r0) (hr : (aMeth X).sig.returnType = (some .boolean)) (v1 s0 : Int32) (σ : Mem) : AWo X r0 32 [some (.ref 67), some (.int v1), none] [.int s0] σ (m_X8_pickNext_32 v1 s0 σ) := by
  unfold m_X8_pickNext_32
  refine a_is2 hX dX8_pickNext_32 rfl ?_
  refine a_al0 hX dX8_pickNext_33 rfl ?_
  refine a_getR hX fl_X8_42 s_67 rfl dX8_pickNext_34 rfl ?_
  refine a_getR hX fl_X8_63 s_76 rfl dX8_pickNext_37 rfl ?_
  refine a_al0 hX dX8_pickNext_40 rfl ?_
  refine a_getI hX fl_X8_90 s_67 rfl dX8_pickNext_41 rfl ?_
  refine a_il2 hX dX8_pickNext_44 rfl ?_
  refine a_if_eq hX dX8_pickNext_45 rfl rfl ?_ ?_
  · refine a_ic (-1) hX dX8_pickNext_66 (by decide) rfl ?_
    exact a_sub (a_X8_pickNext_67 hX hR hQ hr v1 s0 ((σ) 67 9) (-1) (σ)) (ls_s (ls_s (ls_s ls_0)))
  · refine a_al0 hX dX8_pickNext_48 rfl ?_
    refine a_getR hX fl_X8_20 s_67 rfl dX8_pickNext_49 rfl ?_
    refine a_al0 hX dX8_pickNext_52 rfl ?_
    refine a_getI hX fl_X8_90 s_67 rfl dX8_pickNext_53 rfl ?_
    refine a_ic 5 hX dX8_pickNext_56 (by decide) rfl ?_
    refine a_imul hX dX8_pickNext_57 rfl ?_
    refine a_il1 hX dX8_pickNext_58 rfl ?_
    refine a_iadd hX dX8_pickNext_59 rfl ?_
    refine a_callI hX hR ml_X8_86 (ci_X7_get _ 70 71 30 s_70 s_71 _ _) s_70 rfl rfl rfl (by decide) (Nat.le_of_ble_eq_true rfl) rfl dX8_pickNext_60 rfl (fun x1 => ?_)
    refine a_goto hX dX8_pickNext_63 rfl ?_
    exact a_sub (a_X8_pickNext_67 hX hR hQ hr v1 s0 ((σ) 67 9) x1.1 x1.2) (ls_s (ls_s (ls_s ls_0)))

set_option maxRecDepth 100000 in
set_option maxHeartbeats 2000000 in
theorem a_X8_pickNext_0 {X : AX} {r0 : Int32 × Mem} (hX : CX X cX8_pickNext 3 RX8) (hR : (aR X).frames = 1 ∧ (aR X).locals = 22 ∧ aCe X ≤ (aR X).cells ∧ aSl X ≤ (aR X).slots) (hQ : QI X r0) (hr : (aMeth X).sig.returnType = (some .boolean)) (σ : Mem) : AWo X r0 0 [some (.ref 67), none, none] [] σ (m_X8_pickNext  σ) := by
  unfold m_X8_pickNext
  refine a_al0 hX dX8_pickNext_0 rfl ?_
  refine a_getR hX fl_X8_26 s_67 rfl dX8_pickNext_1 rfl ?_
  refine a_al0 hX dX8_pickNext_4 rfl ?_
  refine a_getI hX fl_X8_90 s_67 rfl dX8_pickNext_5 rfl ?_
  refine a_callI hX hR ml_X8_86 (ci_X7_get _ 74 75 6 s_74 s_75 _ _) s_74 rfl rfl rfl (by decide) (Nat.le_of_ble_eq_true rfl) rfl dX8_pickNext_8 rfl (fun x1 => ?_)
  refine a_is1 hX dX8_pickNext_11 rfl ?_
  refine a_il1 hX dX8_pickNext_12 rfl ?_
  refine a_al0 hX dX8_pickNext_13 rfl ?_
  refine a_getR hX fl_X8_23 s_67 rfl dX8_pickNext_14 rfl ?_
  refine a_al0 hX dX8_pickNext_17 rfl ?_
  refine a_getI hX fl_X8_90 s_67 rfl dX8_pickNext_18 rfl ?_
  refine a_callI hX hR ml_X8_86 (ci_X7_get _ 72 73 6 s_72 s_73 _ _) s_72 rfl rfl rfl (by decide) (Nat.le_of_ble_eq_true rfl) rfl dX8_pickNext_21 rfl (fun x2 => ?_)
  refine a_icmp_ge hX dX8_pickNext_24 rfl rfl ?_ ?_
  · refine a_ic 0 hX dX8_pickNext_31 (by decide) rfl ?_
    exact a_sub (a_X8_pickNext_32 hX hR hQ hr x1.1 0 x2.2) (ls_s (ls_s (ls_n ls_0)))
  · refine a_ic 1 hX dX8_pickNext_27 (by decide) rfl ?_
    refine a_goto hX dX8_pickNext_28 rfl ?_
    exact a_sub (a_X8_pickNext_32 hX hR hQ hr x1.1 1 x2.2) (ls_s (ls_s (ls_n ls_0)))

set_option maxRecDepth 100000 in
theorem ci_X8_pickNext (l : Launch) (σ : Mem) : CI l yX8_pickNext cX8_pickNext 3 (some .boolean) 1 22 [.ref 67] σ (m_X8_pickNext  σ) :=
  ci_of (by decide) (by simp [Value.category]) (by simp) (fun X r hl hX hR hQ hr => a_X8_pickNext_0 hX hR hQ hr σ)

set_option maxRecDepth 100000 in
set_option maxHeartbeats 2000000 in
theorem a_X8_next_2 {X : AX} {r0 : Int32 × Mem} (hX : CX X cX8_next 2 RX8) (hR : (aR X).frames = 4 ∧ (aR X).locals = 95 ∧ aCe X ≤ (aR X).cells ∧ aSl X ≤ (aR X).slots) (hQ : QI X r0) (hr : (aMeth X).sig.returnType = (some .boolean)) : ∀ (fuel : Nat) (v1 : Int32) (σ : Mem), AWo X r0 2 [some (.ref 67), some (.int v1)] [] σ (m_X8_next_2 fuel v1 σ) := by
  intro fuel
  induction fuel with
  | zero => intro v1 σ; exact a_none
  | succ fuel ih =>
    intro v1 σ
    show AWo X r0 2 [some (.ref 67), some (.int v1)] [] σ (m_X8_next_2 (fuel + 1) v1 σ)
    unfold m_X8_next_2
    refine a_il1 hX dX8_next_2 rfl ?_
    refine a_ldc 1000000 hX kc_X8_143 dX8_next_3 rfl ?_
    refine a_icmp_ge hX dX8_next_5 rfl rfl ?_ ?_
    · refine a_ic 0 hX dX8_next_146 (by decide) rfl ?_
      exact a_zret0 (by decide) hX hQ hr dX8_next_147
    · refine a_al0 hX dX8_next_8 rfl ?_
      refine a_getI hX fl_X8_90 s_67 rfl dX8_next_9 rfl ?_
      refine a_if_lt hX dX8_next_12 rfl rfl ?_ ?_
      · refine a_ic 0 hX dX8_next_146 (by decide) rfl ?_
        exact a_zret0 (by decide) hX hQ hr dX8_next_147
      · refine a_al0 hX dX8_next_15 rfl ?_
        refine a_callI hX hR ml_X8_144 (ci_X8_pickNext _ _) s_67 rfl rfl rfl (by decide) (Nat.le_of_ble_eq_true rfl) rfl dX8_next_16 rfl (fun x1 => ?_)
        refine a_if_ne hX dX8_next_19 rfl rfl ?_ ?_
        · refine a_al0 hX dX8_next_35 rfl ?_
          refine a_getR hX fl_X8_33 s_67 rfl dX8_next_36 rfl ?_
          refine a_al0 hX dX8_next_39 rfl ?_
          refine a_getR hX fl_X8_42 s_67 rfl dX8_next_40 rfl ?_
          refine a_getR hX fl_X8_63 s_76 rfl dX8_next_43 rfl ?_
          refine a_al0 hX dX8_next_46 rfl ?_
          refine a_getI hX fl_X8_90 s_67 rfl dX8_next_47 rfl ?_
          refine a_callI hX hR ml_X8_70 (ci_X5_changes _ 77 78 6 s_77 s_78 _ _) s_66 rfl rfl rfl (by decide) (Nat.le_of_ble_eq_true rfl) rfl dX8_next_50 rfl (fun x2 => ?_)
          refine a_al0 hX dX8_next_53 rfl ?_
          refine a_getI hX fl_X8_74 s_67 rfl dX8_next_54 rfl ?_
          refine a_icmp_le hX dX8_next_57 rfl rfl ?_ ?_
          · refine a_al0 hX dX8_next_63 rfl ?_
            refine a_getR hX fl_X8_42 s_67 rfl dX8_next_64 rfl ?_
            refine a_al0 hX dX8_next_67 rfl ?_
            refine a_getI hX fl_X8_78 s_67 rfl dX8_next_68 rfl ?_
            refine a_callV hX hR ml_X8_80 (ci_X1_turnOn _ 76 77 78 79 80 s_76 s_77 s_78 s_79 s_80 _ _) s_76 rfl rfl rfl (by decide) (Nat.le_of_ble_eq_true rfl) rfl dX8_next_71 rfl (fun x3 => ?_)
            refine a_al0 hX dX8_next_74 rfl ?_
            refine a_getR hX fl_X8_42 s_67 rfl dX8_next_75 rfl ?_
            refine a_al0 hX dX8_next_78 rfl ?_
            refine a_getI hX fl_X8_90 s_67 rfl dX8_next_79 rfl ?_
            refine a_callI hX hR ml_X8_147 (ci_X1_standsUpTo _ 76 77 78 79 80 s_76 s_77 s_78 s_79 s_80 _ _) s_76 rfl rfl rfl (by decide) (Nat.le_of_ble_eq_true rfl) rfl dX8_next_82 rfl (fun x4 => ?_)
            refine a_if_ne hX dX8_next_85 rfl rfl ?_ ?_
            · refine a_al0 hX dX8_next_91 rfl ?_
              refine a_getI hX fl_X8_90 s_67 rfl dX8_next_92 rfl ?_
              refine a_ic 5 hX dX8_next_95 (by decide) rfl ?_
              refine a_icmp_ge hX dX8_next_96 rfl rfl ?_ ?_
              · refine a_al0 hX dX8_next_124 rfl ?_
                refine a_getR hX fl_X8_42 s_67 rfl dX8_next_125 rfl ?_
                refine a_al0 hX dX8_next_128 rfl ?_
                refine a_getI hX fl_X8_78 s_67 rfl dX8_next_129 rfl ?_
                refine a_callI hX hR ml_X8_151 (ci_X1_isPulled _ 76 77 78 79 80 s_76 s_77 s_78 s_79 s_80 _ _) s_76 rfl rfl rfl (by decide) (Nat.le_of_ble_eq_true rfl) rfl dX8_next_132 rfl (fun x5 => ?_)
                refine a_if_eq hX dX8_next_135 rfl rfl ?_ ?_
                · refine a_inc1 1 hX dX8_next_140 (by decide) rfl ?_
                  refine a_goto hX dX8_next_143 rfl ?_
                  exact a_sub (ih (v1 + 1) x5.2) (ls_s (ls_s ls_0))
                · refine a_ic 1 hX dX8_next_138 (by decide) rfl ?_
                  exact a_zret0 (by decide) hX hQ hr dX8_next_139
              · refine a_al0 hX dX8_next_99 rfl ?_
                refine a_dup hX dX8_next_100 rfl rfl ?_
                refine a_getI hX fl_X8_90 s_67 rfl dX8_next_101 rfl ?_
                refine a_ic 1 hX dX8_next_104 (by decide) rfl ?_
                refine a_iadd hX dX8_next_105 rfl ?_
                refine a_putI hX fp_X8_90 s_67 rfl dX8_next_106 rfl ?_
                refine a_nameM (fun m6 => ?_)
                refine a_al0 hX dX8_next_109 rfl ?_
                refine a_getR hX fl_X8_26 s_67 rfl dX8_next_110 rfl ?_
                refine a_al0 hX dX8_next_113 rfl ?_
                refine a_getI hX fl_X8_90 s_67 rfl dX8_next_114 rfl ?_
                refine a_ic 0 hX dX8_next_117 (by decide) rfl ?_
                refine a_callV hX hR ml_X8_118 (ci_X7_set _ 74 75 6 s_74 s_75 _ _ _) s_74 rfl rfl rfl (by decide) (Nat.le_of_ble_eq_true rfl) rfl dX8_next_118 rfl (fun x7 => ?_)
                refine a_goto hX dX8_next_121 rfl ?_
                refine a_inc1 1 hX dX8_next_140 (by decide) rfl ?_
                refine a_goto hX dX8_next_143 rfl ?_
                exact a_sub (ih (v1 + 1) x7.2) (ls_s (ls_s ls_0))
            · refine a_goto hX dX8_next_88 rfl ?_
              refine a_inc1 1 hX dX8_next_140 (by decide) rfl ?_
              refine a_goto hX dX8_next_143 rfl ?_
              exact a_sub (ih (v1 + 1) x4.2) (ls_s (ls_s ls_0))
          · refine a_goto hX dX8_next_60 rfl ?_
            refine a_inc1 1 hX dX8_next_140 (by decide) rfl ?_
            refine a_goto hX dX8_next_143 rfl ?_
            exact a_sub (ih (v1 + 1) x2.2) (ls_s (ls_s ls_0))
        · refine a_al0 hX dX8_next_22 rfl ?_
          refine a_dup hX dX8_next_23 rfl rfl ?_
          refine a_getI hX fl_X8_90 s_67 rfl dX8_next_24 rfl ?_
          refine a_ic 1 hX dX8_next_27 (by decide) rfl ?_
          refine a_isub hX dX8_next_28 rfl ?_
          refine a_putI hX fp_X8_90 s_67 rfl dX8_next_29 rfl ?_
          refine a_nameM (fun m8 => ?_)
          refine a_goto hX dX8_next_32 rfl ?_
          refine a_inc1 1 hX dX8_next_140 (by decide) rfl ?_
          refine a_goto hX dX8_next_143 rfl ?_
          exact a_sub (ih (v1 + 1) m8) (ls_s (ls_s ls_0))

set_option maxRecDepth 100000 in
set_option maxHeartbeats 2000000 in
theorem a_X8_next_0 {X : AX} {r0 : Int32 × Mem} (hX : CX X cX8_next 2 RX8) (hR : (aR X).frames = 4 ∧ (aR X).locals = 95 ∧ aCe X ≤ (aR X).cells ∧ aSl X ≤ (aR X).slots) (hQ : QI X r0) (hr : (aMeth X).sig.returnType = (some .boolean)) (σ : Mem) : AWo X r0 0 [some (.ref 67), none] [] σ (m_X8_next  σ) := by
  unfold m_X8_next
  refine a_ic 0 hX dX8_next_0 (by decide) rfl ?_
  refine a_is1 hX dX8_next_1 rfl ?_
  exact a_sub (a_X8_next_2 hX hR hQ hr FU 0 (σ)) (ls_s (ls_s ls_0))

set_option maxRecDepth 100000 in
theorem ci_X8_next (l : Launch) (σ : Mem) : CI l yX8_next cX8_next 2 (some .boolean) 4 95 [.ref 67] σ (m_X8_next  σ) :=
  ci_of (by decide) (by simp [Value.category]) (by simp) (fun X r hl hX hR hQ hr => a_X8_next_0 hX hR hQ hr σ)

set_option maxRecDepth 100000 in
set_option maxHeartbeats 2000000 in
theorem a_X8_findBest_24 {X : AX} {r0 : Int32 × Mem} (hX : CX X cX8_findBest 3 RX8) (hR : (aR X).frames = 5 ∧ (aR X).locals = 120 ∧ aCe X ≤ (aR X).cells ∧ aSl X ≤ (aR X).slots) (hQ : QI X r0) (hr : (aMeth X).sig.returnType = (some .boolean)) : ∀ (fuel : Nat) (v1 v2 : Int32) (σ : Mem), AWo X r0 24 [some (.ref 67), some (.int v1), some (.int v2)] [] σ (m_X8_findBest_24 fuel v1 v2 σ) := by
  intro fuel
  induction fuel with
  | zero => intro v1 v2 σ; exact a_none
  | succ fuel ih =>
    intro v1 v2 σ
    show AWo X r0 24 [some (.ref 67), some (.int v1), some (.int v2)] [] σ (m_X8_findBest_24 (fuel + 1) v1 v2 σ)
    unfold m_X8_findBest_24
    refine a_il2 hX dX8_findBest_24 rfl ?_
    refine a_bi 6 hX dX8_findBest_25 (by decide) rfl ?_
    refine a_icmp_gt hX dX8_findBest_27 rfl rfl ?_ ?_
    · refine a_il1 hX dX8_findBest_77 rfl ?_
      exact a_zret hX hQ hr dX8_findBest_78
    · refine a_al0 hX dX8_findBest_30 rfl ?_
      refine a_callI hX hR ml_X8_59 (ci_X8_next _ _) s_67 rfl rfl rfl (by decide) (Nat.le_of_ble_eq_true rfl) rfl dX8_findBest_31 rfl (fun x1 => ?_)
      refine a_if_eq hX dX8_findBest_34 rfl rfl ?_ ?_
      · refine a_il1 hX dX8_findBest_77 rfl ?_
        exact a_zret hX hQ hr dX8_findBest_78
      · refine a_al0 hX dX8_findBest_37 rfl ?_
        refine a_getR hX fl_X8_14 s_67 rfl dX8_findBest_38 rfl ?_
        refine a_al0 hX dX8_findBest_41 rfl ?_
        refine a_getR hX fl_X8_42 s_67 rfl dX8_findBest_42 rfl ?_
        refine a_getR hX fl_X8_63 s_76 rfl dX8_findBest_45 rfl ?_
        refine a_callV hX hR ml_X8_66 (ci_X7_copy _ 68 69 6 s_68 s_69 77 78 6 s_77 s_78 _) s_68 rfl rfl rfl (by decide) (Nat.le_of_ble_eq_true rfl) rfl dX8_findBest_48 rfl (fun x2 => ?_)
        refine a_ic 1 hX dX8_findBest_51 (by decide) rfl ?_
        refine a_is1 hX dX8_findBest_52 rfl ?_
        refine a_al0 hX dX8_findBest_53 rfl ?_
        refine a_al0 hX dX8_findBest_54 rfl ?_
        refine a_getR hX fl_X8_33 s_67 rfl dX8_findBest_55 rfl ?_
        refine a_al0 hX dX8_findBest_58 rfl ?_
        refine a_getR hX fl_X8_14 s_67 rfl dX8_findBest_59 rfl ?_
        refine a_ic 5 hX dX8_findBest_62 (by decide) rfl ?_
        refine a_callI hX hR ml_X8_70 (ci_X5_changes _ 68 69 6 s_68 s_69 _ _) s_66 rfl rfl rfl (by decide) (Nat.le_of_ble_eq_true rfl) rfl dX8_findBest_63 rfl (fun x3 => ?_)
        refine a_ic 1 hX dX8_findBest_66 (by decide) rfl ?_
        refine a_isub hX dX8_findBest_67 rfl ?_
        refine a_putI hX fp_X8_74 s_67 rfl dX8_findBest_68 rfl ?_
        refine a_nameM (fun m4 => ?_)
        refine a_inc2 1 hX dX8_findBest_71 (by decide) rfl ?_
        refine a_goto hX dX8_findBest_74 rfl ?_
        exact a_sub (ih 1 (v2 + 1) m4) (ls_s (ls_s (ls_s ls_0)))

set_option maxRecDepth 100000 in
set_option maxHeartbeats 2000000 in
theorem a_X8_findBest_0 {X : AX} {r0 : Int32 × Mem} (hX : CX X cX8_findBest 3 RX8) (hR : (aR X).frames = 5 ∧ (aR X).locals = 120 ∧ aCe X ≤ (aR X).cells ∧ aSl X ≤ (aR X).slots) (hQ : QI X r0) (hr : (aMeth X).sig.returnType = (some .boolean)) (σ : Mem) : AWo X r0 0 [some (.ref 67), none, none] [] σ (m_X8_findBest  σ) := by
  unfold m_X8_findBest
  refine a_al0 hX dX8_findBest_0 rfl ?_
  refine a_al0 hX dX8_findBest_1 rfl ?_
  refine a_getR hX fl_X8_33 s_67 rfl dX8_findBest_2 rfl ?_
  refine a_callI hX hR ml_X8_46 (ci_X5_demands _ _) s_66 rfl rfl rfl (by decide) (Nat.le_of_ble_eq_true rfl) rfl dX8_findBest_5 rfl (fun x1 => ?_)
  refine a_ic (-1) hX dX8_findBest_8 (by decide) rfl ?_
  refine a_callV hX hR ml_X8_52 (ci_X8_begin _ _ _ _) s_67 rfl rfl rfl (by decide) (Nat.le_of_ble_eq_true rfl) rfl dX8_findBest_9 rfl (fun x2 => ?_)
  refine a_al0 hX dX8_findBest_12 rfl ?_
  refine a_getR hX fl_X8_14 s_67 rfl dX8_findBest_13 rfl ?_
  refine a_ic (-1) hX dX8_findBest_16 (by decide) rfl ?_
  refine a_callV hX hR ml_X8_55 (ci_X7_fill _ 68 69 6 s_68 s_69 _ _) s_68 rfl rfl rfl (by decide) (Nat.le_of_ble_eq_true rfl) rfl dX8_findBest_17 rfl (fun x3 => ?_)
  refine a_ic 0 hX dX8_findBest_20 (by decide) rfl ?_
  refine a_is1 hX dX8_findBest_21 rfl ?_
  refine a_ic 0 hX dX8_findBest_22 (by decide) rfl ?_
  refine a_is2 hX dX8_findBest_23 rfl ?_
  exact a_sub (a_X8_findBest_24 hX hR hQ hr FU 0 0 x3.2) (ls_s (ls_s (ls_s ls_0)))

set_option maxRecDepth 100000 in
theorem ci_X8_findBest (l : Launch) (σ : Mem) : CI l yX8_findBest cX8_findBest 3 (some .boolean) 5 120 [.ref 67] σ (m_X8_findBest  σ) :=
  ci_of (by decide) (by simp [Value.category]) (by simp) (fun X r hl hX hR hQ hr => a_X8_findBest_0 hX hR hQ hr σ)

set_option maxRecDepth 100000 in
set_option maxHeartbeats 2000000 in
theorem a_X8_bestFeatures_0 {X : AX} {r0 : Int32 × Mem} (hX : CX X cX8_bestFeatures 2 RX8) (hR : (aR X).frames = 4 ∧ (aR X).locals = 95 ∧ aCe X ≤ (aR X).cells ∧ aSl X ≤ (aR X).slots) (hQ : QI X r0) (hr : (aMeth X).sig.returnType = (some .int)) (v1 : Int32) (σ : Mem) : AWo X r0 0 [some (.ref 67), some (.int v1)] [] σ (m_X8_bestFeatures v1 σ) := by
  unfold m_X8_bestFeatures
  refine a_al0 hX dX8_bestFeatures_0 rfl ?_
  refine a_getR hX fl_X8_42 s_67 rfl dX8_bestFeatures_1 rfl ?_
  refine a_getR hX fl_X8_63 s_76 rfl dX8_bestFeatures_4 rfl ?_
  refine a_al0 hX dX8_bestFeatures_7 rfl ?_
  refine a_getR hX fl_X8_14 s_67 rfl dX8_bestFeatures_8 rfl ?_
  refine a_callV hX hR ml_X8_66 (ci_X7_copy _ 77 78 6 s_77 s_78 68 69 6 s_68 s_69 _) s_77 rfl rfl rfl (by decide) (Nat.le_of_ble_eq_true rfl) rfl dX8_bestFeatures_11 rfl (fun x1 => ?_)
  refine a_al0 hX dX8_bestFeatures_14 rfl ?_
  refine a_getR hX fl_X8_42 s_67 rfl dX8_bestFeatures_15 rfl ?_
  refine a_al0 hX dX8_bestFeatures_18 rfl ?_
  refine a_getI hX fl_X8_78 s_67 rfl dX8_bestFeatures_19 rfl ?_
  refine a_callV hX hR ml_X8_80 (ci_X1_turnOn _ 76 77 78 79 80 s_76 s_77 s_78 s_79 s_80 _ _) s_76 rfl rfl rfl (by decide) (Nat.le_of_ble_eq_true rfl) rfl dX8_bestFeatures_22 rfl (fun x2 => ?_)
  refine a_al0 hX dX8_bestFeatures_25 rfl ?_
  refine a_getR hX fl_X8_42 s_67 rfl dX8_bestFeatures_26 rfl ?_
  refine a_getR hX fl_X8_83 s_76 rfl dX8_bestFeatures_29 rfl ?_
  refine a_il1 hX dX8_bestFeatures_32 rfl ?_
  refine a_callI hX hR ml_X8_86 (ci_X7_get _ 79 80 6 s_79 s_80 _ _) s_79 rfl rfl rfl (by decide) (Nat.le_of_ble_eq_true rfl) rfl dX8_bestFeatures_33 rfl (fun x3 => ?_)
  exact a_iret hX hQ hr dX8_bestFeatures_36

set_option maxRecDepth 100000 in
theorem ci_X8_bestFeatures (l : Launch) (v1 : Int32) (σ : Mem) : CI l yX8_bestFeatures cX8_bestFeatures 2 (some .int) 4 95 [.ref 67, .int v1] σ (m_X8_bestFeatures v1 σ) :=
  ci_of (by decide) (by simp [Value.category]) (by simp) (fun X r hl hX hR hQ hr => a_X8_bestFeatures_0 hX hR hQ hr v1 σ)

set_option maxRecDepth 100000 in
set_option maxHeartbeats 2000000 in
theorem a_X8_isSolvable_0 {X : AX} {r0 : Int32 × Mem} (hX : CX X cX8_isSolvable 2 RX8) (hR : (aR X).frames = 5 ∧ (aR X).locals = 120 ∧ aCe X ≤ (aR X).cells ∧ aSl X ≤ (aR X).slots) (hQ : QI X r0) (hr : (aMeth X).sig.returnType = (some .boolean)) (v1 : Int32) (σ : Mem) : AWo X r0 0 [some (.ref 67), some (.int v1)] [] σ (m_X8_isSolvable v1 σ) := by
  unfold m_X8_isSolvable
  refine a_al0 hX dX8_isSolvable_0 rfl ?_
  refine a_il1 hX dX8_isSolvable_1 rfl ?_
  refine a_ic (-1) hX dX8_isSolvable_2 (by decide) rfl ?_
  refine a_callV hX hR ml_X8_52 (ci_X8_begin _ _ _ _) s_67 rfl rfl rfl (by decide) (Nat.le_of_ble_eq_true rfl) rfl dX8_isSolvable_3 rfl (fun x1 => ?_)
  refine a_al0 hX dX8_isSolvable_6 rfl ?_
  refine a_callI hX hR ml_X8_59 (ci_X8_next _ _) s_67 rfl rfl rfl (by decide) (Nat.le_of_ble_eq_true rfl) rfl dX8_isSolvable_7 rfl (fun x2 => ?_)
  exact a_zret hX hQ hr dX8_isSolvable_10

set_option maxRecDepth 100000 in
theorem ci_X8_isSolvable (l : Launch) (v1 : Int32) (σ : Mem) : CI l yX8_isSolvable cX8_isSolvable 2 (some .boolean) 5 120 [.ref 67, .int v1] σ (m_X8_isSolvable v1 σ) :=
  ci_of (by decide) (by simp [Value.category]) (by simp) (fun X r hl hX hR hQ hr => a_X8_isSolvable_0 hX hR hQ hr v1 σ)

set_option maxRecDepth 100000 in
set_option maxHeartbeats 2000000 in
theorem a_X9_isFull_0 {X : AX} {r0 : Int32 × Mem} (hX : CX X cX9_isFull 2 RX9) (hR : (aR X).frames = 1 ∧ (aR X).locals = 21 ∧ aCe X ≤ (aR X).cells ∧ aSl X ≤ (aR X).slots) (hQ : QI X r0) (hr : (aMeth X).sig.returnType = (some .boolean)) (v1 : Int32) (σ : Mem) : AWo X r0 0 [some (.ref 2), some (.int v1)] [] σ (m_X9_isFull v1 σ) := by
  unfold m_X9_isFull
  refine a_al0 hX dX9_isFull_0 rfl ?_
  refine a_getR hX fl_X9_35 s_2 rfl dX9_isFull_1 rfl ?_
  refine a_il1 hX dX9_isFull_4 rfl ?_
  refine a_callI hX hR ml_X9_38 (ci_X7_get _ 15 16 6 s_15 s_16 _ _) s_15 rfl rfl rfl (by decide) (Nat.le_of_ble_eq_true rfl) rfl dX9_isFull_5 rfl (fun x1 => ?_)
  refine a_ic 4 hX dX9_isFull_8 (by decide) rfl ?_
  refine a_icmp_ge hX dX9_isFull_9 rfl rfl ?_ ?_
  · refine a_ic 1 hX dX9_isFull_21 (by decide) rfl ?_
    refine a_goto hX dX9_isFull_22 rfl ?_
    exact a_zret0 (by decide) hX hQ hr dX9_isFull_26
  · refine a_al0 hX dX9_isFull_12 rfl ?_
    refine a_getI hX fl_X9_42 s_2 rfl dX9_isFull_13 rfl ?_
    refine a_bi 24 hX dX9_isFull_16 (by decide) rfl ?_
    refine a_icmp_lt hX dX9_isFull_18 rfl rfl ?_ ?_
    · refine a_ic 0 hX dX9_isFull_25 (by decide) rfl ?_
      exact a_zret0 (by decide) hX hQ hr dX9_isFull_26
    · refine a_ic 1 hX dX9_isFull_21 (by decide) rfl ?_
      refine a_goto hX dX9_isFull_22 rfl ?_
      exact a_zret0 (by decide) hX hQ hr dX9_isFull_26

set_option maxRecDepth 100000 in
theorem ci_X9_isFull (l : Launch) (v1 : Int32) (σ : Mem) : CI l yX9_isFull cX9_isFull 2 (some .boolean) 1 21 [.ref 2, .int v1] σ (m_X9_isFull v1 σ) :=
  ci_of (by decide) (by simp [Value.category]) (by simp) (fun X r hl hX hR hQ hr => a_X9_isFull_0 hX hR hQ hr v1 σ)

set_option maxRecDepth 100000 in
set_option maxHeartbeats 2000000 in
theorem a_X9_hasRank_2 {X : AX} {r0 : Int32 × Mem} (hX : CX X cX9_hasRank 4 RX9) (hR : (aR X).frames = 2 ∧ (aR X).locals = 43 ∧ aCe X ≤ (aR X).cells ∧ aSl X ≤ (aR X).slots) (hQ : QI X r0) (hr : (aMeth X).sig.returnType = (some .boolean)) : ∀ (fuel : Nat) (v1 v2 v3 : Int32) (σ : Mem), AWo X r0 2 [some (.ref 2), some (.int v1), some (.int v2), some (.int v3)] [] σ (m_X9_hasRank_2 fuel v1 v2 v3 σ) := by
  intro fuel
  induction fuel with
  | zero => intro v1 v2 v3 σ; exact a_none
  | succ fuel ih =>
    intro v1 v2 v3 σ
    show AWo X r0 2 [some (.ref 2), some (.int v1), some (.int v2), some (.int v3)] [] σ (m_X9_hasRank_2 (fuel + 1) v1 v2 v3 σ)
    unfold m_X9_hasRank_2
    refine a_il3 hX dX9_hasRank_2 rfl ?_
    refine a_ic 4 hX dX9_hasRank_3 (by decide) rfl ?_
    refine a_icmp_ge hX dX9_hasRank_4 rfl rfl ?_ ?_
    · refine a_ic 0 hX dX9_hasRank_32 (by decide) rfl ?_
      exact a_zret0 (by decide) hX hQ hr dX9_hasRank_33
    · refine a_al0 hX dX9_hasRank_7 rfl ?_
      refine a_getR hX fl_X9_20 s_2 rfl dX9_hasRank_8 rfl ?_
      refine a_al0 hX dX9_hasRank_11 rfl ?_
      refine a_il1 hX dX9_hasRank_12 rfl ?_
      refine a_il3 hX dX9_hasRank_13 rfl ?_
      refine a_callI hX hR ml_X9_46 (ci_X9_member _ _ _ _) s_2 rfl rfl rfl (by decide) (Nat.le_of_ble_eq_true rfl) rfl dX9_hasRank_14 rfl (fun x1 => ?_)
      refine a_callI hX hR ml_X9_38 (ci_X7_get _ 5 6 24 s_5 s_6 _ _) s_5 rfl rfl rfl (by decide) (Nat.le_of_ble_eq_true rfl) rfl dX9_hasRank_17 rfl (fun x2 => ?_)
      refine a_il2 hX dX9_hasRank_20 rfl ?_
      refine a_icmp_ne hX dX9_hasRank_21 rfl rfl ?_ ?_
      · refine a_inc3 1 hX dX9_hasRank_26 (by decide) rfl ?_
        refine a_goto hX dX9_hasRank_29 rfl ?_
        exact a_sub (ih v1 v2 (v3 + 1) x2.2) (ls_s (ls_s (ls_s (ls_s ls_0))))
      · refine a_ic 1 hX dX9_hasRank_24 (by decide) rfl ?_
        exact a_zret0 (by decide) hX hQ hr dX9_hasRank_25

set_option maxRecDepth 100000 in
set_option maxHeartbeats 2000000 in
theorem a_X9_hasRank_0 {X : AX} {r0 : Int32 × Mem} (hX : CX X cX9_hasRank 4 RX9) (hR : (aR X).frames = 2 ∧ (aR X).locals = 43 ∧ aCe X ≤ (aR X).cells ∧ aSl X ≤ (aR X).slots) (hQ : QI X r0) (hr : (aMeth X).sig.returnType = (some .boolean)) (v1 v2 : Int32) (σ : Mem) : AWo X r0 0 [some (.ref 2), some (.int v1), some (.int v2), none] [] σ (m_X9_hasRank v1 v2 σ) := by
  unfold m_X9_hasRank
  refine a_ic 0 hX dX9_hasRank_0 (by decide) rfl ?_
  refine a_is3 hX dX9_hasRank_1 rfl ?_
  exact a_sub (a_X9_hasRank_2 hX hR hQ hr FU v1 v2 0 (σ)) (ls_s (ls_s (ls_s (ls_s ls_0))))

set_option maxRecDepth 100000 in
theorem ci_X9_hasRank (l : Launch) (v1 v2 : Int32) (σ : Mem) : CI l yX9_hasRank cX9_hasRank 4 (some .boolean) 2 43 [.ref 2, .int v1, .int v2] σ (m_X9_hasRank v1 v2 σ) :=
  ci_of (by decide) (by simp [Value.category]) (by simp) (fun X r hl hX hR hQ hr => a_X9_hasRank_0 hX hR hQ hr v1 v2 σ)

set_option maxRecDepth 100000 in
set_option maxHeartbeats 2000000 in
theorem a_X9_add_118 {X : AX} {r0 : Int32 × Mem} (hX : CX X cX9_add 6 RX9) (hR : (aR X).frames = 1 ∧ (aR X).locals = 22 ∧ aCe X ≤ (aR X).cells ∧ aSl X ≤ (aR X).slots) (hQ : QI X r0) (hr : (aMeth X).sig.returnType = (some .int)) (v5 : Int32) (σ : Mem) : AWo X r0 118 [some (.ref 2), none, none, none, none, some (.int v5)] [] σ (m_X9_add_118 v5 σ) := by
  unfold m_X9_add_118
  refine a_al0 hX dX9_add_118 rfl ?_
  refine a_dup hX dX9_add_119 rfl rfl ?_
  refine a_getI hX fl_X9_42 s_2 rfl dX9_add_120 rfl ?_
  refine a_ic 1 hX dX9_add_123 (by decide) rfl ?_
  refine a_iadd hX dX9_add_124 rfl ?_
  refine a_putI hX fp_X9_42 s_2 rfl dX9_add_125 rfl ?_
  refine a_nameM (fun m1 => ?_)
  refine a_il5 hX dX9_add_128 rfl ?_
  exact a_iret hX hQ hr dX9_add_130

set_option maxRecDepth 100000 in
set_option maxHeartbeats 2000000 in
theorem a_X9_add_0 {X : AX} {r0 : Int32 × Mem} (hX : CX X cX9_add 6 RX9) (hR : (aR X).frames = 1 ∧ (aR X).locals = 22 ∧ aCe X ≤ (aR X).cells ∧ aSl X ≤ (aR X).slots) (hQ : QI X r0) (hr : (aMeth X).sig.returnType = (some .int)) (v1 v2 v3 v4 : Int32) (σ : Mem) : AWo X r0 0 [some (.ref 2), some (.int v1), some (.int v2), some (.int v3), some (.int v4), none] [] σ (m_X9_add v1 v2 v3 v4 σ) := by
  unfold m_X9_add
  refine a_al0 hX dX9_add_0 rfl ?_
  refine a_getI hX fl_X9_42 s_2 rfl dX9_add_1 rfl ?_
  refine a_name (fun y1 => ?_)
  refine a_is5 hX dX9_add_4 rfl ?_
  refine a_al0 hX dX9_add_6 rfl ?_
  refine a_getR hX fl_X9_14 s_2 rfl dX9_add_7 rfl ?_
  refine a_il5 hX dX9_add_10 rfl ?_
  refine a_il1 hX dX9_add_12 rfl ?_
  refine a_callV hX hR ml_X9_50 (ci_X7_set _ 3 4 24 s_3 s_4 _ _ _) s_3 rfl rfl rfl (by decide) (Nat.le_of_ble_eq_true rfl) rfl dX9_add_13 rfl (fun x2 => ?_)
  refine a_al0 hX dX9_add_16 rfl ?_
  refine a_getR hX fl_X9_20 s_2 rfl dX9_add_17 rfl ?_
  refine a_il5 hX dX9_add_20 rfl ?_
  refine a_il2 hX dX9_add_22 rfl ?_
  refine a_callV hX hR ml_X9_50 (ci_X7_set _ 5 6 24 s_5 s_6 _ _ _) s_5 rfl rfl rfl (by decide) (Nat.le_of_ble_eq_true rfl) rfl dX9_add_23 rfl (fun x3 => ?_)
  refine a_al0 hX dX9_add_26 rfl ?_
  refine a_getR hX fl_X9_23 s_2 rfl dX9_add_27 rfl ?_
  refine a_il5 hX dX9_add_30 rfl ?_
  refine a_bi 31 hX dX9_add_32 (by decide) rfl ?_
  refine a_il5 hX dX9_add_34 rfl ?_
  refine a_imul hX dX9_add_36 rfl ?_
  refine a_il3 hX dX9_add_37 rfl ?_
  refine a_iadd hX dX9_add_38 rfl ?_
  refine a_si 9973 hX dX9_add_39 (by decide) rfl ?_
  refine a_irem hX dX9_add_42 (by decide) rfl ?_
  refine a_callV hX hR ml_X9_50 (ci_X7_set _ 7 8 24 s_7 s_8 _ _ _) s_7 rfl rfl rfl (by decide) (Nat.le_of_ble_eq_true rfl) rfl dX9_add_43 rfl (fun x4 => ?_)
  refine a_al0 hX dX9_add_46 rfl ?_
  refine a_getR hX fl_X9_32 s_2 rfl dX9_add_47 rfl ?_
  refine a_il1 hX dX9_add_50 rfl ?_
  refine a_ic 4 hX dX9_add_51 (by decide) rfl ?_
  refine a_imul hX dX9_add_52 rfl ?_
  refine a_al0 hX dX9_add_53 rfl ?_
  refine a_getR hX fl_X9_35 s_2 rfl dX9_add_54 rfl ?_
  refine a_il1 hX dX9_add_57 rfl ?_
  refine a_callI hX hR ml_X9_38 (ci_X7_get _ 15 16 6 s_15 s_16 _ _) s_15 rfl rfl rfl (by decide) (Nat.le_of_ble_eq_true rfl) rfl dX9_add_58 rfl (fun x5 => ?_)
  refine a_iadd hX dX9_add_61 rfl ?_
  refine a_il5 hX dX9_add_62 rfl ?_
  refine a_callV hX hR ml_X9_50 (ci_X7_set _ 13 14 24 s_13 s_14 _ _ _) s_13 rfl rfl rfl (by decide) (Nat.le_of_ble_eq_true rfl) rfl dX9_add_64 rfl (fun x6 => ?_)
  refine a_al0 hX dX9_add_67 rfl ?_
  refine a_getR hX fl_X9_35 s_2 rfl dX9_add_68 rfl ?_
  refine a_il1 hX dX9_add_71 rfl ?_
  refine a_al0 hX dX9_add_72 rfl ?_
  refine a_getR hX fl_X9_35 s_2 rfl dX9_add_73 rfl ?_
  refine a_il1 hX dX9_add_76 rfl ?_
  refine a_callI hX hR ml_X9_38 (ci_X7_get _ 15 16 6 s_15 s_16 _ _) s_15 rfl rfl rfl (by decide) (Nat.le_of_ble_eq_true rfl) rfl dX9_add_77 rfl (fun x7 => ?_)
  refine a_ic 1 hX dX9_add_80 (by decide) rfl ?_
  refine a_iadd hX dX9_add_81 rfl ?_
  refine a_callV hX hR ml_X9_50 (ci_X7_set _ 15 16 6 s_15 s_16 _ _ _) s_15 rfl rfl rfl (by decide) (Nat.le_of_ble_eq_true rfl) rfl dX9_add_82 rfl (fun x8 => ?_)
  refine a_il4 hX dX9_add_85 rfl ?_
  refine a_if_ne hX dX9_add_87 rfl rfl ?_ ?_
  · refine a_al0 hX dX9_add_105 rfl ?_
    refine a_dup hX dX9_add_106 rfl rfl ?_
    refine a_getI hX fl_X9_56 s_2 rfl dX9_add_107 rfl ?_
    refine a_ic 1 hX dX9_add_110 (by decide) rfl ?_
    refine a_il5 hX dX9_add_111 rfl ?_
    refine a_ishl hX dX9_add_113 rfl ?_
    refine a_ior hX dX9_add_114 rfl ?_
    refine a_putI hX fp_X9_56 s_2 rfl dX9_add_115 rfl ?_
    refine a_nameM (fun m9 => ?_)
    exact a_sub (a_X9_add_118 hX hR hQ hr y1 m9) (ls_s (ls_n (ls_n (ls_n (ls_n (ls_s ls_0))))))
  · refine a_al0 hX dX9_add_90 rfl ?_
    refine a_dup hX dX9_add_91 rfl rfl ?_
    refine a_getI hX fl_X9_53 s_2 rfl dX9_add_92 rfl ?_
    refine a_ic 1 hX dX9_add_95 (by decide) rfl ?_
    refine a_il1 hX dX9_add_96 rfl ?_
    refine a_ishl hX dX9_add_97 rfl ?_
    refine a_ior hX dX9_add_98 rfl ?_
    refine a_putI hX fp_X9_53 s_2 rfl dX9_add_99 rfl ?_
    refine a_nameM (fun m10 => ?_)
    refine a_goto hX dX9_add_102 rfl ?_
    exact a_sub (a_X9_add_118 hX hR hQ hr y1 m10) (ls_s (ls_n (ls_n (ls_n (ls_n (ls_s ls_0))))))

set_option maxRecDepth 100000 in
theorem ci_X9_add (l : Launch) (v1 v2 v3 v4 : Int32) (σ : Mem) : CI l yX9_add cX9_add 6 (some .int) 1 22 [.ref 2, .int v1, .int v2, .int v3, .int v4] σ (m_X9_add v1 v2 v3 v4 σ) :=
  ci_of (by decide) (by simp [Value.category]) (by simp) (fun X r hl hX hR hQ hr => a_X9_add_0 hX hR hQ hr v1 v2 v3 v4 σ)

set_option maxRecDepth 100000 in
set_option maxHeartbeats 2000000 in
theorem a_X9_toggleYanked_0 {X : AX} {r0 : Int32 × Mem} (hX : CX X cX9_toggleYanked 2 RX9) (hR : (aR X).frames = 2 ∧ (aR X).locals = 42 ∧ aCe X ≤ (aR X).cells ∧ aSl X ≤ (aR X).slots) (hQ : QI X r0) (hr : (aMeth X).sig.returnType = (some .boolean)) (v1 : Int32) (σ : Mem) : AWo X r0 0 [some (.ref 2), some (.int v1)] [] σ (m_X9_toggleYanked v1 σ) := by
  unfold m_X9_toggleYanked
  refine a_al0 hX dX9_toggleYanked_0 rfl ?_
  refine a_dup hX dX9_toggleYanked_1 rfl rfl ?_
  refine a_getI hX fl_X9_63 s_2 rfl dX9_toggleYanked_2 rfl ?_
  refine a_ic 1 hX dX9_toggleYanked_5 (by decide) rfl ?_
  refine a_il1 hX dX9_toggleYanked_6 rfl ?_
  refine a_ishl hX dX9_toggleYanked_7 rfl ?_
  refine a_ixor hX dX9_toggleYanked_8 rfl ?_
  refine a_putI hX fp_X9_63 s_2 rfl dX9_toggleYanked_9 rfl ?_
  refine a_nameM (fun m1 => ?_)
  refine a_al0 hX dX9_toggleYanked_12 rfl ?_
  refine a_il1 hX dX9_toggleYanked_13 rfl ?_
  refine a_callI hX hR ml_X9_66 (ci_X9_isYanked _ _ _) s_2 rfl rfl rfl (by decide) (Nat.le_of_ble_eq_true rfl) rfl dX9_toggleYanked_14 rfl (fun x2 => ?_)
  exact a_zret hX hQ hr dX9_toggleYanked_17

set_option maxRecDepth 100000 in
theorem ci_X9_toggleYanked (l : Launch) (v1 : Int32) (σ : Mem) : CI l yX9_toggleYanked cX9_toggleYanked 2 (some .boolean) 2 42 [.ref 2, .int v1] σ (m_X9_toggleYanked v1 σ) :=
  ci_of (by decide) (by simp [Value.category]) (by simp) (fun X r hl hX hR hQ hr => a_X9_toggleYanked_0 hX hR hQ hr v1 σ)

set_option maxRecDepth 100000 in
set_option maxHeartbeats 2000000 in
theorem a_X10_warn_0 {X : AX} {r0 : Int32 × Mem} (hX : CX X cX10_warn 3 RX10) (hR : (aR X).frames = 1 ∧ (aR X).locals = 22 ∧ aCe X ≤ (aR X).cells ∧ aSl X ≤ (aR X).slots) (hQ : QI X r0) (hr : (aMeth X).sig.returnType = (some .int)) (v1 v2 : Int32) (σ : Mem) : AWo X r0 0 [some (.ref 1), some (.int v1), some (.int v2)] [] σ (m_X10_warn v1 v2 σ) := by
  unfold m_X10_warn
  refine a_al0 hX dX10_warn_0 rfl ?_
  refine a_getR hX fl_X10_48 s_1 rfl dX10_warn_1 rfl ?_
  refine a_al0 hX dX10_warn_4 rfl ?_
  refine a_getI hX fl_X10_63 s_1 rfl dX10_warn_5 rfl ?_
  refine a_il1 hX dX10_warn_8 rfl ?_
  refine a_callV hX hR ml_X10_60 (ci_X7_set _ 58 59 8 s_58 s_59 _ _ _) s_58 rfl rfl rfl (by decide) (Nat.le_of_ble_eq_true rfl) rfl dX10_warn_9 rfl (fun x1 => ?_)
  refine a_al0 hX dX10_warn_12 rfl ?_
  refine a_getR hX fl_X10_51 s_1 rfl dX10_warn_13 rfl ?_
  refine a_al0 hX dX10_warn_16 rfl ?_
  refine a_getI hX fl_X10_63 s_1 rfl dX10_warn_17 rfl ?_
  refine a_il2 hX dX10_warn_20 rfl ?_
  refine a_callV hX hR ml_X10_60 (ci_X7_set _ 60 61 8 s_60 s_61 _ _ _) s_60 rfl rfl rfl (by decide) (Nat.le_of_ble_eq_true rfl) rfl dX10_warn_21 rfl (fun x2 => ?_)
  refine a_al0 hX dX10_warn_24 rfl ?_
  refine a_dup hX dX10_warn_25 rfl rfl ?_
  refine a_getI hX fl_X10_63 s_1 rfl dX10_warn_26 rfl ?_
  refine a_ic 1 hX dX10_warn_29 (by decide) rfl ?_
  refine a_iadd hX dX10_warn_30 rfl ?_
  refine a_putI hX fp_X10_63 s_1 rfl dX10_warn_31 rfl ?_
  refine a_nameM (fun m3 => ?_)
  refine a_al0 hX dX10_warn_34 rfl ?_
  refine a_getI hX fl_X10_63 s_1 rfl dX10_warn_35 rfl ?_
  exact a_iret hX hQ hr dX10_warn_38

set_option maxRecDepth 100000 in
theorem ci_X10_warn (l : Launch) (v1 v2 : Int32) (σ : Mem) : CI l yX10_warn cX10_warn 3 (some .int) 1 22 [.ref 1, .int v1, .int v2] σ (m_X10_warn v1 v2 σ) :=
  ci_of (by decide) (by simp [Value.category]) (by simp) (fun X r hl hX hR hQ hr => a_X10_warn_0 hX hR hQ hr v1 v2 σ)

set_option maxRecDepth 100000 in
set_option maxHeartbeats 2000000 in
theorem a_X10_nextUsable_95 {X : AX} {r0 : Int32 × Mem} (hX : CX X cX10_nextUsable 7 RX10) (hR : (aR X).frames = 3 ∧ (aR X).locals = 66 ∧ aCe X ≤ (aR X).cells ∧ aSl X ≤ (aR X).slots) (hQ : QI X r0) (hr : (aMeth X).sig.returnType = (some .int)) (f17 : Int32 → Int32 → Int32 → Int32 → Mem → Option (Int32 × Mem)) (hf17 : ∀ (v1 v2 v3 v4 : Int32) (σ : Mem), AWo X r0 17 [some (.ref 1), some (.int v1), some (.int v2), some (.int v3), some (.int v4), none, none] [] σ (f17 v1 v2 v3 v4 σ)) (v1 v2 v4 v5 : Int32) (σ : Mem) : AWo X r0 95 [some (.ref 1), some (.int v1), some (.int v2), none, some (.int v4), some (.int v5), none] [] σ (m_X10_nextUsable_95 f17 v1 v2 v4 v5 σ) := by
  unfold m_X10_nextUsable_95
  refine a_il5 hX dX10_nextUsable_95 rfl ?_
  refine a_is3 hX dX10_nextUsable_97 rfl ?_
  refine a_inc4 1 hX dX10_nextUsable_98 (by decide) rfl ?_
  refine a_goto hX dX10_nextUsable_101 rfl ?_
  exact a_sub (hf17 v1 v2 v5 (v4 + 1) (σ)) (ls_s (ls_s (ls_s (ls_s (ls_s (ls_n (ls_n ls_0)))))))

set_option maxRecDepth 100000 in
set_option maxHeartbeats 2000000 in
theorem a_X10_nextUsable_17 {X : AX} {r0 : Int32 × Mem} (hX : CX X cX10_nextUsable 7 RX10) (hR : (aR X).frames = 3 ∧ (aR X).locals = 66 ∧ aCe X ≤ (aR X).cells ∧ aSl X ≤ (aR X).slots) (hQ : QI X r0) (hr : (aMeth X).sig.returnType = (some .int)) : ∀ (fuel : Nat) (v1 v2 v3 v4 : Int32) (σ : Mem), AWo X r0 17 [some (.ref 1), some (.int v1), some (.int v2), some (.int v3), some (.int v4), none, none] [] σ (m_X10_nextUsable_17 fuel v1 v2 v3 v4 σ) := by
  intro fuel
  induction fuel with
  | zero => intro v1 v2 v3 v4 σ; exact a_none
  | succ fuel ih =>
    intro v1 v2 v3 v4 σ
    show AWo X r0 17 [some (.ref 1), some (.int v1), some (.int v2), some (.int v3), some (.int v4), none, none] [] σ (m_X10_nextUsable_17 (fuel + 1) v1 v2 v3 v4 σ)
    unfold m_X10_nextUsable_17
    refine a_il4 hX dX10_nextUsable_17 rfl ?_
    refine a_ic 4 hX dX10_nextUsable_19 (by decide) rfl ?_
    refine a_icmp_ge hX dX10_nextUsable_20 rfl rfl ?_ ?_
    · refine a_il3 hX dX10_nextUsable_104 rfl ?_
      exact a_iret hX hQ hr dX10_nextUsable_105
    · refine a_al0 hX dX10_nextUsable_23 rfl ?_
      refine a_getR hX fl_X10_12 s_1 rfl dX10_nextUsable_24 rfl ?_
      refine a_il2 hX dX10_nextUsable_27 rfl ?_
      refine a_il4 hX dX10_nextUsable_28 rfl ?_
      refine a_callI hX hR ml_X10_100 (ci_X9_member _ _ _ _) s_2 rfl rfl rfl (by decide) (Nat.le_of_ble_eq_true rfl) rfl dX10_nextUsable_30 rfl (fun x1 => ?_)
      refine a_is5 hX dX10_nextUsable_33 rfl ?_
      refine a_al0 hX dX10_nextUsable_35 rfl ?_
      refine a_getR hX fl_X10_12 s_1 rfl dX10_nextUsable_36 rfl ?_
      refine a_getR hX fl_X10_104 s_2 rfl dX10_nextUsable_39 rfl ?_
      refine a_il5 hX dX10_nextUsable_42 rfl ?_
      refine a_callI hX hR ml_X10_70 (ci_X7_get _ 5 6 24 s_5 s_6 _ _) s_5 rfl rfl rfl (by decide) (Nat.le_of_ble_eq_true rfl) rfl dX10_nextUsable_44 rfl (fun x2 => ?_)
      refine a_is6 hX dX10_nextUsable_47 rfl ?_
      refine a_il6 hX dX10_nextUsable_49 rfl ?_
      refine a_al0 hX dX10_nextUsable_51 rfl ?_
      refine a_getR hX fl_X10_12 s_1 rfl dX10_nextUsable_52 rfl ?_
      refine a_getR hX fl_X10_104 s_2 rfl dX10_nextUsable_55 rfl ?_
      refine a_il1 hX dX10_nextUsable_58 rfl ?_
      refine a_callI hX hR ml_X10_70 (ci_X7_get _ 5 6 24 s_5 s_6 _ _) s_5 rfl rfl rfl (by decide) (Nat.le_of_ble_eq_true rfl) rfl dX10_nextUsable_59 rfl (fun x3 => ?_)
      refine a_icmp_le hX dX10_nextUsable_62 rfl rfl ?_ ?_
      · refine a_inc4 1 hX dX10_nextUsable_98 (by decide) rfl ?_
        refine a_goto hX dX10_nextUsable_101 rfl ?_
        exact a_sub (ih v1 v2 v3 (v4 + 1) x3.2) (ls_s (ls_s (ls_s (ls_s (ls_s (ls_n (ls_n ls_0)))))))
      · refine a_al0 hX dX10_nextUsable_65 rfl ?_
        refine a_il5 hX dX10_nextUsable_66 rfl ?_
        refine a_callI hX hR ml_X10_97 (ci_X10_flaw _ _ _) s_1 rfl rfl rfl (by decide) (Nat.le_of_ble_eq_true rfl) rfl dX10_nextUsable_68 rfl (fun x4 => ?_)
        refine a_if_ne hX dX10_nextUsable_71 rfl rfl ?_ ?_
        · refine a_inc4 1 hX dX10_nextUsable_98 (by decide) rfl ?_
          refine a_goto hX dX10_nextUsable_101 rfl ?_
          exact a_sub (ih v1 v2 v3 (v4 + 1) x4.2) (ls_s (ls_s (ls_s (ls_s (ls_s (ls_n (ls_n ls_0)))))))
        · refine a_il3 hX dX10_nextUsable_74 rfl ?_
          refine a_ic (-1) hX dX10_nextUsable_75 (by decide) rfl ?_
          refine a_icmp_eq hX dX10_nextUsable_76 rfl rfl ?_ ?_
          · exact a_sub (a_X10_nextUsable_95 hX hR hQ hr (m_X10_nextUsable_17 fuel) ih v1 v2 v4 x1.1 x4.2) (ls_s (ls_s (ls_s (ls_n (ls_s (ls_s (ls_n ls_0)))))))
          · refine a_il6 hX dX10_nextUsable_79 rfl ?_
            refine a_al0 hX dX10_nextUsable_81 rfl ?_
            refine a_getR hX fl_X10_12 s_1 rfl dX10_nextUsable_82 rfl ?_
            refine a_getR hX fl_X10_104 s_2 rfl dX10_nextUsable_85 rfl ?_
            refine a_il3 hX dX10_nextUsable_88 rfl ?_
            refine a_callI hX hR ml_X10_70 (ci_X7_get _ 5 6 24 s_5 s_6 _ _) s_5 rfl rfl rfl (by decide) (Nat.le_of_ble_eq_true rfl) rfl dX10_nextUsable_89 rfl (fun x5 => ?_)
            refine a_icmp_ge hX dX10_nextUsable_92 rfl rfl ?_ ?_
            · refine a_inc4 1 hX dX10_nextUsable_98 (by decide) rfl ?_
              refine a_goto hX dX10_nextUsable_101 rfl ?_
              exact a_sub (ih v1 v2 v3 (v4 + 1) x5.2) (ls_s (ls_s (ls_s (ls_s (ls_s (ls_n (ls_n ls_0)))))))
            · exact a_sub (a_X10_nextUsable_95 hX hR hQ hr (m_X10_nextUsable_17 fuel) ih v1 v2 v4 x1.1 x5.2) (ls_s (ls_s (ls_s (ls_n (ls_s (ls_s (ls_n ls_0)))))))

set_option maxRecDepth 100000 in
set_option maxHeartbeats 2000000 in
theorem a_X10_nextUsable_0 {X : AX} {r0 : Int32 × Mem} (hX : CX X cX10_nextUsable 7 RX10) (hR : (aR X).frames = 3 ∧ (aR X).locals = 66 ∧ aCe X ≤ (aR X).cells ∧ aSl X ≤ (aR X).slots) (hQ : QI X r0) (hr : (aMeth X).sig.returnType = (some .int)) (v1 : Int32) (σ : Mem) : AWo X r0 0 [some (.ref 1), some (.int v1), none, none, none, none, none] [] σ (m_X10_nextUsable v1 σ) := by
  unfold m_X10_nextUsable
  refine a_al0 hX dX10_nextUsable_0 rfl ?_
  refine a_getR hX fl_X10_12 s_1 rfl dX10_nextUsable_1 rfl ?_
  refine a_getR hX fl_X10_67 s_2 rfl dX10_nextUsable_4 rfl ?_
  refine a_il1 hX dX10_nextUsable_7 rfl ?_
  refine a_callI hX hR ml_X10_70 (ci_X7_get _ 3 4 24 s_3 s_4 _ _) s_3 rfl rfl rfl (by decide) (Nat.le_of_ble_eq_true rfl) rfl dX10_nextUsable_8 rfl (fun x1 => ?_)
  refine a_is2 hX dX10_nextUsable_11 rfl ?_
  refine a_ic (-1) hX dX10_nextUsable_12 (by decide) rfl ?_
  refine a_is3 hX dX10_nextUsable_13 rfl ?_
  refine a_ic 0 hX dX10_nextUsable_14 (by decide) rfl ?_
  refine a_is4 hX dX10_nextUsable_15 rfl ?_
  exact a_sub (a_X10_nextUsable_17 hX hR hQ hr FU v1 x1.1 (-1) 0 x1.2) (ls_s (ls_s (ls_s (ls_s (ls_s (ls_n (ls_n ls_0)))))))

set_option maxRecDepth 100000 in
theorem ci_X10_nextUsable (l : Launch) (v1 : Int32) (σ : Mem) : CI l yX10_nextUsable cX10_nextUsable 7 (some .int) 3 66 [.ref 1, .int v1] σ (m_X10_nextUsable v1 σ) :=
  ci_of (by decide) (by simp [Value.category]) (by simp) (fun X r hl hX hR hQ hr => a_X10_nextUsable_0 hX hR hQ hr v1 σ)

set_option maxRecDepth 100000 in
set_option maxHeartbeats 2000000 in
theorem a_X10_leadsTo_5 {X : AX} {r0 : Int32 × Mem} (hX : CX X cX10_leadsTo 5 RX10) (hR : (aR X).frames = 1 ∧ (aR X).locals = 21 ∧ aCe X ≤ (aR X).cells ∧ aSl X ≤ (aR X).slots) (hQ : QI X r0) (hr : (aMeth X).sig.returnType = (some .boolean)) : ∀ (fuel : Nat) (v2 v3 v4 : Int32) (σ : Mem), AWo X r0 5 [some (.ref 1), none, some (.int v2), some (.int v3), some (.int v4)] [] σ (m_X10_leadsTo_5 fuel v2 v3 v4 σ) := by
  intro fuel
  induction fuel with
  | zero => intro v2 v3 v4 σ; exact a_none
  | succ fuel ih =>
    intro v2 v3 v4 σ
    show AWo X r0 5 [some (.ref 1), none, some (.int v2), some (.int v3), some (.int v4)] [] σ (m_X10_leadsTo_5 (fuel + 1) v2 v3 v4 σ)
    unfold m_X10_leadsTo_5
    refine a_il4 hX dX10_leadsTo_5 rfl ?_
    refine a_bi 6 hX dX10_leadsTo_7 (by decide) rfl ?_
    refine a_icmp_ge hX dX10_leadsTo_9 rfl rfl ?_ ?_
    · refine a_ic 0 hX dX10_leadsTo_39 (by decide) rfl ?_
      exact a_zret0 (by decide) hX hQ hr dX10_leadsTo_40
    · refine a_il3 hX dX10_leadsTo_12 rfl ?_
      refine a_ic (-1) hX dX10_leadsTo_13 (by decide) rfl ?_
      refine a_icmp_eq hX dX10_leadsTo_14 rfl rfl ?_ ?_
      · refine a_ic 0 hX dX10_leadsTo_39 (by decide) rfl ?_
        exact a_zret0 (by decide) hX hQ hr dX10_leadsTo_40
      · refine a_il3 hX dX10_leadsTo_17 rfl ?_
        refine a_il2 hX dX10_leadsTo_18 rfl ?_
        refine a_icmp_ne hX dX10_leadsTo_19 rfl rfl ?_ ?_
        · refine a_al0 hX dX10_leadsTo_24 rfl ?_
          refine a_getR hX fl_X10_54 s_1 rfl dX10_leadsTo_25 rfl ?_
          refine a_il3 hX dX10_leadsTo_28 rfl ?_
          refine a_callI hX hR ml_X10_70 (ci_X7_get _ 62 63 6 s_62 s_63 _ _) s_62 rfl rfl rfl (by decide) (Nat.le_of_ble_eq_true rfl) rfl dX10_leadsTo_29 rfl (fun x1 => ?_)
          refine a_is3 hX dX10_leadsTo_32 rfl ?_
          refine a_inc4 1 hX dX10_leadsTo_33 (by decide) rfl ?_
          refine a_goto hX dX10_leadsTo_36 rfl ?_
          exact a_sub (ih v2 x1.1 (v4 + 1) x1.2) (ls_s (ls_n (ls_s (ls_s (ls_s ls_0)))))
        · refine a_ic 1 hX dX10_leadsTo_22 (by decide) rfl ?_
          exact a_zret0 (by decide) hX hQ hr dX10_leadsTo_23

set_option maxRecDepth 100000 in
set_option maxHeartbeats 2000000 in
theorem a_X10_leadsTo_0 {X : AX} {r0 : Int32 × Mem} (hX : CX X cX10_leadsTo 5 RX10) (hR : (aR X).frames = 1 ∧ (aR X).locals = 21 ∧ aCe X ≤ (aR X).cells ∧ aSl X ≤ (aR X).slots) (hQ : QI X r0) (hr : (aMeth X).sig.returnType = (some .boolean)) (v1 v2 : Int32) (σ : Mem) : AWo X r0 0 [some (.ref 1), some (.int v1), some (.int v2), none, none] [] σ (m_X10_leadsTo v1 v2 σ) := by
  unfold m_X10_leadsTo
  refine a_il1 hX dX10_leadsTo_0 rfl ?_
  refine a_is3 hX dX10_leadsTo_1 rfl ?_
  refine a_ic 0 hX dX10_leadsTo_2 (by decide) rfl ?_
  refine a_is4 hX dX10_leadsTo_3 rfl ?_
  exact a_sub (a_X10_leadsTo_5 hX hR hQ hr FU v2 v1 0 (σ)) (ls_s (ls_n (ls_s (ls_s (ls_s ls_0)))))

set_option maxRecDepth 100000 in
theorem ci_X10_leadsTo (l : Launch) (v1 v2 : Int32) (σ : Mem) : CI l yX10_leadsTo cX10_leadsTo 5 (some .boolean) 1 21 [.ref 1, .int v1, .int v2] σ (m_X10_leadsTo v1 v2 σ) :=
  ci_of (by decide) (by simp [Value.category]) (by simp) (fun X r hl hX hR hQ hr => a_X10_leadsTo_0 hX hR hQ hr v1 v2 σ)

