set_option maxRecDepth 100000 in
set_option maxHeartbeats 2000000 in
theorem a_X7_get_0 {X : AX} {r0 : Int32 × Mem} (hX : CX X cX7_get 2 RX7) (hR : (aR X).frames = 0 ∧ (aR X).locals = 0 ∧ aCe X ≤ (aR X).cells ∧ aSl X ≤ (aR X).slots) (hQ : QI X r0) (hr : (aMeth X).sig.returnType = (some .int)) (p a n : Nat) (hp : shp[p]? = some (.inl (7, [some a]))) (ha : shp[a]? = some (.inr (0, n))) (v1 : Int32) (σ : Mem) : AWo X r0 0 [some (.ref p), some (.int v1)] [] σ (m_X7_get a n v1 σ) := by
  unfold m_X7_get
  refine a_il1 hX dX7_get_0 rfl ?_
  refine a_if_lt hX dX7_get_1 rfl rfl ?_ ?_
  · refine a_ic (-1) hX dX7_get_22 (by decide) rfl ?_
    exact a_iret hX hQ hr dX7_get_23
  · refine a_il1 hX dX7_get_4 rfl ?_
    refine a_al0 hX dX7_get_5 rfl ?_
    refine a_getR hX fl_X7_9 hp rfl dX7_get_6 rfl ?_
    refine a_alen (Int32.ofNat n) hX ha (by decide) rfl dX7_get_9 rfl ?_
    refine a_icmp_ge hX dX7_get_10 rfl rfl ?_ ?_
    · refine a_ic (-1) hX dX7_get_22 (by decide) rfl ?_
      exact a_iret hX hQ hr dX7_get_23
    · refine a_al0 hX dX7_get_13 rfl ?_
      refine a_getR hX fl_X7_9 hp rfl dX7_get_14 rfl ?_
      refine a_il1 hX dX7_get_17 rfl ?_
      refine a_ald hX ha dX7_get_18 rfl (fun x1 => ?_)
      refine a_goto hX dX7_get_19 rfl ?_
      exact a_iret hX hQ hr dX7_get_23

set_option maxRecDepth 100000 in
theorem ci_X7_get (l : Launch) (p a n : Nat) (hp : shp[p]? = some (.inl (7, [some a]))) (ha : shp[a]? = some (.inr (0, n))) (v1 : Int32) (σ : Mem) : CI l yX7_get cX7_get 2 (some .int) 0 0 [.ref p, .int v1] σ (m_X7_get a n v1 σ) :=
  ci_of (by decide) (by simp [Value.category]) (by simp) (fun X r hl hX hR hQ hr => a_X7_get_0 hX hR hQ hr p a n hp ha v1 σ)

set_option maxRecDepth 100000 in
set_option maxHeartbeats 2000000 in
theorem a_X11_isIn_0 {X : AX} {r0 : Int32 × Mem} (hX : CX X cX11_isIn 2 RX11) (hR : (aR X).frames = 0 ∧ (aR X).locals = 0 ∧ aCe X ≤ (aR X).cells ∧ aSl X ≤ (aR X).slots) (hQ : QI X r0) (hr : (aMeth X).sig.returnType = (some .boolean)) (v0 v1 : Int32) (σ : Mem) : AWo X r0 0 [some (.int v0), some (.int v1)] [] σ (m_X11_isIn v0 v1 σ) := by
  unfold m_X11_isIn
  refine a_il1 hX dX11_isIn_0 rfl ?_
  refine a_if_lt hX dX11_isIn_1 rfl rfl ?_ ?_
  · refine a_ic 0 hX dX11_isIn_17 (by decide) rfl ?_
    exact a_zret0 (by decide) hX hQ hr dX11_isIn_18
  · refine a_il0 hX dX11_isIn_4 rfl ?_
    refine a_il1 hX dX11_isIn_5 rfl ?_
    refine a_ishr hX dX11_isIn_6 rfl ?_
    refine a_ic 1 hX dX11_isIn_7 (by decide) rfl ?_
    refine a_iand hX dX11_isIn_8 rfl ?_
    refine a_ic 1 hX dX11_isIn_9 (by decide) rfl ?_
    refine a_icmp_ne hX dX11_isIn_10 rfl rfl ?_ ?_
    · refine a_ic 0 hX dX11_isIn_17 (by decide) rfl ?_
      exact a_zret0 (by decide) hX hQ hr dX11_isIn_18
    · refine a_ic 1 hX dX11_isIn_13 (by decide) rfl ?_
      refine a_goto hX dX11_isIn_14 rfl ?_
      exact a_zret0 (by decide) hX hQ hr dX11_isIn_18

set_option maxRecDepth 100000 in
theorem ci_X11_isIn (l : Launch) (v0 v1 : Int32) (σ : Mem) : CI l yX11_isIn cX11_isIn 2 (some .boolean) 0 0 [.int v0, .int v1] σ (m_X11_isIn v0 v1 σ) :=
  ci_of (by decide) (by simp [Value.category]) (by simp) (fun X r hl hX hR hQ hr => a_X11_isIn_0 hX hR hQ hr v0 v1 σ)

set_option maxRecDepth 100000 in
set_option maxHeartbeats 2000000 in
theorem a_X9_isHidden_0 {X : AX} {r0 : Int32 × Mem} (hX : CX X cX9_isHidden 2 RX9) (hR : (aR X).frames = 1 ∧ (aR X).locals = 21 ∧ aCe X ≤ (aR X).cells ∧ aSl X ≤ (aR X).slots) (hQ : QI X r0) (hr : (aMeth X).sig.returnType = (some .boolean)) (v1 : Int32) (σ : Mem) : AWo X r0 0 [some (.ref 2), some (.int v1)] [] σ (m_X9_isHidden v1 σ) := by
  unfold m_X9_isHidden
  refine a_al0 hX dX9_isHidden_0 rfl ?_
  refine a_getI hX fl_X9_56 s_2 rfl dX9_isHidden_1 rfl ?_
  refine a_il1 hX dX9_isHidden_4 rfl ?_
  refine a_callNI hX hR ml_X9_70 (ci_X11_isIn _ _ _ _) rfl rfl (by decide) (Nat.le_of_ble_eq_true rfl) rfl dX9_isHidden_5 rfl (fun x1 => ?_)
  refine a_if_eq hX dX9_isHidden_8 rfl rfl ?_ ?_
  · refine a_ic 0 hX dX9_isHidden_33 (by decide) rfl ?_
    exact a_zret0 (by decide) hX hQ hr dX9_isHidden_34
  · refine a_al0 hX dX9_isHidden_11 rfl ?_
    refine a_getI hX fl_X9_53 s_2 rfl dX9_isHidden_12 rfl ?_
    refine a_al0 hX dX9_isHidden_15 rfl ?_
    refine a_getR hX fl_X9_14 s_2 rfl dX9_isHidden_16 rfl ?_
    refine a_il1 hX dX9_isHidden_19 rfl ?_
    refine a_callI hX hR ml_X9_38 (ci_X7_get _ 3 4 24 s_3 s_4 _ _) s_3 rfl rfl rfl (by decide) (Nat.le_of_ble_eq_true rfl) rfl dX9_isHidden_20 rfl (fun x2 => ?_)
    refine a_callNI hX hR ml_X9_70 (ci_X11_isIn _ _ _ _) rfl rfl (by decide) (Nat.le_of_ble_eq_true rfl) rfl dX9_isHidden_23 rfl (fun x3 => ?_)
    refine a_if_eq hX dX9_isHidden_26 rfl rfl ?_ ?_
    · refine a_ic 0 hX dX9_isHidden_33 (by decide) rfl ?_
      exact a_zret0 (by decide) hX hQ hr dX9_isHidden_34
    · refine a_ic 1 hX dX9_isHidden_29 (by decide) rfl ?_
      refine a_goto hX dX9_isHidden_30 rfl ?_
      exact a_zret0 (by decide) hX hQ hr dX9_isHidden_34

set_option maxRecDepth 100000 in
theorem ci_X9_isHidden (l : Launch) (v1 : Int32) (σ : Mem) : CI l yX9_isHidden cX9_isHidden 2 (some .boolean) 1 21 [.ref 2, .int v1] σ (m_X9_isHidden v1 σ) :=
  ci_of (by decide) (by simp [Value.category]) (by simp) (fun X r hl hX hR hQ hr => a_X9_isHidden_0 hX hR hQ hr v1 σ)

set_option maxRecDepth 100000 in
set_option maxHeartbeats 2000000 in
theorem a_X9_isYanked_0 {X : AX} {r0 : Int32 × Mem} (hX : CX X cX9_isYanked 2 RX9) (hR : (aR X).frames = 1 ∧ (aR X).locals = 21 ∧ aCe X ≤ (aR X).cells ∧ aSl X ≤ (aR X).slots) (hQ : QI X r0) (hr : (aMeth X).sig.returnType = (some .boolean)) (v1 : Int32) (σ : Mem) : AWo X r0 0 [some (.ref 2), some (.int v1)] [] σ (m_X9_isYanked v1 σ) := by
  unfold m_X9_isYanked
  refine a_al0 hX dX9_isYanked_0 rfl ?_
  refine a_getI hX fl_X9_63 s_2 rfl dX9_isYanked_1 rfl ?_
  refine a_il1 hX dX9_isYanked_4 rfl ?_
  refine a_callNI hX hR ml_X9_70 (ci_X11_isIn _ _ _ _) rfl rfl (by decide) (Nat.le_of_ble_eq_true rfl) rfl dX9_isYanked_5 rfl (fun x1 => ?_)
  exact a_zret hX hQ hr dX9_isYanked_8

set_option maxRecDepth 100000 in
theorem ci_X9_isYanked (l : Launch) (v1 : Int32) (σ : Mem) : CI l yX9_isYanked cX9_isYanked 2 (some .boolean) 1 21 [.ref 2, .int v1] σ (m_X9_isYanked v1 σ) :=
  ci_of (by decide) (by simp [Value.category]) (by simp) (fun X r hl hX hR hQ hr => a_X9_isYanked_0 hX hR hQ hr v1 σ)

set_option maxRecDepth 100000 in
set_option maxHeartbeats 2000000 in
theorem a_X11_isUpTo_0 {X : AX} {r0 : Int32 × Mem} (hX : CX X cX11_isUpTo 2 RX11) (hR : (aR X).frames = 0 ∧ (aR X).locals = 0 ∧ aCe X ≤ (aR X).cells ∧ aSl X ≤ (aR X).slots) (hQ : QI X r0) (hr : (aMeth X).sig.returnType = (some .boolean)) (v0 v1 : Int32) (σ : Mem) : AWo X r0 0 [some (.int v0), some (.int v1)] [] σ (m_X11_isUpTo v0 v1 σ) := by
  unfold m_X11_isUpTo
  refine a_il1 hX dX11_isUpTo_0 rfl ?_
  refine a_if_lt hX dX11_isUpTo_1 rfl rfl ?_ ?_
  · refine a_ic 0 hX dX11_isUpTo_13 (by decide) rfl ?_
    exact a_zret0 (by decide) hX hQ hr dX11_isUpTo_14
  · refine a_il1 hX dX11_isUpTo_4 rfl ?_
    refine a_il0 hX dX11_isUpTo_5 rfl ?_
    refine a_icmp_gt hX dX11_isUpTo_6 rfl rfl ?_ ?_
    · refine a_ic 0 hX dX11_isUpTo_13 (by decide) rfl ?_
      exact a_zret0 (by decide) hX hQ hr dX11_isUpTo_14
    · refine a_ic 1 hX dX11_isUpTo_9 (by decide) rfl ?_
      refine a_goto hX dX11_isUpTo_10 rfl ?_
      exact a_zret0 (by decide) hX hQ hr dX11_isUpTo_14

set_option maxRecDepth 100000 in
theorem ci_X11_isUpTo (l : Launch) (v0 v1 : Int32) (σ : Mem) : CI l yX11_isUpTo cX11_isUpTo 2 (some .boolean) 0 0 [.int v0, .int v1] σ (m_X11_isUpTo v0 v1 σ) :=
  ci_of (by decide) (by simp [Value.category]) (by simp) (fun X r hl hX hR hQ hr => a_X11_isUpTo_0 hX hR hQ hr v0 v1 σ)

set_option maxRecDepth 100000 in
set_option maxHeartbeats 2000000 in
theorem a_X6_holds_0 {X : AX} {r0 : Int32 × Mem} (hX : CX X cX6_holds 3 RX6) (hR : (aR X).frames = 1 ∧ (aR X).locals = 21 ∧ aCe X ≤ (aR X).cells ∧ aSl X ≤ (aR X).slots) (hQ : QI X r0) (hr : (aMeth X).sig.returnType = (some .boolean)) (v1 v2 : Int32) (σ : Mem) : AWo X r0 0 [some (.ref 17), some (.int v1), some (.int v2)] [] σ (m_X6_holds v1 v2 σ) := by
  unfold m_X6_holds
  refine a_al0 hX dX6_holds_0 rfl ?_
  refine a_getI hX fl_X6_38 s_17 rfl dX6_holds_1 rfl ?_
  refine a_ic 1 hX dX6_holds_4 (by decide) rfl ?_
  refine a_isub hX dX6_holds_5 rfl ?_
  refine a_il1 hX dX6_holds_6 rfl ?_
  refine a_callNI hX hR ml_X6_65 (ci_X11_isUpTo _ _ _ _) rfl rfl (by decide) (Nat.le_of_ble_eq_true rfl) rfl dX6_holds_7 rfl (fun x1 => ?_)
  refine a_if_eq hX dX6_holds_10 rfl rfl ?_ ?_
  · refine a_ic 0 hX dX6_holds_32 (by decide) rfl ?_
    exact a_zret0 (by decide) hX hQ hr dX6_holds_33
  · refine a_al0 hX dX6_holds_13 rfl ?_
    refine a_getR hX fl_X6_35 s_17 rfl dX6_holds_14 rfl ?_
    refine a_il1 hX dX6_holds_17 rfl ?_
    refine a_callI hX hR ml_X6_51 (ci_X7_get _ 30 31 30 s_30 s_31 _ _) s_30 rfl rfl rfl (by decide) (Nat.le_of_ble_eq_true rfl) rfl dX6_holds_18 rfl (fun x2 => ?_)
    refine a_il2 hX dX6_holds_21 rfl ?_
    refine a_callNI hX hR ml_X6_68 (ci_X11_isIn _ _ _ _) rfl rfl (by decide) (Nat.le_of_ble_eq_true rfl) rfl dX6_holds_22 rfl (fun x3 => ?_)
    refine a_if_eq hX dX6_holds_25 rfl rfl ?_ ?_
    · refine a_ic 0 hX dX6_holds_32 (by decide) rfl ?_
      exact a_zret0 (by decide) hX hQ hr dX6_holds_33
    · refine a_ic 1 hX dX6_holds_28 (by decide) rfl ?_
      refine a_goto hX dX6_holds_29 rfl ?_
      exact a_zret0 (by decide) hX hQ hr dX6_holds_33

set_option maxRecDepth 100000 in
theorem ci_X6_holds (l : Launch) (v1 v2 : Int32) (σ : Mem) : CI l yX6_holds cX6_holds 3 (some .boolean) 1 21 [.ref 17, .int v1, .int v2] σ (m_X6_holds v1 v2 σ) :=
  ci_of (by decide) (by simp [Value.category]) (by simp) (fun X r hl hX hR hQ hr => a_X6_holds_0 hX hR hQ hr v1 v2 σ)

set_option maxRecDepth 100000 in
set_option maxHeartbeats 2000000 in
theorem a_X10_flaw_75 {X : AX} {r0 : Int32 × Mem} (hX : CX X cX10_flaw 4 RX10) (hR : (aR X).frames = 2 ∧ (aR X).locals = 43 ∧ aCe X ≤ (aR X).cells ∧ aSl X ≤ (aR X).slots) (hQ : QI X r0) (hr : (aMeth X).sig.returnType = (some .int)) : ∀ (fuel : Nat) (v1 v2 v3 : Int32) (σ : Mem), AWo X r0 75 [some (.ref 1), some (.int v1), some (.int v2), some (.int v3)] [] σ (m_X10_flaw_75 fuel v1 v2 v3 σ) := by
  intro fuel
  induction fuel with
  | zero => intro v1 v2 v3 σ; exact a_none
  | succ fuel ih =>
    intro v1 v2 v3 σ
    show AWo X r0 75 [some (.ref 1), some (.int v1), some (.int v2), some (.int v3)] [] σ (m_X10_flaw_75 (fuel + 1) v1 v2 v3 σ)
    unfold m_X10_flaw_75
    refine a_il3 hX dX10_flaw_75 rfl ?_
    refine a_al0 hX dX10_flaw_76 rfl ?_
    refine a_getI hX fl_X10_63 s_1 rfl dX10_flaw_77 rfl ?_
    refine a_icmp_ge hX dX10_flaw_80 rfl rfl ?_ ?_
    · refine a_ic 0 hX dX10_flaw_122 (by decide) rfl ?_
      exact a_iret hX hQ hr dX10_flaw_123
    · refine a_al0 hX dX10_flaw_83 rfl ?_
      refine a_getR hX fl_X10_48 s_1 rfl dX10_flaw_84 rfl ?_
      refine a_il3 hX dX10_flaw_87 rfl ?_
      refine a_callI hX hR ml_X10_70 (ci_X7_get _ 58 59 8 s_58 s_59 _ _) s_58 rfl rfl rfl (by decide) (Nat.le_of_ble_eq_true rfl) rfl dX10_flaw_88 rfl (fun x1 => ?_)
      refine a_il2 hX dX10_flaw_91 rfl ?_
      refine a_icmp_ne hX dX10_flaw_92 rfl rfl ?_ ?_
      · refine a_inc3 1 hX dX10_flaw_116 (by decide) rfl ?_
        refine a_goto hX dX10_flaw_119 rfl ?_
        exact a_sub (ih v1 v2 (v3 + 1) x1.2) (ls_s (ls_s (ls_s (ls_s ls_0))))
      · refine a_al0 hX dX10_flaw_95 rfl ?_
        refine a_getR hX fl_X10_21 s_1 rfl dX10_flaw_96 rfl ?_
        refine a_al0 hX dX10_flaw_99 rfl ?_
        refine a_getR hX fl_X10_51 s_1 rfl dX10_flaw_100 rfl ?_
        refine a_il3 hX dX10_flaw_103 rfl ?_
        refine a_callI hX hR ml_X10_70 (ci_X7_get _ 60 61 8 s_60 s_61 _ _) s_60 rfl rfl rfl (by decide) (Nat.le_of_ble_eq_true rfl) rfl dX10_flaw_104 rfl (fun x2 => ?_)
        refine a_il1 hX dX10_flaw_107 rfl ?_
        refine a_callI hX hR ml_X10_91 (ci_X6_holds _ _ _ _) s_17 rfl rfl rfl (by decide) (Nat.le_of_ble_eq_true rfl) rfl dX10_flaw_108 rfl (fun x3 => ?_)
        refine a_if_eq hX dX10_flaw_111 rfl rfl ?_ ?_
        · refine a_inc3 1 hX dX10_flaw_116 (by decide) rfl ?_
          refine a_goto hX dX10_flaw_119 rfl ?_
          exact a_sub (ih v1 v2 (v3 + 1) x3.2) (ls_s (ls_s (ls_s (ls_s ls_0))))
        · refine a_ic 4 hX dX10_flaw_114 (by decide) rfl ?_
          exact a_iret hX hQ hr dX10_flaw_115

set_option maxRecDepth 100000 in
set_option maxHeartbeats 2000000 in
theorem a_X10_flaw_50 {X : AX} {r0 : Int32 × Mem} (hX : CX X cX10_flaw 4 RX10) (hR : (aR X).frames = 2 ∧ (aR X).locals = 43 ∧ aCe X ≤ (aR X).cells ∧ aSl X ≤ (aR X).slots) (hQ : QI X r0) (hr : (aMeth X).sig.returnType = (some .int)) (v1 v2 : Int32) (σ : Mem) : AWo X r0 50 [some (.ref 1), some (.int v1), some (.int v2), none] [] σ (m_X10_flaw_50 v1 v2 σ) := by
  unfold m_X10_flaw_50
  refine a_al0 hX dX10_flaw_50 rfl ?_
  refine a_getR hX fl_X10_12 s_1 rfl dX10_flaw_51 rfl ?_
  refine a_getR hX fl_X10_81 s_2 rfl dX10_flaw_54 rfl ?_
  refine a_il1 hX dX10_flaw_57 rfl ?_
  refine a_callI hX hR ml_X10_70 (ci_X7_get _ 9 10 24 s_9 s_10 _ _) s_9 rfl rfl rfl (by decide) (Nat.le_of_ble_eq_true rfl) rfl dX10_flaw_58 rfl (fun x1 => ?_)
  refine a_al0 hX dX10_flaw_61 rfl ?_
  refine a_getI hX fl_X10_84 s_1 rfl dX10_flaw_62 rfl ?_
  refine a_callNI hX hR ml_X10_87 (ci_X11_isIn _ _ _ _) rfl rfl (by decide) (Nat.le_of_ble_eq_true rfl) rfl dX10_flaw_65 rfl (fun x2 => ?_)
  refine a_if_ne hX dX10_flaw_68 rfl rfl ?_ ?_
  · refine a_ic 0 hX dX10_flaw_73 (by decide) rfl ?_
    refine a_is3 hX dX10_flaw_74 rfl ?_
    exact a_sub (a_X10_flaw_75 hX hR hQ hr FU v1 v2 0 x2.2) (ls_s (ls_s (ls_s (ls_s ls_0))))
  · refine a_ic 3 hX dX10_flaw_71 (by decide) rfl ?_
    exact a_iret hX hQ hr dX10_flaw_72

set_option maxRecDepth 100000 in
set_option maxHeartbeats 2000000 in
theorem a_X10_flaw_0 {X : AX} {r0 : Int32 × Mem} (hX : CX X cX10_flaw 4 RX10) (hR : (aR X).frames = 2 ∧ (aR X).locals = 43 ∧ aCe X ≤ (aR X).cells ∧ aSl X ≤ (aR X).slots) (hQ : QI X r0) (hr : (aMeth X).sig.returnType = (some .int)) (v1 : Int32) (σ : Mem) : AWo X r0 0 [some (.ref 1), some (.int v1), none, none] [] σ (m_X10_flaw v1 σ) := by
  unfold m_X10_flaw
  refine a_al0 hX dX10_flaw_0 rfl ?_
  refine a_getR hX fl_X10_12 s_1 rfl dX10_flaw_1 rfl ?_
  refine a_getR hX fl_X10_67 s_2 rfl dX10_flaw_4 rfl ?_
  refine a_il1 hX dX10_flaw_7 rfl ?_
  refine a_callI hX hR ml_X10_70 (ci_X7_get _ 3 4 24 s_3 s_4 _ _) s_3 rfl rfl rfl (by decide) (Nat.le_of_ble_eq_true rfl) rfl dX10_flaw_8 rfl (fun x1 => ?_)
  refine a_is2 hX dX10_flaw_11 rfl ?_
  refine a_al0 hX dX10_flaw_12 rfl ?_
  refine a_getR hX fl_X10_12 s_1 rfl dX10_flaw_13 rfl ?_
  refine a_il1 hX dX10_flaw_16 rfl ?_
  refine a_callI hX hR ml_X10_74 (ci_X9_isHidden _ _ _) s_2 rfl rfl rfl (by decide) (Nat.le_of_ble_eq_true rfl) rfl dX10_flaw_17 rfl (fun x2 => ?_)
  refine a_if_eq hX dX10_flaw_20 rfl rfl ?_ ?_
  · refine a_al0 hX dX10_flaw_25 rfl ?_
    refine a_getR hX fl_X10_12 s_1 rfl dX10_flaw_26 rfl ?_
    refine a_il1 hX dX10_flaw_29 rfl ?_
    refine a_callI hX hR ml_X10_78 (ci_X9_isYanked _ _ _) s_2 rfl rfl rfl (by decide) (Nat.le_of_ble_eq_true rfl) rfl dX10_flaw_30 rfl (fun x3 => ?_)
    refine a_if_eq hX dX10_flaw_33 rfl rfl ?_ ?_
    · exact a_sub (a_X10_flaw_50 hX hR hQ hr v1 x1.1 x3.2) (ls_s (ls_s (ls_s (ls_n ls_0))))
    · refine a_al0 hX dX10_flaw_36 rfl ?_
      refine a_getR hX fl_X10_44 s_1 rfl dX10_flaw_37 rfl ?_
      refine a_il2 hX dX10_flaw_40 rfl ?_
      refine a_callI hX hR ml_X10_70 (ci_X7_get _ 56 57 6 s_56 s_57 _ _) s_56 rfl rfl rfl (by decide) (Nat.le_of_ble_eq_true rfl) rfl dX10_flaw_41 rfl (fun x4 => ?_)
      refine a_il1 hX dX10_flaw_44 rfl ?_
      refine a_icmp_eq hX dX10_flaw_45 rfl rfl ?_ ?_
      · exact a_sub (a_X10_flaw_50 hX hR hQ hr v1 x1.1 x4.2) (ls_s (ls_s (ls_s (ls_n ls_0))))
      · refine a_ic 2 hX dX10_flaw_48 (by decide) rfl ?_
        exact a_iret hX hQ hr dX10_flaw_49
  · refine a_ic 1 hX dX10_flaw_23 (by decide) rfl ?_
    exact a_iret hX hQ hr dX10_flaw_24

set_option maxRecDepth 100000 in
theorem ci_X10_flaw (l : Launch) (v1 : Int32) (σ : Mem) : CI l yX10_flaw cX10_flaw 4 (some .int) 2 43 [.ref 1, .int v1] σ (m_X10_flaw v1 σ) :=
  ci_of (by decide) (by simp [Value.category]) (by simp) (fun X r hl hX hR hQ hr => a_X10_flaw_0 hX hR hQ hr v1 σ)

set_option maxRecDepth 100000 in
set_option maxHeartbeats 2000000 in
theorem a_X10_usable_4 {X : AX} {r0 : Int32 × Mem} (hX : CX X cX10_usable 3 RX10) (hR : (aR X).frames = 3 ∧ (aR X).locals = 66 ∧ aCe X ≤ (aR X).cells ∧ aSl X ≤ (aR X).slots) (hQ : QI X r0) (hr : (aMeth X).sig.returnType = (some .int)) : ∀ (fuel : Nat) (v1 v2 : Int32) (σ : Mem), AWo X r0 4 [some (.ref 1), some (.int v1), some (.int v2)] [] σ (m_X10_usable_4 fuel v1 v2 σ) := by
  intro fuel
  induction fuel with
  | zero => intro v1 v2 σ; exact a_none
  | succ fuel ih =>
    intro v1 v2 σ
    show AWo X r0 4 [some (.ref 1), some (.int v1), some (.int v2)] [] σ (m_X10_usable_4 (fuel + 1) v1 v2 σ)
    unfold m_X10_usable_4
    refine a_il2 hX dX10_usable_4 rfl ?_
    refine a_al0 hX dX10_usable_5 rfl ?_
    refine a_getR hX fl_X10_12 s_1 rfl dX10_usable_6 rfl ?_
    refine a_getI hX fl_X10_94 s_2 rfl dX10_usable_9 rfl ?_
    refine a_icmp_ge hX dX10_usable_12 rfl rfl ?_ ?_
    · refine a_il1 hX dX10_usable_35 rfl ?_
      exact a_iret hX hQ hr dX10_usable_36
    · refine a_al0 hX dX10_usable_15 rfl ?_
      refine a_il2 hX dX10_usable_16 rfl ?_
      refine a_callI hX hR ml_X10_97 (ci_X10_flaw _ _ _) s_1 rfl rfl rfl (by decide) (Nat.le_of_ble_eq_true rfl) rfl dX10_usable_17 rfl (fun x1 => ?_)
      refine a_if_ne hX dX10_usable_20 rfl rfl ?_ ?_
      · refine a_inc2 1 hX dX10_usable_29 (by decide) rfl ?_
        refine a_goto hX dX10_usable_32 rfl ?_
        exact a_sub (ih v1 (v2 + 1) x1.2) (ls_s (ls_s (ls_s ls_0)))
      · refine a_il1 hX dX10_usable_23 rfl ?_
        refine a_ic 1 hX dX10_usable_24 (by decide) rfl ?_
        refine a_il2 hX dX10_usable_25 rfl ?_
        refine a_ishl hX dX10_usable_26 rfl ?_
        refine a_ior hX dX10_usable_27 rfl ?_
        refine a_name (fun y2 => ?_)
        refine a_is1 hX dX10_usable_28 rfl ?_
        refine a_inc2 1 hX dX10_usable_29 (by decide) rfl ?_
        refine a_goto hX dX10_usable_32 rfl ?_
        exact a_sub (ih y2 (v2 + 1) x1.2) (ls_s (ls_s (ls_s ls_0)))

set_option maxRecDepth 100000 in
set_option maxHeartbeats 2000000 in
theorem a_X10_usable_0 {X : AX} {r0 : Int32 × Mem} (hX : CX X cX10_usable 3 RX10) (hR : (aR X).frames = 3 ∧ (aR X).locals = 66 ∧ aCe X ≤ (aR X).cells ∧ aSl X ≤ (aR X).slots) (hQ : QI X r0) (hr : (aMeth X).sig.returnType = (some .int)) (σ : Mem) : AWo X r0 0 [some (.ref 1), none, none] [] σ (m_X10_usable  σ) := by
  unfold m_X10_usable
  refine a_ic 0 hX dX10_usable_0 (by decide) rfl ?_
  refine a_is1 hX dX10_usable_1 rfl ?_
  refine a_ic 0 hX dX10_usable_2 (by decide) rfl ?_
  refine a_is2 hX dX10_usable_3 rfl ?_
  exact a_sub (a_X10_usable_4 hX hR hQ hr FU 0 0 (σ)) (ls_s (ls_s (ls_s ls_0)))

set_option maxRecDepth 100000 in
theorem ci_X10_usable (l : Launch) (σ : Mem) : CI l yX10_usable cX10_usable 3 (some .int) 3 66 [.ref 1] σ (m_X10_usable  σ) :=
  ci_of (by decide) (by simp [Value.category]) (by simp) (fun X r hl hX hR hQ hr => a_X10_usable_0 hX hR hQ hr σ)

set_option maxRecDepth 100000 in
set_option maxHeartbeats 2000000 in
theorem a_X2_ofWorkspaces_4 {X : AX} {r0 : Int32 × Mem} (hX : CX X cX2_ofWorkspaces 4 RX2) (hR : (aR X).frames = 1 ∧ (aR X).locals = 21 ∧ aCe X ≤ (aR X).cells ∧ aSl X ≤ (aR X).slots) (hQ : QI X r0) (hr : (aMeth X).sig.returnType = (some .int)) : ∀ (fuel : Nat) (v1 v2 v3 : Int32) (σ : Mem), AWo X r0 4 [some (.ref 47), some (.int v1), some (.int v2), some (.int v3)] [] σ (m_X2_ofWorkspaces_4 fuel v1 v2 v3 σ) := by
  intro fuel
  induction fuel with
  | zero => intro v1 v2 v3 σ; exact a_none
  | succ fuel ih =>
    intro v1 v2 v3 σ
    show AWo X r0 4 [some (.ref 47), some (.int v1), some (.int v2), some (.int v3)] [] σ (m_X2_ofWorkspaces_4 (fuel + 1) v1 v2 v3 σ)
    unfold m_X2_ofWorkspaces_4
    refine a_il3 hX dX2_ofWorkspaces_4 rfl ?_
    refine a_al0 hX dX2_ofWorkspaces_5 rfl ?_
    refine a_getI hX fl_X2_29 s_47 rfl dX2_ofWorkspaces_6 rfl ?_
    refine a_icmp_ge hX dX2_ofWorkspaces_9 rfl rfl ?_ ?_
    · refine a_il2 hX dX2_ofWorkspaces_39 rfl ?_
      exact a_iret hX hQ hr dX2_ofWorkspaces_40
    · refine a_il1 hX dX2_ofWorkspaces_12 rfl ?_
      refine a_al0 hX dX2_ofWorkspaces_13 rfl ?_
      refine a_getR hX fl_X2_14 s_47 rfl dX2_ofWorkspaces_14 rfl ?_
      refine a_il3 hX dX2_ofWorkspaces_17 rfl ?_
      refine a_callI hX hR ml_X2_36 (ci_X7_get _ 48 49 6 s_48 s_49 _ _) s_48 rfl rfl rfl (by decide) (Nat.le_of_ble_eq_true rfl) rfl dX2_ofWorkspaces_18 rfl (fun x1 => ?_)
      refine a_callNI hX hR ml_X2_40 (ci_X11_isIn _ _ _ _) rfl rfl (by decide) (Nat.le_of_ble_eq_true rfl) rfl dX2_ofWorkspaces_21 rfl (fun x2 => ?_)
      refine a_if_eq hX dX2_ofWorkspaces_24 rfl rfl ?_ ?_
      · refine a_inc3 1 hX dX2_ofWorkspaces_33 (by decide) rfl ?_
        refine a_goto hX dX2_ofWorkspaces_36 rfl ?_
        exact a_sub (ih v1 v2 (v3 + 1) x2.2) (ls_s (ls_s (ls_s (ls_s ls_0))))
      · refine a_il2 hX dX2_ofWorkspaces_27 rfl ?_
        refine a_ic 1 hX dX2_ofWorkspaces_28 (by decide) rfl ?_
        refine a_il3 hX dX2_ofWorkspaces_29 rfl ?_
        refine a_ishl hX dX2_ofWorkspaces_30 rfl ?_
        refine a_ior hX dX2_ofWorkspaces_31 rfl ?_
        refine a_name (fun y3 => ?_)
        refine a_is2 hX dX2_ofWorkspaces_32 rfl ?_
        refine a_inc3 1 hX dX2_ofWorkspaces_33 (by decide) rfl ?_
        refine a_goto hX dX2_ofWorkspaces_36 rfl ?_
        exact a_sub (ih v1 y3 (v3 + 1) x2.2) (ls_s (ls_s (ls_s (ls_s ls_0))))

set_option maxRecDepth 100000 in
set_option maxHeartbeats 2000000 in
theorem a_X2_ofWorkspaces_0 {X : AX} {r0 : Int32 × Mem} (hX : CX X cX2_ofWorkspaces 4 RX2) (hR : (aR X).frames = 1 ∧ (aR X).locals = 21 ∧ aCe X ≤ (aR X).cells ∧ aSl X ≤ (aR X).slots) (hQ : QI X r0) (hr : (aMeth X).sig.returnType = (some .int)) (v1 : Int32) (σ : Mem) : AWo X r0 0 [some (.ref 47), some (.int v1), none, none] [] σ (m_X2_ofWorkspaces v1 σ) := by
  unfold m_X2_ofWorkspaces
  refine a_ic 0 hX dX2_ofWorkspaces_0 (by decide) rfl ?_
  refine a_is2 hX dX2_ofWorkspaces_1 rfl ?_
  refine a_ic 0 hX dX2_ofWorkspaces_2 (by decide) rfl ?_
  refine a_is3 hX dX2_ofWorkspaces_3 rfl ?_
  exact a_sub (a_X2_ofWorkspaces_4 hX hR hQ hr FU v1 0 0 (σ)) (ls_s (ls_s (ls_s (ls_s ls_0))))

set_option maxRecDepth 100000 in
theorem ci_X2_ofWorkspaces (l : Launch) (v1 : Int32) (σ : Mem) : CI l yX2_ofWorkspaces cX2_ofWorkspaces 4 (some .int) 1 21 [.ref 47, .int v1] σ (m_X2_ofWorkspaces v1 σ) :=
  ci_of (by decide) (by simp [Value.category]) (by simp) (fun X r hl hX hR hQ hr => a_X2_ofWorkspaces_0 hX hR hQ hr v1 σ)

set_option maxRecDepth 100000 in
set_option maxHeartbeats 2000000 in
theorem a_X5_demands_0 {X : AX} {r0 : Int32 × Mem} (hX : CX X cX5_demands 1 RX5) (hR : (aR X).frames = 2 ∧ (aR X).locals = 44 ∧ aCe X ≤ (aR X).cells ∧ aSl X ≤ (aR X).slots) (hQ : QI X r0) (hr : (aMeth X).sig.returnType = (some .int)) (σ : Mem) : AWo X r0 0 [some (.ref 66)] [] σ (m_X5_demands  σ) := by
  unfold m_X5_demands
  refine a_al0 hX dX5_demands_0 rfl ?_
  refine a_getR hX fl_X5_9 s_66 rfl dX5_demands_1 rfl ?_
  refine a_getR hX fl_X5_15 s_1 rfl dX5_demands_4 rfl ?_
  refine a_al0 hX dX5_demands_7 rfl ?_
  refine a_getI hX fl_X5_21 s_66 rfl dX5_demands_8 rfl ?_
  refine a_callI hX hR ml_X5_25 (ci_X2_ofWorkspaces _ _ _) s_47 rfl rfl rfl (by decide) (Nat.le_of_ble_eq_true rfl) rfl dX5_demands_11 rfl (fun x1 => ?_)
  exact a_iret hX hQ hr dX5_demands_14

set_option maxRecDepth 100000 in
theorem ci_X5_demands (l : Launch) (σ : Mem) : CI l yX5_demands cX5_demands 1 (some .int) 2 44 [.ref 66] σ (m_X5_demands  σ) :=
  ci_of (by decide) (by simp [Value.category]) (by simp) (fun X r hl hX hR hQ hr => a_X5_demands_0 hX hR hQ hr σ)

set_option maxRecDepth 100000 in
set_option maxHeartbeats 2000000 in
theorem a_J7_fill_53178_5 {X : AX} {r0 : Int32 × Mem} (hX : CX X cJ7_fill_53178 4 RJ7) (hR : (aR X).frames = 0 ∧ (aR X).locals = 0 ∧ aCe X ≤ (aR X).cells ∧ aSl X ≤ (aR X).slots) (hQ : QV X r0) (hr : (aMeth X).sig.returnType = none) (a n : Nat) (ha : shp[a]? = some (.inr (0, n))) : ∀ (fuel : Nat) (v1 v2 v3 : Int32) (σ : Mem), AWo X r0 5 [some (.ref a), some (.int v1), some (.int v2), some (.int v3)] [] σ (m_J7_fill_53178_5 a n fuel v1 v2 v3 σ) := by
  intro fuel
  induction fuel with
  | zero => intro v1 v2 v3 σ; exact a_none
  | succ fuel ih =>
    intro v1 v2 v3 σ
    show AWo X r0 5 [some (.ref a), some (.int v1), some (.int v2), some (.int v3)] [] σ (m_J7_fill_53178_5 a n (fuel + 1) v1 v2 v3 σ)
    unfold m_J7_fill_53178_5
    refine a_il2 hX dJ7_fill_53178_5 rfl ?_
    refine a_il3 hX dJ7_fill_53178_6 rfl ?_
    refine a_icmp_ge hX dJ7_fill_53178_7 rfl rfl ?_ ?_
    · exact a_vret hX hQ hr dJ7_fill_53178_20
    · refine a_al0 hX dJ7_fill_53178_10 rfl ?_
      refine a_il2 hX dJ7_fill_53178_11 rfl ?_
      refine a_il1 hX dJ7_fill_53178_12 rfl ?_
      refine a_ast hX ha dJ7_fill_53178_13 rfl (fun m1 => ?_)
      refine a_inc2 1 hX dJ7_fill_53178_14 (by decide) rfl ?_
      refine a_goto hX dJ7_fill_53178_17 rfl ?_
      exact a_sub (ih v1 (v2 + 1) v3 m1) (ls_s (ls_s (ls_s (ls_s ls_0))))

set_option maxRecDepth 100000 in
set_option maxHeartbeats 2000000 in
theorem a_J7_fill_53178_0 {X : AX} {r0 : Int32 × Mem} (hX : CX X cJ7_fill_53178 4 RJ7) (hR : (aR X).frames = 0 ∧ (aR X).locals = 0 ∧ aCe X ≤ (aR X).cells ∧ aSl X ≤ (aR X).slots) (hQ : QV X r0) (hr : (aMeth X).sig.returnType = none) (a n : Nat) (ha : shp[a]? = some (.inr (0, n))) (v1 : Int32) (σ : Mem) : AWo X r0 0 [some (.ref a), some (.int v1), none, none] [] σ (m_J7_fill_53178 a n v1 σ) := by
  unfold m_J7_fill_53178
  refine a_ic 0 hX dJ7_fill_53178_0 (by decide) rfl ?_
  refine a_is2 hX dJ7_fill_53178_1 rfl ?_
  refine a_al0 hX dJ7_fill_53178_2 rfl ?_
  refine a_alen (Int32.ofNat n) hX ha (by decide) rfl dJ7_fill_53178_3 rfl ?_
  refine a_name (fun y1 => ?_)
  refine a_is3 hX dJ7_fill_53178_4 rfl ?_
  exact a_sub (a_J7_fill_53178_5 hX hR hQ hr a n ha FU v1 0 y1 (σ)) (ls_s (ls_s (ls_s (ls_s ls_0))))

set_option maxRecDepth 100000 in
theorem ci_J7_fill_53178 (l : Launch) (a n : Nat) (ha : shp[a]? = some (.inr (0, n))) (v1 : Int32) (σ : Mem) : CV l yJ7_fill_53178 cJ7_fill_53178 4 0 0 [.ref a, .int v1] σ (m_J7_fill_53178 a n v1 σ) :=
  cv_of (by decide) (by simp [Value.category]) (by simp) (fun X r hl hX hR hQ hr => a_J7_fill_53178_0 hX hR hQ hr a n ha v1 σ)

set_option maxRecDepth 100000 in
set_option maxHeartbeats 2000000 in
theorem a_X7_fill_0 {X : AX} {r0 : Int32 × Mem} (hX : CX X cX7_fill 2 RX7) (hR : (aR X).frames = 1 ∧ (aR X).locals = 23 ∧ aCe X ≤ (aR X).cells ∧ aSl X ≤ (aR X).slots) (hQ : QV X r0) (hr : (aMeth X).sig.returnType = none) (p a n : Nat) (hp : shp[p]? = some (.inl (7, [some a]))) (ha : shp[a]? = some (.inr (0, n))) (v1 : Int32) (σ : Mem) : AWo X r0 0 [some (.ref p), some (.int v1)] [] σ (m_X7_fill a n v1 σ) := by
  unfold m_X7_fill
  refine a_al0 hX dX7_fill_0 rfl ?_
  refine a_getR hX fl_X7_9 hp rfl dX7_fill_1 rfl ?_
  refine a_il1 hX dX7_fill_4 rfl ?_
  refine a_callSV hX hR ml_X7_15 (ci_J7_fill_53178 _ a n ha _ _) rfl rfl (by decide) (Nat.le_of_ble_eq_true rfl) rfl dX7_fill_5 rfl (fun x1 => ?_)
  exact a_vret hX hQ hr dX7_fill_8

set_option maxRecDepth 100000 in
theorem ci_X7_fill (l : Launch) (p a n : Nat) (hp : shp[p]? = some (.inl (7, [some a]))) (ha : shp[a]? = some (.inr (0, n))) (v1 : Int32) (σ : Mem) : CV l yX7_fill cX7_fill 2 1 23 [.ref p, .int v1] σ (m_X7_fill a n v1 σ) :=
  cv_of (by decide) (by simp [Value.category]) (by simp) (fun X r hl hX hR hQ hr => a_X7_fill_0 hX hR hQ hr p a n hp ha v1 σ)

set_option maxRecDepth 100000 in
set_option maxHeartbeats 2000000 in
theorem a_X9_member_0 {X : AX} {r0 : Int32 × Mem} (hX : CX X cX9_member 3 RX9) (hR : (aR X).frames = 1 ∧ (aR X).locals = 21 ∧ aCe X ≤ (aR X).cells ∧ aSl X ≤ (aR X).slots) (hQ : QI X r0) (hr : (aMeth X).sig.returnType = (some .int)) (v1 v2 : Int32) (σ : Mem) : AWo X r0 0 [some (.ref 2), some (.int v1), some (.int v2)] [] σ (m_X9_member v1 v2 σ) := by
  unfold m_X9_member
  refine a_ic 3 hX dX9_member_0 (by decide) rfl ?_
  refine a_il2 hX dX9_member_1 rfl ?_
  refine a_callNI hX hR ml_X9_59 (ci_X11_isUpTo _ _ _ _) rfl rfl (by decide) (Nat.le_of_ble_eq_true rfl) rfl dX9_member_2 rfl (fun x1 => ?_)
  refine a_if_eq hX dX9_member_5 rfl rfl ?_ ?_
  · refine a_ic (-1) hX dX9_member_23 (by decide) rfl ?_
    exact a_iret hX hQ hr dX9_member_24
  · refine a_al0 hX dX9_member_8 rfl ?_
    refine a_getR hX fl_X9_32 s_2 rfl dX9_member_9 rfl ?_
    refine a_il1 hX dX9_member_12 rfl ?_
    refine a_ic 4 hX dX9_member_13 (by decide) rfl ?_
    refine a_imul hX dX9_member_14 rfl ?_
    refine a_il2 hX dX9_member_15 rfl ?_
    refine a_iadd hX dX9_member_16 rfl ?_
    refine a_callI hX hR ml_X9_38 (ci_X7_get _ 13 14 24 s_13 s_14 _ _) s_13 rfl rfl rfl (by decide) (Nat.le_of_ble_eq_true rfl) rfl dX9_member_17 rfl (fun x2 => ?_)
    refine a_goto hX dX9_member_20 rfl ?_
    exact a_iret hX hQ hr dX9_member_24

set_option maxRecDepth 100000 in
theorem ci_X9_member (l : Launch) (v1 v2 : Int32) (σ : Mem) : CI l yX9_member cX9_member 3 (some .int) 1 21 [.ref 2, .int v1, .int v2] σ (m_X9_member v1 v2 σ) :=
  ci_of (by decide) (by simp [Value.category]) (by simp) (fun X r hl hX hR hQ hr => a_X9_member_0 hX hR hQ hr v1 v2 σ)

set_option maxRecDepth 100000 in
set_option maxHeartbeats 2000000 in
theorem a_X7_set_0 {X : AX} {r0 : Int32 × Mem} (hX : CX X cX7_set 3 RX7) (hR : (aR X).frames = 0 ∧ (aR X).locals = 0 ∧ aCe X ≤ (aR X).cells ∧ aSl X ≤ (aR X).slots) (hQ : QV X r0) (hr : (aMeth X).sig.returnType = none) (p a n : Nat) (hp : shp[p]? = some (.inl (7, [some a]))) (ha : shp[a]? = some (.inr (0, n))) (v1 v2 : Int32) (σ : Mem) : AWo X r0 0 [some (.ref p), some (.int v1), some (.int v2)] [] σ (m_X7_set a n v1 v2 σ) := by
  unfold m_X7_set
  refine a_il1 hX dX7_set_0 rfl ?_
  refine a_if_lt hX dX7_set_1 rfl rfl ?_ ?_
  · exact a_vret hX hQ hr dX7_set_20
  · refine a_il1 hX dX7_set_4 rfl ?_
    refine a_al0 hX dX7_set_5 rfl ?_
    refine a_getR hX fl_X7_9 hp rfl dX7_set_6 rfl ?_
    refine a_alen (Int32.ofNat n) hX ha (by decide) rfl dX7_set_9 rfl ?_
    refine a_icmp_ge hX dX7_set_10 rfl rfl ?_ ?_
    · exact a_vret hX hQ hr dX7_set_20
    · refine a_al0 hX dX7_set_13 rfl ?_
      refine a_getR hX fl_X7_9 hp rfl dX7_set_14 rfl ?_
      refine a_il1 hX dX7_set_17 rfl ?_
      refine a_il2 hX dX7_set_18 rfl ?_
      refine a_ast hX ha dX7_set_19 rfl (fun m1 => ?_)
      exact a_vret hX hQ hr dX7_set_20

set_option maxRecDepth 100000 in
theorem ci_X7_set (l : Launch) (p a n : Nat) (hp : shp[p]? = some (.inl (7, [some a]))) (ha : shp[a]? = some (.inr (0, n))) (v1 v2 : Int32) (σ : Mem) : CV l yX7_set cX7_set 3 0 0 [.ref p, .int v1, .int v2] σ (m_X7_set a n v1 v2 σ) :=
  cv_of (by decide) (by simp [Value.category]) (by simp) (fun X r hl hX hR hQ hr => a_X7_set_0 hX hR hQ hr p a n hp ha v1 v2 σ)

set_option maxRecDepth 100000 in
set_option maxHeartbeats 2000000 in
theorem a_X0_pickAll_54 {X : AX} {r0 : Int32 × Mem} (hX : CX X cX0_pickAll 7 RX0) (hR : (aR X).frames = 2 ∧ (aR X).locals = 43 ∧ aCe X ≤ (aR X).cells ∧ aSl X ≤ (aR X).slots) (hQ : QI X r0) (hr : (aMeth X).sig.returnType = (some .boolean)) (f5 : Int32 → Int32 → Int32 → Mem → Option (Int32 × Mem)) (hf5 : ∀ (v2 v3 v4 : Int32) (σ : Mem), AWo X r0 5 [some (.ref 81), none, some (.int v2), some (.int v3), some (.int v4), none, none] [] σ (f5 v2 v3 v4 σ)) (v2 v3 v4 v6 : Int32) (σ : Mem) : AWo X r0 54 [some (.ref 81), none, some (.int v2), some (.int v3), some (.int v4), none, some (.int v6)] [] σ (m_X0_pickAll_54 f5 v2 v3 v4 v6 σ) := by
  unfold m_X0_pickAll_54
  refine a_al0 hX dX0_pickAll_54 rfl ?_
  refine a_getR hX fl_X0_33 s_81 rfl dX0_pickAll_55 rfl ?_
  refine a_getR hX fl_X0_64 s_84 rfl dX0_pickAll_58 rfl ?_
  refine a_il4 hX dX0_pickAll_61 rfl ?_
  refine a_il6 hX dX0_pickAll_63 rfl ?_
  refine a_callV hX hR ml_X0_84 (ci_X7_set _ 85 86 6 s_85 s_86 _ _ _) s_85 rfl rfl rfl (by decide) (Nat.le_of_ble_eq_true rfl) rfl dX0_pickAll_65 rfl (fun x1 => ?_)
  refine a_inc4 (-1) hX dX0_pickAll_68 (by decide) rfl ?_
  refine a_goto hX dX0_pickAll_71 rfl ?_
  exact a_sub (hf5 v2 v3 (v4 + (-1)) x1.2) (ls_s (ls_n (ls_s (ls_s (ls_s (ls_n (ls_n ls_0)))))))

set_option maxRecDepth 100000 in
set_option maxHeartbeats 2000000 in
theorem a_X0_pickAll_5 {X : AX} {r0 : Int32 × Mem} (hX : CX X cX0_pickAll 7 RX0) (hR : (aR X).frames = 2 ∧ (aR X).locals = 43 ∧ aCe X ≤ (aR X).cells ∧ aSl X ≤ (aR X).slots) (hQ : QI X r0) (hr : (aMeth X).sig.returnType = (some .boolean)) : ∀ (fuel : Nat) (v2 v3 v4 : Int32) (σ : Mem), AWo X r0 5 [some (.ref 81), none, some (.int v2), some (.int v3), some (.int v4), none, none] [] σ (m_X0_pickAll_5 fuel v2 v3 v4 σ) := by
  intro fuel
  induction fuel with
  | zero => intro v2 v3 v4 σ; exact a_none
  | succ fuel ih =>
    intro v2 v3 v4 σ
    show AWo X r0 5 [some (.ref 81), none, some (.int v2), some (.int v3), some (.int v4), none, none] [] σ (m_X0_pickAll_5 (fuel + 1) v2 v3 v4 σ)
    unfold m_X0_pickAll_5
    refine a_il4 hX dX0_pickAll_5 rfl ?_
    refine a_if_lt hX dX0_pickAll_7 rfl rfl ?_ ?_
    · refine a_ic 1 hX dX0_pickAll_74 (by decide) rfl ?_
      exact a_zret0 (by decide) hX hQ hr dX0_pickAll_75
    · refine a_il3 hX dX0_pickAll_10 rfl ?_
      refine a_ic 5 hX dX0_pickAll_11 (by decide) rfl ?_
      refine a_irem hX dX0_pickAll_12 (by decide) rfl ?_
      refine a_name (fun y1 => ?_)
      refine a_is5 hX dX0_pickAll_13 rfl ?_
      refine a_il3 hX dX0_pickAll_15 rfl ?_
      refine a_ic 5 hX dX0_pickAll_16 (by decide) rfl ?_
      refine a_idiv hX dX0_pickAll_17 (by decide) rfl ?_
      refine a_name (fun y2 => ?_)
      refine a_is3 hX dX0_pickAll_18 rfl ?_
      refine a_al0 hX dX0_pickAll_19 rfl ?_
      refine a_getR hX fl_X0_20 s_81 rfl dX0_pickAll_20 rfl ?_
      refine a_getR hX fl_X0_71 s_1 rfl dX0_pickAll_23 rfl ?_
      refine a_il4 hX dX0_pickAll_26 rfl ?_
      refine a_ic 3 hX dX0_pickAll_28 (by decide) rfl ?_
      refine a_il5 hX dX0_pickAll_29 rfl ?_
      refine a_isub hX dX0_pickAll_31 rfl ?_
      refine a_callI hX hR ml_X0_75 (ci_X9_member _ _ _ _) s_2 rfl rfl rfl (by decide) (Nat.le_of_ble_eq_true rfl) rfl dX0_pickAll_32 rfl (fun x3 => ?_)
      refine a_is6 hX dX0_pickAll_35 rfl ?_
      refine a_il5 hX dX0_pickAll_37 rfl ?_
      refine a_ic 4 hX dX0_pickAll_39 (by decide) rfl ?_
      refine a_icmp_ge hX dX0_pickAll_40 rfl rfl ?_ ?_
      · exact a_sub (a_X0_pickAll_54 hX hR hQ hr (m_X0_pickAll_5 fuel) ih v2 y2 v4 x3.1 x3.2) (ls_s (ls_n (ls_s (ls_s (ls_s (ls_n (ls_s ls_0)))))))
      · refine a_il2 hX dX0_pickAll_43 rfl ?_
        refine a_il6 hX dX0_pickAll_44 rfl ?_
        refine a_callNI hX hR ml_X0_81 (ci_X11_isIn _ _ _ _) rfl rfl (by decide) (Nat.le_of_ble_eq_true rfl) rfl dX0_pickAll_46 rfl (fun x4 => ?_)
        refine a_if_ne hX dX0_pickAll_49 rfl rfl ?_ ?_
        · exact a_sub (a_X0_pickAll_54 hX hR hQ hr (m_X0_pickAll_5 fuel) ih v2 y2 v4 x3.1 x4.2) (ls_s (ls_n (ls_s (ls_s (ls_s (ls_n (ls_s ls_0)))))))
        · refine a_ic 0 hX dX0_pickAll_52 (by decide) rfl ?_
          exact a_zret0 (by decide) hX hQ hr dX0_pickAll_53

set_option maxRecDepth 100000 in
set_option maxHeartbeats 2000000 in
theorem a_X0_pickAll_0 {X : AX} {r0 : Int32 × Mem} (hX : CX X cX0_pickAll 7 RX0) (hR : (aR X).frames = 2 ∧ (aR X).locals = 43 ∧ aCe X ≤ (aR X).cells ∧ aSl X ≤ (aR X).slots) (hQ : QI X r0) (hr : (aMeth X).sig.returnType = (some .boolean)) (v1 v2 : Int32) (σ : Mem) : AWo X r0 0 [some (.ref 81), some (.int v1), some (.int v2), none, none, none, none] [] σ (m_X0_pickAll v1 v2 σ) := by
  unfold m_X0_pickAll
  refine a_il1 hX dX0_pickAll_0 rfl ?_
  refine a_is3 hX dX0_pickAll_1 rfl ?_
  refine a_ic 5 hX dX0_pickAll_2 (by decide) rfl ?_
  refine a_is4 hX dX0_pickAll_3 rfl ?_
  exact a_sub (a_X0_pickAll_5 hX hR hQ hr FU v2 v1 5 (σ)) (ls_s (ls_n (ls_s (ls_s (ls_s (ls_n (ls_n ls_0)))))))

set_option maxRecDepth 100000 in
theorem ci_X0_pickAll (l : Launch) (v1 v2 : Int32) (σ : Mem) : CI l yX0_pickAll cX0_pickAll 7 (some .boolean) 2 43 [.ref 81, .int v1, .int v2] σ (m_X0_pickAll v1 v2 σ) :=
  ci_of (by decide) (by simp [Value.category]) (by simp) (fun X r hl hX hR hQ hr => a_X0_pickAll_0 hX hR hQ hr v1 v2 σ)

set_option maxRecDepth 100000 in
set_option maxHeartbeats 2000000 in
theorem a_X5_changes_5 {X : AX} {r0 : Int32 × Mem} (hX : CX X cX5_changes 6 RX5) (hR : (aR X).frames = 1 ∧ (aR X).locals = 21 ∧ aCe X ≤ (aR X).cells ∧ aSl X ≤ (aR X).slots) (hQ : QI X r0) (hr : (aMeth X).sig.returnType = (some .int)) (p a n : Nat) (hp : shp[p]? = some (.inl (7, [some a]))) (ha : shp[a]? = some (.inr (0, n))) : ∀ (fuel : Nat) (v2 v3 v4 : Int32) (σ : Mem), AWo X r0 5 [some (.ref 66), some (.ref p), some (.int v2), some (.int v3), some (.int v4), none] [] σ (m_X5_changes_5 a n fuel v2 v3 v4 σ) := by
  intro fuel
  induction fuel with
  | zero => intro v2 v3 v4 σ; exact a_none
  | succ fuel ih =>
    intro v2 v3 v4 σ
    show AWo X r0 5 [some (.ref 66), some (.ref p), some (.int v2), some (.int v3), some (.int v4), none] [] σ (m_X5_changes_5 a n (fuel + 1) v2 v3 v4 σ)
    unfold m_X5_changes_5
    refine a_il4 hX dX5_changes_5 rfl ?_
    refine a_il2 hX dX5_changes_7 rfl ?_
    refine a_icmp_gt hX dX5_changes_8 rfl rfl ?_ ?_
    · refine a_il3 hX dX5_changes_63 rfl ?_
      exact a_iret hX hQ hr dX5_changes_64
    · refine a_al0 hX dX5_changes_11 rfl ?_
      refine a_getR hX fl_X5_9 s_66 rfl dX5_changes_12 rfl ?_
      refine a_getR hX fl_X5_31 s_1 rfl dX5_changes_15 rfl ?_
      refine a_il4 hX dX5_changes_18 rfl ?_
      refine a_callI hX hR ml_X5_35 (ci_X7_get _ 56 57 6 s_56 s_57 _ _) s_56 rfl rfl rfl (by decide) (Nat.le_of_ble_eq_true rfl) rfl dX5_changes_20 rfl (fun x1 => ?_)
      refine a_is5 hX dX5_changes_23 rfl ?_
      refine a_il5 hX dX5_changes_25 rfl ?_
      refine a_ic (-1) hX dX5_changes_27 (by decide) rfl ?_
      refine a_icmp_eq hX dX5_changes_28 rfl rfl ?_ ?_
      · refine a_inc4 1 hX dX5_changes_57 (by decide) rfl ?_
        refine a_goto hX dX5_changes_60 rfl ?_
        exact a_sub (ih v2 v3 (v4 + 1) x1.2) (ls_s (ls_s (ls_s (ls_s (ls_s (ls_n ls_0))))))
      · refine a_al0 hX dX5_changes_31 rfl ?_
        refine a_getI hX fl_X5_40 s_66 rfl dX5_changes_32 rfl ?_
        refine a_il4 hX dX5_changes_35 rfl ?_
        refine a_callNI hX hR ml_X5_43 (ci_X11_isIn _ _ _ _) rfl rfl (by decide) (Nat.le_of_ble_eq_true rfl) rfl dX5_changes_37 rfl (fun x2 => ?_)
        refine a_if_ne hX dX5_changes_40 rfl rfl ?_ ?_
        · refine a_inc4 1 hX dX5_changes_57 (by decide) rfl ?_
          refine a_goto hX dX5_changes_60 rfl ?_
          exact a_sub (ih v2 v3 (v4 + 1) x2.2) (ls_s (ls_s (ls_s (ls_s (ls_s (ls_n ls_0))))))
        · refine a_al1 hX dX5_changes_43 rfl ?_
          refine a_il4 hX dX5_changes_44 rfl ?_
          refine a_callI hX hR ml_X5_35 (ci_X7_get _ p a n hp ha _ _) hp rfl rfl rfl (by decide) (Nat.le_of_ble_eq_true rfl) rfl dX5_changes_46 rfl (fun x3 => ?_)
          refine a_il5 hX dX5_changes_49 rfl ?_
          refine a_icmp_eq hX dX5_changes_51 rfl rfl ?_ ?_
          · refine a_inc4 1 hX dX5_changes_57 (by decide) rfl ?_
            refine a_goto hX dX5_changes_60 rfl ?_
            exact a_sub (ih v2 v3 (v4 + 1) x3.2) (ls_s (ls_s (ls_s (ls_s (ls_s (ls_n ls_0))))))
          · refine a_inc3 1 hX dX5_changes_54 (by decide) rfl ?_
            refine a_inc4 1 hX dX5_changes_57 (by decide) rfl ?_
            refine a_goto hX dX5_changes_60 rfl ?_
            exact a_sub (ih v2 (v3 + 1) (v4 + 1) x3.2) (ls_s (ls_s (ls_s (ls_s (ls_s (ls_n ls_0))))))

set_option maxRecDepth 100000 in
set_option maxHeartbeats 2000000 in
theorem a_X5_changes_0 {X : AX} {r0 : Int32 × Mem} (hX : CX X cX5_changes 6 RX5) (hR : (aR X).frames = 1 ∧ (aR X).locals = 21 ∧ aCe X ≤ (aR X).cells ∧ aSl X ≤ (aR X).slots) (hQ : QI X r0) (hr : (aMeth X).sig.returnType = (some .int)) (p a n : Nat) (hp : shp[p]? = some (.inl (7, [some a]))) (ha : shp[a]? = some (.inr (0, n))) (v2 : Int32) (σ : Mem) : AWo X r0 0 [some (.ref 66), some (.ref p), some (.int v2), none, none, none] [] σ (m_X5_changes a n v2 σ) := by
  unfold m_X5_changes
  refine a_ic 0 hX dX5_changes_0 (by decide) rfl ?_
  refine a_is3 hX dX5_changes_1 rfl ?_
  refine a_ic 0 hX dX5_changes_2 (by decide) rfl ?_
  refine a_is4 hX dX5_changes_3 rfl ?_
  exact a_sub (a_X5_changes_5 hX hR hQ hr p a n hp ha FU v2 0 0 (σ)) (ls_s (ls_s (ls_s (ls_s (ls_s (ls_n ls_0))))))

set_option maxRecDepth 100000 in
theorem ci_X5_changes (l : Launch) (p a n : Nat) (hp : shp[p]? = some (.inl (7, [some a]))) (ha : shp[a]? = some (.inr (0, n))) (v2 : Int32) (σ : Mem) : CI l yX5_changes cX5_changes 6 (some .int) 1 21 [.ref 66, .ref p, .int v2] σ (m_X5_changes a n v2 σ) :=
  ci_of (by decide) (by simp [Value.category]) (by simp) (fun X r hl hX hR hQ hr => a_X5_changes_0 hX hR hQ hr p a n hp ha v2 σ)

set_option maxRecDepth 100000 in
set_option maxHeartbeats 2000000 in
theorem a_X5_worth_44 {X : AX} {r0 : Int32 × Mem} (hX : CX X cX5_worth 4 RX5) (hR : (aR X).frames = 1 ∧ (aR X).locals = 21 ∧ aCe X ≤ (aR X).cells ∧ aSl X ≤ (aR X).slots) (hQ : QI X r0) (hr : (aMeth X).sig.returnType = (some .int)) (v2 : Int32) (σ : Mem) : AWo X r0 44 [some (.ref 66), none, some (.int v2), none] [] σ (m_X5_worth_44 v2 σ) := by
  unfold m_X5_worth_44
  refine a_al0 hX dX5_worth_44 rfl ?_
  refine a_getR hX fl_X5_9 s_66 rfl dX5_worth_45 rfl ?_
  refine a_getR hX fl_X5_48 s_1 rfl dX5_worth_48 rfl ?_
  refine a_getR hX fl_X5_52 s_2 rfl dX5_worth_51 rfl ?_
  refine a_il2 hX dX5_worth_54 rfl ?_
  refine a_callI hX hR ml_X5_35 (ci_X7_get _ 5 6 24 s_5 s_6 _ _) s_5 rfl rfl rfl (by decide) (Nat.le_of_ble_eq_true rfl) rfl dX5_worth_55 rfl (fun x1 => ?_)
  exact a_iret hX hQ hr dX5_worth_58

set_option maxRecDepth 100000 in
set_option maxHeartbeats 2000000 in
theorem a_X5_worth_25 {X : AX} {r0 : Int32 × Mem} (hX : CX X cX5_worth 4 RX5) (hR : (aR X).frames = 1 ∧ (aR X).locals = 21 ∧ aCe X ≤ (aR X).cells ∧ aSl X ≤ (aR X).slots) (hQ : QI X r0) (hr : (aMeth X).sig.returnType = (some .int)) (v1 v2 s0 : Int32) (σ : Mem) : AWo X r0 25 [some (.ref 66), some (.int v1), some (.int v2), none] [.int s0] σ (m_X5_worth_25 v1 v2 s0 σ) := by
  unfold m_X5_worth_25
  refine a_is3 hX dX5_worth_25 rfl ?_
  refine a_il3 hX dX5_worth_26 rfl ?_
  refine a_if_eq hX dX5_worth_27 rfl rfl ?_ ?_
  · exact a_sub (a_X5_worth_44 hX hR hQ hr v2 (σ)) (ls_s (ls_n (ls_s (ls_n ls_0))))
  · refine a_al0 hX dX5_worth_30 rfl ?_
    refine a_getI hX fl_X5_40 s_66 rfl dX5_worth_31 rfl ?_
    refine a_il1 hX dX5_worth_34 rfl ?_
    refine a_callNI hX hR ml_X5_43 (ci_X11_isIn _ _ _ _) rfl rfl (by decide) (Nat.le_of_ble_eq_true rfl) rfl dX5_worth_35 rfl (fun x1 => ?_)
    refine a_if_ne hX dX5_worth_38 rfl rfl ?_ ?_
    · exact a_sub (a_X5_worth_44 hX hR hQ hr v2 x1.2) (ls_s (ls_n (ls_s (ls_n ls_0))))
    · refine a_ldc 65536 hX kc_X5_47 dX5_worth_41 rfl ?_
      exact a_iret hX hQ hr dX5_worth_43

set_option maxRecDepth 100000 in
set_option maxHeartbeats 2000000 in
theorem a_X5_worth_24 {X : AX} {r0 : Int32 × Mem} (hX : CX X cX5_worth 4 RX5) (hR : (aR X).frames = 1 ∧ (aR X).locals = 21 ∧ aCe X ≤ (aR X).cells ∧ aSl X ≤ (aR X).slots) (hQ : QI X r0) (hr : (aMeth X).sig.returnType = (some .int)) (v1 v2 : Int32) (σ : Mem) : AWo X r0 24 [some (.ref 66), some (.int v1), some (.int v2), none] [] σ (m_X5_worth_24 v1 v2 σ) := by
  unfold m_X5_worth_24
  refine a_ic 0 hX dX5_worth_24 (by decide) rfl ?_
  exact a_sub (a_X5_worth_25 hX hR hQ hr v1 v2 0 (σ)) (ls_s (ls_s (ls_s (ls_n ls_0))))

set_option maxRecDepth 100000 in
set_option maxHeartbeats 2000000 in
theorem a_X5_worth_0 {X : AX} {r0 : Int32 × Mem} (hX : CX X cX5_worth 4 RX5) (hR : (aR X).frames = 1 ∧ (aR X).locals = 21 ∧ aCe X ≤ (aR X).cells ∧ aSl X ≤ (aR X).slots) (hQ : QI X r0) (hr : (aMeth X).sig.returnType = (some .int)) (v1 v2 : Int32) (σ : Mem) : AWo X r0 0 [some (.ref 66), some (.int v1), some (.int v2), none] [] σ (m_X5_worth v1 v2 σ) := by
  unfold m_X5_worth
  refine a_il2 hX dX5_worth_0 rfl ?_
  refine a_ic (-1) hX dX5_worth_1 (by decide) rfl ?_
  refine a_icmp_eq hX dX5_worth_2 rfl rfl ?_ ?_
  · exact a_sub (a_X5_worth_24 hX hR hQ hr v1 v2 (σ)) (ls_s (ls_s (ls_s (ls_n ls_0))))
  · refine a_al0 hX dX5_worth_5 rfl ?_
    refine a_getR hX fl_X5_9 s_66 rfl dX5_worth_6 rfl ?_
    refine a_getR hX fl_X5_31 s_1 rfl dX5_worth_9 rfl ?_
    refine a_il1 hX dX5_worth_12 rfl ?_
    refine a_callI hX hR ml_X5_35 (ci_X7_get _ 56 57 6 s_56 s_57 _ _) s_56 rfl rfl rfl (by decide) (Nat.le_of_ble_eq_true rfl) rfl dX5_worth_13 rfl (fun x1 => ?_)
    refine a_il2 hX dX5_worth_16 rfl ?_
    refine a_icmp_ne hX dX5_worth_17 rfl rfl ?_ ?_
    · exact a_sub (a_X5_worth_24 hX hR hQ hr v1 v2 x1.2) (ls_s (ls_s (ls_s (ls_n ls_0))))
    · refine a_ic 1 hX dX5_worth_20 (by decide) rfl ?_
      refine a_goto hX dX5_worth_21 rfl ?_
      exact a_sub (a_X5_worth_25 hX hR hQ hr v1 v2 1 x1.2) (ls_s (ls_s (ls_s (ls_n ls_0))))

set_option maxRecDepth 100000 in
theorem ci_X5_worth (l : Launch) (v1 v2 : Int32) (σ : Mem) : CI l yX5_worth cX5_worth 4 (some .int) 1 21 [.ref 66, .int v1, .int v2] σ (m_X5_worth v1 v2 σ) :=
  ci_of (by decide) (by simp [Value.category]) (by simp) (fun X r hl hX hR hQ hr => a_X5_worth_0 hX hR hQ hr v1 v2 σ)

set_option maxRecDepth 100000 in
set_option maxHeartbeats 2000000 in
theorem a_X0_isBetter_47 {X : AX} {r0 : Int32 × Mem} (hX : CX X cX0_isBetter 6 RX0) (hR : (aR X).frames = 2 ∧ (aR X).locals = 46 ∧ aCe X ≤ (aR X).cells ∧ aSl X ≤ (aR X).slots) (hQ : QI X r0) (hr : (aMeth X).sig.returnType = (some .boolean)) : ∀ (fuel : Nat) (v3 : Int32) (σ : Mem), AWo X r0 47 [some (.ref 81), none, none, some (.int v3), none, none] [] σ (m_X0_isBetter_47 fuel v3 σ) := by
  intro fuel
  induction fuel with
  | zero => intro v3 σ; exact a_none
  | succ fuel ih =>
    intro v3 σ
    show AWo X r0 47 [some (.ref 81), none, none, some (.int v3), none, none] [] σ (m_X0_isBetter_47 (fuel + 1) v3 σ)
    unfold m_X0_isBetter_47
    refine a_il3 hX dX0_isBetter_47 rfl ?_
    refine a_bi 6 hX dX0_isBetter_48 (by decide) rfl ?_
    refine a_icmp_ge hX dX0_isBetter_50 rfl rfl ?_ ?_
    · refine a_ic 0 hX dX0_isBetter_118 (by decide) rfl ?_
      exact a_zret0 (by decide) hX hQ hr dX0_isBetter_119
    · refine a_al0 hX dX0_isBetter_53 rfl ?_
      refine a_getR hX fl_X0_24 s_81 rfl dX0_isBetter_54 rfl ?_
      refine a_il3 hX dX0_isBetter_57 rfl ?_
      refine a_al0 hX dX0_isBetter_58 rfl ?_
      refine a_getR hX fl_X0_33 s_81 rfl dX0_isBetter_59 rfl ?_
      refine a_getR hX fl_X0_64 s_84 rfl dX0_isBetter_62 rfl ?_
      refine a_il3 hX dX0_isBetter_65 rfl ?_
      refine a_callI hX hR ml_X0_91 (ci_X7_get _ 85 86 6 s_85 s_86 _ _) s_85 rfl rfl rfl (by decide) (Nat.le_of_ble_eq_true rfl) rfl dX0_isBetter_66 rfl (fun x1 => ?_)
      refine a_callI hX hR ml_X0_95 (ci_X5_worth _ _ _ _) s_66 rfl rfl rfl (by decide) (Nat.le_of_ble_eq_true rfl) rfl dX0_isBetter_69 rfl (fun x2 => ?_)
      refine a_is4 hX dX0_isBetter_72 rfl ?_
      refine a_al0 hX dX0_isBetter_74 rfl ?_
      refine a_getR hX fl_X0_24 s_81 rfl dX0_isBetter_75 rfl ?_
      refine a_il3 hX dX0_isBetter_78 rfl ?_
      refine a_al0 hX dX0_isBetter_79 rfl ?_
      refine a_getR hX fl_X0_14 s_81 rfl dX0_isBetter_80 rfl ?_
      refine a_il3 hX dX0_isBetter_83 rfl ?_
      refine a_callI hX hR ml_X0_91 (ci_X7_get _ 82 83 6 s_82 s_83 _ _) s_82 rfl rfl rfl (by decide) (Nat.le_of_ble_eq_true rfl) rfl dX0_isBetter_84 rfl (fun x3 => ?_)
      refine a_callI hX hR ml_X0_95 (ci_X5_worth _ _ _ _) s_66 rfl rfl rfl (by decide) (Nat.le_of_ble_eq_true rfl) rfl dX0_isBetter_87 rfl (fun x4 => ?_)
      refine a_is5 hX dX0_isBetter_90 rfl ?_
      refine a_il4 hX dX0_isBetter_92 rfl ?_
      refine a_il5 hX dX0_isBetter_94 rfl ?_
      refine a_icmp_eq hX dX0_isBetter_96 rfl rfl ?_ ?_
      · refine a_inc3 1 hX dX0_isBetter_112 (by decide) rfl ?_
        refine a_goto hX dX0_isBetter_115 rfl ?_
        exact a_sub (ih (v3 + 1) x4.2) (ls_s (ls_n (ls_n (ls_s (ls_n (ls_n ls_0))))))
      · refine a_il4 hX dX0_isBetter_99 rfl ?_
        refine a_il5 hX dX0_isBetter_101 rfl ?_
        refine a_icmp_le hX dX0_isBetter_103 rfl rfl ?_ ?_
        · refine a_ic 0 hX dX0_isBetter_110 (by decide) rfl ?_
          exact a_zret0 (by decide) hX hQ hr dX0_isBetter_111
        · refine a_ic 1 hX dX0_isBetter_106 (by decide) rfl ?_
          refine a_goto hX dX0_isBetter_107 rfl ?_
          exact a_zret0 (by decide) hX hQ hr dX0_isBetter_111

set_option maxRecDepth 100000 in
set_option maxHeartbeats 2000000 in
theorem a_X0_isBetter_0 {X : AX} {r0 : Int32 × Mem} (hX : CX X cX0_isBetter 6 RX0) (hR : (aR X).frames = 2 ∧ (aR X).locals = 46 ∧ aCe X ≤ (aR X).cells ∧ aSl X ≤ (aR X).slots) (hQ : QI X r0) (hr : (aMeth X).sig.returnType = (some .boolean)) (σ : Mem) : AWo X r0 0 [some (.ref 81), none, none, none, none, none] [] σ (m_X0_isBetter  σ) := by
  unfold m_X0_isBetter
  refine a_al0 hX dX0_isBetter_0 rfl ?_
  refine a_getR hX fl_X0_24 s_81 rfl dX0_isBetter_1 rfl ?_
  refine a_al0 hX dX0_isBetter_4 rfl ?_
  refine a_getR hX fl_X0_33 s_81 rfl dX0_isBetter_5 rfl ?_
  refine a_getR hX fl_X0_64 s_84 rfl dX0_isBetter_8 rfl ?_
  refine a_ic 5 hX dX0_isBetter_11 (by decide) rfl ?_
  refine a_callI hX hR ml_X0_87 (ci_X5_changes _ 85 86 6 s_85 s_86 _ _) s_66 rfl rfl rfl (by decide) (Nat.le_of_ble_eq_true rfl) rfl dX0_isBetter_12 rfl (fun x1 => ?_)
  refine a_is1 hX dX0_isBetter_15 rfl ?_
  refine a_al0 hX dX0_isBetter_16 rfl ?_
  refine a_getR hX fl_X0_24 s_81 rfl dX0_isBetter_17 rfl ?_
  refine a_al0 hX dX0_isBetter_20 rfl ?_
  refine a_getR hX fl_X0_14 s_81 rfl dX0_isBetter_21 rfl ?_
  refine a_ic 5 hX dX0_isBetter_24 (by decide) rfl ?_
  refine a_callI hX hR ml_X0_87 (ci_X5_changes _ 82 83 6 s_82 s_83 _ _) s_66 rfl rfl rfl (by decide) (Nat.le_of_ble_eq_true rfl) rfl dX0_isBetter_25 rfl (fun x2 => ?_)
  refine a_is2 hX dX0_isBetter_28 rfl ?_
  refine a_il1 hX dX0_isBetter_29 rfl ?_
  refine a_il2 hX dX0_isBetter_30 rfl ?_
  refine a_icmp_eq hX dX0_isBetter_31 rfl rfl ?_ ?_
  · refine a_ic 0 hX dX0_isBetter_45 (by decide) rfl ?_
    refine a_is3 hX dX0_isBetter_46 rfl ?_
    exact a_sub (a_X0_isBetter_47 hX hR hQ hr FU 0 x2.2) (ls_s (ls_n (ls_n (ls_s (ls_n (ls_n ls_0))))))
  · refine a_il1 hX dX0_isBetter_34 rfl ?_
    refine a_il2 hX dX0_isBetter_35 rfl ?_
    refine a_icmp_ge hX dX0_isBetter_36 rfl rfl ?_ ?_
    · refine a_ic 0 hX dX0_isBetter_43 (by decide) rfl ?_
      exact a_zret0 (by decide) hX hQ hr dX0_isBetter_44
    · refine a_ic 1 hX dX0_isBetter_39 (by decide) rfl ?_
      refine a_goto hX dX0_isBetter_40 rfl ?_
      exact a_zret0 (by decide) hX hQ hr dX0_isBetter_44

set_option maxRecDepth 100000 in
theorem ci_X0_isBetter (l : Launch) (σ : Mem) : CI l yX0_isBetter cX0_isBetter 6 (some .boolean) 2 46 [.ref 81] σ (m_X0_isBetter  σ) :=
  ci_of (by decide) (by simp [Value.category]) (by simp) (fun X r hl hX hR hQ hr => a_X0_isBetter_0 hX hR hQ hr σ)

set_option maxRecDepth 100000 in
set_option maxHeartbeats 2000000 in
theorem a_X10_targetOfDemand_0 {X : AX} {r0 : Int32 × Mem} (hX : CX X cX10_targetOfDemand 2 RX10) (hR : (aR X).frames = 1 ∧ (aR X).locals = 21 ∧ aCe X ≤ (aR X).cells ∧ aSl X ≤ (aR X).slots) (hQ : QI X r0) (hr : (aMeth X).sig.returnType = (some .int)) (v1 : Int32) (σ : Mem) : AWo X r0 0 [some (.ref 1), some (.int v1)] [] σ (m_X10_targetOfDemand v1 σ) := by
  unfold m_X10_targetOfDemand
  refine a_al0 hX dX10_targetOfDemand_0 rfl ?_
  refine a_getR hX fl_X10_57 s_1 rfl dX10_targetOfDemand_1 rfl ?_
  refine a_al0 hX dX10_targetOfDemand_4 rfl ?_
  refine a_getR hX fl_X10_35 s_1 rfl dX10_targetOfDemand_5 rfl ?_
  refine a_getR hX fl_X10_113 s_47 rfl dX10_targetOfDemand_8 rfl ?_
  refine a_il1 hX dX10_targetOfDemand_11 rfl ?_
  refine a_callI hX hR ml_X10_70 (ci_X7_get _ 50 51 6 s_50 s_51 _ _) s_50 rfl rfl rfl (by decide) (Nat.le_of_ble_eq_true rfl) rfl dX10_targetOfDemand_12 rfl (fun x1 => ?_)
  refine a_callI hX hR ml_X10_70 (ci_X7_get _ 64 65 6 s_64 s_65 _ _) s_64 rfl rfl rfl (by decide) (Nat.le_of_ble_eq_true rfl) rfl dX10_targetOfDemand_15 rfl (fun x2 => ?_)
  exact a_iret hX hQ hr dX10_targetOfDemand_18

set_option maxRecDepth 100000 in
theorem ci_X10_targetOfDemand (l : Launch) (v1 : Int32) (σ : Mem) : CI l yX10_targetOfDemand cX10_targetOfDemand 2 (some .int) 1 21 [.ref 1, .int v1] σ (m_X10_targetOfDemand v1 σ) :=
  ci_of (by decide) (by simp [Value.category]) (by simp) (fun X r hl hX hR hQ hr => a_X10_targetOfDemand_0 hX hR hQ hr v1 σ)

set_option maxRecDepth 100000 in
set_option maxHeartbeats 2000000 in
theorem a_X1_meets_2 {X : AX} {r0 : Int32 × Mem} (hX : CX X cX1_meets 4 RX1) (hR : (aR X).frames = 2 ∧ (aR X).locals = 43 ∧ aCe X ≤ (aR X).cells ∧ aSl X ≤ (aR X).slots) (hQ : QI X r0) (hr : (aMeth X).sig.returnType = (some .boolean)) (c pk pa on oa : Nat) (hc : shp[c]? = some (.inl (1, [some 1, some pk, some on]))) (hpk : shp[pk]? = some (.inl (7, [some pa]))) (hpa : shp[pa]? = some (.inr (0, 6))) (hon : shp[on]? = some (.inl (7, [some oa]))) (hoa : shp[oa]? = some (.inr (0, 6))) : ∀ (fuel : Nat) (v1 v2 : Int32) (σ : Mem), AWo X r0 2 [some (.ref c), some (.int v1), some (.int v2), none] [] σ (m_X1_meets_2 pa oa fuel v1 v2 σ) := by
  intro fuel
  induction fuel with
  | zero => intro v1 v2 σ; exact a_none
  | succ fuel ih =>
    intro v1 v2 σ
    show AWo X r0 2 [some (.ref c), some (.int v1), some (.int v2), none] [] σ (m_X1_meets_2 pa oa (fuel + 1) v1 v2 σ)
    unfold m_X1_meets_2
    refine a_il2 hX dX1_meets_2 rfl ?_
    refine a_al0 hX dX1_meets_3 rfl ?_
    refine a_getR hX fl_X1_23 hc rfl dX1_meets_4 rfl ?_
    refine a_getR hX fl_X1_41 s_1 rfl dX1_meets_7 rfl ?_
    refine a_getI hX fl_X1_47 s_47 rfl dX1_meets_10 rfl ?_
    refine a_icmp_ge hX dX1_meets_13 rfl rfl ?_ ?_
    · refine a_ic 1 hX dX1_meets_76 (by decide) rfl ?_
      exact a_zret0 (by decide) hX hQ hr dX1_meets_77
    · refine a_al0 hX dX1_meets_16 rfl ?_
      refine a_getR hX fl_X1_14 hc rfl dX1_meets_17 rfl ?_
      refine a_al0 hX dX1_meets_20 rfl ?_
      refine a_getR hX fl_X1_23 hc rfl dX1_meets_21 rfl ?_
      refine a_il2 hX dX1_meets_24 rfl ?_
      refine a_callI hX hR ml_X1_53 (ci_X10_targetOfDemand _ _ _) s_1 rfl rfl rfl (by decide) (Nat.le_of_ble_eq_true rfl) rfl dX1_meets_25 rfl (fun x1 => ?_)
      refine a_callI hX hR ml_X1_57 (ci_X7_get _ pk pa 6 hpk hpa _ _) hpk rfl rfl rfl (by decide) (Nat.le_of_ble_eq_true rfl) rfl dX1_meets_28 rfl (fun x2 => ?_)
      refine a_is3 hX dX1_meets_31 rfl ?_
      refine a_il1 hX dX1_meets_32 rfl ?_
      refine a_il2 hX dX1_meets_33 rfl ?_
      refine a_callNI hX hR ml_X1_60 (ci_X11_isIn _ _ _ _) rfl rfl (by decide) (Nat.le_of_ble_eq_true rfl) rfl dX1_meets_34 rfl (fun x3 => ?_)
      refine a_if_eq hX dX1_meets_37 rfl rfl ?_ ?_
      · refine a_inc2 1 hX dX1_meets_70 (by decide) rfl ?_
        refine a_goto hX dX1_meets_73 rfl ?_
        exact a_sub (ih v1 (v2 + 1) x3.2) (ls_s (ls_s (ls_s (ls_n ls_0))))
      · refine a_al0 hX dX1_meets_40 rfl ?_
        refine a_getR hX fl_X1_23 hc rfl dX1_meets_41 rfl ?_
        refine a_getR hX fl_X1_64 s_1 rfl dX1_meets_44 rfl ?_
        refine a_al0 hX dX1_meets_47 rfl ?_
        refine a_getR hX fl_X1_23 hc rfl dX1_meets_48 rfl ?_
        refine a_getR hX fl_X1_41 s_1 rfl dX1_meets_51 rfl ?_
        refine a_getR hX fl_X1_68 s_47 rfl dX1_meets_54 rfl ?_
        refine a_il2 hX dX1_meets_57 rfl ?_
        refine a_callI hX hR ml_X1_57 (ci_X7_get _ 52 53 6 s_52 s_53 _ _) s_52 rfl rfl rfl (by decide) (Nat.le_of_ble_eq_true rfl) rfl dX1_meets_58 rfl (fun x4 => ?_)
        refine a_il3 hX dX1_meets_61 rfl ?_
        refine a_callI hX hR ml_X1_70 (ci_X6_holds _ _ _ _) s_17 rfl rfl rfl (by decide) (Nat.le_of_ble_eq_true rfl) rfl dX1_meets_62 rfl (fun x5 => ?_)
        refine a_if_ne hX dX1_meets_65 rfl rfl ?_ ?_
        · refine a_inc2 1 hX dX1_meets_70 (by decide) rfl ?_
          refine a_goto hX dX1_meets_73 rfl ?_
          exact a_sub (ih v1 (v2 + 1) x5.2) (ls_s (ls_s (ls_s (ls_n ls_0))))
        · refine a_ic 0 hX dX1_meets_68 (by decide) rfl ?_
          exact a_zret0 (by decide) hX hQ hr dX1_meets_69

set_option maxRecDepth 100000 in
set_option maxHeartbeats 2000000 in
theorem a_X1_meets_0 {X : AX} {r0 : Int32 × Mem} (hX : CX X cX1_meets 4 RX1) (hR : (aR X).frames = 2 ∧ (aR X).locals = 43 ∧ aCe X ≤ (aR X).cells ∧ aSl X ≤ (aR X).slots) (hQ : QI X r0) (hr : (aMeth X).sig.returnType = (some .boolean)) (c pk pa on oa : Nat) (hc : shp[c]? = some (.inl (1, [some 1, some pk, some on]))) (hpk : shp[pk]? = some (.inl (7, [some pa]))) (hpa : shp[pa]? = some (.inr (0, 6))) (hon : shp[on]? = some (.inl (7, [some oa]))) (hoa : shp[oa]? = some (.inr (0, 6))) (v1 : Int32) (σ : Mem) : AWo X r0 0 [some (.ref c), some (.int v1), none, none] [] σ (m_X1_meets pa oa v1 σ) := by
  unfold m_X1_meets
  refine a_ic 0 hX dX1_meets_0 (by decide) rfl ?_
  refine a_is2 hX dX1_meets_1 rfl ?_
  exact a_sub (a_X1_meets_2 hX hR hQ hr c pk pa on oa hc hpk hpa hon hoa FU v1 0 (σ)) (ls_s (ls_s (ls_s (ls_n ls_0))))

set_option maxRecDepth 100000 in
theorem ci_X1_meets (l : Launch) (c pk pa on oa : Nat) (hc : shp[c]? = some (.inl (1, [some 1, some pk, some on]))) (hpk : shp[pk]? = some (.inl (7, [some pa]))) (hpa : shp[pa]? = some (.inr (0, 6))) (hon : shp[on]? = some (.inl (7, [some oa]))) (hoa : shp[oa]? = some (.inr (0, 6))) (v1 : Int32) (σ : Mem) : CI l yX1_meets cX1_meets 4 (some .boolean) 2 43 [.ref c, .int v1] σ (m_X1_meets pa oa v1 σ) :=
  ci_of (by decide) (by simp [Value.category]) (by simp) (fun X r hl hX hR hQ hr => a_X1_meets_0 hX hR hQ hr c pk pa on oa hc hpk hpa hon hoa v1 σ)

set_option maxRecDepth 100000 in
set_option maxHeartbeats 2000000 in
theorem a_X7_merge_0 {X : AX} {r0 : Int32 × Mem} (hX : CX X cX7_merge 4 RX7) (hR : (aR X).frames = 0 ∧ (aR X).locals = 0 ∧ aCe X ≤ (aR X).cells ∧ aSl X ≤ (aR X).slots) (hQ : QI X r0) (hr : (aMeth X).sig.returnType = (some .boolean)) (p a n : Nat) (hp : shp[p]? = some (.inl (7, [some a]))) (ha : shp[a]? = some (.inr (0, n))) (v1 v2 : Int32) (σ : Mem) : AWo X r0 0 [some (.ref p), some (.int v1), some (.int v2), none] [] σ (m_X7_merge a n v1 v2 σ) := by
  unfold m_X7_merge
  refine a_il1 hX dX7_merge_0 rfl ?_
  refine a_if_lt hX dX7_merge_1 rfl rfl ?_ ?_
  · refine a_ic 0 hX dX7_merge_13 (by decide) rfl ?_
    exact a_zret0 (by decide) hX hQ hr dX7_merge_14
  · refine a_il1 hX dX7_merge_4 rfl ?_
    refine a_al0 hX dX7_merge_5 rfl ?_
    refine a_getR hX fl_X7_9 hp rfl dX7_merge_6 rfl ?_
    refine a_alen (Int32.ofNat n) hX ha (by decide) rfl dX7_merge_9 rfl ?_
    refine a_icmp_lt hX dX7_merge_10 rfl rfl ?_ ?_
    · refine a_al0 hX dX7_merge_15 rfl ?_
      refine a_getR hX fl_X7_9 hp rfl dX7_merge_16 rfl ?_
      refine a_il1 hX dX7_merge_19 rfl ?_
      refine a_ald hX ha dX7_merge_20 rfl (fun x1 => ?_)
      refine a_is3 hX dX7_merge_21 rfl ?_
      refine a_al0 hX dX7_merge_22 rfl ?_
      refine a_getR hX fl_X7_9 hp rfl dX7_merge_23 rfl ?_
      refine a_il1 hX dX7_merge_26 rfl ?_
      refine a_il3 hX dX7_merge_27 rfl ?_
      refine a_il2 hX dX7_merge_28 rfl ?_
      refine a_ior hX dX7_merge_29 rfl ?_
      refine a_ast hX ha dX7_merge_30 rfl (fun m2 => ?_)
      refine a_al0 hX dX7_merge_31 rfl ?_
      refine a_getR hX fl_X7_9 hp rfl dX7_merge_32 rfl ?_
      refine a_il1 hX dX7_merge_35 rfl ?_
      refine a_ald hX ha dX7_merge_36 rfl (fun x3 => ?_)
      refine a_il3 hX dX7_merge_37 rfl ?_
      refine a_icmp_eq hX dX7_merge_38 rfl rfl ?_ ?_
      · refine a_ic 0 hX dX7_merge_45 (by decide) rfl ?_
        exact a_zret0 (by decide) hX hQ hr dX7_merge_46
      · refine a_ic 1 hX dX7_merge_41 (by decide) rfl ?_
        refine a_goto hX dX7_merge_42 rfl ?_
        exact a_zret0 (by decide) hX hQ hr dX7_merge_46
    · refine a_ic 0 hX dX7_merge_13 (by decide) rfl ?_
      exact a_zret0 (by decide) hX hQ hr dX7_merge_14

set_option maxRecDepth 100000 in
theorem ci_X7_merge (l : Launch) (p a n : Nat) (hp : shp[p]? = some (.inl (7, [some a]))) (ha : shp[a]? = some (.inr (0, n))) (v1 v2 : Int32) (σ : Mem) : CI l yX7_merge cX7_merge 4 (some .boolean) 0 0 [.ref p, .int v1, .int v2] σ (m_X7_merge a n v1 v2 σ) :=
  ci_of (by decide) (by simp [Value.category]) (by simp) (fun X r hl hX hR hQ hr => a_X7_merge_0 hX hR hQ hr p a n hp ha v1 v2 σ)

set_option maxRecDepth 100000 in
set_option maxHeartbeats 2000000 in
theorem a_X9_broughtBy_5 {X : AX} {r0 : Int32 × Mem} (hX : CX X cX9_broughtBy 5 RX9) (hR : (aR X).frames = 1 ∧ (aR X).locals = 21 ∧ aCe X ≤ (aR X).cells ∧ aSl X ≤ (aR X).slots) (hQ : QI X r0) (hr : (aMeth X).sig.returnType = (some .int)) : ∀ (fuel : Nat) (v1 v2 v3 v4 : Int32) (σ : Mem), AWo X r0 5 [some (.ref 2), some (.int v1), some (.int v2), some (.int v3), some (.int v4)] [] σ (m_X9_broughtBy_5 fuel v1 v2 v3 v4 σ) := by
  intro fuel
  induction fuel with
  | zero => intro v1 v2 v3 v4 σ; exact a_none
  | succ fuel ih =>
    intro v1 v2 v3 v4 σ
    show AWo X r0 5 [some (.ref 2), some (.int v1), some (.int v2), some (.int v3), some (.int v4)] [] σ (m_X9_broughtBy_5 (fuel + 1) v1 v2 v3 v4 σ)
    unfold m_X9_broughtBy_5
    refine a_il4 hX dX9_broughtBy_5 rfl ?_
    refine a_ic 3 hX dX9_broughtBy_7 (by decide) rfl ?_
    refine a_icmp_ge hX dX9_broughtBy_8 rfl rfl ?_ ?_
    · refine a_il3 hX dX9_broughtBy_42 rfl ?_
      exact a_iret hX hQ hr dX9_broughtBy_43
    · refine a_il2 hX dX9_broughtBy_11 rfl ?_
      refine a_il4 hX dX9_broughtBy_12 rfl ?_
      refine a_callNI hX hR ml_X9_70 (ci_X11_isIn _ _ _ _) rfl rfl (by decide) (Nat.le_of_ble_eq_true rfl) rfl dX9_broughtBy_14 rfl (fun x1 => ?_)
      refine a_if_eq hX dX9_broughtBy_17 rfl rfl ?_ ?_
      · refine a_inc4 1 hX dX9_broughtBy_36 (by decide) rfl ?_
        refine a_goto hX dX9_broughtBy_39 rfl ?_
        exact a_sub (ih v1 v2 v3 (v4 + 1) x1.2) (ls_s (ls_s (ls_s (ls_s (ls_s ls_0)))))
      · refine a_il3 hX dX9_broughtBy_20 rfl ?_
        refine a_al0 hX dX9_broughtBy_21 rfl ?_
        refine a_getR hX fl_X9_29 s_2 rfl dX9_broughtBy_22 rfl ?_
        refine a_il1 hX dX9_broughtBy_25 rfl ?_
        refine a_ic 3 hX dX9_broughtBy_26 (by decide) rfl ?_
        refine a_imul hX dX9_broughtBy_27 rfl ?_
        refine a_il4 hX dX9_broughtBy_28 rfl ?_
        refine a_iadd hX dX9_broughtBy_30 rfl ?_
        refine a_callI hX hR ml_X9_38 (ci_X7_get _ 11 12 72 s_11 s_12 _ _) s_11 rfl rfl rfl (by decide) (Nat.le_of_ble_eq_true rfl) rfl dX9_broughtBy_31 rfl (fun x2 => ?_)
        refine a_ior hX dX9_broughtBy_34 rfl ?_
        refine a_name (fun y3 => ?_)
        refine a_is3 hX dX9_broughtBy_35 rfl ?_
        refine a_inc4 1 hX dX9_broughtBy_36 (by decide) rfl ?_
        refine a_goto hX dX9_broughtBy_39 rfl ?_
        exact a_sub (ih v1 v2 y3 (v4 + 1) x2.2) (ls_s (ls_s (ls_s (ls_s (ls_s ls_0)))))

set_option maxRecDepth 100000 in
set_option maxHeartbeats 2000000 in
theorem a_X9_broughtBy_0 {X : AX} {r0 : Int32 × Mem} (hX : CX X cX9_broughtBy 5 RX9) (hR : (aR X).frames = 1 ∧ (aR X).locals = 21 ∧ aCe X ≤ (aR X).cells ∧ aSl X ≤ (aR X).slots) (hQ : QI X r0) (hr : (aMeth X).sig.returnType = (some .int)) (v1 v2 : Int32) (σ : Mem) : AWo X r0 0 [some (.ref 2), some (.int v1), some (.int v2), none, none] [] σ (m_X9_broughtBy v1 v2 σ) := by
  unfold m_X9_broughtBy
  refine a_ic 0 hX dX9_broughtBy_0 (by decide) rfl ?_
  refine a_is3 hX dX9_broughtBy_1 rfl ?_
  refine a_ic 0 hX dX9_broughtBy_2 (by decide) rfl ?_
  refine a_is4 hX dX9_broughtBy_3 rfl ?_
  exact a_sub (a_X9_broughtBy_5 hX hR hQ hr FU v1 v2 0 0 (σ)) (ls_s (ls_s (ls_s (ls_s (ls_s ls_0)))))

set_option maxRecDepth 100000 in
theorem ci_X9_broughtBy (l : Launch) (v1 v2 : Int32) (σ : Mem) : CI l yX9_broughtBy cX9_broughtBy 5 (some .int) 1 21 [.ref 2, .int v1, .int v2] σ (m_X9_broughtBy v1 v2 σ) :=
  ci_of (by decide) (by simp [Value.category]) (by simp) (fun X r hl hX hR hQ hr => a_X9_broughtBy_0 hX hR hQ hr v1 v2 σ)

set_option maxRecDepth 100000 in
set_option maxHeartbeats 2000000 in
theorem a_X4_end_0 {X : AX} {r0 : Int32 × Mem} (hX : CX X cX4_end 2 RX4) (hR : (aR X).frames = 1 ∧ (aR X).locals = 21 ∧ aCe X ≤ (aR X).cells ∧ aSl X ≤ (aR X).slots) (hQ : QI X r0) (hr : (aMeth X).sig.returnType = (some .int)) (v1 : Int32) (σ : Mem) : AWo X r0 0 [some (.ref 32), some (.int v1)] [] σ (m_X4_end v1 σ) := by
  unfold m_X4_end
  refine a_il1 hX dX4_end_0 rfl ?_
  refine a_ic 5 hX dX4_end_1 (by decide) rfl ?_
  refine a_imul hX dX4_end_2 rfl ?_
  refine a_al0 hX dX4_end_3 rfl ?_
  refine a_getR hX fl_X4_35 s_32 rfl dX4_end_4 rfl ?_
  refine a_il1 hX dX4_end_7 rfl ?_
  refine a_callI hX hR ml_X4_38 (ci_X7_get _ 45 46 24 s_45 s_46 _ _) s_45 rfl rfl rfl (by decide) (Nat.le_of_ble_eq_true rfl) rfl dX4_end_8 rfl (fun x1 => ?_)
  refine a_iadd hX dX4_end_11 rfl ?_
  exact a_iret hX hQ hr dX4_end_12

set_option maxRecDepth 100000 in
theorem ci_X4_end (l : Launch) (v1 : Int32) (σ : Mem) : CI l yX4_end cX4_end 2 (some .int) 1 21 [.ref 32, .int v1] σ (m_X4_end v1 σ) :=
  ci_of (by decide) (by simp [Value.category]) (by simp) (fun X r hl hX hR hQ hr => a_X4_end_0 hX hR hQ hr v1 σ)

set_option maxRecDepth 100000 in
set_option maxHeartbeats 2000000 in
theorem a_X4_first_0 {X : AX} {r0 : Int32 × Mem} (hX : CX X cX4_first 2 RX4) (hR : (aR X).frames = 0 ∧ (aR X).locals = 0 ∧ aCe X ≤ (aR X).cells ∧ aSl X ≤ (aR X).slots) (hQ : QI X r0) (hr : (aMeth X).sig.returnType = (some .int)) (v1 : Int32) (σ : Mem) : AWo X r0 0 [some (.ref 32), some (.int v1)] [] σ (m_X4_first v1 σ) := by
  unfold m_X4_first
  refine a_il1 hX dX4_first_0 rfl ?_
  refine a_ic 5 hX dX4_first_1 (by decide) rfl ?_
  refine a_imul hX dX4_first_2 rfl ?_
  exact a_iret hX hQ hr dX4_first_3

set_option maxRecDepth 100000 in
theorem ci_X4_first (l : Launch) (v1 : Int32) (σ : Mem) : CI l yX4_first cX4_first 2 (some .int) 0 0 [.ref 32, .int v1] σ (m_X4_first v1 σ) :=
  ci_of (by decide) (by simp [Value.category]) (by simp) (fun X r hl hX hR hQ hr => a_X4_first_0 hX hR hQ hr v1 σ)

set_option maxRecDepth 100000 in
set_option maxHeartbeats 2000000 in
theorem a_X10_counts_0 {X : AX} {r0 : Int32 × Mem} (hX : CX X cX10_counts 4 RX10) (hR : (aR X).frames = 1 ∧ (aR X).locals = 21 ∧ aCe X ≤ (aR X).cells ∧ aSl X ≤ (aR X).slots) (hQ : QI X r0) (hr : (aMeth X).sig.returnType = (some .boolean)) (v1 v2 : Int32) (σ : Mem) : AWo X r0 0 [some (.ref 1), some (.int v1), some (.int v2), none] [] σ (m_X10_counts v1 v2 σ) := by
  unfold m_X10_counts
  refine a_al0 hX dX10_counts_0 rfl ?_
  refine a_getR hX fl_X10_28 s_1 rfl dX10_counts_1 rfl ?_
  refine a_getR hX fl_X10_117 s_32 rfl dX10_counts_4 rfl ?_
  refine a_il1 hX dX10_counts_7 rfl ?_
  refine a_callI hX hR ml_X10_70 (ci_X7_get _ 39 40 120 s_39 s_40 _ _) s_39 rfl rfl rfl (by decide) (Nat.le_of_ble_eq_true rfl) rfl dX10_counts_8 rfl (fun x1 => ?_)
  refine a_is3 hX dX10_counts_11 rfl ?_
  refine a_al0 hX dX10_counts_12 rfl ?_
  refine a_getR hX fl_X10_28 s_1 rfl dX10_counts_13 rfl ?_
  refine a_getR hX fl_X10_120 s_32 rfl dX10_counts_16 rfl ?_
  refine a_il1 hX dX10_counts_19 rfl ?_
  refine a_callI hX hR ml_X10_70 (ci_X7_get _ 41 42 120 s_41 s_42 _ _) s_41 rfl rfl rfl (by decide) (Nat.le_of_ble_eq_true rfl) rfl dX10_counts_20 rfl (fun x2 => ?_)
  refine a_al0 hX dX10_counts_23 rfl ?_
  refine a_getI hX fl_X10_84 s_1 rfl dX10_counts_24 rfl ?_
  refine a_callNI hX hR ml_X10_87 (ci_X11_isIn _ _ _ _) rfl rfl (by decide) (Nat.le_of_ble_eq_true rfl) rfl dX10_counts_27 rfl (fun x3 => ?_)
  refine a_if_eq hX dX10_counts_30 rfl rfl ?_ ?_
  · refine a_ic 0 hX dX10_counts_50 (by decide) rfl ?_
    exact a_zret0 (by decide) hX hQ hr dX10_counts_51
  · refine a_il3 hX dX10_counts_33 rfl ?_
    refine a_ic (-1) hX dX10_counts_34 (by decide) rfl ?_
    refine a_icmp_eq hX dX10_counts_35 rfl rfl ?_ ?_
    · refine a_ic 1 hX dX10_counts_46 (by decide) rfl ?_
      refine a_goto hX dX10_counts_47 rfl ?_
      exact a_zret0 (by decide) hX hQ hr dX10_counts_51
    · refine a_il2 hX dX10_counts_38 rfl ?_
      refine a_il3 hX dX10_counts_39 rfl ?_
      refine a_callNI hX hR ml_X10_87 (ci_X11_isIn _ _ _ _) rfl rfl (by decide) (Nat.le_of_ble_eq_true rfl) rfl dX10_counts_40 rfl (fun x4 => ?_)
      refine a_if_eq hX dX10_counts_43 rfl rfl ?_ ?_
      · refine a_ic 0 hX dX10_counts_50 (by decide) rfl ?_
        exact a_zret0 (by decide) hX hQ hr dX10_counts_51
      · refine a_ic 1 hX dX10_counts_46 (by decide) rfl ?_
        refine a_goto hX dX10_counts_47 rfl ?_
        exact a_zret0 (by decide) hX hQ hr dX10_counts_51

set_option maxRecDepth 100000 in
theorem ci_X10_counts (l : Launch) (v1 v2 : Int32) (σ : Mem) : CI l yX10_counts cX10_counts 4 (some .boolean) 1 21 [.ref 1, .int v1, .int v2] σ (m_X10_counts v1 v2 σ) :=
  ci_of (by decide) (by simp [Value.category]) (by simp) (fun X r hl hX hR hQ hr => a_X10_counts_0 hX hR hQ hr v1 v2 σ)

set_option maxRecDepth 100000 in
set_option maxHeartbeats 2000000 in
theorem a_X10_targetOfNeed_0 {X : AX} {r0 : Int32 × Mem} (hX : CX X cX10_targetOfNeed 2 RX10) (hR : (aR X).frames = 1 ∧ (aR X).locals = 21 ∧ aCe X ≤ (aR X).cells ∧ aSl X ≤ (aR X).slots) (hQ : QI X r0) (hr : (aMeth X).sig.returnType = (some .int)) (v1 : Int32) (σ : Mem) : AWo X r0 0 [some (.ref 1), some (.int v1)] [] σ (m_X10_targetOfNeed v1 σ) := by
  unfold m_X10_targetOfNeed
  refine a_al0 hX dX10_targetOfNeed_0 rfl ?_
  refine a_getR hX fl_X10_57 s_1 rfl dX10_targetOfNeed_1 rfl ?_
  refine a_al0 hX dX10_targetOfNeed_4 rfl ?_
  refine a_getR hX fl_X10_28 s_1 rfl dX10_targetOfNeed_5 rfl ?_
  refine a_getR hX fl_X10_116 s_32 rfl dX10_targetOfNeed_8 rfl ?_
  refine a_il1 hX dX10_targetOfNeed_11 rfl ?_
  refine a_callI hX hR ml_X10_70 (ci_X7_get _ 33 34 120 s_33 s_34 _ _) s_33 rfl rfl rfl (by decide) (Nat.le_of_ble_eq_true rfl) rfl dX10_targetOfNeed_12 rfl (fun x1 => ?_)
  refine a_callI hX hR ml_X10_70 (ci_X7_get _ 64 65 6 s_64 s_65 _ _) s_64 rfl rfl rfl (by decide) (Nat.le_of_ble_eq_true rfl) rfl dX10_targetOfNeed_15 rfl (fun x2 => ?_)
  exact a_iret hX hQ hr dX10_targetOfNeed_18

set_option maxRecDepth 100000 in
theorem ci_X10_targetOfNeed (l : Launch) (v1 : Int32) (σ : Mem) : CI l yX10_targetOfNeed cX10_targetOfNeed 2 (some .int) 1 21 [.ref 1, .int v1] σ (m_X10_targetOfNeed v1 σ) :=
  ci_of (by decide) (by simp [Value.category]) (by simp) (fun X r hl hX hR hQ hr => a_X10_targetOfNeed_0 hX hR hQ hr v1 σ)

set_option maxRecDepth 100000 in
set_option maxHeartbeats 2000000 in
theorem a_X1_turnOnBy_70 {X : AX} {r0 : Int32 × Mem} (hX : CX X cX1_turnOnBy 7 RX1) (hR : (aR X).frames = 2 ∧ (aR X).locals = 45 ∧ aCe X ≤ (aR X).cells ∧ aSl X ≤ (aR X).slots) (hQ : QI X r0) (hr : (aMeth X).sig.returnType = (some .boolean)) (c pk pa on oa : Nat) (hc : shp[c]? = some (.inl (1, [some 1, some pk, some on]))) (hpk : shp[pk]? = some (.inl (7, [some pa]))) (hpa : shp[pa]? = some (.inr (0, 6))) (hon : shp[on]? = some (.inl (7, [some oa]))) (hoa : shp[oa]? = some (.inr (0, 6))) : ∀ (fuel : Nat) (v1 v3 v4 v5 : Int32) (σ : Mem), AWo X r0 70 [some (.ref c), some (.int v1), none, some (.int v3), some (.int v4), some (.int v5), none] [] σ (m_X1_turnOnBy_70 pa oa fuel v1 v3 v4 v5 σ) := by
  intro fuel
  induction fuel with
  | zero => intro v1 v3 v4 v5 σ; exact a_none
  | succ fuel ih =>
    intro v1 v3 v4 v5 σ
    show AWo X r0 70 [some (.ref c), some (.int v1), none, some (.int v3), some (.int v4), some (.int v5), none] [] σ (m_X1_turnOnBy_70 pa oa (fuel + 1) v1 v3 v4 v5 σ)
    unfold m_X1_turnOnBy_70
    refine a_il5 hX dX1_turnOnBy_70 rfl ?_
    refine a_il4 hX dX1_turnOnBy_72 rfl ?_
    refine a_icmp_ge hX dX1_turnOnBy_74 rfl rfl ?_ ?_
    · refine a_il3 hX dX1_turnOnBy_148 rfl ?_
      exact a_zret hX hQ hr dX1_turnOnBy_149
    · refine a_al0 hX dX1_turnOnBy_77 rfl ?_
      refine a_getR hX fl_X1_23 hc rfl dX1_turnOnBy_78 rfl ?_
      refine a_getR hX fl_X1_78 s_1 rfl dX1_turnOnBy_81 rfl ?_
      refine a_getR hX fl_X1_128 s_32 rfl dX1_turnOnBy_84 rfl ?_
      refine a_il5 hX dX1_turnOnBy_87 rfl ?_
      refine a_callI hX hR ml_X1_57 (ci_X7_get _ 43 44 120 s_43 s_44 _ _) s_43 rfl rfl rfl (by decide) (Nat.le_of_ble_eq_true rfl) rfl dX1_turnOnBy_89 rfl (fun x1 => ?_)
      refine a_is6 hX dX1_turnOnBy_92 rfl ?_
      refine a_il6 hX dX1_turnOnBy_94 rfl ?_
      refine a_if_eq hX dX1_turnOnBy_96 rfl rfl ?_ ?_
      · refine a_inc5 1 hX dX1_turnOnBy_142 (by decide) rfl ?_
        refine a_goto hX dX1_turnOnBy_145 rfl ?_
        exact a_sub (ih v1 v3 v4 (v5 + 1) x1.2) (ls_s (ls_s (ls_n (ls_s (ls_s (ls_s (ls_n ls_0)))))))
      · refine a_al0 hX dX1_turnOnBy_99 rfl ?_
        refine a_getR hX fl_X1_23 hc rfl dX1_turnOnBy_100 rfl ?_
        refine a_il5 hX dX1_turnOnBy_103 rfl ?_
        refine a_al0 hX dX1_turnOnBy_105 rfl ?_
        refine a_getR hX fl_X1_20 hc rfl dX1_turnOnBy_106 rfl ?_
        refine a_il1 hX dX1_turnOnBy_109 rfl ?_
        refine a_callI hX hR ml_X1_57 (ci_X7_get _ on oa 6 hon hoa _ _) hon rfl rfl rfl (by decide) (Nat.le_of_ble_eq_true rfl) rfl dX1_turnOnBy_110 rfl (fun x2 => ?_)
        refine a_callI hX hR ml_X1_93 (ci_X10_counts _ _ _ _) s_1 rfl rfl rfl (by decide) (Nat.le_of_ble_eq_true rfl) rfl dX1_turnOnBy_113 rfl (fun x3 => ?_)
        refine a_if_eq hX dX1_turnOnBy_116 rfl rfl ?_ ?_
        · refine a_inc5 1 hX dX1_turnOnBy_142 (by decide) rfl ?_
          refine a_goto hX dX1_turnOnBy_145 rfl ?_
          exact a_sub (ih v1 v3 v4 (v5 + 1) x3.2) (ls_s (ls_s (ls_n (ls_s (ls_s (ls_s (ls_n ls_0)))))))
        · refine a_al0 hX dX1_turnOnBy_119 rfl ?_
          refine a_getR hX fl_X1_20 hc rfl dX1_turnOnBy_120 rfl ?_
          refine a_al0 hX dX1_turnOnBy_123 rfl ?_
          refine a_getR hX fl_X1_23 hc rfl dX1_turnOnBy_124 rfl ?_
          refine a_il5 hX dX1_turnOnBy_127 rfl ?_
          refine a_callI hX hR ml_X1_90 (ci_X10_targetOfNeed _ _ _) s_1 rfl rfl rfl (by decide) (Nat.le_of_ble_eq_true rfl) rfl dX1_turnOnBy_129 rfl (fun x4 => ?_)
          refine a_il6 hX dX1_turnOnBy_132 rfl ?_
          refine a_callI hX hR ml_X1_112 (ci_X7_merge _ on oa 6 hon hoa _ _ _) hon rfl rfl rfl (by decide) (Nat.le_of_ble_eq_true rfl) rfl dX1_turnOnBy_134 rfl (fun x5 => ?_)
          refine a_if_eq hX dX1_turnOnBy_137 rfl rfl ?_ ?_
          · refine a_inc5 1 hX dX1_turnOnBy_142 (by decide) rfl ?_
            refine a_goto hX dX1_turnOnBy_145 rfl ?_
            exact a_sub (ih v1 v3 v4 (v5 + 1) x5.2) (ls_s (ls_s (ls_n (ls_s (ls_s (ls_s (ls_n ls_0)))))))
          · refine a_ic 1 hX dX1_turnOnBy_140 (by decide) rfl ?_
            refine a_is3 hX dX1_turnOnBy_141 rfl ?_
            refine a_inc5 1 hX dX1_turnOnBy_142 (by decide) rfl ?_
            refine a_goto hX dX1_turnOnBy_145 rfl ?_
            exact a_sub (ih v1 1 v4 (v5 + 1) x5.2) (ls_s (ls_s (ls_n (ls_s (ls_s (ls_s (ls_n ls_0)))))))

set_option maxRecDepth 100000 in
set_option maxHeartbeats 2000000 in
theorem a_X1_turnOnBy_0 {X : AX} {r0 : Int32 × Mem} (hX : CX X cX1_turnOnBy 7 RX1) (hR : (aR X).frames = 2 ∧ (aR X).locals = 45 ∧ aCe X ≤ (aR X).cells ∧ aSl X ≤ (aR X).slots) (hQ : QI X r0) (hr : (aMeth X).sig.returnType = (some .boolean)) (c pk pa on oa : Nat) (hc : shp[c]? = some (.inl (1, [some 1, some pk, some on]))) (hpk : shp[pk]? = some (.inl (7, [some pa]))) (hpa : shp[pa]? = some (.inr (0, 6))) (hon : shp[on]? = some (.inl (7, [some oa]))) (hoa : shp[oa]? = some (.inr (0, 6))) (v1 : Int32) (σ : Mem) : AWo X r0 0 [some (.ref c), some (.int v1), none, none, none, none, none] [] σ (m_X1_turnOnBy pa oa v1 σ) := by
  unfold m_X1_turnOnBy
  refine a_al0 hX dX1_turnOnBy_0 rfl ?_
  refine a_getR hX fl_X1_14 hc rfl dX1_turnOnBy_1 rfl ?_
  refine a_il1 hX dX1_turnOnBy_4 rfl ?_
  refine a_callI hX hR ml_X1_57 (ci_X7_get _ pk pa 6 hpk hpa _ _) hpk rfl rfl rfl (by decide) (Nat.le_of_ble_eq_true rfl) rfl dX1_turnOnBy_5 rfl (fun x1 => ?_)
  refine a_is2 hX dX1_turnOnBy_8 rfl ?_
  refine a_il2 hX dX1_turnOnBy_9 rfl ?_
  refine a_ic (-1) hX dX1_turnOnBy_10 (by decide) rfl ?_
  refine a_icmp_ne hX dX1_turnOnBy_11 rfl rfl ?_ ?_
  · refine a_al0 hX dX1_turnOnBy_16 rfl ?_
    refine a_getR hX fl_X1_20 hc rfl dX1_turnOnBy_17 rfl ?_
    refine a_il1 hX dX1_turnOnBy_20 rfl ?_
    refine a_al0 hX dX1_turnOnBy_21 rfl ?_
    refine a_getR hX fl_X1_23 hc rfl dX1_turnOnBy_22 rfl ?_
    refine a_getR hX fl_X1_118 s_1 rfl dX1_turnOnBy_25 rfl ?_
    refine a_il2 hX dX1_turnOnBy_28 rfl ?_
    refine a_al0 hX dX1_turnOnBy_29 rfl ?_
    refine a_getR hX fl_X1_20 hc rfl dX1_turnOnBy_30 rfl ?_
    refine a_il1 hX dX1_turnOnBy_33 rfl ?_
    refine a_callI hX hR ml_X1_57 (ci_X7_get _ on oa 6 hon hoa _ _) hon rfl rfl rfl (by decide) (Nat.le_of_ble_eq_true rfl) rfl dX1_turnOnBy_34 rfl (fun x2 => ?_)
    refine a_callI hX hR ml_X1_122 (ci_X9_broughtBy _ _ _ _) s_2 rfl rfl rfl (by decide) (Nat.le_of_ble_eq_true rfl) rfl dX1_turnOnBy_37 rfl (fun x3 => ?_)
    refine a_callI hX hR ml_X1_112 (ci_X7_merge _ on oa 6 hon hoa _ _ _) hon rfl rfl rfl (by decide) (Nat.le_of_ble_eq_true rfl) rfl dX1_turnOnBy_40 rfl (fun x4 => ?_)
    refine a_is3 hX dX1_turnOnBy_43 rfl ?_
    refine a_al0 hX dX1_turnOnBy_44 rfl ?_
    refine a_getR hX fl_X1_23 hc rfl dX1_turnOnBy_45 rfl ?_
    refine a_getR hX fl_X1_78 s_1 rfl dX1_turnOnBy_48 rfl ?_
    refine a_il2 hX dX1_turnOnBy_51 rfl ?_
    refine a_callI hX hR ml_X1_82 (ci_X4_end _ _ _) s_32 rfl rfl rfl (by decide) (Nat.le_of_ble_eq_true rfl) rfl dX1_turnOnBy_52 rfl (fun x5 => ?_)
    refine a_is4 hX dX1_turnOnBy_55 rfl ?_
    refine a_al0 hX dX1_turnOnBy_57 rfl ?_
    refine a_getR hX fl_X1_23 hc rfl dX1_turnOnBy_58 rfl ?_
    refine a_getR hX fl_X1_78 s_1 rfl dX1_turnOnBy_61 rfl ?_
    refine a_il2 hX dX1_turnOnBy_64 rfl ?_
    refine a_callI hX hR ml_X1_87 (ci_X4_first _ _ _) s_32 rfl rfl rfl (by decide) (Nat.le_of_ble_eq_true rfl) rfl dX1_turnOnBy_65 rfl (fun x6 => ?_)
    refine a_is5 hX dX1_turnOnBy_68 rfl ?_
    exact a_sub (a_X1_turnOnBy_70 hX hR hQ hr c pk pa on oa hc hpk hpa hon hoa FU v1 x4.1 x5.1 x6.1 x6.2) (ls_s (ls_s (ls_n (ls_s (ls_s (ls_s (ls_n ls_0)))))))
  · refine a_ic 0 hX dX1_turnOnBy_14 (by decide) rfl ?_
    exact a_zret0 (by decide) hX hQ hr dX1_turnOnBy_15

set_option maxRecDepth 100000 in
theorem ci_X1_turnOnBy (l : Launch) (c pk pa on oa : Nat) (hc : shp[c]? = some (.inl (1, [some 1, some pk, some on]))) (hpk : shp[pk]? = some (.inl (7, [some pa]))) (hpa : shp[pa]? = some (.inr (0, 6))) (hon : shp[on]? = some (.inl (7, [some oa]))) (hoa : shp[oa]? = some (.inr (0, 6))) (v1 : Int32) (σ : Mem) : CI l yX1_turnOnBy cX1_turnOnBy 7 (some .boolean) 2 45 [.ref c, .int v1] σ (m_X1_turnOnBy pa oa v1 σ) :=
  ci_of (by decide) (by simp [Value.category]) (by simp) (fun X r hl hX hR hQ hr => a_X1_turnOnBy_0 hX hR hQ hr c pk pa on oa hc hpk hpa hon hoa v1 σ)

set_option maxRecDepth 100000 in
set_option maxHeartbeats 2000000 in
theorem a_X1_turnOn_87 {X : AX} {r0 : Int32 × Mem} (hX : CX X cX1_turnOn 5 RX1) (hR : (aR X).frames = 3 ∧ (aR X).locals = 71 ∧ aCe X ≤ (aR X).cells ∧ aSl X ≤ (aR X).slots) (hQ : QV X r0) (hr : (aMeth X).sig.returnType = none) (c pk pa on oa : Nat) (hc : shp[c]? = some (.inl (1, [some 1, some pk, some on]))) (hpk : shp[pk]? = some (.inl (7, [some pa]))) (hpa : shp[pa]? = some (.inr (0, 6))) (hon : shp[on]? = some (.inl (7, [some oa]))) (hoa : shp[oa]? = some (.inr (0, 6))) (f72 : Int32 → Int32 → Mem → Option (Int32 × Mem)) (hf72 : ∀ (v2 v3 : Int32) (σ : Mem), AWo X r0 72 [some (.ref c), none, some (.int v2), some (.int v3), none] [] σ (f72 v2 v3 σ)) : ∀ (fuel : Nat) (v2 v3 v4 : Int32) (σ : Mem), AWo X r0 87 [some (.ref c), none, some (.int v2), some (.int v3), some (.int v4)] [] σ (m_X1_turnOn_87 pa oa f72 fuel v2 v3 v4 σ) := by
  intro fuel
  induction fuel with
  | zero => intro v2 v3 v4 σ; exact a_none
  | succ fuel ih =>
    intro v2 v3 v4 σ
    show AWo X r0 87 [some (.ref c), none, some (.int v2), some (.int v3), some (.int v4)] [] σ (m_X1_turnOn_87 pa oa f72 (fuel + 1) v2 v3 v4 σ)
    unfold m_X1_turnOn_87
    refine a_il4 hX dX1_turnOn_87 rfl ?_
    refine a_bi 6 hX dX1_turnOn_89 (by decide) rfl ?_
    refine a_icmp_ge hX dX1_turnOn_91 rfl rfl ?_ ?_
    · refine a_inc3 1 hX dX1_turnOn_111 (by decide) rfl ?_
      refine a_goto hX dX1_turnOn_114 rfl ?_
      exact a_sub (hf72 v2 (v3 + 1) (σ)) (ls_s (ls_n (ls_s (ls_s (ls_n ls_0)))))
    · refine a_al0 hX dX1_turnOn_94 rfl ?_
      refine a_il4 hX dX1_turnOn_95 rfl ?_
      refine a_callI hX hR ml_X1_115 (ci_X1_turnOnBy _ c pk pa on oa hc hpk hpa hon hoa _ _) hc rfl rfl rfl (by decide) (Nat.le_of_ble_eq_true rfl) rfl dX1_turnOn_97 rfl (fun x1 => ?_)
      refine a_if_eq hX dX1_turnOn_100 rfl rfl ?_ ?_
      · refine a_inc4 1 hX dX1_turnOn_105 (by decide) rfl ?_
        refine a_goto hX dX1_turnOn_108 rfl ?_
        exact a_sub (ih v2 v3 (v4 + 1) x1.2) (ls_s (ls_n (ls_s (ls_s (ls_s ls_0)))))
      · refine a_ic 1 hX dX1_turnOn_103 (by decide) rfl ?_
        refine a_is2 hX dX1_turnOn_104 rfl ?_
        refine a_inc4 1 hX dX1_turnOn_105 (by decide) rfl ?_
        refine a_goto hX dX1_turnOn_108 rfl ?_
        exact a_sub (ih 1 v3 (v4 + 1) x1.2) (ls_s (ls_n (ls_s (ls_s (ls_s ls_0)))))

set_option maxRecDepth 100000 in
set_option maxHeartbeats 2000000 in
theorem a_X1_turnOn_72 {X : AX} {r0 : Int32 × Mem} (hX : CX X cX1_turnOn 5 RX1) (hR : (aR X).frames = 3 ∧ (aR X).locals = 71 ∧ aCe X ≤ (aR X).cells ∧ aSl X ≤ (aR X).slots) (hQ : QV X r0) (hr : (aMeth X).sig.returnType = none) (c pk pa on oa : Nat) (hc : shp[c]? = some (.inl (1, [some 1, some pk, some on]))) (hpk : shp[pk]? = some (.inl (7, [some pa]))) (hpa : shp[pa]? = some (.inr (0, 6))) (hon : shp[on]? = some (.inl (7, [some oa]))) (hoa : shp[oa]? = some (.inr (0, 6))) : ∀ (fuel : Nat) (v2 v3 : Int32) (σ : Mem), AWo X r0 72 [some (.ref c), none, some (.int v2), some (.int v3), none] [] σ (m_X1_turnOn_72 pa oa fuel v2 v3 σ) := by
  intro fuel
  induction fuel with
  | zero => intro v2 v3 σ; exact a_none
  | succ fuel ih =>
    intro v2 v3 σ
    show AWo X r0 72 [some (.ref c), none, some (.int v2), some (.int v3), none] [] σ (m_X1_turnOn_72 pa oa (fuel + 1) v2 v3 σ)
    unfold m_X1_turnOn_72
    refine a_il2 hX dX1_turnOn_72 rfl ?_
    refine a_if_eq hX dX1_turnOn_73 rfl rfl ?_ ?_
    · exact a_vret hX hQ hr dX1_turnOn_117
    · refine a_il3 hX dX1_turnOn_76 rfl ?_
      refine a_bi 18 hX dX1_turnOn_77 (by decide) rfl ?_
      refine a_icmp_gt hX dX1_turnOn_79 rfl rfl ?_ ?_
      · exact a_vret hX hQ hr dX1_turnOn_117
      · refine a_ic 0 hX dX1_turnOn_82 (by decide) rfl ?_
        refine a_is2 hX dX1_turnOn_83 rfl ?_
        refine a_ic 0 hX dX1_turnOn_84 (by decide) rfl ?_
        refine a_is4 hX dX1_turnOn_85 rfl ?_
        exact a_sub (a_X1_turnOn_87 hX hR hQ hr c pk pa on oa hc hpk hpa hon hoa (m_X1_turnOn_72 pa oa fuel) ih FU 0 v3 0 (σ)) (ls_s (ls_n (ls_s (ls_s (ls_s ls_0)))))

set_option maxRecDepth 100000 in
set_option maxHeartbeats 2000000 in
theorem a_X1_turnOn_10 {X : AX} {r0 : Int32 × Mem} (hX : CX X cX1_turnOn 5 RX1) (hR : (aR X).frames = 3 ∧ (aR X).locals = 71 ∧ aCe X ≤ (aR X).cells ∧ aSl X ≤ (aR X).slots) (hQ : QV X r0) (hr : (aMeth X).sig.returnType = none) (c pk pa on oa : Nat) (hc : shp[c]? = some (.inl (1, [some 1, some pk, some on]))) (hpk : shp[pk]? = some (.inl (7, [some pa]))) (hpa : shp[pa]? = some (.inr (0, 6))) (hon : shp[on]? = some (.inl (7, [some oa]))) (hoa : shp[oa]? = some (.inr (0, 6))) : ∀ (fuel : Nat) (v1 v2 : Int32) (σ : Mem), AWo X r0 10 [some (.ref c), some (.int v1), some (.int v2), none, none] [] σ (m_X1_turnOn_10 pa oa fuel v1 v2 σ) := by
  intro fuel
  induction fuel with
  | zero => intro v1 v2 σ; exact a_none
  | succ fuel ih =>
    intro v1 v2 σ
    show AWo X r0 10 [some (.ref c), some (.int v1), some (.int v2), none, none] [] σ (m_X1_turnOn_10 pa oa (fuel + 1) v1 v2 σ)
    unfold m_X1_turnOn_10
    refine a_il2 hX dX1_turnOn_10 rfl ?_
    refine a_al0 hX dX1_turnOn_11 rfl ?_
    refine a_getR hX fl_X1_23 hc rfl dX1_turnOn_12 rfl ?_
    refine a_getR hX fl_X1_41 s_1 rfl dX1_turnOn_15 rfl ?_
    refine a_getI hX fl_X1_47 s_47 rfl dX1_turnOn_18 rfl ?_
    refine a_icmp_ge hX dX1_turnOn_21 rfl rfl ?_ ?_
    · refine a_ic 1 hX dX1_turnOn_68 (by decide) rfl ?_
      refine a_is2 hX dX1_turnOn_69 rfl ?_
      refine a_ic 0 hX dX1_turnOn_70 (by decide) rfl ?_
      refine a_is3 hX dX1_turnOn_71 rfl ?_
      exact a_sub (a_X1_turnOn_72 hX hR hQ hr c pk pa on oa hc hpk hpa hon hoa FU 1 0 (σ)) (ls_s (ls_n (ls_s (ls_s (ls_n ls_0)))))
    · refine a_il1 hX dX1_turnOn_24 rfl ?_
      refine a_il2 hX dX1_turnOn_25 rfl ?_
      refine a_callNI hX hR ml_X1_60 (ci_X11_isIn _ _ _ _) rfl rfl (by decide) (Nat.le_of_ble_eq_true rfl) rfl dX1_turnOn_26 rfl (fun x1 => ?_)
      refine a_if_eq hX dX1_turnOn_29 rfl rfl ?_ ?_
      · refine a_inc2 1 hX dX1_turnOn_62 (by decide) rfl ?_
        refine a_goto hX dX1_turnOn_65 rfl ?_
        exact a_sub (ih v1 (v2 + 1) x1.2) (ls_s (ls_s (ls_s (ls_n (ls_n ls_0)))))
      · refine a_al0 hX dX1_turnOn_32 rfl ?_
        refine a_getR hX fl_X1_20 hc rfl dX1_turnOn_33 rfl ?_
        refine a_al0 hX dX1_turnOn_36 rfl ?_
        refine a_getR hX fl_X1_23 hc rfl dX1_turnOn_37 rfl ?_
        refine a_il2 hX dX1_turnOn_40 rfl ?_
        refine a_callI hX hR ml_X1_53 (ci_X10_targetOfDemand _ _ _) s_1 rfl rfl rfl (by decide) (Nat.le_of_ble_eq_true rfl) rfl dX1_turnOn_41 rfl (fun x2 => ?_)
        refine a_al0 hX dX1_turnOn_44 rfl ?_
        refine a_getR hX fl_X1_23 hc rfl dX1_turnOn_45 rfl ?_
        refine a_getR hX fl_X1_41 s_1 rfl dX1_turnOn_48 rfl ?_
        refine a_getR hX fl_X1_109 s_47 rfl dX1_turnOn_51 rfl ?_
        refine a_il2 hX dX1_turnOn_54 rfl ?_
        refine a_callI hX hR ml_X1_57 (ci_X7_get _ 54 55 6 s_54 s_55 _ _) s_54 rfl rfl rfl (by decide) (Nat.le_of_ble_eq_true rfl) rfl dX1_turnOn_55 rfl (fun x3 => ?_)
        refine a_callI hX hR ml_X1_112 (ci_X7_merge _ on oa 6 hon hoa _ _ _) hon rfl rfl rfl (by decide) (Nat.le_of_ble_eq_true rfl) rfl dX1_turnOn_58 rfl (fun x4 => ?_)
        refine a_pop hX dX1_turnOn_61 rfl rfl ?_
        refine a_inc2 1 hX dX1_turnOn_62 (by decide) rfl ?_
        refine a_goto hX dX1_turnOn_65 rfl ?_
        exact a_sub (ih v1 (v2 + 1) x4.2) (ls_s (ls_s (ls_s (ls_n (ls_n ls_0)))))

set_option maxRecDepth 100000 in
set_option maxHeartbeats 2000000 in
theorem a_X1_turnOn_0 {X : AX} {r0 : Int32 × Mem} (hX : CX X cX1_turnOn 5 RX1) (hR : (aR X).frames = 3 ∧ (aR X).locals = 71 ∧ aCe X ≤ (aR X).cells ∧ aSl X ≤ (aR X).slots) (hQ : QV X r0) (hr : (aMeth X).sig.returnType = none) (c pk pa on oa : Nat) (hc : shp[c]? = some (.inl (1, [some 1, some pk, some on]))) (hpk : shp[pk]? = some (.inl (7, [some pa]))) (hpa : shp[pa]? = some (.inr (0, 6))) (hon : shp[on]? = some (.inl (7, [some oa]))) (hoa : shp[oa]? = some (.inr (0, 6))) (v1 : Int32) (σ : Mem) : AWo X r0 0 [some (.ref c), some (.int v1), none, none, none] [] σ (m_X1_turnOn pa oa v1 σ) := by
  unfold m_X1_turnOn
  refine a_al0 hX dX1_turnOn_0 rfl ?_
  refine a_getR hX fl_X1_20 hc rfl dX1_turnOn_1 rfl ?_
  refine a_ic 0 hX dX1_turnOn_4 (by decide) rfl ?_
  refine a_callV hX hR ml_X1_106 (ci_X7_fill _ on oa 6 hon hoa _ _) hon rfl rfl rfl (by decide) (Nat.le_of_ble_eq_true rfl) rfl dX1_turnOn_5 rfl (fun x1 => ?_)
  refine a_ic 0 hX dX1_turnOn_8 (by decide) rfl ?_
  refine a_is2 hX dX1_turnOn_9 rfl ?_
  exact a_sub (a_X1_turnOn_10 hX hR hQ hr c pk pa on oa hc hpk hpa hon hoa FU v1 0 x1.2) (ls_s (ls_s (ls_s (ls_n (ls_n ls_0)))))

set_option maxRecDepth 100000 in
theorem ci_X1_turnOn (l : Launch) (c pk pa on oa : Nat) (hc : shp[c]? = some (.inl (1, [some 1, some pk, some on]))) (hpk : shp[pk]? = some (.inl (7, [some pa]))) (hpa : shp[pa]? = some (.inr (0, 6))) (hon : shp[on]? = some (.inl (7, [some oa]))) (hoa : shp[oa]? = some (.inr (0, 6))) (v1 : Int32) (σ : Mem) : CV l yX1_turnOn cX1_turnOn 5 3 71 [.ref c, .int v1] σ (m_X1_turnOn pa oa v1 σ) :=
  cv_of (by decide) (by simp [Value.category]) (by simp) (fun X r hl hX hR hQ hr => a_X1_turnOn_0 hX hR hQ hr c pk pa on oa hc hpk hpa hon hoa v1 σ)

