set_option maxRecDepth 100000 in
set_option maxHeartbeats 2000000 in
theorem a_X10_lastSuccessor_4 {X : AX} {r0 : Int32 × Mem} (hX : CX X cX10_lastSuccessor 4 RX10) (hR : (aR X).frames = 1 ∧ (aR X).locals = 21 ∧ aCe X ≤ (aR X).cells ∧ aSl X ≤ (aR X).slots) (hQ : QI X r0) (hr : (aMeth X).sig.returnType = (some .int)) : ∀ (fuel : Nat) (v2 v3 : Int32) (σ : Mem), AWo X r0 4 [some (.ref 1), none, some (.int v2), some (.int v3)] [] σ (m_X10_lastSuccessor_4 fuel v2 v3 σ) := by
  intro fuel
  induction fuel with
  | zero => intro v2 v3 σ; exact a_none
  | succ fuel ih =>
    intro v2 v3 σ
    show AWo X r0 4 [some (.ref 1), none, some (.int v2), some (.int v3)] [] σ (m_X10_lastSuccessor_4 (fuel + 1) v2 v3 σ)
    unfold m_X10_lastSuccessor_4
    refine a_il3 hX dX10_lastSuccessor_4 rfl ?_
    refine a_bi 6 hX dX10_lastSuccessor_5 (by decide) rfl ?_
    refine a_icmp_ge hX dX10_lastSuccessor_7 rfl rfl ?_ ?_
    · refine a_il2 hX dX10_lastSuccessor_37 rfl ?_
      exact a_iret hX hQ hr dX10_lastSuccessor_38
    · refine a_al0 hX dX10_lastSuccessor_10 rfl ?_
      refine a_getR hX fl_X10_54 s_1 rfl dX10_lastSuccessor_11 rfl ?_
      refine a_il2 hX dX10_lastSuccessor_14 rfl ?_
      refine a_callI hX hR ml_X10_70 (ci_X7_get _ 62 63 6 s_62 s_63 _ _) s_62 rfl rfl rfl (by decide) (Nat.le_of_ble_eq_true rfl) rfl dX10_lastSuccessor_15 rfl (fun x1 => ?_)
      refine a_ic (-1) hX dX10_lastSuccessor_18 (by decide) rfl ?_
      refine a_icmp_eq hX dX10_lastSuccessor_19 rfl rfl ?_ ?_
      · refine a_il2 hX dX10_lastSuccessor_37 rfl ?_
        exact a_iret hX hQ hr dX10_lastSuccessor_38
      · refine a_al0 hX dX10_lastSuccessor_22 rfl ?_
        refine a_getR hX fl_X10_54 s_1 rfl dX10_lastSuccessor_23 rfl ?_
        refine a_il2 hX dX10_lastSuccessor_26 rfl ?_
        refine a_callI hX hR ml_X10_70 (ci_X7_get _ 62 63 6 s_62 s_63 _ _) s_62 rfl rfl rfl (by decide) (Nat.le_of_ble_eq_true rfl) rfl dX10_lastSuccessor_27 rfl (fun x2 => ?_)
        refine a_is2 hX dX10_lastSuccessor_30 rfl ?_
        refine a_inc3 1 hX dX10_lastSuccessor_31 (by decide) rfl ?_
        refine a_goto hX dX10_lastSuccessor_34 rfl ?_
        exact a_sub (ih x2.1 (v3 + 1) x2.2) (ls_s (ls_n (ls_s (ls_s ls_0))))

set_option maxRecDepth 100000 in
set_option maxHeartbeats 2000000 in
theorem a_X10_lastSuccessor_0 {X : AX} {r0 : Int32 × Mem} (hX : CX X cX10_lastSuccessor 4 RX10) (hR : (aR X).frames = 1 ∧ (aR X).locals = 21 ∧ aCe X ≤ (aR X).cells ∧ aSl X ≤ (aR X).slots) (hQ : QI X r0) (hr : (aMeth X).sig.returnType = (some .int)) (v1 : Int32) (σ : Mem) : AWo X r0 0 [some (.ref 1), some (.int v1), none, none] [] σ (m_X10_lastSuccessor v1 σ) := by
  unfold m_X10_lastSuccessor
  refine a_il1 hX dX10_lastSuccessor_0 rfl ?_
  refine a_is2 hX dX10_lastSuccessor_1 rfl ?_
  refine a_ic 0 hX dX10_lastSuccessor_2 (by decide) rfl ?_
  refine a_is3 hX dX10_lastSuccessor_3 rfl ?_
  exact a_sub (a_X10_lastSuccessor_4 hX hR hQ hr FU v1 0 (σ)) (ls_s (ls_n (ls_s (ls_s ls_0))))

set_option maxRecDepth 100000 in
theorem ci_X10_lastSuccessor (l : Launch) (v1 : Int32) (σ : Mem) : CI l yX10_lastSuccessor cX10_lastSuccessor 4 (some .int) 1 21 [.ref 1, .int v1] σ (m_X10_lastSuccessor v1 σ) :=
  ci_of (by decide) (by simp [Value.category]) (by simp) (fun X r hl hX hR hQ hr => a_X10_lastSuccessor_0 hX hR hQ hr v1 σ)

set_option maxRecDepth 100000 in
set_option maxHeartbeats 2000000 in
theorem a_X10_redirect_13 {X : AX} {r0 : Int32 × Mem} (hX : CX X cX10_redirect 5 RX10) (hR : (aR X).frames = 2 ∧ (aR X).locals = 45 ∧ aCe X ≤ (aR X).cells ∧ aSl X ≤ (aR X).slots) (hQ : QI X r0) (hr : (aMeth X).sig.returnType = (some .int)) : ∀ (fuel : Nat) (v3 v4 : Int32) (σ : Mem), AWo X r0 13 [some (.ref 1), none, none, some (.int v3), some (.int v4)] [] σ (m_X10_redirect_13 fuel v3 v4 σ) := by
  intro fuel
  induction fuel with
  | zero => intro v3 v4 σ; exact a_none
  | succ fuel ih =>
    intro v3 v4 σ
    show AWo X r0 13 [some (.ref 1), none, none, some (.int v3), some (.int v4)] [] σ (m_X10_redirect_13 (fuel + 1) v3 v4 σ)
    unfold m_X10_redirect_13
    refine a_il4 hX dX10_redirect_13 rfl ?_
    refine a_bi 6 hX dX10_redirect_15 (by decide) rfl ?_
    refine a_icmp_ge hX dX10_redirect_17 rfl rfl ?_ ?_
    · refine a_il3 hX dX10_redirect_41 rfl ?_
      exact a_iret hX hQ hr dX10_redirect_42
    · refine a_al0 hX dX10_redirect_20 rfl ?_
      refine a_getR hX fl_X10_57 s_1 rfl dX10_redirect_21 rfl ?_
      refine a_il4 hX dX10_redirect_24 rfl ?_
      refine a_al0 hX dX10_redirect_26 rfl ?_
      refine a_il4 hX dX10_redirect_27 rfl ?_
      refine a_callI hX hR ml_X10_110 (ci_X10_lastSuccessor _ _ _) s_1 rfl rfl rfl (by decide) (Nat.le_of_ble_eq_true rfl) rfl dX10_redirect_29 rfl (fun x1 => ?_)
      refine a_callV hX hR ml_X10_60 (ci_X7_set _ 64 65 6 s_64 s_65 _ _ _) s_64 rfl rfl rfl (by decide) (Nat.le_of_ble_eq_true rfl) rfl dX10_redirect_32 rfl (fun x2 => ?_)
      refine a_inc4 1 hX dX10_redirect_35 (by decide) rfl ?_
      refine a_goto hX dX10_redirect_38 rfl ?_
      exact a_sub (ih v3 (v4 + 1) x2.2) (ls_s (ls_n (ls_n (ls_s (ls_s ls_0)))))

set_option maxRecDepth 100000 in
set_option maxHeartbeats 2000000 in
theorem a_X10_redirect_0 {X : AX} {r0 : Int32 × Mem} (hX : CX X cX10_redirect 5 RX10) (hR : (aR X).frames = 2 ∧ (aR X).locals = 45 ∧ aCe X ≤ (aR X).cells ∧ aSl X ≤ (aR X).slots) (hQ : QI X r0) (hr : (aMeth X).sig.returnType = (some .int)) (v1 v2 : Int32) (σ : Mem) : AWo X r0 0 [some (.ref 1), some (.int v1), some (.int v2), none, none] [] σ (m_X10_redirect v1 v2 σ) := by
  unfold m_X10_redirect
  refine a_al0 hX dX10_redirect_0 rfl ?_
  refine a_getR hX fl_X10_54 s_1 rfl dX10_redirect_1 rfl ?_
  refine a_il1 hX dX10_redirect_4 rfl ?_
  refine a_il2 hX dX10_redirect_5 rfl ?_
  refine a_callI hX hR ml_X10_107 (ci_X7_exchange _ 62 63 6 s_62 s_63 _ _ _) s_62 rfl rfl rfl (by decide) (Nat.le_of_ble_eq_true rfl) rfl dX10_redirect_6 rfl (fun x1 => ?_)
  refine a_is3 hX dX10_redirect_9 rfl ?_
  refine a_ic 0 hX dX10_redirect_10 (by decide) rfl ?_
  refine a_is4 hX dX10_redirect_11 rfl ?_
  exact a_sub (a_X10_redirect_13 hX hR hQ hr FU x1.1 0 x1.2) (ls_s (ls_n (ls_n (ls_s (ls_s ls_0)))))

set_option maxRecDepth 100000 in
theorem ci_X10_redirect (l : Launch) (v1 v2 : Int32) (σ : Mem) : CI l yX10_redirect cX10_redirect 5 (some .int) 2 45 [.ref 1, .int v1, .int v2] σ (m_X10_redirect v1 v2 σ) :=
  ci_of (by decide) (by simp [Value.category]) (by simp) (fun X r hl hX hR hQ hr => a_X10_redirect_0 hX hR hQ hr v1 v2 σ)

set_option maxRecDepth 100000 in
set_option maxHeartbeats 2000000 in
theorem a_X11_isPackage_0 {X : AX} {r0 : Int32 × Mem} (hX : CX X cX11_isPackage 1 RX11) (hR : (aR X).frames = 1 ∧ (aR X).locals = 21 ∧ aCe X ≤ (aR X).cells ∧ aSl X ≤ (aR X).slots) (hQ : QI X r0) (hr : (aMeth X).sig.returnType = (some .boolean)) (v0 : Int32) (σ : Mem) : AWo X r0 0 [some (.int v0)] [] σ (m_X11_isPackage v0 σ) := by
  unfold m_X11_isPackage
  refine a_ic 5 hX dX11_isPackage_0 (by decide) rfl ?_
  refine a_il0 hX dX11_isPackage_1 rfl ?_
  refine a_callSI hX hR ml_X11_52 (ci_X11_isUpTo _ _ _ _) rfl rfl (by decide) (Nat.le_of_ble_eq_true rfl) rfl dX11_isPackage_2 rfl (fun x1 => ?_)
  exact a_zret hX hQ hr dX11_isPackage_5

set_option maxRecDepth 100000 in
theorem ci_X11_isPackage (l : Launch) (v0 : Int32) (σ : Mem) : CI l yX11_isPackage cX11_isPackage 1 (some .boolean) 1 21 [.int v0] σ (m_X11_isPackage v0 σ) :=
  ci_of (by decide) (by simp [Value.category]) (by simp) (fun X r hl hX hR hQ hr => a_X11_isPackage_0 hX hR hQ hr v0 σ)

set_option maxRecDepth 100000 in
set_option maxHeartbeats 2000000 in
theorem a_X11_isDigit_0 {X : AX} {r0 : Int32 × Mem} (hX : CX X cX11_isDigit 1 RX11) (hR : (aR X).frames = 1 ∧ (aR X).locals = 21 ∧ aCe X ≤ (aR X).cells ∧ aSl X ≤ (aR X).slots) (hQ : QI X r0) (hr : (aMeth X).sig.returnType = (some .boolean)) (v0 : Int32) (σ : Mem) : AWo X r0 0 [some (.int v0)] [] σ (m_X11_isDigit v0 σ) := by
  unfold m_X11_isDigit
  refine a_bi 9 hX dX11_isDigit_0 (by decide) rfl ?_
  refine a_il0 hX dX11_isDigit_2 rfl ?_
  refine a_callSI hX hR ml_X11_52 (ci_X11_isUpTo _ _ _ _) rfl rfl (by decide) (Nat.le_of_ble_eq_true rfl) rfl dX11_isDigit_3 rfl (fun x1 => ?_)
  exact a_zret hX hQ hr dX11_isDigit_6

set_option maxRecDepth 100000 in
theorem ci_X11_isDigit (l : Launch) (v0 : Int32) (σ : Mem) : CI l yX11_isDigit cX11_isDigit 1 (some .boolean) 1 21 [.int v0] σ (m_X11_isDigit v0 σ) :=
  ci_of (by decide) (by simp [Value.category]) (by simp) (fun X r hl hX hR hQ hr => a_X11_isDigit_0 hX hR hQ hr v0 σ)

set_option maxRecDepth 100000 in
set_option maxHeartbeats 2000000 in
theorem a_X11_rankOf_0 {X : AX} {r0 : Int32 × Mem} (hX : CX X cX11_rankOf 5 RX11) (hR : (aR X).frames = 0 ∧ (aR X).locals = 0 ∧ aCe X ≤ (aR X).cells ∧ aSl X ≤ (aR X).slots) (hQ : QI X r0) (hr : (aMeth X).sig.returnType = (some .int)) (v0 v1 v2 v3 : Int32) (σ : Mem) : AWo X r0 0 [some (.int v0), some (.int v1), some (.int v2), some (.int v3), none] [] σ (m_X11_rankOf v0 v1 v2 v3 σ) := by
  unfold m_X11_rankOf
  refine a_il0 hX dX11_rankOf_0 rfl ?_
  refine a_ic 4 hX dX11_rankOf_1 (by decide) rfl ?_
  refine a_ishl hX dX11_rankOf_2 rfl ?_
  refine a_il1 hX dX11_rankOf_3 rfl ?_
  refine a_ior hX dX11_rankOf_4 rfl ?_
  refine a_ic 4 hX dX11_rankOf_5 (by decide) rfl ?_
  refine a_ishl hX dX11_rankOf_6 rfl ?_
  refine a_il2 hX dX11_rankOf_7 rfl ?_
  refine a_ior hX dX11_rankOf_8 rfl ?_
  refine a_name (fun y1 => ?_)
  refine a_is4 hX dX11_rankOf_9 rfl ?_
  refine a_il4 hX dX11_rankOf_11 rfl ?_
  refine a_ic 4 hX dX11_rankOf_13 (by decide) rfl ?_
  refine a_ishl hX dX11_rankOf_14 rfl ?_
  refine a_il3 hX dX11_rankOf_15 rfl ?_
  refine a_if_ne hX dX11_rankOf_16 rfl rfl ?_ ?_
  · refine a_il3 hX dX11_rankOf_24 rfl ?_
    refine a_ior hX dX11_rankOf_25 rfl ?_
    exact a_iret hX hQ hr dX11_rankOf_26
  · refine a_bi 10 hX dX11_rankOf_19 (by decide) rfl ?_
    refine a_goto hX dX11_rankOf_21 rfl ?_
    refine a_ior hX dX11_rankOf_25 rfl ?_
    exact a_iret hX hQ hr dX11_rankOf_26

set_option maxRecDepth 100000 in
theorem ci_X11_rankOf (l : Launch) (v0 v1 v2 v3 : Int32) (σ : Mem) : CI l yX11_rankOf cX11_rankOf 5 (some .int) 0 0 [.int v0, .int v1, .int v2, .int v3] σ (m_X11_rankOf v0 v1 v2 v3 σ) :=
  ci_of (by decide) (by simp [Value.category]) (by simp) (fun X r hl hX hR hQ hr => a_X11_rankOf_0 hX hR hQ hr v0 v1 v2 v3 σ)

set_option maxRecDepth 100000 in
set_option maxHeartbeats 2000000 in
theorem a_X11_isVersion_0 {X : AX} {r0 : Int32 × Mem} (hX : CX X cX11_isVersion 2 RX11) (hR : (aR X).frames = 1 ∧ (aR X).locals = 21 ∧ aCe X ≤ (aR X).cells ∧ aSl X ≤ (aR X).slots) (hQ : QI X r0) (hr : (aMeth X).sig.returnType = (some .boolean)) (v1 : Int32) (σ : Mem) : AWo X r0 0 [some (.ref 0), some (.int v1)] [] σ (m_X11_isVersion v1 σ) := by
  unfold m_X11_isVersion
  refine a_al0 hX dX11_isVersion_0 rfl ?_
  refine a_getR hX fl_X11_17 s_0 rfl dX11_isVersion_1 rfl ?_
  refine a_getR hX fl_X11_75 s_1 rfl dX11_isVersion_4 rfl ?_
  refine a_getI hX fl_X11_314 s_2 rfl dX11_isVersion_7 rfl ?_
  refine a_ic 1 hX dX11_isVersion_10 (by decide) rfl ?_
  refine a_isub hX dX11_isVersion_11 rfl ?_
  refine a_il1 hX dX11_isVersion_12 rfl ?_
  refine a_callSI hX hR ml_X11_52 (ci_X11_isUpTo _ _ _ _) rfl rfl (by decide) (Nat.le_of_ble_eq_true rfl) rfl dX11_isVersion_13 rfl (fun x1 => ?_)
  exact a_zret hX hQ hr dX11_isVersion_16

set_option maxRecDepth 100000 in
theorem ci_X11_isVersion (l : Launch) (v1 : Int32) (σ : Mem) : CI l yX11_isVersion cX11_isVersion 2 (some .boolean) 1 21 [.ref 0, .int v1] σ (m_X11_isVersion v1 σ) :=
  ci_of (by decide) (by simp [Value.category]) (by simp) (fun X r hl hX hR hQ hr => a_X11_isVersion_0 hX hR hQ hr v1 σ)

set_option maxRecDepth 100000 in
set_option maxHeartbeats 2000000 in
theorem a_J6_compare_7cf53_0 {X : AX} {r0 : Int32 × Mem} (hX : CX X cJ6_compare_7cf53 2 RJ6) (hR : (aR X).frames = 0 ∧ (aR X).locals = 0 ∧ aCe X ≤ (aR X).cells ∧ aSl X ≤ (aR X).slots) (hQ : QI X r0) (hr : (aMeth X).sig.returnType = (some .int)) (v0 v1 : Int32) (σ : Mem) : AWo X r0 0 [some (.int v0), some (.int v1)] [] σ (m_J6_compare_7cf53 v0 v1 σ) := by
  unfold m_J6_compare_7cf53
  refine a_il0 hX dJ6_compare_7cf53_0 rfl ?_
  refine a_il1 hX dJ6_compare_7cf53_1 rfl ?_
  refine a_icmp_ge hX dJ6_compare_7cf53_2 rfl rfl ?_ ?_
  · refine a_il0 hX dJ6_compare_7cf53_9 rfl ?_
    refine a_il1 hX dJ6_compare_7cf53_10 rfl ?_
    refine a_icmp_ne hX dJ6_compare_7cf53_11 rfl rfl ?_ ?_
    · refine a_ic 1 hX dJ6_compare_7cf53_18 (by decide) rfl ?_
      exact a_iret hX hQ hr dJ6_compare_7cf53_19
    · refine a_ic 0 hX dJ6_compare_7cf53_14 (by decide) rfl ?_
      refine a_goto hX dJ6_compare_7cf53_15 rfl ?_
      exact a_iret hX hQ hr dJ6_compare_7cf53_19
  · refine a_ic (-1) hX dJ6_compare_7cf53_5 (by decide) rfl ?_
    refine a_goto hX dJ6_compare_7cf53_6 rfl ?_
    exact a_iret hX hQ hr dJ6_compare_7cf53_19

set_option maxRecDepth 100000 in
theorem ci_J6_compare_7cf53 (l : Launch) (v0 v1 : Int32) (σ : Mem) : CI l yJ6_compare_7cf53 cJ6_compare_7cf53 2 (some .int) 0 0 [.int v0, .int v1] σ (m_J6_compare_7cf53 v0 v1 σ) :=
  ci_of (by decide) (by simp [Value.category]) (by simp) (fun X r hl hX hR hQ hr => a_J6_compare_7cf53_0 hX hR hQ hr v0 v1 σ)

set_option maxRecDepth 100000 in
set_option maxHeartbeats 2000000 in
theorem a_X11_hasWholeVersion_0 {X : AX} {r0 : Int32 × Mem} (hX : CX X cX11_hasWholeVersion 1 RX11) (hR : (aR X).frames = 0 ∧ (aR X).locals = 0 ∧ aCe X ≤ (aR X).cells ∧ aSl X ≤ (aR X).slots) (hQ : QI X r0) (hr : (aMeth X).sig.returnType = (some .boolean)) (v0 : Int32) (σ : Mem) : AWo X r0 0 [some (.int v0)] [] σ (m_X11_hasWholeVersion v0 σ) := by
  unfold m_X11_hasWholeVersion
  refine a_il0 hX dX11_hasWholeVersion_0 rfl ?_
  refine a_ic 3 hX dX11_hasWholeVersion_1 (by decide) rfl ?_
  refine a_icmp_eq hX dX11_hasWholeVersion_2 rfl rfl ?_ ?_
  · refine a_ic 0 hX dX11_hasWholeVersion_21 (by decide) rfl ?_
    exact a_zret0 (by decide) hX hQ hr dX11_hasWholeVersion_22
  · refine a_il0 hX dX11_hasWholeVersion_5 rfl ?_
    refine a_bi 6 hX dX11_hasWholeVersion_6 (by decide) rfl ?_
    refine a_icmp_eq hX dX11_hasWholeVersion_8 rfl rfl ?_ ?_
    · refine a_ic 0 hX dX11_hasWholeVersion_21 (by decide) rfl ?_
      exact a_zret0 (by decide) hX hQ hr dX11_hasWholeVersion_22
    · refine a_il0 hX dX11_hasWholeVersion_11 rfl ?_
      refine a_bi 7 hX dX11_hasWholeVersion_12 (by decide) rfl ?_
      refine a_icmp_eq hX dX11_hasWholeVersion_14 rfl rfl ?_ ?_
      · refine a_ic 0 hX dX11_hasWholeVersion_21 (by decide) rfl ?_
        exact a_zret0 (by decide) hX hQ hr dX11_hasWholeVersion_22
      · refine a_ic 1 hX dX11_hasWholeVersion_17 (by decide) rfl ?_
        refine a_goto hX dX11_hasWholeVersion_18 rfl ?_
        exact a_zret0 (by decide) hX hQ hr dX11_hasWholeVersion_22

set_option maxRecDepth 100000 in
theorem ci_X11_hasWholeVersion (l : Launch) (v0 : Int32) (σ : Mem) : CI l yX11_hasWholeVersion cX11_hasWholeVersion 1 (some .boolean) 0 0 [.int v0] σ (m_X11_hasWholeVersion v0 σ) :=
  ci_of (by decide) (by simp [Value.category]) (by simp) (fun X r hl hX hR hQ hr => a_X11_hasWholeVersion_0 hX hR hQ hr v0 σ)

set_option maxRecDepth 100000 in
set_option maxHeartbeats 2000000 in
theorem a_X11_endOfCompatible_0 {X : AX} {r0 : Int32 × Mem} (hX : CX X cX11_endOfCompatible 3 RX11) (hR : (aR X).frames = 1 ∧ (aR X).locals = 24 ∧ aCe X ≤ (aR X).cells ∧ aSl X ≤ (aR X).slots) (hQ : QI X r0) (hr : (aMeth X).sig.returnType = (some .int)) (v0 v1 v2 : Int32) (σ : Mem) : AWo X r0 0 [some (.int v0), some (.int v1), some (.int v2)] [] σ (m_X11_endOfCompatible v0 v1 v2 σ) := by
  unfold m_X11_endOfCompatible
  refine a_il0 hX dX11_endOfCompatible_0 rfl ?_
  refine a_if_le hX dX11_endOfCompatible_1 rfl rfl ?_ ?_
  · refine a_il1 hX dX11_endOfCompatible_14 rfl ?_
    refine a_if_le hX dX11_endOfCompatible_15 rfl rfl ?_ ?_
    · refine a_ic 0 hX dX11_endOfCompatible_30 (by decide) rfl ?_
      refine a_ic 0 hX dX11_endOfCompatible_31 (by decide) rfl ?_
      refine a_il2 hX dX11_endOfCompatible_32 rfl ?_
      refine a_ic 1 hX dX11_endOfCompatible_33 (by decide) rfl ?_
      refine a_iadd hX dX11_endOfCompatible_34 rfl ?_
      refine a_ic 0 hX dX11_endOfCompatible_35 (by decide) rfl ?_
      refine a_callSI hX hR ml_X11_71 (ci_X11_rankOf _ _ _ _ _ _) rfl rfl (by decide) (Nat.le_of_ble_eq_true rfl) rfl dX11_endOfCompatible_36 rfl (fun x1 => ?_)
      exact a_iret hX hQ hr dX11_endOfCompatible_39
    · refine a_ic 0 hX dX11_endOfCompatible_18 (by decide) rfl ?_
      refine a_il1 hX dX11_endOfCompatible_19 rfl ?_
      refine a_ic 1 hX dX11_endOfCompatible_20 (by decide) rfl ?_
      refine a_iadd hX dX11_endOfCompatible_21 rfl ?_
      refine a_ic 0 hX dX11_endOfCompatible_22 (by decide) rfl ?_
      refine a_ic 0 hX dX11_endOfCompatible_23 (by decide) rfl ?_
      refine a_callSI hX hR ml_X11_71 (ci_X11_rankOf _ _ _ _ _ _) rfl rfl (by decide) (Nat.le_of_ble_eq_true rfl) rfl dX11_endOfCompatible_24 rfl (fun x2 => ?_)
      refine a_goto hX dX11_endOfCompatible_27 rfl ?_
      exact a_iret hX hQ hr dX11_endOfCompatible_39
  · refine a_il0 hX dX11_endOfCompatible_4 rfl ?_
    refine a_ic 1 hX dX11_endOfCompatible_5 (by decide) rfl ?_
    refine a_iadd hX dX11_endOfCompatible_6 rfl ?_
    refine a_ic 0 hX dX11_endOfCompatible_7 (by decide) rfl ?_
    refine a_ic 0 hX dX11_endOfCompatible_8 (by decide) rfl ?_
    refine a_ic 0 hX dX11_endOfCompatible_9 (by decide) rfl ?_
    refine a_callSI hX hR ml_X11_71 (ci_X11_rankOf _ _ _ _ _ _) rfl rfl (by decide) (Nat.le_of_ble_eq_true rfl) rfl dX11_endOfCompatible_10 rfl (fun x3 => ?_)
    exact a_iret hX hQ hr dX11_endOfCompatible_13

set_option maxRecDepth 100000 in
theorem ci_X11_endOfCompatible (l : Launch) (v0 v1 v2 : Int32) (σ : Mem) : CI l yX11_endOfCompatible cX11_endOfCompatible 3 (some .int) 1 24 [.int v0, .int v1, .int v2] σ (m_X11_endOfCompatible v0 v1 v2 σ) :=
  ci_of (by decide) (by simp [Value.category]) (by simp) (fun X r hl hX hR hQ hr => a_X11_endOfCompatible_0 hX hR hQ hr v0 v1 v2 σ)

set_option maxRecDepth 100000 in
set_option maxHeartbeats 2000000 in
theorem a_X11_endOf_0 {X : AX} {r0 : Int32 × Mem} (hX : CX X cX11_endOf 5 RX11) (hR : (aR X).frames = 2 ∧ (aR X).locals = 46 ∧ aCe X ≤ (aR X).cells ∧ aSl X ≤ (aR X).slots) (hQ : QI X r0) (hr : (aMeth X).sig.returnType = (some .int)) (v0 v1 v2 v3 v4 : Int32) (σ : Mem) : AWo X r0 0 [some (.int v0), some (.int v1), some (.int v2), some (.int v3), some (.int v4)] [] σ (m_X11_endOf v0 v1 v2 v3 v4 σ) := by
  unfold m_X11_endOf
  refine a_il0 hX dX11_endOf_0 rfl ?_
  refine a_tsw8 hX dX11_endOf_1 rfl ?_ rfl ?_ rfl ?_ rfl ?_ rfl ?_ rfl ?_ rfl ?_ rfl ?_ rfl ?_
  · refine a_il4 hX dX11_endOf_48 rfl ?_
    refine a_ic 1 hX dX11_endOf_50 (by decide) rfl ?_
    refine a_iadd hX dX11_endOf_51 rfl ?_
    exact a_iret hX hQ hr dX11_endOf_52
  · refine a_ldcw 65536 hX kc_X11_320 dX11_endOf_83 rfl ?_
    exact a_iret hX hQ hr dX11_endOf_86
  · refine a_il4 hX dX11_endOf_53 rfl ?_
    exact a_iret hX hQ hr dX11_endOf_55
  · refine a_ldcw 65536 hX kc_X11_320 dX11_endOf_83 rfl ?_
    exact a_iret hX hQ hr dX11_endOf_86
  · refine a_il1 hX dX11_endOf_56 rfl ?_
    refine a_il2 hX dX11_endOf_57 rfl ?_
    refine a_il3 hX dX11_endOf_58 rfl ?_
    refine a_callSI hX hR ml_X11_317 (ci_X11_endOfCompatible _ _ _ _ _) rfl rfl (by decide) (Nat.le_of_ble_eq_true rfl) rfl dX11_endOf_59 rfl (fun x1 => ?_)
    exact a_iret hX hQ hr dX11_endOf_62
  · refine a_il1 hX dX11_endOf_63 rfl ?_
    refine a_il2 hX dX11_endOf_64 rfl ?_
    refine a_ic 1 hX dX11_endOf_65 (by decide) rfl ?_
    refine a_iadd hX dX11_endOf_66 rfl ?_
    refine a_ic 0 hX dX11_endOf_67 (by decide) rfl ?_
    refine a_ic 0 hX dX11_endOf_68 (by decide) rfl ?_
    refine a_callSI hX hR ml_X11_71 (ci_X11_rankOf _ _ _ _ _ _) rfl rfl (by decide) (Nat.le_of_ble_eq_true rfl) rfl dX11_endOf_69 rfl (fun x2 => ?_)
    exact a_iret hX hQ hr dX11_endOf_72
  · refine a_il1 hX dX11_endOf_73 rfl ?_
    refine a_ic 1 hX dX11_endOf_74 (by decide) rfl ?_
    refine a_iadd hX dX11_endOf_75 rfl ?_
    refine a_ic 0 hX dX11_endOf_76 (by decide) rfl ?_
    refine a_ic 0 hX dX11_endOf_77 (by decide) rfl ?_
    refine a_ic 0 hX dX11_endOf_78 (by decide) rfl ?_
    refine a_callSI hX hR ml_X11_71 (ci_X11_rankOf _ _ _ _ _ _) rfl rfl (by decide) (Nat.le_of_ble_eq_true rfl) rfl dX11_endOf_79 rfl (fun x3 => ?_)
    exact a_iret hX hQ hr dX11_endOf_82
  · refine a_il1 hX dX11_endOf_63 rfl ?_
    refine a_il2 hX dX11_endOf_64 rfl ?_
    refine a_ic 1 hX dX11_endOf_65 (by decide) rfl ?_
    refine a_iadd hX dX11_endOf_66 rfl ?_
    refine a_ic 0 hX dX11_endOf_67 (by decide) rfl ?_
    refine a_ic 0 hX dX11_endOf_68 (by decide) rfl ?_
    refine a_callSI hX hR ml_X11_71 (ci_X11_rankOf _ _ _ _ _ _) rfl rfl (by decide) (Nat.le_of_ble_eq_true rfl) rfl dX11_endOf_69 rfl (fun x4 => ?_)
    exact a_iret hX hQ hr dX11_endOf_72
  · refine a_ldcw 65536 hX kc_X11_320 dX11_endOf_83 rfl ?_
    exact a_iret hX hQ hr dX11_endOf_86

set_option maxRecDepth 100000 in
theorem ci_X11_endOf (l : Launch) (v0 v1 v2 v3 v4 : Int32) (σ : Mem) : CI l yX11_endOf cX11_endOf 5 (some .int) 2 46 [.int v0, .int v1, .int v2, .int v3, .int v4] σ (m_X11_endOf v0 v1 v2 v3 v4 σ) :=
  ci_of (by decide) (by simp [Value.category]) (by simp) (fun X r hl hX hR hQ hr => a_X11_endOf_0 hX hR hQ hr v0 v1 v2 v3 v4 σ)

set_option maxRecDepth 100000 in
set_option maxHeartbeats 2000000 in
theorem a_X11_isRange_0 {X : AX} {r0 : Int32 × Mem} (hX : CX X cX11_isRange 2 RX11) (hR : (aR X).frames = 1 ∧ (aR X).locals = 21 ∧ aCe X ≤ (aR X).cells ∧ aSl X ≤ (aR X).slots) (hQ : QI X r0) (hr : (aMeth X).sig.returnType = (some .boolean)) (v1 : Int32) (σ : Mem) : AWo X r0 0 [some (.ref 0), some (.int v1)] [] σ (m_X11_isRange v1 σ) := by
  unfold m_X11_isRange
  refine a_al0 hX dX11_isRange_0 rfl ?_
  refine a_getR hX fl_X11_17 s_0 rfl dX11_isRange_1 rfl ?_
  refine a_getR hX fl_X11_95 s_1 rfl dX11_isRange_4 rfl ?_
  refine a_getI hX fl_X11_316 s_17 rfl dX11_isRange_7 rfl ?_
  refine a_ic 1 hX dX11_isRange_10 (by decide) rfl ?_
  refine a_isub hX dX11_isRange_11 rfl ?_
  refine a_il1 hX dX11_isRange_12 rfl ?_
  refine a_callSI hX hR ml_X11_52 (ci_X11_isUpTo _ _ _ _) rfl rfl (by decide) (Nat.le_of_ble_eq_true rfl) rfl dX11_isRange_13 rfl (fun x1 => ?_)
  exact a_zret hX hQ hr dX11_isRange_16

set_option maxRecDepth 100000 in
theorem ci_X11_isRange (l : Launch) (v1 : Int32) (σ : Mem) : CI l yX11_isRange cX11_isRange 2 (some .boolean) 1 21 [.ref 0, .int v1] σ (m_X11_isRange v1 σ) :=
  ci_of (by decide) (by simp [Value.category]) (by simp) (fun X r hl hX hR hQ hr => a_X11_isRange_0 hX hR hQ hr v1 σ)

set_option maxRecDepth 100000 in
set_option maxHeartbeats 2000000 in
theorem a_X11_solutions_17 {X : AX} {r0 : Int32 × Mem} (hX : CX X cX11_solutions 2 RX11) (hR : (aR X).frames = 5 ∧ (aR X).locals = 120 ∧ aCe X ≤ (aR X).cells ∧ aSl X ≤ (aR X).slots) (hQ : QI X r0) (hr : (aMeth X).sig.returnType = (some .int)) : ∀ (fuel : Nat) (v1 : Int32) (σ : Mem), AWo X r0 17 [some (.ref 0), some (.int v1)] [] σ (m_X11_solutions_17 fuel v1 σ) := by
  intro fuel
  induction fuel with
  | zero => intro v1 σ; exact a_none
  | succ fuel ih =>
    intro v1 σ
    show AWo X r0 17 [some (.ref 0), some (.int v1)] [] σ (m_X11_solutions_17 (fuel + 1) v1 σ)
    unfold m_X11_solutions_17
    refine a_il1 hX dX11_solutions_17 rfl ?_
    refine a_si 1000 hX dX11_solutions_18 (by decide) rfl ?_
    refine a_icmp_ge hX dX11_solutions_21 rfl rfl ?_ ?_
    · refine a_il1 hX dX11_solutions_40 rfl ?_
      exact a_iret hX hQ hr dX11_solutions_41
    · refine a_al0 hX dX11_solutions_24 rfl ?_
      refine a_getR hX fl_X11_30 s_0 rfl dX11_solutions_25 rfl ?_
      refine a_callI hX hR ml_X11_273 (ci_X8_next _ _) s_67 rfl rfl rfl (by decide) (Nat.le_of_ble_eq_true rfl) rfl dX11_solutions_28 rfl (fun x1 => ?_)
      refine a_if_eq hX dX11_solutions_31 rfl rfl ?_ ?_
      · refine a_il1 hX dX11_solutions_40 rfl ?_
        exact a_iret hX hQ hr dX11_solutions_41
      · refine a_inc1 1 hX dX11_solutions_34 (by decide) rfl ?_
        refine a_goto hX dX11_solutions_37 rfl ?_
        exact a_sub (ih (v1 + 1) x1.2) (ls_s (ls_s ls_0))

set_option maxRecDepth 100000 in
set_option maxHeartbeats 2000000 in
theorem a_X11_solutions_0 {X : AX} {r0 : Int32 × Mem} (hX : CX X cX11_solutions 2 RX11) (hR : (aR X).frames = 5 ∧ (aR X).locals = 120 ∧ aCe X ≤ (aR X).cells ∧ aSl X ≤ (aR X).slots) (hQ : QI X r0) (hr : (aMeth X).sig.returnType = (some .int)) (σ : Mem) : AWo X r0 0 [some (.ref 0), none] [] σ (m_X11_solutions  σ) := by
  unfold m_X11_solutions
  refine a_al0 hX dX11_solutions_0 rfl ?_
  refine a_getR hX fl_X11_30 s_0 rfl dX11_solutions_1 rfl ?_
  refine a_al0 hX dX11_solutions_4 rfl ?_
  refine a_getR hX fl_X11_21 s_0 rfl dX11_solutions_5 rfl ?_
  refine a_callI hX hR ml_X11_267 (ci_X5_demands _ _) s_66 rfl rfl rfl (by decide) (Nat.le_of_ble_eq_true rfl) rfl dX11_solutions_8 rfl (fun x1 => ?_)
  refine a_ic (-1) hX dX11_solutions_11 (by decide) rfl ?_
  refine a_callV hX hR ml_X11_270 (ci_X8_begin _ _ _ _) s_67 rfl rfl rfl (by decide) (Nat.le_of_ble_eq_true rfl) rfl dX11_solutions_12 rfl (fun x2 => ?_)
  refine a_ic 0 hX dX11_solutions_15 (by decide) rfl ?_
  refine a_is1 hX dX11_solutions_16 rfl ?_
  exact a_sub (a_X11_solutions_17 hX hR hQ hr FU 0 x2.2) (ls_s (ls_s ls_0))

set_option maxRecDepth 100000 in
theorem ci_X11_solutions (l : Launch) (σ : Mem) : CI l yX11_solutions cX11_solutions 2 (some .int) 5 120 [.ref 0] σ (m_X11_solutions  σ) :=
  ci_of (by decide) (by simp [Value.category]) (by simp) (fun X r hl hX hR hQ hr => a_X11_solutions_0 hX hR hQ hr σ)

set_option maxRecDepth 100000 in
set_option maxHeartbeats 2000000 in
theorem a_J6_bitCount_0f7a4_0 {X : AX} {r0 : Int32 × Mem} (hX : CX X cJ6_bitCount_0f7a4 1 RJ6) (hR : (aR X).frames = 0 ∧ (aR X).locals = 0 ∧ aCe X ≤ (aR X).cells ∧ aSl X ≤ (aR X).slots) (hQ : QI X r0) (hr : (aMeth X).sig.returnType = (some .int)) (v0 : Int32) (σ : Mem) : AWo X r0 0 [some (.int v0)] [] σ (m_J6_bitCount_0f7a4 v0 σ) := by
  unfold m_J6_bitCount_0f7a4
  refine a_il0 hX dJ6_bitCount_0f7a4_0 rfl ?_
  refine a_il0 hX dJ6_bitCount_0f7a4_1 rfl ?_
  refine a_ic 1 hX dJ6_bitCount_0f7a4_2 (by decide) rfl ?_
  refine a_iushr hX dJ6_bitCount_0f7a4_3 rfl ?_
  refine a_ldcw 1431655765 hX kc_J6_265 dJ6_bitCount_0f7a4_4 rfl ?_
  refine a_iand hX dJ6_bitCount_0f7a4_7 rfl ?_
  refine a_isub hX dJ6_bitCount_0f7a4_8 rfl ?_
  refine a_name (fun y1 => ?_)
  refine a_is0 hX dJ6_bitCount_0f7a4_9 rfl ?_
  refine a_il0 hX dJ6_bitCount_0f7a4_10 rfl ?_
  refine a_ldcw 858993459 hX kc_J6_266 dJ6_bitCount_0f7a4_11 rfl ?_
  refine a_iand hX dJ6_bitCount_0f7a4_14 rfl ?_
  refine a_il0 hX dJ6_bitCount_0f7a4_15 rfl ?_
  refine a_ic 2 hX dJ6_bitCount_0f7a4_16 (by decide) rfl ?_
  refine a_iushr hX dJ6_bitCount_0f7a4_17 rfl ?_
  refine a_ldcw 858993459 hX kc_J6_266 dJ6_bitCount_0f7a4_18 rfl ?_
  refine a_iand hX dJ6_bitCount_0f7a4_21 rfl ?_
  refine a_iadd hX dJ6_bitCount_0f7a4_22 rfl ?_
  refine a_name (fun y2 => ?_)
  refine a_is0 hX dJ6_bitCount_0f7a4_23 rfl ?_
  refine a_il0 hX dJ6_bitCount_0f7a4_24 rfl ?_
  refine a_il0 hX dJ6_bitCount_0f7a4_25 rfl ?_
  refine a_ic 4 hX dJ6_bitCount_0f7a4_26 (by decide) rfl ?_
  refine a_iushr hX dJ6_bitCount_0f7a4_27 rfl ?_
  refine a_iadd hX dJ6_bitCount_0f7a4_28 rfl ?_
  refine a_ldcw 252645135 hX kc_J6_267 dJ6_bitCount_0f7a4_29 rfl ?_
  refine a_iand hX dJ6_bitCount_0f7a4_32 rfl ?_
  refine a_name (fun y3 => ?_)
  refine a_is0 hX dJ6_bitCount_0f7a4_33 rfl ?_
  refine a_il0 hX dJ6_bitCount_0f7a4_34 rfl ?_
  refine a_il0 hX dJ6_bitCount_0f7a4_35 rfl ?_
  refine a_bi 8 hX dJ6_bitCount_0f7a4_36 (by decide) rfl ?_
  refine a_iushr hX dJ6_bitCount_0f7a4_38 rfl ?_
  refine a_iadd hX dJ6_bitCount_0f7a4_39 rfl ?_
  refine a_name (fun y4 => ?_)
  refine a_is0 hX dJ6_bitCount_0f7a4_40 rfl ?_
  refine a_il0 hX dJ6_bitCount_0f7a4_41 rfl ?_
  refine a_il0 hX dJ6_bitCount_0f7a4_42 rfl ?_
  refine a_bi 16 hX dJ6_bitCount_0f7a4_43 (by decide) rfl ?_
  refine a_iushr hX dJ6_bitCount_0f7a4_45 rfl ?_
  refine a_iadd hX dJ6_bitCount_0f7a4_46 rfl ?_
  refine a_name (fun y5 => ?_)
  refine a_is0 hX dJ6_bitCount_0f7a4_47 rfl ?_
  refine a_il0 hX dJ6_bitCount_0f7a4_48 rfl ?_
  refine a_bi 63 hX dJ6_bitCount_0f7a4_49 (by decide) rfl ?_
  refine a_iand hX dJ6_bitCount_0f7a4_51 rfl ?_
  exact a_iret hX hQ hr dJ6_bitCount_0f7a4_52

set_option maxRecDepth 100000 in
theorem ci_J6_bitCount_0f7a4 (l : Launch) (v0 : Int32) (σ : Mem) : CI l yJ6_bitCount_0f7a4 cJ6_bitCount_0f7a4 1 (some .int) 0 0 [.int v0] σ (m_J6_bitCount_0f7a4 v0 σ) :=
  ci_of (by decide) (by simp [Value.category]) (by simp) (fun X r hl hX hR hQ hr => a_J6_bitCount_0f7a4_0 hX hR hQ hr v0 σ)

set_option maxRecDepth 100000 in
set_option maxHeartbeats 2000000 in
theorem a_X11_why_31 {X : AX} {r0 : Int32 × Mem} (hX : CX X cX11_why 4 RX11) (hR : (aR X).frames = 6 ∧ (aR X).locals = 141 ∧ aCe X ≤ (aR X).cells ∧ aSl X ≤ (aR X).slots) (hQ : QI X r0) (hr : (aMeth X).sig.returnType = (some .int)) (f23 : Int32 → Int32 → Mem → Option (Int32 × Mem)) (hf23 : ∀ (v1 v2 : Int32) (σ : Mem), AWo X r0 23 [some (.ref 0), some (.int v1), some (.int v2), none] [] σ (f23 v1 v2 σ)) : ∀ (fuel : Nat) (v1 v2 v3 : Int32) (σ : Mem), AWo X r0 31 [some (.ref 0), some (.int v1), some (.int v2), some (.int v3)] [] σ (m_X11_why_31 f23 fuel v1 v2 v3 σ) := by
  intro fuel
  induction fuel with
  | zero => intro v1 v2 v3 σ; exact a_none
  | succ fuel ih =>
    intro v1 v2 v3 σ
    show AWo X r0 31 [some (.ref 0), some (.int v1), some (.int v2), some (.int v3)] [] σ (m_X11_why_31 f23 (fuel + 1) v1 v2 v3 σ)
    unfold m_X11_why_31
    refine a_il3 hX dX11_why_31 rfl ?_
    refine a_il1 hX dX11_why_32 rfl ?_
    refine a_icmp_gt hX dX11_why_33 rfl rfl ?_ ?_
    · refine a_inc2 1 hX dX11_why_71 (by decide) rfl ?_
      refine a_goto hX dX11_why_74 rfl ?_
      exact a_sub (hf23 v1 (v2 + 1) (σ)) (ls_s (ls_s (ls_s (ls_n ls_0))))
    · refine a_il3 hX dX11_why_36 rfl ?_
      refine a_il1 hX dX11_why_37 rfl ?_
      refine a_ic (-1) hX dX11_why_38 (by decide) rfl ?_
      refine a_ixor hX dX11_why_39 rfl ?_
      refine a_iand hX dX11_why_40 rfl ?_
      refine a_if_ne hX dX11_why_41 rfl rfl ?_ ?_
      · refine a_inc3 1 hX dX11_why_65 (by decide) rfl ?_
        refine a_goto hX dX11_why_68 rfl ?_
        exact a_sub (ih v1 v2 (v3 + 1) (σ)) (ls_s (ls_s (ls_s (ls_s ls_0))))
      · refine a_il3 hX dX11_why_44 rfl ?_
        refine a_callSI hX hR ml_X11_279 (ci_J6_bitCount_0f7a4 _ _ _) rfl rfl (by decide) (Nat.le_of_ble_eq_true rfl) rfl dX11_why_45 rfl (fun x1 => ?_)
        refine a_il2 hX dX11_why_48 rfl ?_
        refine a_icmp_ne hX dX11_why_49 rfl rfl ?_ ?_
        · refine a_inc3 1 hX dX11_why_65 (by decide) rfl ?_
          refine a_goto hX dX11_why_68 rfl ?_
          exact a_sub (ih v1 v2 (v3 + 1) x1.2) (ls_s (ls_s (ls_s (ls_s ls_0))))
        · refine a_al0 hX dX11_why_52 rfl ?_
          refine a_getR hX fl_X11_30 s_0 rfl dX11_why_53 rfl ?_
          refine a_il3 hX dX11_why_56 rfl ?_
          refine a_callI hX hR ml_X11_276 (ci_X8_isSolvable _ _ _) s_67 rfl rfl rfl (by decide) (Nat.le_of_ble_eq_true rfl) rfl dX11_why_57 rfl (fun x2 => ?_)
          refine a_if_ne hX dX11_why_60 rfl rfl ?_ ?_
          · refine a_inc3 1 hX dX11_why_65 (by decide) rfl ?_
            refine a_goto hX dX11_why_68 rfl ?_
            exact a_sub (ih v1 v2 (v3 + 1) x2.2) (ls_s (ls_s (ls_s (ls_s ls_0))))
          · refine a_il3 hX dX11_why_63 rfl ?_
            exact a_iret hX hQ hr dX11_why_64

set_option maxRecDepth 100000 in
set_option maxHeartbeats 2000000 in
theorem a_X11_why_23 {X : AX} {r0 : Int32 × Mem} (hX : CX X cX11_why 4 RX11) (hR : (aR X).frames = 6 ∧ (aR X).locals = 141 ∧ aCe X ≤ (aR X).cells ∧ aSl X ≤ (aR X).slots) (hQ : QI X r0) (hr : (aMeth X).sig.returnType = (some .int)) : ∀ (fuel : Nat) (v1 v2 : Int32) (σ : Mem), AWo X r0 23 [some (.ref 0), some (.int v1), some (.int v2), none] [] σ (m_X11_why_23 fuel v1 v2 σ) := by
  intro fuel
  induction fuel with
  | zero => intro v1 v2 σ; exact a_none
  | succ fuel ih =>
    intro v1 v2 σ
    show AWo X r0 23 [some (.ref 0), some (.int v1), some (.int v2), none] [] σ (m_X11_why_23 (fuel + 1) v1 v2 σ)
    unfold m_X11_why_23
    refine a_il2 hX dX11_why_23 rfl ?_
    refine a_bi 6 hX dX11_why_24 (by decide) rfl ?_
    refine a_icmp_gt hX dX11_why_26 rfl rfl ?_ ?_
    · refine a_il1 hX dX11_why_77 rfl ?_
      exact a_iret hX hQ hr dX11_why_78
    · refine a_ic 1 hX dX11_why_29 (by decide) rfl ?_
      refine a_is3 hX dX11_why_30 rfl ?_
      exact a_sub (a_X11_why_31 hX hR hQ hr (m_X11_why_23 fuel) ih FU v1 v2 1 (σ)) (ls_s (ls_s (ls_s (ls_s ls_0))))

set_option maxRecDepth 100000 in
set_option maxHeartbeats 2000000 in
theorem a_X11_why_0 {X : AX} {r0 : Int32 × Mem} (hX : CX X cX11_why 4 RX11) (hR : (aR X).frames = 6 ∧ (aR X).locals = 141 ∧ aCe X ≤ (aR X).cells ∧ aSl X ≤ (aR X).slots) (hQ : QI X r0) (hr : (aMeth X).sig.returnType = (some .int)) (σ : Mem) : AWo X r0 0 [some (.ref 0), none, none, none] [] σ (m_X11_why  σ) := by
  unfold m_X11_why
  refine a_al0 hX dX11_why_0 rfl ?_
  refine a_getR hX fl_X11_21 s_0 rfl dX11_why_1 rfl ?_
  refine a_callI hX hR ml_X11_267 (ci_X5_demands _ _) s_66 rfl rfl rfl (by decide) (Nat.le_of_ble_eq_true rfl) rfl dX11_why_4 rfl (fun x1 => ?_)
  refine a_is1 hX dX11_why_7 rfl ?_
  refine a_al0 hX dX11_why_8 rfl ?_
  refine a_getR hX fl_X11_30 s_0 rfl dX11_why_9 rfl ?_
  refine a_il1 hX dX11_why_12 rfl ?_
  refine a_callI hX hR ml_X11_276 (ci_X8_isSolvable _ _ _) s_67 rfl rfl rfl (by decide) (Nat.le_of_ble_eq_true rfl) rfl dX11_why_13 rfl (fun x2 => ?_)
  refine a_if_eq hX dX11_why_16 rfl rfl ?_ ?_
  · refine a_ic 1 hX dX11_why_21 (by decide) rfl ?_
    refine a_is2 hX dX11_why_22 rfl ?_
    exact a_sub (a_X11_why_23 hX hR hQ hr FU x1.1 1 x2.2) (ls_s (ls_s (ls_s (ls_n ls_0))))
  · refine a_ic 0 hX dX11_why_19 (by decide) rfl ?_
    exact a_iret hX hQ hr dX11_why_20

set_option maxRecDepth 100000 in
theorem ci_X11_why (l : Launch) (σ : Mem) : CI l yX11_why cX11_why 4 (some .int) 6 141 [.ref 0] σ (m_X11_why  σ) :=
  ci_of (by decide) (by simp [Value.category]) (by simp) (fun X r hl hX hR hQ hr => a_X11_why_0 hX hR hQ hr σ)

set_option maxRecDepth 100000 in
set_option maxHeartbeats 2000000 in
theorem a_X11_pending_16 {X : AX} {r0 : Int32 × Mem} (hX : CX X cX11_pending 4 RX11) (hR : (aR X).frames = 6 ∧ (aR X).locals = 142 ∧ aCe X ≤ (aR X).cells ∧ aSl X ≤ (aR X).slots) (hQ : QI X r0) (hr : (aMeth X).sig.returnType = (some .int)) : ∀ (fuel : Nat) (v1 v2 : Int32) (σ : Mem), AWo X r0 16 [some (.ref 0), some (.int v1), some (.int v2), none] [] σ (m_X11_pending_16 fuel v1 v2 σ) := by
  intro fuel
  induction fuel with
  | zero => intro v1 v2 σ; exact a_none
  | succ fuel ih =>
    intro v1 v2 σ
    show AWo X r0 16 [some (.ref 0), some (.int v1), some (.int v2), none] [] σ (m_X11_pending_16 (fuel + 1) v1 v2 σ)
    unfold m_X11_pending_16
    refine a_il2 hX dX11_pending_16 rfl ?_
    refine a_bi 6 hX dX11_pending_17 (by decide) rfl ?_
    refine a_icmp_ge hX dX11_pending_19 rfl rfl ?_ ?_
    · refine a_il1 hX dX11_pending_69 rfl ?_
      exact a_iret hX hQ hr dX11_pending_70
    · refine a_al0 hX dX11_pending_22 rfl ?_
      refine a_getR hX fl_X11_30 s_0 rfl dX11_pending_23 rfl ?_
      refine a_getR hX fl_X11_256 s_67 rfl dX11_pending_26 rfl ?_
      refine a_il2 hX dX11_pending_29 rfl ?_
      refine a_callI hX hR ml_X11_114 (ci_X7_get _ 68 69 6 s_68 s_69 _ _) s_68 rfl rfl rfl (by decide) (Nat.le_of_ble_eq_true rfl) rfl dX11_pending_30 rfl (fun x1 => ?_)
      refine a_is3 hX dX11_pending_33 rfl ?_
      refine a_al0 hX dX11_pending_34 rfl ?_
      refine a_getR hX fl_X11_44 s_0 rfl dX11_pending_35 rfl ?_
      refine a_il2 hX dX11_pending_38 rfl ?_
      refine a_il3 hX dX11_pending_39 rfl ?_
      refine a_al0 hX dX11_pending_40 rfl ?_
      refine a_getR hX fl_X11_17 s_0 rfl dX11_pending_41 rfl ?_
      refine a_getR hX fl_X11_75 s_1 rfl dX11_pending_44 rfl ?_
      refine a_getR hX fl_X11_295 s_2 rfl dX11_pending_47 rfl ?_
      refine a_il3 hX dX11_pending_50 rfl ?_
      refine a_callI hX hR ml_X11_114 (ci_X7_get _ 7 8 24 s_7 s_8 _ _) s_7 rfl rfl rfl (by decide) (Nat.le_of_ble_eq_true rfl) rfl dX11_pending_51 rfl (fun x2 => ?_)
      refine a_callI hX hR ml_X11_298 (ci_X3_differs _ _ _ _ _) s_89 rfl rfl rfl (by decide) (Nat.le_of_ble_eq_true rfl) rfl dX11_pending_54 rfl (fun x3 => ?_)
      refine a_if_eq hX dX11_pending_57 rfl rfl ?_ ?_
      · refine a_inc2 1 hX dX11_pending_63 (by decide) rfl ?_
        refine a_goto hX dX11_pending_66 rfl ?_
        exact a_sub (ih v1 (v2 + 1) x3.2) (ls_s (ls_s (ls_s (ls_n ls_0))))
      · refine a_inc1 1 hX dX11_pending_60 (by decide) rfl ?_
        refine a_inc2 1 hX dX11_pending_63 (by decide) rfl ?_
        refine a_goto hX dX11_pending_66 rfl ?_
        exact a_sub (ih (v1 + 1) (v2 + 1) x3.2) (ls_s (ls_s (ls_s (ls_n ls_0))))

set_option maxRecDepth 100000 in
set_option maxHeartbeats 2000000 in
theorem a_X11_pending_0 {X : AX} {r0 : Int32 × Mem} (hX : CX X cX11_pending 4 RX11) (hR : (aR X).frames = 6 ∧ (aR X).locals = 142 ∧ aCe X ≤ (aR X).cells ∧ aSl X ≤ (aR X).slots) (hQ : QI X r0) (hr : (aMeth X).sig.returnType = (some .int)) (σ : Mem) : AWo X r0 0 [some (.ref 0), none, none, none] [] σ (m_X11_pending  σ) := by
  unfold m_X11_pending
  refine a_al0 hX dX11_pending_0 rfl ?_
  refine a_getR hX fl_X11_30 s_0 rfl dX11_pending_1 rfl ?_
  refine a_callI hX hR ml_X11_253 (ci_X8_findBest _ _) s_67 rfl rfl rfl (by decide) (Nat.le_of_ble_eq_true rfl) rfl dX11_pending_4 rfl (fun x1 => ?_)
  refine a_if_ne hX dX11_pending_7 rfl rfl ?_ ?_
  · refine a_ic 0 hX dX11_pending_12 (by decide) rfl ?_
    refine a_is1 hX dX11_pending_13 rfl ?_
    refine a_ic 0 hX dX11_pending_14 (by decide) rfl ?_
    refine a_is2 hX dX11_pending_15 rfl ?_
    exact a_sub (a_X11_pending_16 hX hR hQ hr FU 0 0 x1.2) (ls_s (ls_s (ls_s (ls_n ls_0))))
  · refine a_ic (-1) hX dX11_pending_10 (by decide) rfl ?_
    exact a_iret hX hQ hr dX11_pending_11

set_option maxRecDepth 100000 in
theorem ci_X11_pending (l : Launch) (σ : Mem) : CI l yX11_pending cX11_pending 4 (some .int) 6 142 [.ref 0] σ (m_X11_pending  σ) :=
  ci_of (by decide) (by simp [Value.category]) (by simp) (fun X r hl hX hR hQ hr => a_X11_pending_0 hX hR hQ hr σ)

set_option maxRecDepth 100000 in
set_option maxHeartbeats 2000000 in
theorem a_X12_thrown_0 {X : AX} {r0 : Int32 × Mem} (hX : CX X cX12_thrown 1 RX12) (hR : (aR X).frames = 0 ∧ (aR X).locals = 0 ∧ aCe X ≤ (aR X).cells ∧ aSl X ≤ (aR X).slots) (hQ : QI X r0) (hr : (aMeth X).sig.returnType = (some .int)) (σ : Mem) : AWo X r0 0 [some (.ref 94)] [] σ (m_X12_thrown  σ) := by
  unfold m_X12_thrown
  refine a_al0 hX dX12_thrown_0 rfl ?_
  refine a_getI hX fl_X12_72 s_94 rfl dX12_thrown_1 rfl ?_
  exact a_iret hX hQ hr dX12_thrown_4

set_option maxRecDepth 100000 in
theorem ci_X12_thrown (l : Launch) (σ : Mem) : CI l yX12_thrown cX12_thrown 1 (some .int) 0 0 [.ref 94] σ (m_X12_thrown  σ) :=
  ci_of (by decide) (by simp [Value.category]) (by simp) (fun X r hl hX hR hQ hr => a_X12_thrown_0 hX hR hQ hr σ)

set_option maxRecDepth 100000 in
set_option maxHeartbeats 2000000 in
theorem a_X12_goesWell_0 {X : AX} {r0 : Int32 × Mem} (hX : CX X cX12_goesWell 2 RX12) (hR : (aR X).frames = 0 ∧ (aR X).locals = 0 ∧ aCe X ≤ (aR X).cells ∧ aSl X ≤ (aR X).slots) (hQ : QI X r0) (hr : (aMeth X).sig.returnType = (some .boolean)) (v1 : Int32) (σ : Mem) : AWo X r0 0 [some (.ref 94), some (.int v1)] [] σ (m_X12_goesWell v1 σ) := by
  unfold m_X12_goesWell
  refine a_al0 hX dX12_goesWell_0 rfl ?_
  refine a_il1 hX dX12_goesWell_1 rfl ?_
  refine a_putI hX fp_X12_72 s_94 rfl dX12_goesWell_2 rfl ?_
  refine a_nameM (fun m1 => ?_)
  refine a_il1 hX dX12_goesWell_5 rfl ?_
  refine a_if_ne hX dX12_goesWell_6 rfl rfl ?_ ?_
  · refine a_ic 0 hX dX12_goesWell_13 (by decide) rfl ?_
    exact a_zret0 (by decide) hX hQ hr dX12_goesWell_14
  · refine a_ic 1 hX dX12_goesWell_9 (by decide) rfl ?_
    refine a_goto hX dX12_goesWell_10 rfl ?_
    exact a_zret0 (by decide) hX hQ hr dX12_goesWell_14

set_option maxRecDepth 100000 in
theorem ci_X12_goesWell (l : Launch) (v1 : Int32) (σ : Mem) : CI l yX12_goesWell cX12_goesWell 2 (some .boolean) 0 0 [.ref 94, .int v1] σ (m_X12_goesWell v1 σ) :=
  ci_of (by decide) (by simp [Value.category]) (by simp) (fun X r hl hX hR hQ hr => a_X12_goesWell_0 hX hR hQ hr v1 σ)

set_option maxRecDepth 100000 in
set_option maxHeartbeats 2000000 in
theorem a_X12_in_0 {X : AX} {r0 : Int32 × Mem} (hX : CX X cX12_in 3 RX12) (hR : (aR X).frames = 0 ∧ (aR X).locals = 0 ∧ aCe X ≤ (aR X).cells ∧ aSl X ≤ (aR X).slots) (hQ : QI X r0) (hr : (aMeth X).sig.returnType = (some .boolean)) (v0 v1 v2 : Int32) (σ : Mem) : AWo X r0 0 [some (.int v0), some (.int v1), some (.int v2)] [] σ (m_X12_in v0 v1 v2 σ) := by
  unfold m_X12_in
  refine a_il0 hX dX12_in_0 rfl ?_
  refine a_il1 hX dX12_in_1 rfl ?_
  refine a_icmp_lt hX dX12_in_2 rfl rfl ?_ ?_
  · refine a_ic 0 hX dX12_in_14 (by decide) rfl ?_
    exact a_zret0 (by decide) hX hQ hr dX12_in_15
  · refine a_il0 hX dX12_in_5 rfl ?_
    refine a_il2 hX dX12_in_6 rfl ?_
    refine a_icmp_gt hX dX12_in_7 rfl rfl ?_ ?_
    · refine a_ic 0 hX dX12_in_14 (by decide) rfl ?_
      exact a_zret0 (by decide) hX hQ hr dX12_in_15
    · refine a_ic 1 hX dX12_in_10 (by decide) rfl ?_
      refine a_goto hX dX12_in_11 rfl ?_
      exact a_zret0 (by decide) hX hQ hr dX12_in_15

set_option maxRecDepth 100000 in
theorem ci_X12_in (l : Launch) (v0 v1 v2 : Int32) (σ : Mem) : CI l yX12_in cX12_in 3 (some .boolean) 0 0 [.int v0, .int v1, .int v2] σ (m_X12_in v0 v1 v2 σ) :=
  ci_of (by decide) (by simp [Value.category]) (by simp) (fun X r hl hX hR hQ hr => a_X12_in_0 hX hR hQ hr v0 v1 v2 σ)

set_option maxRecDepth 100000 in
set_option maxHeartbeats 2000000 in
theorem a_X12_isPackage_0 {X : AX} {r0 : Int32 × Mem} (hX : CX X cX12_isPackage 1 RX12) (hR : (aR X).frames = 1 ∧ (aR X).locals = 22 ∧ aCe X ≤ (aR X).cells ∧ aSl X ≤ (aR X).slots) (hQ : QI X r0) (hr : (aMeth X).sig.returnType = (some .boolean)) (v0 : Int32) (σ : Mem) : AWo X r0 0 [some (.int v0)] [] σ (m_X12_isPackage v0 σ) := by
  unfold m_X12_isPackage
  refine a_il0 hX dX12_isPackage_0 rfl ?_
  refine a_ic 0 hX dX12_isPackage_1 (by decide) rfl ?_
  refine a_ic 5 hX dX12_isPackage_2 (by decide) rfl ?_
  refine a_callSI hX hR ml_X12_75 (ci_X12_in _ _ _ _ _) rfl rfl (by decide) (Nat.le_of_ble_eq_true rfl) rfl dX12_isPackage_3 rfl (fun x1 => ?_)
  exact a_zret hX hQ hr dX12_isPackage_6

set_option maxRecDepth 100000 in
theorem ci_X12_isPackage (l : Launch) (v0 : Int32) (σ : Mem) : CI l yX12_isPackage cX12_isPackage 1 (some .boolean) 1 22 [.int v0] σ (m_X12_isPackage v0 σ) :=
  ci_of (by decide) (by simp [Value.category]) (by simp) (fun X r hl hX hR hQ hr => a_X12_isPackage_0 hX hR hQ hr v0 σ)

set_option maxRecDepth 100000 in
set_option maxHeartbeats 2000000 in
theorem a_X12_isVersion_0 {X : AX} {r0 : Int32 × Mem} (hX : CX X cX12_isVersion 2 RX12) (hR : (aR X).frames = 1 ∧ (aR X).locals = 22 ∧ aCe X ≤ (aR X).cells ∧ aSl X ≤ (aR X).slots) (hQ : QI X r0) (hr : (aMeth X).sig.returnType = (some .boolean)) (v1 : Int32) (σ : Mem) : AWo X r0 0 [some (.ref 94), some (.int v1)] [] σ (m_X12_isVersion v1 σ) := by
  unfold m_X12_isVersion
  refine a_il1 hX dX12_isVersion_0 rfl ?_
  refine a_ic 0 hX dX12_isVersion_1 (by decide) rfl ?_
  refine a_al0 hX dX12_isVersion_2 rfl ?_
  refine a_getI hX fl_X12_79 s_94 rfl dX12_isVersion_3 rfl ?_
  refine a_ic 1 hX dX12_isVersion_6 (by decide) rfl ?_
  refine a_isub hX dX12_isVersion_7 rfl ?_
  refine a_callSI hX hR ml_X12_75 (ci_X12_in _ _ _ _ _) rfl rfl (by decide) (Nat.le_of_ble_eq_true rfl) rfl dX12_isVersion_8 rfl (fun x1 => ?_)
  exact a_zret hX hQ hr dX12_isVersion_11

set_option maxRecDepth 100000 in
theorem ci_X12_isVersion (l : Launch) (v1 : Int32) (σ : Mem) : CI l yX12_isVersion cX12_isVersion 2 (some .boolean) 1 22 [.ref 94, .int v1] σ (m_X12_isVersion v1 σ) :=
  ci_of (by decide) (by simp [Value.category]) (by simp) (fun X r hl hX hR hQ hr => a_X12_isVersion_0 hX hR hQ hr v1 σ)

set_option maxRecDepth 100000 in
set_option maxHeartbeats 2000000 in
theorem a_X12_isRange_0 {X : AX} {r0 : Int32 × Mem} (hX : CX X cX12_isRange 2 RX12) (hR : (aR X).frames = 1 ∧ (aR X).locals = 22 ∧ aCe X ≤ (aR X).cells ∧ aSl X ≤ (aR X).slots) (hQ : QI X r0) (hr : (aMeth X).sig.returnType = (some .boolean)) (v1 : Int32) (σ : Mem) : AWo X r0 0 [some (.ref 94), some (.int v1)] [] σ (m_X12_isRange v1 σ) := by
  unfold m_X12_isRange
  refine a_il1 hX dX12_isRange_0 rfl ?_
  refine a_ic 0 hX dX12_isRange_1 (by decide) rfl ?_
  refine a_al0 hX dX12_isRange_2 rfl ?_
  refine a_getI hX fl_X12_82 s_94 rfl dX12_isRange_3 rfl ?_
  refine a_ic 1 hX dX12_isRange_6 (by decide) rfl ?_
  refine a_isub hX dX12_isRange_7 rfl ?_
  refine a_callSI hX hR ml_X12_75 (ci_X12_in _ _ _ _ _) rfl rfl (by decide) (Nat.le_of_ble_eq_true rfl) rfl dX12_isRange_8 rfl (fun x1 => ?_)
  exact a_zret hX hQ hr dX12_isRange_11

set_option maxRecDepth 100000 in
theorem ci_X12_isRange (l : Launch) (v1 : Int32) (σ : Mem) : CI l yX12_isRange cX12_isRange 2 (some .boolean) 1 22 [.ref 94, .int v1] σ (m_X12_isRange v1 σ) :=
  ci_of (by decide) (by simp [Value.category]) (by simp) (fun X r hl hX hR hQ hr => a_X12_isRange_0 hX hR hQ hr v1 σ)

set_option maxRecDepth 100000 in
set_option maxHeartbeats 2000000 in
theorem a_X12_packageOf_0 {X : AX} {r0 : Int32 × Mem} (hX : CX X cX12_packageOf 2 RX12) (hR : (aR X).frames = 0 ∧ (aR X).locals = 0 ∧ aCe X ≤ (aR X).cells ∧ aSl X ≤ (aR X).slots) (hQ : QI X r0) (hr : (aMeth X).sig.returnType = (some .int)) (v1 : Int32) (σ : Mem) : AWo X r0 0 [some (.ref 94), some (.int v1)] [] σ (m_X12_packageOf v1 σ) := by
  unfold m_X12_packageOf
  refine a_al0 hX dX12_packageOf_0 rfl ?_
  refine a_getR hX fl_X12_7 s_94 rfl dX12_packageOf_1 rfl ?_
  refine a_bi 9 hX dX12_packageOf_4 (by decide) rfl ?_
  refine a_il1 hX dX12_packageOf_6 rfl ?_
  refine a_imul hX dX12_packageOf_7 rfl ?_
  refine a_ald hX s_95 dX12_packageOf_8 rfl (fun x1 => ?_)
  exact a_iret hX hQ hr dX12_packageOf_9

set_option maxRecDepth 100000 in
theorem ci_X12_packageOf (l : Launch) (v1 : Int32) (σ : Mem) : CI l yX12_packageOf cX12_packageOf 2 (some .int) 0 0 [.ref 94, .int v1] σ (m_X12_packageOf v1 σ) :=
  ci_of (by decide) (by simp [Value.category]) (by simp) (fun X r hl hX hR hQ hr => a_X12_packageOf_0 hX hR hQ hr v1 σ)

set_option maxRecDepth 100000 in
set_option maxHeartbeats 2000000 in
theorem a_X12_compareTo_72 {X : AX} {r0 : Int32 × Mem} (hX : CX X cX12_compareTo 8 RX12) (hR : (aR X).frames = 0 ∧ (aR X).locals = 0 ∧ aCe X ≤ (aR X).cells ∧ aSl X ≤ (aR X).slots) (hQ : QI X r0) (hr : (aMeth X).sig.returnType = (some .int)) (v5 v6 s0 : Int32) (σ : Mem) : AWo X r0 72 [some (.ref 94), none, none, none, none, some (.int v5), some (.int v6), none] [.int s0] σ (m_X12_compareTo_72 v5 v6 s0 σ) := by
  unfold m_X12_compareTo_72
  refine a_is7 hX dX12_compareTo_72 rfl ?_
  refine a_il7 hX dX12_compareTo_74 rfl ?_
  refine a_if_ne hX dX12_compareTo_76 rfl rfl ?_ ?_
  · refine a_il7 hX dX12_compareTo_93 rfl ?_
    exact a_iret hX hQ hr dX12_compareTo_95
  · refine a_al0 hX dX12_compareTo_79 rfl ?_
    refine a_getR hX fl_X12_7 s_94 rfl dX12_compareTo_80 rfl ?_
    refine a_il6 hX dX12_compareTo_83 rfl ?_
    refine a_ic 4 hX dX12_compareTo_85 (by decide) rfl ?_
    refine a_iadd hX dX12_compareTo_86 rfl ?_
    refine a_ald hX s_95 dX12_compareTo_87 rfl (fun x1 => ?_)
    refine a_il5 hX dX12_compareTo_88 rfl ?_
    refine a_icmp_ne hX dX12_compareTo_90 rfl rfl ?_ ?_
    · refine a_al0 hX dX12_compareTo_96 rfl ?_
      refine a_getR hX fl_X12_7 s_94 rfl dX12_compareTo_97 rfl ?_
      refine a_il6 hX dX12_compareTo_100 rfl ?_
      refine a_ic 4 hX dX12_compareTo_102 (by decide) rfl ?_
      refine a_iadd hX dX12_compareTo_103 rfl ?_
      refine a_ald hX s_95 dX12_compareTo_104 rfl (fun x2 => ?_)
      refine a_if_ne hX dX12_compareTo_105 rfl rfl ?_ ?_
      · refine a_il5 hX dX12_compareTo_112 rfl ?_
        refine a_if_ne hX dX12_compareTo_114 rfl rfl ?_ ?_
        · refine a_al0 hX dX12_compareTo_121 rfl ?_
          refine a_getR hX fl_X12_7 s_94 rfl dX12_compareTo_122 rfl ?_
          refine a_il6 hX dX12_compareTo_125 rfl ?_
          refine a_ic 4 hX dX12_compareTo_127 (by decide) rfl ?_
          refine a_iadd hX dX12_compareTo_128 rfl ?_
          refine a_ald hX s_95 dX12_compareTo_129 rfl (fun x3 => ?_)
          refine a_il5 hX dX12_compareTo_130 rfl ?_
          refine a_isub hX dX12_compareTo_132 rfl ?_
          exact a_iret hX hQ hr dX12_compareTo_133
        · refine a_ic (-1) hX dX12_compareTo_117 (by decide) rfl ?_
          refine a_goto hX dX12_compareTo_118 rfl ?_
          exact a_iret hX hQ hr dX12_compareTo_133
      · refine a_ic 1 hX dX12_compareTo_108 (by decide) rfl ?_
        refine a_goto hX dX12_compareTo_109 rfl ?_
        exact a_iret hX hQ hr dX12_compareTo_133
    · refine a_il7 hX dX12_compareTo_93 rfl ?_
      exact a_iret hX hQ hr dX12_compareTo_95

set_option maxRecDepth 100000 in
set_option maxHeartbeats 2000000 in
theorem a_X12_compareTo_0 {X : AX} {r0 : Int32 × Mem} (hX : CX X cX12_compareTo 8 RX12) (hR : (aR X).frames = 0 ∧ (aR X).locals = 0 ∧ aCe X ≤ (aR X).cells ∧ aSl X ≤ (aR X).slots) (hQ : QI X r0) (hr : (aMeth X).sig.returnType = (some .int)) (v1 v2 v3 v4 v5 : Int32) (σ : Mem) : AWo X r0 0 [some (.ref 94), some (.int v1), some (.int v2), some (.int v3), some (.int v4), some (.int v5), none, none] [] σ (m_X12_compareTo v1 v2 v3 v4 v5 σ) := by
  unfold m_X12_compareTo
  refine a_bi 9 hX dX12_compareTo_0 (by decide) rfl ?_
  refine a_il1 hX dX12_compareTo_2 rfl ?_
  refine a_imul hX dX12_compareTo_3 rfl ?_
  refine a_name (fun y1 => ?_)
  refine a_is6 hX dX12_compareTo_4 rfl ?_
  refine a_al0 hX dX12_compareTo_6 rfl ?_
  refine a_getR hX fl_X12_7 s_94 rfl dX12_compareTo_7 rfl ?_
  refine a_il6 hX dX12_compareTo_10 rfl ?_
  refine a_ic 1 hX dX12_compareTo_12 (by decide) rfl ?_
  refine a_iadd hX dX12_compareTo_13 rfl ?_
  refine a_ald hX s_95 dX12_compareTo_14 rfl (fun x2 => ?_)
  refine a_il2 hX dX12_compareTo_15 rfl ?_
  refine a_icmp_eq hX dX12_compareTo_16 rfl rfl ?_ ?_
  · refine a_al0 hX dX12_compareTo_33 rfl ?_
    refine a_getR hX fl_X12_7 s_94 rfl dX12_compareTo_34 rfl ?_
    refine a_il6 hX dX12_compareTo_37 rfl ?_
    refine a_ic 2 hX dX12_compareTo_39 (by decide) rfl ?_
    refine a_iadd hX dX12_compareTo_40 rfl ?_
    refine a_ald hX s_95 dX12_compareTo_41 rfl (fun x3 => ?_)
    refine a_il3 hX dX12_compareTo_42 rfl ?_
    refine a_icmp_eq hX dX12_compareTo_43 rfl rfl ?_ ?_
    · refine a_al0 hX dX12_compareTo_60 rfl ?_
      refine a_getR hX fl_X12_7 s_94 rfl dX12_compareTo_61 rfl ?_
      refine a_il6 hX dX12_compareTo_64 rfl ?_
      refine a_ic 3 hX dX12_compareTo_66 (by decide) rfl ?_
      refine a_iadd hX dX12_compareTo_67 rfl ?_
      refine a_ald hX s_95 dX12_compareTo_68 rfl (fun x4 => ?_)
      refine a_il4 hX dX12_compareTo_69 rfl ?_
      refine a_isub hX dX12_compareTo_71 rfl ?_
      exact a_sub (a_X12_compareTo_72 hX hR hQ hr v5 y1 (x4 - v4) (σ)) (ls_s (ls_n (ls_n (ls_n (ls_n (ls_s (ls_s (ls_n ls_0))))))))
    · refine a_al0 hX dX12_compareTo_46 rfl ?_
      refine a_getR hX fl_X12_7 s_94 rfl dX12_compareTo_47 rfl ?_
      refine a_il6 hX dX12_compareTo_50 rfl ?_
      refine a_ic 2 hX dX12_compareTo_52 (by decide) rfl ?_
      refine a_iadd hX dX12_compareTo_53 rfl ?_
      refine a_ald hX s_95 dX12_compareTo_54 rfl (fun x5 => ?_)
      refine a_il3 hX dX12_compareTo_55 rfl ?_
      refine a_isub hX dX12_compareTo_56 rfl ?_
      refine a_goto hX dX12_compareTo_57 rfl ?_
      exact a_sub (a_X12_compareTo_72 hX hR hQ hr v5 y1 (x5 - v3) (σ)) (ls_s (ls_n (ls_n (ls_n (ls_n (ls_s (ls_s (ls_n ls_0))))))))
  · refine a_al0 hX dX12_compareTo_19 rfl ?_
    refine a_getR hX fl_X12_7 s_94 rfl dX12_compareTo_20 rfl ?_
    refine a_il6 hX dX12_compareTo_23 rfl ?_
    refine a_ic 1 hX dX12_compareTo_25 (by decide) rfl ?_
    refine a_iadd hX dX12_compareTo_26 rfl ?_
    refine a_ald hX s_95 dX12_compareTo_27 rfl (fun x6 => ?_)
    refine a_il2 hX dX12_compareTo_28 rfl ?_
    refine a_isub hX dX12_compareTo_29 rfl ?_
    refine a_goto hX dX12_compareTo_30 rfl ?_
    exact a_sub (a_X12_compareTo_72 hX hR hQ hr v5 y1 (x6 - v2) (σ)) (ls_s (ls_n (ls_n (ls_n (ls_n (ls_s (ls_s (ls_n ls_0))))))))

set_option maxRecDepth 100000 in
theorem ci_X12_compareTo (l : Launch) (v1 v2 v3 v4 v5 : Int32) (σ : Mem) : CI l yX12_compareTo cX12_compareTo 8 (some .int) 0 0 [.ref 94, .int v1, .int v2, .int v3, .int v4, .int v5] σ (m_X12_compareTo v1 v2 v3 v4 v5 σ) :=
  ci_of (by decide) (by simp [Value.category]) (by simp) (fun X r hl hX hR hQ hr => a_X12_compareTo_0 hX hR hQ hr v1 v2 v3 v4 v5 σ)

set_option maxRecDepth 100000 in
set_option maxHeartbeats 2000000 in
theorem a_X12_compared_0 {X : AX} {r0 : Int32 × Mem} (hX : CX X cX12_compared 4 RX12) (hR : (aR X).frames = 1 ∧ (aR X).locals = 27 ∧ aCe X ≤ (aR X).cells ∧ aSl X ≤ (aR X).slots) (hQ : QI X r0) (hr : (aMeth X).sig.returnType = (some .int)) (v1 v2 : Int32) (σ : Mem) : AWo X r0 0 [some (.ref 94), some (.int v1), some (.int v2), none] [] σ (m_X12_compared v1 v2 σ) := by
  unfold m_X12_compared
  refine a_bi 9 hX dX12_compared_0 (by decide) rfl ?_
  refine a_il2 hX dX12_compared_2 rfl ?_
  refine a_imul hX dX12_compared_3 rfl ?_
  refine a_name (fun y1 => ?_)
  refine a_is3 hX dX12_compared_4 rfl ?_
  refine a_al0 hX dX12_compared_5 rfl ?_
  refine a_il1 hX dX12_compared_6 rfl ?_
  refine a_al0 hX dX12_compared_7 rfl ?_
  refine a_getR hX fl_X12_7 s_94 rfl dX12_compared_8 rfl ?_
  refine a_il3 hX dX12_compared_11 rfl ?_
  refine a_ic 1 hX dX12_compared_12 (by decide) rfl ?_
  refine a_iadd hX dX12_compared_13 rfl ?_
  refine a_ald hX s_95 dX12_compared_14 rfl (fun x2 => ?_)
  refine a_al0 hX dX12_compared_15 rfl ?_
  refine a_getR hX fl_X12_7 s_94 rfl dX12_compared_16 rfl ?_
  refine a_il3 hX dX12_compared_19 rfl ?_
  refine a_ic 2 hX dX12_compared_20 (by decide) rfl ?_
  refine a_iadd hX dX12_compared_21 rfl ?_
  refine a_ald hX s_95 dX12_compared_22 rfl (fun x3 => ?_)
  refine a_al0 hX dX12_compared_23 rfl ?_
  refine a_getR hX fl_X12_7 s_94 rfl dX12_compared_24 rfl ?_
  refine a_il3 hX dX12_compared_27 rfl ?_
  refine a_ic 3 hX dX12_compared_28 (by decide) rfl ?_
  refine a_iadd hX dX12_compared_29 rfl ?_
  refine a_ald hX s_95 dX12_compared_30 rfl (fun x4 => ?_)
  refine a_al0 hX dX12_compared_31 rfl ?_
  refine a_getR hX fl_X12_7 s_94 rfl dX12_compared_32 rfl ?_
  refine a_il3 hX dX12_compared_35 rfl ?_
  refine a_ic 4 hX dX12_compared_36 (by decide) rfl ?_
  refine a_iadd hX dX12_compared_37 rfl ?_
  refine a_ald hX s_95 dX12_compared_38 rfl (fun x5 => ?_)
  refine a_callI hX hR ml_X12_85 (ci_X12_compareTo _ _ _ _ _ _ _) s_94 rfl rfl rfl (by decide) (Nat.le_of_ble_eq_true rfl) rfl dX12_compared_39 rfl (fun x6 => ?_)
  exact a_iret hX hQ hr dX12_compared_42

set_option maxRecDepth 100000 in
theorem ci_X12_compared (l : Launch) (v1 v2 : Int32) (σ : Mem) : CI l yX12_compared cX12_compared 4 (some .int) 1 27 [.ref 94, .int v1, .int v2] σ (m_X12_compared v1 v2 σ) :=
  ci_of (by decide) (by simp [Value.category]) (by simp) (fun X r hl hX hR hQ hr => a_X12_compared_0 hX hR hQ hr v1 v2 σ)

set_option maxRecDepth 100000 in
set_option maxHeartbeats 2000000 in
theorem a_X12_isIn_374 {X : AX} {r0 : Int32 × Mem} (hX : CX X cX12_isIn 11 RX12) (hR : (aR X).frames = 1 ∧ (aR X).locals = 27 ∧ aCe X ≤ (aR X).cells ∧ aSl X ≤ (aR X).slots) (hQ : QI X r0) (hr : (aMeth X).sig.returnType = (some .boolean)) (s0 : Int32) (σ : Mem) : AWo X r0 374 [some (.ref 94), none, none, none, none, none, none, none, none, none, none] [.int s0] σ (m_X12_isIn_374 s0 σ) := by
  unfold m_X12_isIn_374
  refine a_if_ge hX dX12_isIn_374 rfl rfl ?_ ?_
  · refine a_ic 0 hX dX12_isIn_381 (by decide) rfl ?_
    exact a_zret0 (by decide) hX hQ hr dX12_isIn_382
  · refine a_ic 1 hX dX12_isIn_377 (by decide) rfl ?_
    refine a_goto hX dX12_isIn_378 rfl ?_
    exact a_zret0 (by decide) hX hQ hr dX12_isIn_382

set_option maxRecDepth 100000 in
set_option maxHeartbeats 2000000 in
theorem a_X12_isIn_237 {X : AX} {r0 : Int32 × Mem} (hX : CX X cX12_isIn 11 RX12) (hR : (aR X).frames = 1 ∧ (aR X).locals = 27 ∧ aCe X ≤ (aR X).cells ∧ aSl X ≤ (aR X).slots) (hQ : QI X r0) (hr : (aMeth X).sig.returnType = (some .boolean)) (v2 v4 v5 v6 v8 v9 : Int32) (σ : Mem) : AWo X r0 237 [some (.ref 94), none, some (.int v2), none, some (.int v4), some (.int v5), some (.int v6), none, some (.int v8), some (.int v9), none] [] σ (m_X12_isIn_237 v2 v4 v5 v6 v8 v9 σ) := by
  unfold m_X12_isIn_237
  refine a_il8 hX dX12_isIn_237 rfl ?_
  refine a_tsw8 hX dX12_isIn_239 rfl ?_ rfl ?_ rfl ?_ rfl ?_ rfl ?_ rfl ?_ rfl ?_ rfl ?_ rfl ?_
  · refine a_il9 hX dX12_isIn_284 rfl ?_
    refine a_if_ne hX dX12_isIn_286 rfl rfl ?_ ?_
    · refine a_ic 0 hX dX12_isIn_293 (by decide) rfl ?_
      exact a_zret0 (by decide) hX hQ hr dX12_isIn_294
    · refine a_ic 1 hX dX12_isIn_289 (by decide) rfl ?_
      refine a_goto hX dX12_isIn_290 rfl ?_
      exact a_zret0 (by decide) hX hQ hr dX12_isIn_294
  · refine a_il9 hX dX12_isIn_295 rfl ?_
    refine a_if_lt hX dX12_isIn_297 rfl rfl ?_ ?_
    · refine a_ic 0 hX dX12_isIn_304 (by decide) rfl ?_
      exact a_zret0 (by decide) hX hQ hr dX12_isIn_305
    · refine a_ic 1 hX dX12_isIn_300 (by decide) rfl ?_
      refine a_goto hX dX12_isIn_301 rfl ?_
      exact a_zret0 (by decide) hX hQ hr dX12_isIn_305
  · refine a_il9 hX dX12_isIn_306 rfl ?_
    refine a_if_ge hX dX12_isIn_308 rfl rfl ?_ ?_
    · refine a_ic 0 hX dX12_isIn_315 (by decide) rfl ?_
      exact a_zret0 (by decide) hX hQ hr dX12_isIn_316
    · refine a_ic 1 hX dX12_isIn_311 (by decide) rfl ?_
      refine a_goto hX dX12_isIn_312 rfl ?_
      exact a_zret0 (by decide) hX hQ hr dX12_isIn_316
  · refine a_ic 1 hX dX12_isIn_470 (by decide) rfl ?_
    exact a_zret0 (by decide) hX hQ hr dX12_isIn_471
  · refine a_il9 hX dX12_isIn_317 rfl ?_
    refine a_if_lt hX dX12_isIn_319 rfl rfl ?_ ?_
    · refine a_ic 0 hX dX12_isIn_381 (by decide) rfl ?_
      exact a_zret0 (by decide) hX hQ hr dX12_isIn_382
    · refine a_il4 hX dX12_isIn_322 rfl ?_
      refine a_if_le hX dX12_isIn_324 rfl rfl ?_ ?_
      · refine a_il5 hX dX12_isIn_342 rfl ?_
        refine a_if_le hX dX12_isIn_344 rfl rfl ?_ ?_
        · refine a_al0 hX dX12_isIn_362 rfl ?_
          refine a_il2 hX dX12_isIn_363 rfl ?_
          refine a_ic 0 hX dX12_isIn_364 (by decide) rfl ?_
          refine a_ic 0 hX dX12_isIn_365 (by decide) rfl ?_
          refine a_il6 hX dX12_isIn_366 rfl ?_
          refine a_ic 1 hX dX12_isIn_368 (by decide) rfl ?_
          refine a_iadd hX dX12_isIn_369 rfl ?_
          refine a_ic 0 hX dX12_isIn_370 (by decide) rfl ?_
          refine a_callI hX hR ml_X12_85 (ci_X12_compareTo _ _ _ _ _ _ _) s_94 rfl rfl rfl (by decide) (Nat.le_of_ble_eq_true rfl) rfl dX12_isIn_371 rfl (fun x1 => ?_)
          exact a_sub (a_X12_isIn_374 hX hR hQ hr x1.1 x1.2) (ls_s (ls_n (ls_n (ls_n (ls_n (ls_n (ls_n (ls_n (ls_n (ls_n (ls_n ls_0)))))))))))
        · refine a_al0 hX dX12_isIn_347 rfl ?_
          refine a_il2 hX dX12_isIn_348 rfl ?_
          refine a_ic 0 hX dX12_isIn_349 (by decide) rfl ?_
          refine a_il5 hX dX12_isIn_350 rfl ?_
          refine a_ic 1 hX dX12_isIn_352 (by decide) rfl ?_
          refine a_iadd hX dX12_isIn_353 rfl ?_
          refine a_ic 0 hX dX12_isIn_354 (by decide) rfl ?_
          refine a_ic 0 hX dX12_isIn_355 (by decide) rfl ?_
          refine a_callI hX hR ml_X12_85 (ci_X12_compareTo _ _ _ _ _ _ _) s_94 rfl rfl rfl (by decide) (Nat.le_of_ble_eq_true rfl) rfl dX12_isIn_356 rfl (fun x2 => ?_)
          refine a_goto hX dX12_isIn_359 rfl ?_
          exact a_sub (a_X12_isIn_374 hX hR hQ hr x2.1 x2.2) (ls_s (ls_n (ls_n (ls_n (ls_n (ls_n (ls_n (ls_n (ls_n (ls_n (ls_n ls_0)))))))))))
      · refine a_al0 hX dX12_isIn_327 rfl ?_
        refine a_il2 hX dX12_isIn_328 rfl ?_
        refine a_il4 hX dX12_isIn_329 rfl ?_
        refine a_ic 1 hX dX12_isIn_331 (by decide) rfl ?_
        refine a_iadd hX dX12_isIn_332 rfl ?_
        refine a_ic 0 hX dX12_isIn_333 (by decide) rfl ?_
        refine a_ic 0 hX dX12_isIn_334 (by decide) rfl ?_
        refine a_ic 0 hX dX12_isIn_335 (by decide) rfl ?_
        refine a_callI hX hR ml_X12_85 (ci_X12_compareTo _ _ _ _ _ _ _) s_94 rfl rfl rfl (by decide) (Nat.le_of_ble_eq_true rfl) rfl dX12_isIn_336 rfl (fun x3 => ?_)
        refine a_goto hX dX12_isIn_339 rfl ?_
        exact a_sub (a_X12_isIn_374 hX hR hQ hr x3.1 x3.2) (ls_s (ls_n (ls_n (ls_n (ls_n (ls_n (ls_n (ls_n (ls_n (ls_n (ls_n ls_0)))))))))))
  · refine a_il9 hX dX12_isIn_383 rfl ?_
    refine a_if_lt hX dX12_isIn_385 rfl rfl ?_ ?_
    · refine a_ic 0 hX dX12_isIn_408 (by decide) rfl ?_
      exact a_zret0 (by decide) hX hQ hr dX12_isIn_409
    · refine a_al0 hX dX12_isIn_388 rfl ?_
      refine a_il2 hX dX12_isIn_389 rfl ?_
      refine a_il4 hX dX12_isIn_390 rfl ?_
      refine a_il5 hX dX12_isIn_392 rfl ?_
      refine a_ic 1 hX dX12_isIn_394 (by decide) rfl ?_
      refine a_iadd hX dX12_isIn_395 rfl ?_
      refine a_ic 0 hX dX12_isIn_396 (by decide) rfl ?_
      refine a_ic 0 hX dX12_isIn_397 (by decide) rfl ?_
      refine a_callI hX hR ml_X12_85 (ci_X12_compareTo _ _ _ _ _ _ _) s_94 rfl rfl rfl (by decide) (Nat.le_of_ble_eq_true rfl) rfl dX12_isIn_398 rfl (fun x4 => ?_)
      refine a_if_ge hX dX12_isIn_401 rfl rfl ?_ ?_
      · refine a_ic 0 hX dX12_isIn_408 (by decide) rfl ?_
        exact a_zret0 (by decide) hX hQ hr dX12_isIn_409
      · refine a_ic 1 hX dX12_isIn_404 (by decide) rfl ?_
        refine a_goto hX dX12_isIn_405 rfl ?_
        exact a_zret0 (by decide) hX hQ hr dX12_isIn_409
  · refine a_al0 hX dX12_isIn_410 rfl ?_
    refine a_getR hX fl_X12_7 s_94 rfl dX12_isIn_411 rfl ?_
    refine a_bi 9 hX dX12_isIn_414 (by decide) rfl ?_
    refine a_il2 hX dX12_isIn_416 rfl ?_
    refine a_imul hX dX12_isIn_417 rfl ?_
    refine a_ic 1 hX dX12_isIn_418 (by decide) rfl ?_
    refine a_iadd hX dX12_isIn_419 rfl ?_
    refine a_ald hX s_95 dX12_isIn_420 rfl (fun x5 => ?_)
    refine a_il4 hX dX12_isIn_421 rfl ?_
    refine a_icmp_ne hX dX12_isIn_423 rfl rfl ?_ ?_
    · refine a_ic 0 hX dX12_isIn_430 (by decide) rfl ?_
      exact a_zret0 (by decide) hX hQ hr dX12_isIn_431
    · refine a_ic 1 hX dX12_isIn_426 (by decide) rfl ?_
      refine a_goto hX dX12_isIn_427 rfl ?_
      exact a_zret0 (by decide) hX hQ hr dX12_isIn_431
  · refine a_al0 hX dX12_isIn_432 rfl ?_
    refine a_getR hX fl_X12_7 s_94 rfl dX12_isIn_433 rfl ?_
    refine a_bi 9 hX dX12_isIn_436 (by decide) rfl ?_
    refine a_il2 hX dX12_isIn_438 rfl ?_
    refine a_imul hX dX12_isIn_439 rfl ?_
    refine a_ic 1 hX dX12_isIn_440 (by decide) rfl ?_
    refine a_iadd hX dX12_isIn_441 rfl ?_
    refine a_ald hX s_95 dX12_isIn_442 rfl (fun x6 => ?_)
    refine a_il4 hX dX12_isIn_443 rfl ?_
    refine a_icmp_ne hX dX12_isIn_445 rfl rfl ?_ ?_
    · refine a_ic 0 hX dX12_isIn_468 (by decide) rfl ?_
      exact a_zret0 (by decide) hX hQ hr dX12_isIn_469
    · refine a_al0 hX dX12_isIn_448 rfl ?_
      refine a_getR hX fl_X12_7 s_94 rfl dX12_isIn_449 rfl ?_
      refine a_bi 9 hX dX12_isIn_452 (by decide) rfl ?_
      refine a_il2 hX dX12_isIn_454 rfl ?_
      refine a_imul hX dX12_isIn_455 rfl ?_
      refine a_ic 2 hX dX12_isIn_456 (by decide) rfl ?_
      refine a_iadd hX dX12_isIn_457 rfl ?_
      refine a_ald hX s_95 dX12_isIn_458 rfl (fun x7 => ?_)
      refine a_il5 hX dX12_isIn_459 rfl ?_
      refine a_icmp_ne hX dX12_isIn_461 rfl rfl ?_ ?_
      · refine a_ic 0 hX dX12_isIn_468 (by decide) rfl ?_
        exact a_zret0 (by decide) hX hQ hr dX12_isIn_469
      · refine a_ic 1 hX dX12_isIn_464 (by decide) rfl ?_
        refine a_goto hX dX12_isIn_465 rfl ?_
        exact a_zret0 (by decide) hX hQ hr dX12_isIn_469
  · refine a_ic 1 hX dX12_isIn_470 (by decide) rfl ?_
    exact a_zret0 (by decide) hX hQ hr dX12_isIn_471

set_option maxRecDepth 100000 in
set_option maxHeartbeats 2000000 in
theorem a_X12_isIn_217 {X : AX} {r0 : Int32 × Mem} (hX : CX X cX12_isIn 11 RX12) (hR : (aR X).frames = 1 ∧ (aR X).locals = 27 ∧ aCe X ≤ (aR X).cells ∧ aSl X ≤ (aR X).slots) (hQ : QI X r0) (hr : (aMeth X).sig.returnType = (some .boolean)) (v2 v4 v5 v6 v7 v8 v9 s0 : Int32) (σ : Mem) : AWo X r0 217 [some (.ref 94), none, some (.int v2), none, some (.int v4), some (.int v5), some (.int v6), some (.int v7), some (.int v8), some (.int v9), none] [.int s0] σ (m_X12_isIn_217 v2 v4 v5 v6 v7 v8 v9 s0 σ) := by
  unfold m_X12_isIn_217
  refine a_is10 hX dX12_isIn_217 rfl ?_
  refine a_il8 hX dX12_isIn_219 rfl ?_
  refine a_ic 3 hX dX12_isIn_221 (by decide) rfl ?_
  refine a_icmp_eq hX dX12_isIn_222 rfl rfl ?_ ?_
  · refine a_ic 0 hX dX12_isIn_235 (by decide) rfl ?_
    exact a_zret0 (by decide) hX hQ hr dX12_isIn_236
  · refine a_il7 hX dX12_isIn_225 rfl ?_
    refine a_if_eq hX dX12_isIn_227 rfl rfl ?_ ?_
    · refine a_ic 0 hX dX12_isIn_235 (by decide) rfl ?_
      exact a_zret0 (by decide) hX hQ hr dX12_isIn_236
    · refine a_il10 hX dX12_isIn_230 rfl ?_
      refine a_if_ne hX dX12_isIn_232 rfl rfl ?_ ?_
      · exact a_sub (a_X12_isIn_237 hX hR hQ hr v2 v4 v5 v6 v8 v9 (σ)) (ls_s (ls_n (ls_s (ls_n (ls_s (ls_s (ls_s (ls_n (ls_s (ls_s (ls_n ls_0)))))))))))
      · refine a_ic 0 hX dX12_isIn_235 (by decide) rfl ?_
        exact a_zret0 (by decide) hX hQ hr dX12_isIn_236

set_option maxRecDepth 100000 in
set_option maxHeartbeats 2000000 in
theorem a_X12_isIn_216 {X : AX} {r0 : Int32 × Mem} (hX : CX X cX12_isIn 11 RX12) (hR : (aR X).frames = 1 ∧ (aR X).locals = 27 ∧ aCe X ≤ (aR X).cells ∧ aSl X ≤ (aR X).slots) (hQ : QI X r0) (hr : (aMeth X).sig.returnType = (some .boolean)) (v2 v4 v5 v6 v7 v8 v9 : Int32) (σ : Mem) : AWo X r0 216 [some (.ref 94), none, some (.int v2), none, some (.int v4), some (.int v5), some (.int v6), some (.int v7), some (.int v8), some (.int v9), none] [] σ (m_X12_isIn_216 v2 v4 v5 v6 v7 v8 v9 σ) := by
  unfold m_X12_isIn_216
  refine a_ic 0 hX dX12_isIn_216 (by decide) rfl ?_
  exact a_sub (a_X12_isIn_217 hX hR hQ hr v2 v4 v5 v6 v7 v8 v9 0 (σ)) (ls_s (ls_n (ls_s (ls_n (ls_s (ls_s (ls_s (ls_s (ls_s (ls_s (ls_n ls_0)))))))))))

set_option maxRecDepth 100000 in
set_option maxHeartbeats 2000000 in
theorem a_X12_isIn_66 {X : AX} {r0 : Int32 × Mem} (hX : CX X cX12_isIn 11 RX12) (hR : (aR X).frames = 1 ∧ (aR X).locals = 27 ∧ aCe X ≤ (aR X).cells ∧ aSl X ≤ (aR X).slots) (hQ : QI X r0) (hr : (aMeth X).sig.returnType = (some .boolean)) (v2 v4 v5 v8 : Int32) (σ : Mem) : AWo X r0 66 [some (.ref 94), none, some (.int v2), none, some (.int v4), some (.int v5), none, none, some (.int v8), none, none] [] σ (m_X12_isIn_66 v2 v4 v5 v8 σ) := by
  unfold m_X12_isIn_66
  refine a_al0 hX dX12_isIn_66 rfl ?_
  refine a_getR hX fl_X12_22 s_94 rfl dX12_isIn_67 rfl ?_
  refine a_bi 24 hX dX12_isIn_70 (by decide) rfl ?_
  refine a_il4 hX dX12_isIn_72 rfl ?_
  refine a_imul hX dX12_isIn_74 rfl ?_
  refine a_il2 hX dX12_isIn_75 rfl ?_
  refine a_iadd hX dX12_isIn_76 rfl ?_
  refine a_zld hX s_99 dX12_isIn_77 rfl (fun x1 => ?_)
  refine a_is9 hX dX12_isIn_78 rfl ?_
  refine a_al0 hX dX12_isIn_80 rfl ?_
  refine a_getR hX fl_X12_22 s_94 rfl dX12_isIn_81 rfl ?_
  refine a_bi 24 hX dX12_isIn_84 (by decide) rfl ?_
  refine a_il5 hX dX12_isIn_86 rfl ?_
  refine a_imul hX dX12_isIn_88 rfl ?_
  refine a_il2 hX dX12_isIn_89 rfl ?_
  refine a_iadd hX dX12_isIn_90 rfl ?_
  refine a_zld hX s_99 dX12_isIn_91 rfl (fun x2 => ?_)
  refine a_is10 hX dX12_isIn_92 rfl ?_
  refine a_il8 hX dX12_isIn_94 rfl ?_
  refine a_bi 8 hX dX12_isIn_96 (by decide) rfl ?_
  refine a_icmp_ne hX dX12_isIn_98 rfl rfl ?_ ?_
  · refine a_il9 hX dX12_isIn_119 rfl ?_
    refine a_if_ne hX dX12_isIn_121 rfl rfl ?_ ?_
    · refine a_ic 1 hX dX12_isIn_129 (by decide) rfl ?_
      refine a_goto hX dX12_isIn_130 rfl ?_
      exact a_zret0 (by decide) hX hQ hr dX12_isIn_134
    · refine a_il10 hX dX12_isIn_124 rfl ?_
      refine a_if_eq hX dX12_isIn_126 rfl rfl ?_ ?_
      · refine a_ic 0 hX dX12_isIn_133 (by decide) rfl ?_
        exact a_zret0 (by decide) hX hQ hr dX12_isIn_134
      · refine a_ic 1 hX dX12_isIn_129 (by decide) rfl ?_
        refine a_goto hX dX12_isIn_130 rfl ?_
        exact a_zret0 (by decide) hX hQ hr dX12_isIn_134
  · refine a_il9 hX dX12_isIn_101 rfl ?_
    refine a_if_eq hX dX12_isIn_103 rfl rfl ?_ ?_
    · refine a_ic 0 hX dX12_isIn_115 (by decide) rfl ?_
      refine a_goto hX dX12_isIn_116 rfl ?_
      exact a_zret0 (by decide) hX hQ hr dX12_isIn_134
    · refine a_il10 hX dX12_isIn_106 rfl ?_
      refine a_if_eq hX dX12_isIn_108 rfl rfl ?_ ?_
      · refine a_ic 0 hX dX12_isIn_115 (by decide) rfl ?_
        refine a_goto hX dX12_isIn_116 rfl ?_
        exact a_zret0 (by decide) hX hQ hr dX12_isIn_134
      · refine a_ic 1 hX dX12_isIn_111 (by decide) rfl ?_
        refine a_goto hX dX12_isIn_112 rfl ?_
        exact a_zret0 (by decide) hX hQ hr dX12_isIn_134

set_option maxRecDepth 100000 in
set_option maxHeartbeats 2000000 in
theorem a_X12_isIn_0 {X : AX} {r0 : Int32 × Mem} (hX : CX X cX12_isIn 11 RX12) (hR : (aR X).frames = 1 ∧ (aR X).locals = 27 ∧ aCe X ≤ (aR X).cells ∧ aSl X ≤ (aR X).slots) (hQ : QI X r0) (hr : (aMeth X).sig.returnType = (some .boolean)) (v1 v2 : Int32) (σ : Mem) : AWo X r0 0 [some (.ref 94), some (.int v1), some (.int v2), none, none, none, none, none, none, none, none] [] σ (m_X12_isIn v1 v2 σ) := by
  unfold m_X12_isIn
  refine a_ic 5 hX dX12_isIn_0 (by decide) rfl ?_
  refine a_il1 hX dX12_isIn_1 rfl ?_
  refine a_imul hX dX12_isIn_2 rfl ?_
  refine a_name (fun y1 => ?_)
  refine a_is3 hX dX12_isIn_3 rfl ?_
  refine a_al0 hX dX12_isIn_4 rfl ?_
  refine a_getR hX fl_X12_19 s_94 rfl dX12_isIn_5 rfl ?_
  refine a_il3 hX dX12_isIn_8 rfl ?_
  refine a_ic 1 hX dX12_isIn_9 (by decide) rfl ?_
  refine a_iadd hX dX12_isIn_10 rfl ?_
  refine a_ald hX s_98 dX12_isIn_11 rfl (fun x2 => ?_)
  refine a_is4 hX dX12_isIn_12 rfl ?_
  refine a_al0 hX dX12_isIn_14 rfl ?_
  refine a_getR hX fl_X12_19 s_94 rfl dX12_isIn_15 rfl ?_
  refine a_il3 hX dX12_isIn_18 rfl ?_
  refine a_ic 2 hX dX12_isIn_19 (by decide) rfl ?_
  refine a_iadd hX dX12_isIn_20 rfl ?_
  refine a_ald hX s_98 dX12_isIn_21 rfl (fun x3 => ?_)
  refine a_is5 hX dX12_isIn_22 rfl ?_
  refine a_al0 hX dX12_isIn_24 rfl ?_
  refine a_getR hX fl_X12_19 s_94 rfl dX12_isIn_25 rfl ?_
  refine a_il3 hX dX12_isIn_28 rfl ?_
  refine a_ic 3 hX dX12_isIn_29 (by decide) rfl ?_
  refine a_iadd hX dX12_isIn_30 rfl ?_
  refine a_ald hX s_98 dX12_isIn_31 rfl (fun x4 => ?_)
  refine a_is6 hX dX12_isIn_32 rfl ?_
  refine a_al0 hX dX12_isIn_34 rfl ?_
  refine a_getR hX fl_X12_19 s_94 rfl dX12_isIn_35 rfl ?_
  refine a_il3 hX dX12_isIn_38 rfl ?_
  refine a_ic 4 hX dX12_isIn_39 (by decide) rfl ?_
  refine a_iadd hX dX12_isIn_40 rfl ?_
  refine a_ald hX s_98 dX12_isIn_41 rfl (fun x5 => ?_)
  refine a_is7 hX dX12_isIn_42 rfl ?_
  refine a_al0 hX dX12_isIn_44 rfl ?_
  refine a_getR hX fl_X12_19 s_94 rfl dX12_isIn_45 rfl ?_
  refine a_il3 hX dX12_isIn_48 rfl ?_
  refine a_ald hX s_98 dX12_isIn_49 rfl (fun x6 => ?_)
  refine a_is8 hX dX12_isIn_50 rfl ?_
  refine a_il8 hX dX12_isIn_52 rfl ?_
  refine a_bi 8 hX dX12_isIn_54 (by decide) rfl ?_
  refine a_icmp_eq hX dX12_isIn_56 rfl rfl ?_ ?_
  · exact a_sub (a_X12_isIn_66 hX hR hQ hr v2 x2 x3 x6 (σ)) (ls_s (ls_n (ls_s (ls_n (ls_s (ls_s (ls_n (ls_n (ls_s (ls_n (ls_n ls_0)))))))))))
  · refine a_il8 hX dX12_isIn_59 rfl ?_
    refine a_bi 9 hX dX12_isIn_61 (by decide) rfl ?_
    refine a_icmp_ne hX dX12_isIn_63 rfl rfl ?_ ?_
    · refine a_al0 hX dX12_isIn_135 rfl ?_
      refine a_il2 hX dX12_isIn_136 rfl ?_
      refine a_il4 hX dX12_isIn_137 rfl ?_
      refine a_il5 hX dX12_isIn_139 rfl ?_
      refine a_il6 hX dX12_isIn_141 rfl ?_
      refine a_il7 hX dX12_isIn_143 rfl ?_
      refine a_callI hX hR ml_X12_85 (ci_X12_compareTo _ _ _ _ _ _ _) s_94 rfl rfl rfl (by decide) (Nat.le_of_ble_eq_true rfl) rfl dX12_isIn_145 rfl (fun x7 => ?_)
      refine a_is9 hX dX12_isIn_148 rfl ?_
      refine a_al0 hX dX12_isIn_150 rfl ?_
      refine a_getR hX fl_X12_7 s_94 rfl dX12_isIn_151 rfl ?_
      refine a_bi 9 hX dX12_isIn_154 (by decide) rfl ?_
      refine a_il2 hX dX12_isIn_156 rfl ?_
      refine a_imul hX dX12_isIn_157 rfl ?_
      refine a_ic 4 hX dX12_isIn_158 (by decide) rfl ?_
      refine a_iadd hX dX12_isIn_159 rfl ?_
      refine a_ald hX s_95 dX12_isIn_160 rfl (fun x8 => ?_)
      refine a_if_le hX dX12_isIn_161 rfl rfl ?_ ?_
      · exact a_sub (a_X12_isIn_237 hX hR hQ hr v2 x2 x3 x4 x6 x7.1 x7.2) (ls_s (ls_n (ls_s (ls_n (ls_s (ls_s (ls_s (ls_n (ls_s (ls_s (ls_n ls_0)))))))))))
      · refine a_al0 hX dX12_isIn_164 rfl ?_
        refine a_getR hX fl_X12_7 s_94 rfl dX12_isIn_165 rfl ?_
        refine a_bi 9 hX dX12_isIn_168 (by decide) rfl ?_
        refine a_il2 hX dX12_isIn_170 rfl ?_
        refine a_imul hX dX12_isIn_171 rfl ?_
        refine a_ic 1 hX dX12_isIn_172 (by decide) rfl ?_
        refine a_iadd hX dX12_isIn_173 rfl ?_
        refine a_ald hX s_95 dX12_isIn_174 rfl (fun x9 => ?_)
        refine a_il4 hX dX12_isIn_175 rfl ?_
        refine a_icmp_ne hX dX12_isIn_177 rfl rfl ?_ ?_
        · exact a_sub (a_X12_isIn_216 hX hR hQ hr v2 x2 x3 x4 x5 x6 x7.1 x7.2) (ls_s (ls_n (ls_s (ls_n (ls_s (ls_s (ls_s (ls_s (ls_s (ls_s (ls_n ls_0)))))))))))
        · refine a_al0 hX dX12_isIn_180 rfl ?_
          refine a_getR hX fl_X12_7 s_94 rfl dX12_isIn_181 rfl ?_
          refine a_bi 9 hX dX12_isIn_184 (by decide) rfl ?_
          refine a_il2 hX dX12_isIn_186 rfl ?_
          refine a_imul hX dX12_isIn_187 rfl ?_
          refine a_ic 2 hX dX12_isIn_188 (by decide) rfl ?_
          refine a_iadd hX dX12_isIn_189 rfl ?_
          refine a_ald hX s_95 dX12_isIn_190 rfl (fun x10 => ?_)
          refine a_il5 hX dX12_isIn_191 rfl ?_
          refine a_icmp_ne hX dX12_isIn_193 rfl rfl ?_ ?_
          · exact a_sub (a_X12_isIn_216 hX hR hQ hr v2 x2 x3 x4 x5 x6 x7.1 x7.2) (ls_s (ls_n (ls_s (ls_n (ls_s (ls_s (ls_s (ls_s (ls_s (ls_s (ls_n ls_0)))))))))))
          · refine a_al0 hX dX12_isIn_196 rfl ?_
            refine a_getR hX fl_X12_7 s_94 rfl dX12_isIn_197 rfl ?_
            refine a_bi 9 hX dX12_isIn_200 (by decide) rfl ?_
            refine a_il2 hX dX12_isIn_202 rfl ?_
            refine a_imul hX dX12_isIn_203 rfl ?_
            refine a_ic 3 hX dX12_isIn_204 (by decide) rfl ?_
            refine a_iadd hX dX12_isIn_205 rfl ?_
            refine a_ald hX s_95 dX12_isIn_206 rfl (fun x11 => ?_)
            refine a_il6 hX dX12_isIn_207 rfl ?_
            refine a_icmp_ne hX dX12_isIn_209 rfl rfl ?_ ?_
            · exact a_sub (a_X12_isIn_216 hX hR hQ hr v2 x2 x3 x4 x5 x6 x7.1 x7.2) (ls_s (ls_n (ls_s (ls_n (ls_s (ls_s (ls_s (ls_s (ls_s (ls_s (ls_n ls_0)))))))))))
            · refine a_ic 1 hX dX12_isIn_212 (by decide) rfl ?_
              refine a_goto hX dX12_isIn_213 rfl ?_
              exact a_sub (a_X12_isIn_217 hX hR hQ hr v2 x2 x3 x4 x5 x6 x7.1 1 x7.2) (ls_s (ls_n (ls_s (ls_n (ls_s (ls_s (ls_s (ls_s (ls_s (ls_s (ls_n ls_0)))))))))))
    · exact a_sub (a_X12_isIn_66 hX hR hQ hr v2 x2 x3 x6 (σ)) (ls_s (ls_n (ls_s (ls_n (ls_s (ls_s (ls_n (ls_n (ls_s (ls_n (ls_n ls_0)))))))))))

set_option maxRecDepth 100000 in
theorem ci_X12_isIn (l : Launch) (v1 v2 : Int32) (σ : Mem) : CI l yX12_isIn cX12_isIn 11 (some .boolean) 1 27 [.ref 94, .int v1, .int v2] σ (m_X12_isIn v1 v2 σ) :=
  ci_of (by decide) (by simp [Value.category]) (by simp) (fun X r hl hX hR hQ hr => a_X12_isIn_0 hX hR hQ hr v1 v2 σ)

set_option maxRecDepth 100000 in
set_option maxHeartbeats 2000000 in
theorem a_X12_fill_2 {X : AX} {r0 : Int32 × Mem} (hX : CX X cX12_fill 3 RX12) (hR : (aR X).frames = 2 ∧ (aR X).locals = 57 ∧ aCe X ≤ (aR X).cells ∧ aSl X ≤ (aR X).slots) (hQ : QV X r0) (hr : (aMeth X).sig.returnType = none) : ∀ (fuel : Nat) (v1 v2 : Int32) (σ : Mem), AWo X r0 2 [some (.ref 94), some (.int v1), some (.int v2)] [] σ (m_X12_fill_2 fuel v1 v2 σ) := by
  intro fuel
  induction fuel with
  | zero => intro v1 v2 σ; exact a_none
  | succ fuel ih =>
    intro v1 v2 σ
    show AWo X r0 2 [some (.ref 94), some (.int v1), some (.int v2)] [] σ (m_X12_fill_2 (fuel + 1) v1 v2 σ)
    unfold m_X12_fill_2
    refine a_il2 hX dX12_fill_2 rfl ?_
    refine a_al0 hX dX12_fill_3 rfl ?_
    refine a_getI hX fl_X12_79 s_94 rfl dX12_fill_4 rfl ?_
    refine a_icmp_ge hX dX12_fill_7 rfl rfl ?_ ?_
    · exact a_vret hX hQ hr dX12_fill_33
    · refine a_al0 hX dX12_fill_10 rfl ?_
      refine a_getR hX fl_X12_22 s_94 rfl dX12_fill_11 rfl ?_
      refine a_bi 24 hX dX12_fill_14 (by decide) rfl ?_
      refine a_il1 hX dX12_fill_16 rfl ?_
      refine a_imul hX dX12_fill_17 rfl ?_
      refine a_il2 hX dX12_fill_18 rfl ?_
      refine a_iadd hX dX12_fill_19 rfl ?_
      refine a_al0 hX dX12_fill_20 rfl ?_
      refine a_il1 hX dX12_fill_21 rfl ?_
      refine a_il2 hX dX12_fill_22 rfl ?_
      refine a_callI hX hR ml_X12_89 (ci_X12_isIn _ _ _ _) s_94 rfl rfl rfl (by decide) (Nat.le_of_ble_eq_true rfl) rfl dX12_fill_23 rfl (fun x1 => ?_)
      refine a_zst hX s_99 dX12_fill_26 rfl (fun m2 => ?_)
      refine a_inc2 1 hX dX12_fill_27 (by decide) rfl ?_
      refine a_goto hX dX12_fill_30 rfl ?_
      exact a_sub (ih v1 (v2 + 1) m2) (ls_s (ls_s (ls_s ls_0)))

set_option maxRecDepth 100000 in
set_option maxHeartbeats 2000000 in
theorem a_X12_fill_0 {X : AX} {r0 : Int32 × Mem} (hX : CX X cX12_fill 3 RX12) (hR : (aR X).frames = 2 ∧ (aR X).locals = 57 ∧ aCe X ≤ (aR X).cells ∧ aSl X ≤ (aR X).slots) (hQ : QV X r0) (hr : (aMeth X).sig.returnType = none) (v1 : Int32) (σ : Mem) : AWo X r0 0 [some (.ref 94), some (.int v1), none] [] σ (m_X12_fill v1 σ) := by
  unfold m_X12_fill
  refine a_ic 0 hX dX12_fill_0 (by decide) rfl ?_
  refine a_is2 hX dX12_fill_1 rfl ?_
  exact a_sub (a_X12_fill_2 hX hR hQ hr FU v1 0 (σ)) (ls_s (ls_s (ls_s ls_0)))

set_option maxRecDepth 100000 in
theorem ci_X12_fill (l : Launch) (v1 : Int32) (σ : Mem) : CV l yX12_fill cX12_fill 3 2 57 [.ref 94, .int v1] σ (m_X12_fill v1 σ) :=
  cv_of (by decide) (by simp [Value.category]) (by simp) (fun X r hl hX hR hQ hr => a_X12_fill_0 hX hR hQ hr v1 σ)

set_option maxRecDepth 100000 in
set_option maxHeartbeats 2000000 in
theorem a_X12_publish_299 {X : AX} {r0 : Int32 × Mem} (hX : CX X cX12_publish 13 RX12) (hR : (aR X).frames = 2 ∧ (aR X).locals = 57 ∧ aCe X ≤ (aR X).cells ∧ aSl X ≤ (aR X).slots) (hQ : QI X r0) (hr : (aMeth X).sig.returnType = (some .int)) : ∀ (fuel : Nat) (v12 : Int32) (σ : Mem), AWo X r0 299 [some (.ref 94), none, none, none, none, none, none, none, none, none, none, none, some (.int v12)] [] σ (m_X12_publish_299 fuel v12 σ) := by
  intro fuel
  induction fuel with
  | zero => intro v12 σ; exact a_none
  | succ fuel ih =>
    intro v12 σ
    show AWo X r0 299 [some (.ref 94), none, none, none, none, none, none, none, none, none, none, none, some (.int v12)] [] σ (m_X12_publish_299 (fuel + 1) v12 σ)
    unfold m_X12_publish_299
    refine a_il12 hX dX12_publish_299 rfl ?_
    refine a_al0 hX dX12_publish_301 rfl ?_
    refine a_getI hX fl_X12_82 s_94 rfl dX12_publish_302 rfl ?_
    refine a_icmp_ge hX dX12_publish_305 rfl rfl ?_ ?_
    · refine a_al0 hX dX12_publish_343 rfl ?_
      refine a_ic 0 hX dX12_publish_344 (by decide) rfl ?_
      refine a_putZ hX fp_X12_104 (by decide) s_94 rfl dX12_publish_345 rfl ?_
      refine a_nameM (fun m1 => ?_)
      refine a_al0 hX dX12_publish_348 rfl ?_
      refine a_getI hX fl_X12_79 s_94 rfl dX12_publish_349 rfl ?_
      refine a_ic 1 hX dX12_publish_352 (by decide) rfl ?_
      refine a_isub hX dX12_publish_353 rfl ?_
      exact a_iret hX hQ hr dX12_publish_354
    · refine a_al0 hX dX12_publish_308 rfl ?_
      refine a_getR hX fl_X12_22 s_94 rfl dX12_publish_309 rfl ?_
      refine a_bi 24 hX dX12_publish_312 (by decide) rfl ?_
      refine a_il12 hX dX12_publish_314 rfl ?_
      refine a_imul hX dX12_publish_316 rfl ?_
      refine a_al0 hX dX12_publish_317 rfl ?_
      refine a_getI hX fl_X12_79 s_94 rfl dX12_publish_318 rfl ?_
      refine a_iadd hX dX12_publish_321 rfl ?_
      refine a_ic 1 hX dX12_publish_322 (by decide) rfl ?_
      refine a_isub hX dX12_publish_323 rfl ?_
      refine a_al0 hX dX12_publish_324 rfl ?_
      refine a_il12 hX dX12_publish_325 rfl ?_
      refine a_al0 hX dX12_publish_327 rfl ?_
      refine a_getI hX fl_X12_79 s_94 rfl dX12_publish_328 rfl ?_
      refine a_ic 1 hX dX12_publish_331 (by decide) rfl ?_
      refine a_isub hX dX12_publish_332 rfl ?_
      refine a_callI hX hR ml_X12_89 (ci_X12_isIn _ _ _ _) s_94 rfl rfl rfl (by decide) (Nat.le_of_ble_eq_true rfl) rfl dX12_publish_333 rfl (fun x2 => ?_)
      refine a_zst hX s_99 dX12_publish_336 rfl (fun m3 => ?_)
      refine a_inc12 1 hX dX12_publish_337 (by decide) rfl ?_
      refine a_goto hX dX12_publish_340 rfl ?_
      exact a_sub (ih (v12 + 1) m3) (ls_s (ls_n (ls_n (ls_n (ls_n (ls_n (ls_n (ls_n (ls_n (ls_n (ls_n (ls_n (ls_s ls_0)))))))))))))

set_option maxRecDepth 100000 in
set_option maxHeartbeats 2000000 in
theorem a_X12_publish_196 {X : AX} {r0 : Int32 × Mem} (hX : CX X cX12_publish 13 RX12) (hR : (aR X).frames = 2 ∧ (aR X).locals = 57 ∧ aCe X ≤ (aR X).cells ∧ aSl X ≤ (aR X).slots) (hQ : QI X r0) (hr : (aMeth X).sig.returnType = (some .int)) (v1 v2 v3 v4 v5 v6 s1 : Int32) (σ : Mem) : AWo X r0 196 [some (.ref 94), some (.int v1), some (.int v2), some (.int v3), some (.int v4), some (.int v5), some (.int v6), none, none, none, none, none, none] [.int s1, .ref 94] σ (m_X12_publish_196 v1 v2 v3 v4 v5 v6 s1 σ) := by
  unfold m_X12_publish_196
  refine a_callI hX hR ml_X12_101 (ci_X12_goesWell _ _ _) s_94 rfl rfl rfl (by decide) (Nat.le_of_ble_eq_true rfl) rfl dX12_publish_196 rfl (fun x1 => ?_)
  refine a_if_ne hX dX12_publish_199 rfl rfl ?_ ?_
  · refine a_bi 9 hX dX12_publish_204 (by decide) rfl ?_
    refine a_al0 hX dX12_publish_206 rfl ?_
    refine a_getI hX fl_X12_79 s_94 rfl dX12_publish_207 rfl ?_
    refine a_imul hX dX12_publish_210 rfl ?_
    refine a_name (fun y2 => ?_)
    refine a_is11 hX dX12_publish_211 rfl ?_
    refine a_al0 hX dX12_publish_213 rfl ?_
    refine a_getR hX fl_X12_7 s_94 rfl dX12_publish_214 rfl ?_
    refine a_il11 hX dX12_publish_217 rfl ?_
    refine a_il1 hX dX12_publish_219 rfl ?_
    refine a_ast hX s_95 dX12_publish_220 rfl (fun m3 => ?_)
    refine a_al0 hX dX12_publish_221 rfl ?_
    refine a_getR hX fl_X12_7 s_94 rfl dX12_publish_222 rfl ?_
    refine a_il11 hX dX12_publish_225 rfl ?_
    refine a_ic 1 hX dX12_publish_227 (by decide) rfl ?_
    refine a_iadd hX dX12_publish_228 rfl ?_
    refine a_il2 hX dX12_publish_229 rfl ?_
    refine a_ast hX s_95 dX12_publish_230 rfl (fun m4 => ?_)
    refine a_al0 hX dX12_publish_231 rfl ?_
    refine a_getR hX fl_X12_7 s_94 rfl dX12_publish_232 rfl ?_
    refine a_il11 hX dX12_publish_235 rfl ?_
    refine a_ic 2 hX dX12_publish_237 (by decide) rfl ?_
    refine a_iadd hX dX12_publish_238 rfl ?_
    refine a_il3 hX dX12_publish_239 rfl ?_
    refine a_ast hX s_95 dX12_publish_240 rfl (fun m5 => ?_)
    refine a_al0 hX dX12_publish_241 rfl ?_
    refine a_getR hX fl_X12_7 s_94 rfl dX12_publish_242 rfl ?_
    refine a_il11 hX dX12_publish_245 rfl ?_
    refine a_ic 3 hX dX12_publish_247 (by decide) rfl ?_
    refine a_iadd hX dX12_publish_248 rfl ?_
    refine a_il4 hX dX12_publish_249 rfl ?_
    refine a_ast hX s_95 dX12_publish_251 rfl (fun m6 => ?_)
    refine a_al0 hX dX12_publish_252 rfl ?_
    refine a_getR hX fl_X12_7 s_94 rfl dX12_publish_253 rfl ?_
    refine a_il11 hX dX12_publish_256 rfl ?_
    refine a_ic 4 hX dX12_publish_258 (by decide) rfl ?_
    refine a_iadd hX dX12_publish_259 rfl ?_
    refine a_il5 hX dX12_publish_260 rfl ?_
    refine a_ast hX s_95 dX12_publish_262 rfl (fun m7 => ?_)
    refine a_al0 hX dX12_publish_263 rfl ?_
    refine a_getR hX fl_X12_7 s_94 rfl dX12_publish_264 rfl ?_
    refine a_il11 hX dX12_publish_267 rfl ?_
    refine a_ic 5 hX dX12_publish_269 (by decide) rfl ?_
    refine a_iadd hX dX12_publish_270 rfl ?_
    refine a_il6 hX dX12_publish_271 rfl ?_
    refine a_ast hX s_95 dX12_publish_273 rfl (fun m8 => ?_)
    refine a_al0 hX dX12_publish_274 rfl ?_
    refine a_getR hX fl_X12_7 s_94 rfl dX12_publish_275 rfl ?_
    refine a_il11 hX dX12_publish_278 rfl ?_
    refine a_bi 7 hX dX12_publish_280 (by decide) rfl ?_
    refine a_iadd hX dX12_publish_282 rfl ?_
    refine a_bi 7 hX dX12_publish_283 (by decide) rfl ?_
    refine a_ast hX s_95 dX12_publish_285 rfl (fun m9 => ?_)
    refine a_al0 hX dX12_publish_286 rfl ?_
    refine a_dup hX dX12_publish_287 rfl rfl ?_
    refine a_getI hX fl_X12_79 s_94 rfl dX12_publish_288 rfl ?_
    refine a_ic 1 hX dX12_publish_291 (by decide) rfl ?_
    refine a_iadd hX dX12_publish_292 rfl ?_
    refine a_putI hX fp_X12_79 s_94 rfl dX12_publish_293 rfl ?_
    refine a_nameM (fun m10 => ?_)
    refine a_ic 0 hX dX12_publish_296 (by decide) rfl ?_
    refine a_is12 hX dX12_publish_297 rfl ?_
    exact a_sub (a_X12_publish_299 hX hR hQ hr FU 0 m10) (ls_s (ls_n (ls_n (ls_n (ls_n (ls_n (ls_n (ls_n (ls_n (ls_n (ls_n (ls_n (ls_s ls_0)))))))))))))
  · refine a_ic 0 hX dX12_publish_202 (by decide) rfl ?_
    exact a_iret hX hQ hr dX12_publish_203

set_option maxRecDepth 100000 in
set_option maxHeartbeats 2000000 in
theorem a_X12_publish_153 {X : AX} {r0 : Int32 × Mem} (hX : CX X cX12_publish 13 RX12) (hR : (aR X).frames = 2 ∧ (aR X).locals = 57 ∧ aCe X ≤ (aR X).cells ∧ aSl X ≤ (aR X).slots) (hQ : QI X r0) (hr : (aMeth X).sig.returnType = (some .int)) (f82 : Int32 → Int32 → Int32 → Int32 → Int32 → Int32 → Int32 → Int32 → Int32 → Int32 → Int32 → Mem → Option (Int32 × Mem)) (hf82 : ∀ (v1 v2 v3 v4 v5 v6 v7 v8 v9 v10 v11 : Int32) (σ : Mem), AWo X r0 82 [some (.ref 94), some (.int v1), some (.int v2), some (.int v3), some (.int v4), some (.int v5), some (.int v6), some (.int v7), some (.int v8), some (.int v9), some (.int v10), some (.int v11), none] [] σ (f82 v1 v2 v3 v4 v5 v6 v7 v8 v9 v10 v11 σ)) (v1 v2 v3 v4 v5 v6 v7 v8 v9 v11 s0 : Int32) (σ : Mem) : AWo X r0 153 [some (.ref 94), some (.int v1), some (.int v2), some (.int v3), some (.int v4), some (.int v5), some (.int v6), some (.int v7), some (.int v8), some (.int v9), none, some (.int v11), none] [.int s0] σ (m_X12_publish_153 f82 v1 v2 v3 v4 v5 v6 v7 v8 v9 v11 s0 σ) := by
  unfold m_X12_publish_153
  refine a_is10 hX dX12_publish_153 rfl ?_
  refine a_inc11 1 hX dX12_publish_155 (by decide) rfl ?_
  refine a_goto hX dX12_publish_158 rfl ?_
  exact a_sub (hf82 v1 v2 v3 v4 v5 v6 v7 v8 v9 s0 (v11 + 1) (σ)) (ls_s (ls_s (ls_s (ls_s (ls_s (ls_s (ls_s (ls_s (ls_s (ls_s (ls_s (ls_s (ls_n ls_0)))))))))))))

set_option maxRecDepth 100000 in
set_option maxHeartbeats 2000000 in
theorem a_X12_publish_152 {X : AX} {r0 : Int32 × Mem} (hX : CX X cX12_publish 13 RX12) (hR : (aR X).frames = 2 ∧ (aR X).locals = 57 ∧ aCe X ≤ (aR X).cells ∧ aSl X ≤ (aR X).slots) (hQ : QI X r0) (hr : (aMeth X).sig.returnType = (some .int)) (f82 : Int32 → Int32 → Int32 → Int32 → Int32 → Int32 → Int32 → Int32 → Int32 → Int32 → Int32 → Mem → Option (Int32 × Mem)) (hf82 : ∀ (v1 v2 v3 v4 v5 v6 v7 v8 v9 v10 v11 : Int32) (σ : Mem), AWo X r0 82 [some (.ref 94), some (.int v1), some (.int v2), some (.int v3), some (.int v4), some (.int v5), some (.int v6), some (.int v7), some (.int v8), some (.int v9), some (.int v10), some (.int v11), none] [] σ (f82 v1 v2 v3 v4 v5 v6 v7 v8 v9 v10 v11 σ)) (v1 v2 v3 v4 v5 v6 v7 v8 v9 v11 : Int32) (σ : Mem) : AWo X r0 152 [some (.ref 94), some (.int v1), some (.int v2), some (.int v3), some (.int v4), some (.int v5), some (.int v6), some (.int v7), some (.int v8), some (.int v9), none, some (.int v11), none] [] σ (m_X12_publish_152 f82 v1 v2 v3 v4 v5 v6 v7 v8 v9 v11 σ) := by
  unfold m_X12_publish_152
  refine a_ic 0 hX dX12_publish_152 (by decide) rfl ?_
  exact a_sub (a_X12_publish_153 hX hR hQ hr f82 hf82 v1 v2 v3 v4 v5 v6 v7 v8 v9 v11 0 (σ)) (ls_s (ls_s (ls_s (ls_s (ls_s (ls_s (ls_s (ls_s (ls_s (ls_s (ls_n (ls_s (ls_n ls_0)))))))))))))

set_option maxRecDepth 100000 in
set_option maxHeartbeats 2000000 in
theorem a_X12_publish_120 {X : AX} {r0 : Int32 × Mem} (hX : CX X cX12_publish 13 RX12) (hR : (aR X).frames = 2 ∧ (aR X).locals = 57 ∧ aCe X ≤ (aR X).cells ∧ aSl X ≤ (aR X).slots) (hQ : QI X r0) (hr : (aMeth X).sig.returnType = (some .int)) (f82 : Int32 → Int32 → Int32 → Int32 → Int32 → Int32 → Int32 → Int32 → Int32 → Int32 → Int32 → Mem → Option (Int32 × Mem)) (hf82 : ∀ (v1 v2 v3 v4 v5 v6 v7 v8 v9 v10 v11 : Int32) (σ : Mem), AWo X r0 82 [some (.ref 94), some (.int v1), some (.int v2), some (.int v3), some (.int v4), some (.int v5), some (.int v6), some (.int v7), some (.int v8), some (.int v9), some (.int v10), some (.int v11), none] [] σ (f82 v1 v2 v3 v4 v5 v6 v7 v8 v9 v10 v11 σ)) (v1 v2 v3 v4 v5 v6 v7 v8 v10 v11 v12 s0 s1 : Int32) (σ : Mem) : AWo X r0 120 [some (.ref 94), some (.int v1), some (.int v2), some (.int v3), some (.int v4), some (.int v5), some (.int v6), some (.int v7), some (.int v8), none, some (.int v10), some (.int v11), some (.int v12)] [.int s1, .int s0] σ (m_X12_publish_120 f82 v1 v2 v3 v4 v5 v6 v7 v8 v10 v11 v12 s0 s1 σ) := by
  unfold m_X12_publish_120
  refine a_iadd hX dX12_publish_120 rfl ?_
  refine a_name (fun y1 => ?_)
  refine a_is9 hX dX12_publish_121 rfl ?_
  refine a_il10 hX dX12_publish_123 rfl ?_
  refine a_if_ne hX dX12_publish_125 rfl rfl ?_ ?_
  · refine a_ic 1 hX dX12_publish_148 (by decide) rfl ?_
    refine a_goto hX dX12_publish_149 rfl ?_
    exact a_sub (a_X12_publish_153 hX hR hQ hr f82 hf82 v1 v2 v3 v4 v5 v6 v7 v8 y1 v11 1 (σ)) (ls_s (ls_s (ls_s (ls_s (ls_s (ls_s (ls_s (ls_s (ls_s (ls_s (ls_n (ls_s (ls_n ls_0)))))))))))))
  · refine a_il12 hX dX12_publish_128 rfl ?_
    refine a_if_eq hX dX12_publish_130 rfl rfl ?_ ?_
    · exact a_sub (a_X12_publish_152 hX hR hQ hr f82 hf82 v1 v2 v3 v4 v5 v6 v7 v8 y1 v11 (σ)) (ls_s (ls_s (ls_s (ls_s (ls_s (ls_s (ls_s (ls_s (ls_s (ls_s (ls_n (ls_s (ls_n ls_0)))))))))))))
    · refine a_al0 hX dX12_publish_133 rfl ?_
      refine a_il11 hX dX12_publish_134 rfl ?_
      refine a_il2 hX dX12_publish_136 rfl ?_
      refine a_il3 hX dX12_publish_137 rfl ?_
      refine a_il4 hX dX12_publish_138 rfl ?_
      refine a_il5 hX dX12_publish_140 rfl ?_
      refine a_callI hX hR ml_X12_85 (ci_X12_compareTo _ _ _ _ _ _ _) s_94 rfl rfl rfl (by decide) (Nat.le_of_ble_eq_true rfl) rfl dX12_publish_142 rfl (fun x2 => ?_)
      refine a_if_ne hX dX12_publish_145 rfl rfl ?_ ?_
      · exact a_sub (a_X12_publish_152 hX hR hQ hr f82 hf82 v1 v2 v3 v4 v5 v6 v7 v8 y1 v11 x2.2) (ls_s (ls_s (ls_s (ls_s (ls_s (ls_s (ls_s (ls_s (ls_s (ls_s (ls_n (ls_s (ls_n ls_0)))))))))))))
      · refine a_ic 1 hX dX12_publish_148 (by decide) rfl ?_
        refine a_goto hX dX12_publish_149 rfl ?_
        exact a_sub (a_X12_publish_153 hX hR hQ hr f82 hf82 v1 v2 v3 v4 v5 v6 v7 v8 y1 v11 1 x2.2) (ls_s (ls_s (ls_s (ls_s (ls_s (ls_s (ls_s (ls_s (ls_s (ls_s (ls_n (ls_s (ls_n ls_0)))))))))))))

set_option maxRecDepth 100000 in
set_option maxHeartbeats 2000000 in
theorem a_X12_publish_106 {X : AX} {r0 : Int32 × Mem} (hX : CX X cX12_publish 13 RX12) (hR : (aR X).frames = 2 ∧ (aR X).locals = 57 ∧ aCe X ≤ (aR X).cells ∧ aSl X ≤ (aR X).slots) (hQ : QI X r0) (hr : (aMeth X).sig.returnType = (some .int)) (f82 : Int32 → Int32 → Int32 → Int32 → Int32 → Int32 → Int32 → Int32 → Int32 → Int32 → Int32 → Mem → Option (Int32 × Mem)) (hf82 : ∀ (v1 v2 v3 v4 v5 v6 v7 v8 v9 v10 v11 : Int32) (σ : Mem), AWo X r0 82 [some (.ref 94), some (.int v1), some (.int v2), some (.int v3), some (.int v4), some (.int v5), some (.int v6), some (.int v7), some (.int v8), some (.int v9), some (.int v10), some (.int v11), none] [] σ (f82 v1 v2 v3 v4 v5 v6 v7 v8 v9 v10 v11 σ)) (v1 v2 v3 v4 v5 v6 v7 v8 v9 v10 v11 s0 : Int32) (σ : Mem) : AWo X r0 106 [some (.ref 94), some (.int v1), some (.int v2), some (.int v3), some (.int v4), some (.int v5), some (.int v6), some (.int v7), some (.int v8), some (.int v9), some (.int v10), some (.int v11), none] [.int s0] σ (m_X12_publish_106 f82 v1 v2 v3 v4 v5 v6 v7 v8 v9 v10 v11 s0 σ) := by
  unfold m_X12_publish_106
  refine a_is12 hX dX12_publish_106 rfl ?_
  refine a_il9 hX dX12_publish_108 rfl ?_
  refine a_il12 hX dX12_publish_110 rfl ?_
  refine a_if_eq hX dX12_publish_112 rfl rfl ?_ ?_
  · refine a_ic 0 hX dX12_publish_119 (by decide) rfl ?_
    exact a_sub (a_X12_publish_120 hX hR hQ hr f82 hf82 v1 v2 v3 v4 v5 v6 v7 v8 v10 v11 s0 v9 0 (σ)) (ls_s (ls_s (ls_s (ls_s (ls_s (ls_s (ls_s (ls_s (ls_s (ls_n (ls_s (ls_s (ls_s ls_0)))))))))))))
  · refine a_ic 1 hX dX12_publish_115 (by decide) rfl ?_
    refine a_goto hX dX12_publish_116 rfl ?_
    exact a_sub (a_X12_publish_120 hX hR hQ hr f82 hf82 v1 v2 v3 v4 v5 v6 v7 v8 v10 v11 s0 v9 1 (σ)) (ls_s (ls_s (ls_s (ls_s (ls_s (ls_s (ls_s (ls_s (ls_s (ls_n (ls_s (ls_s (ls_s ls_0)))))))))))))

set_option maxRecDepth 100000 in
set_option maxHeartbeats 2000000 in
theorem a_X12_publish_82 {X : AX} {r0 : Int32 × Mem} (hX : CX X cX12_publish 13 RX12) (hR : (aR X).frames = 2 ∧ (aR X).locals = 57 ∧ aCe X ≤ (aR X).cells ∧ aSl X ≤ (aR X).slots) (hQ : QI X r0) (hr : (aMeth X).sig.returnType = (some .int)) : ∀ (fuel : Nat) (v1 v2 v3 v4 v5 v6 v7 v8 v9 v10 v11 : Int32) (σ : Mem), AWo X r0 82 [some (.ref 94), some (.int v1), some (.int v2), some (.int v3), some (.int v4), some (.int v5), some (.int v6), some (.int v7), some (.int v8), some (.int v9), some (.int v10), some (.int v11), none] [] σ (m_X12_publish_82 fuel v1 v2 v3 v4 v5 v6 v7 v8 v9 v10 v11 σ) := by
  intro fuel
  induction fuel with
  | zero => intro v1 v2 v3 v4 v5 v6 v7 v8 v9 v10 v11 σ; exact a_none
  | succ fuel ih =>
    intro v1 v2 v3 v4 v5 v6 v7 v8 v9 v10 v11 σ
    show AWo X r0 82 [some (.ref 94), some (.int v1), some (.int v2), some (.int v3), some (.int v4), some (.int v5), some (.int v6), some (.int v7), some (.int v8), some (.int v9), some (.int v10), some (.int v11), none] [] σ (m_X12_publish_82 (fuel + 1) v1 v2 v3 v4 v5 v6 v7 v8 v9 v10 v11 σ)
    unfold m_X12_publish_82
    refine a_il11 hX dX12_publish_82 rfl ?_
    refine a_al0 hX dX12_publish_84 rfl ?_
    refine a_getI hX fl_X12_79 s_94 rfl dX12_publish_85 rfl ?_
    refine a_icmp_ge hX dX12_publish_88 rfl rfl ?_ ?_
    · refine a_al0 hX dX12_publish_161 rfl ?_
      refine a_il7 hX dX12_publish_162 rfl ?_
      refine a_if_ne hX dX12_publish_164 rfl rfl ?_ ?_
      · refine a_il8 hX dX12_publish_171 rfl ?_
        refine a_if_ne hX dX12_publish_173 rfl rfl ?_ ?_
        · refine a_il9 hX dX12_publish_180 rfl ?_
          refine a_ic 4 hX dX12_publish_182 (by decide) rfl ?_
          refine a_icmp_eq hX dX12_publish_183 rfl rfl ?_ ?_
          · refine a_ic 3 hX dX12_publish_191 (by decide) rfl ?_
            refine a_goto hX dX12_publish_192 rfl ?_
            exact a_sub (a_X12_publish_196 hX hR hQ hr v1 v2 v3 v4 v5 v6 3 (σ)) (ls_s (ls_s (ls_s (ls_s (ls_s (ls_s (ls_s (ls_n (ls_n (ls_n (ls_n (ls_n (ls_n ls_0)))))))))))))
          · refine a_il10 hX dX12_publish_186 rfl ?_
            refine a_if_eq hX dX12_publish_188 rfl rfl ?_ ?_
            · refine a_ic 0 hX dX12_publish_195 (by decide) rfl ?_
              exact a_sub (a_X12_publish_196 hX hR hQ hr v1 v2 v3 v4 v5 v6 0 (σ)) (ls_s (ls_s (ls_s (ls_s (ls_s (ls_s (ls_s (ls_n (ls_n (ls_n (ls_n (ls_n (ls_n ls_0)))))))))))))
            · refine a_ic 3 hX dX12_publish_191 (by decide) rfl ?_
              refine a_goto hX dX12_publish_192 rfl ?_
              exact a_sub (a_X12_publish_196 hX hR hQ hr v1 v2 v3 v4 v5 v6 3 (σ)) (ls_s (ls_s (ls_s (ls_s (ls_s (ls_s (ls_s (ls_n (ls_n (ls_n (ls_n (ls_n (ls_n ls_0)))))))))))))
        · refine a_ic 2 hX dX12_publish_176 (by decide) rfl ?_
          refine a_goto hX dX12_publish_177 rfl ?_
          exact a_sub (a_X12_publish_196 hX hR hQ hr v1 v2 v3 v4 v5 v6 2 (σ)) (ls_s (ls_s (ls_s (ls_s (ls_s (ls_s (ls_s (ls_n (ls_n (ls_n (ls_n (ls_n (ls_n ls_0)))))))))))))
      · refine a_ic 1 hX dX12_publish_167 (by decide) rfl ?_
        refine a_goto hX dX12_publish_168 rfl ?_
        exact a_sub (a_X12_publish_196 hX hR hQ hr v1 v2 v3 v4 v5 v6 1 (σ)) (ls_s (ls_s (ls_s (ls_s (ls_s (ls_s (ls_s (ls_n (ls_n (ls_n (ls_n (ls_n (ls_n ls_0)))))))))))))
    · refine a_al0 hX dX12_publish_91 rfl ?_
      refine a_il11 hX dX12_publish_92 rfl ?_
      refine a_callI hX hR ml_X12_97 (ci_X12_packageOf _ _ _) s_94 rfl rfl rfl (by decide) (Nat.le_of_ble_eq_true rfl) rfl dX12_publish_94 rfl (fun x1 => ?_)
      refine a_il1 hX dX12_publish_97 rfl ?_
      refine a_icmp_ne hX dX12_publish_98 rfl rfl ?_ ?_
      · refine a_ic 0 hX dX12_publish_105 (by decide) rfl ?_
        exact a_sub (a_X12_publish_106 hX hR hQ hr (m_X12_publish_82 fuel) ih v1 v2 v3 v4 v5 v6 v7 v8 v9 v10 v11 0 x1.2) (ls_s (ls_s (ls_s (ls_s (ls_s (ls_s (ls_s (ls_s (ls_s (ls_s (ls_s (ls_s (ls_n ls_0)))))))))))))
      · refine a_ic 1 hX dX12_publish_101 (by decide) rfl ?_
        refine a_goto hX dX12_publish_102 rfl ?_
        exact a_sub (a_X12_publish_106 hX hR hQ hr (m_X12_publish_82 fuel) ih v1 v2 v3 v4 v5 v6 v7 v8 v9 v10 v11 1 x1.2) (ls_s (ls_s (ls_s (ls_s (ls_s (ls_s (ls_s (ls_s (ls_s (ls_s (ls_s (ls_s (ls_n ls_0)))))))))))))

set_option maxRecDepth 100000 in
set_option maxHeartbeats 2000000 in
theorem a_X12_publish_71 {X : AX} {r0 : Int32 × Mem} (hX : CX X cX12_publish 13 RX12) (hR : (aR X).frames = 2 ∧ (aR X).locals = 57 ∧ aCe X ≤ (aR X).cells ∧ aSl X ≤ (aR X).slots) (hQ : QI X r0) (hr : (aMeth X).sig.returnType = (some .int)) (v1 v2 v3 v4 v5 v6 v7 s0 : Int32) (σ : Mem) : AWo X r0 71 [some (.ref 94), some (.int v1), some (.int v2), some (.int v3), some (.int v4), some (.int v5), some (.int v6), some (.int v7), none, none, none, none, none] [.int s0] σ (m_X12_publish_71 v1 v2 v3 v4 v5 v6 v7 s0 σ) := by
  unfold m_X12_publish_71
  refine a_is8 hX dX12_publish_71 rfl ?_
  refine a_ic 0 hX dX12_publish_73 (by decide) rfl ?_
  refine a_is9 hX dX12_publish_74 rfl ?_
  refine a_ic 0 hX dX12_publish_76 (by decide) rfl ?_
  refine a_is10 hX dX12_publish_77 rfl ?_
  refine a_ic 0 hX dX12_publish_79 (by decide) rfl ?_
  refine a_is11 hX dX12_publish_80 rfl ?_
  exact a_sub (a_X12_publish_82 hX hR hQ hr FU v1 v2 v3 v4 v5 v6 v7 s0 0 0 0 (σ)) (ls_s (ls_s (ls_s (ls_s (ls_s (ls_s (ls_s (ls_s (ls_s (ls_s (ls_s (ls_s (ls_n ls_0)))))))))))))

set_option maxRecDepth 100000 in
set_option maxHeartbeats 2000000 in
theorem a_X12_publish_70 {X : AX} {r0 : Int32 × Mem} (hX : CX X cX12_publish 13 RX12) (hR : (aR X).frames = 2 ∧ (aR X).locals = 57 ∧ aCe X ≤ (aR X).cells ∧ aSl X ≤ (aR X).slots) (hQ : QI X r0) (hr : (aMeth X).sig.returnType = (some .int)) (v1 v2 v3 v4 v5 v6 v7 : Int32) (σ : Mem) : AWo X r0 70 [some (.ref 94), some (.int v1), some (.int v2), some (.int v3), some (.int v4), some (.int v5), some (.int v6), some (.int v7), none, none, none, none, none] [] σ (m_X12_publish_70 v1 v2 v3 v4 v5 v6 v7 σ) := by
  unfold m_X12_publish_70
  refine a_ic 0 hX dX12_publish_70 (by decide) rfl ?_
  exact a_sub (a_X12_publish_71 hX hR hQ hr v1 v2 v3 v4 v5 v6 v7 0 (σ)) (ls_s (ls_s (ls_s (ls_s (ls_s (ls_s (ls_s (ls_s (ls_n (ls_n (ls_n (ls_n (ls_n ls_0)))))))))))))

set_option maxRecDepth 100000 in
set_option maxHeartbeats 2000000 in
theorem a_X12_publish_22 {X : AX} {r0 : Int32 × Mem} (hX : CX X cX12_publish 13 RX12) (hR : (aR X).frames = 2 ∧ (aR X).locals = 57 ∧ aCe X ≤ (aR X).cells ∧ aSl X ≤ (aR X).slots) (hQ : QI X r0) (hr : (aMeth X).sig.returnType = (some .int)) (v1 v2 v3 v4 v5 v6 s0 : Int32) (σ : Mem) : AWo X r0 22 [some (.ref 94), some (.int v1), some (.int v2), some (.int v3), some (.int v4), some (.int v5), some (.int v6), none, none, none, none, none, none] [.int s0] σ (m_X12_publish_22 v1 v2 v3 v4 v5 v6 s0 σ) := by
  unfold m_X12_publish_22
  refine a_is7 hX dX12_publish_22 rfl ?_
  refine a_il2 hX dX12_publish_24 rfl ?_
  refine a_ic 0 hX dX12_publish_25 (by decide) rfl ?_
  refine a_bi 9 hX dX12_publish_26 (by decide) rfl ?_
  refine a_callSI hX hR ml_X12_75 (ci_X12_in _ _ _ _ _) rfl rfl (by decide) (Nat.le_of_ble_eq_true rfl) rfl dX12_publish_28 rfl (fun x1 => ?_)
  refine a_if_eq hX dX12_publish_31 rfl rfl ?_ ?_
  · exact a_sub (a_X12_publish_70 hX hR hQ hr v1 v2 v3 v4 v5 v6 s0 x1.2) (ls_s (ls_s (ls_s (ls_s (ls_s (ls_s (ls_s (ls_s (ls_n (ls_n (ls_n (ls_n (ls_n ls_0)))))))))))))
  · refine a_il3 hX dX12_publish_34 rfl ?_
    refine a_ic 0 hX dX12_publish_35 (by decide) rfl ?_
    refine a_bi 9 hX dX12_publish_36 (by decide) rfl ?_
    refine a_callSI hX hR ml_X12_75 (ci_X12_in _ _ _ _ _) rfl rfl (by decide) (Nat.le_of_ble_eq_true rfl) rfl dX12_publish_38 rfl (fun x2 => ?_)
    refine a_if_eq hX dX12_publish_41 rfl rfl ?_ ?_
    · exact a_sub (a_X12_publish_70 hX hR hQ hr v1 v2 v3 v4 v5 v6 s0 x2.2) (ls_s (ls_s (ls_s (ls_s (ls_s (ls_s (ls_s (ls_s (ls_n (ls_n (ls_n (ls_n (ls_n ls_0)))))))))))))
    · refine a_il4 hX dX12_publish_44 rfl ?_
      refine a_ic 0 hX dX12_publish_46 (by decide) rfl ?_
      refine a_bi 9 hX dX12_publish_47 (by decide) rfl ?_
      refine a_callSI hX hR ml_X12_75 (ci_X12_in _ _ _ _ _) rfl rfl (by decide) (Nat.le_of_ble_eq_true rfl) rfl dX12_publish_49 rfl (fun x3 => ?_)
      refine a_if_eq hX dX12_publish_52 rfl rfl ?_ ?_
      · exact a_sub (a_X12_publish_70 hX hR hQ hr v1 v2 v3 v4 v5 v6 s0 x3.2) (ls_s (ls_s (ls_s (ls_s (ls_s (ls_s (ls_s (ls_s (ls_n (ls_n (ls_n (ls_n (ls_n ls_0)))))))))))))
      · refine a_il5 hX dX12_publish_55 rfl ?_
        refine a_ic 0 hX dX12_publish_57 (by decide) rfl ?_
        refine a_bi 9 hX dX12_publish_58 (by decide) rfl ?_
        refine a_callSI hX hR ml_X12_75 (ci_X12_in _ _ _ _ _) rfl rfl (by decide) (Nat.le_of_ble_eq_true rfl) rfl dX12_publish_60 rfl (fun x4 => ?_)
        refine a_if_eq hX dX12_publish_63 rfl rfl ?_ ?_
        · exact a_sub (a_X12_publish_70 hX hR hQ hr v1 v2 v3 v4 v5 v6 s0 x4.2) (ls_s (ls_s (ls_s (ls_s (ls_s (ls_s (ls_s (ls_s (ls_n (ls_n (ls_n (ls_n (ls_n ls_0)))))))))))))
        · refine a_ic 1 hX dX12_publish_66 (by decide) rfl ?_
          refine a_goto hX dX12_publish_67 rfl ?_
          exact a_sub (a_X12_publish_71 hX hR hQ hr v1 v2 v3 v4 v5 v6 s0 1 x4.2) (ls_s (ls_s (ls_s (ls_s (ls_s (ls_s (ls_s (ls_s (ls_n (ls_n (ls_n (ls_n (ls_n ls_0)))))))))))))

set_option maxRecDepth 100000 in
set_option maxHeartbeats 2000000 in
theorem a_X12_publish_21 {X : AX} {r0 : Int32 × Mem} (hX : CX X cX12_publish 13 RX12) (hR : (aR X).frames = 2 ∧ (aR X).locals = 57 ∧ aCe X ≤ (aR X).cells ∧ aSl X ≤ (aR X).slots) (hQ : QI X r0) (hr : (aMeth X).sig.returnType = (some .int)) (v1 v2 v3 v4 v5 v6 : Int32) (σ : Mem) : AWo X r0 21 [some (.ref 94), some (.int v1), some (.int v2), some (.int v3), some (.int v4), some (.int v5), some (.int v6), none, none, none, none, none, none] [] σ (m_X12_publish_21 v1 v2 v3 v4 v5 v6 σ) := by
  unfold m_X12_publish_21
  refine a_ic 0 hX dX12_publish_21 (by decide) rfl ?_
  exact a_sub (a_X12_publish_22 hX hR hQ hr v1 v2 v3 v4 v5 v6 0 (σ)) (ls_s (ls_s (ls_s (ls_s (ls_s (ls_s (ls_s (ls_n (ls_n (ls_n (ls_n (ls_n (ls_n ls_0)))))))))))))

set_option maxRecDepth 100000 in
set_option maxHeartbeats 2000000 in
theorem a_X12_publish_0 {X : AX} {r0 : Int32 × Mem} (hX : CX X cX12_publish 13 RX12) (hR : (aR X).frames = 2 ∧ (aR X).locals = 57 ∧ aCe X ≤ (aR X).cells ∧ aSl X ≤ (aR X).slots) (hQ : QI X r0) (hr : (aMeth X).sig.returnType = (some .int)) (v1 v2 v3 v4 v5 v6 : Int32) (σ : Mem) : AWo X r0 0 [some (.ref 94), some (.int v1), some (.int v2), some (.int v3), some (.int v4), some (.int v5), some (.int v6), none, none, none, none, none, none] [] σ (m_X12_publish v1 v2 v3 v4 v5 v6 σ) := by
  unfold m_X12_publish
  refine a_il1 hX dX12_publish_0 rfl ?_
  refine a_callSI hX hR ml_X12_93 (ci_X12_isPackage _ _ _) rfl rfl (by decide) (Nat.le_of_ble_eq_true rfl) rfl dX12_publish_1 rfl (fun x1 => ?_)
  refine a_if_eq hX dX12_publish_4 rfl rfl ?_ ?_
  · exact a_sub (a_X12_publish_21 hX hR hQ hr v1 v2 v3 v4 v5 v6 x1.2) (ls_s (ls_s (ls_s (ls_s (ls_s (ls_s (ls_s (ls_n (ls_n (ls_n (ls_n (ls_n (ls_n ls_0)))))))))))))
  · refine a_il6 hX dX12_publish_7 rfl ?_
    refine a_ic 0 hX dX12_publish_9 (by decide) rfl ?_
    refine a_ic 1 hX dX12_publish_10 (by decide) rfl ?_
    refine a_callSI hX hR ml_X12_75 (ci_X12_in _ _ _ _ _) rfl rfl (by decide) (Nat.le_of_ble_eq_true rfl) rfl dX12_publish_11 rfl (fun x2 => ?_)
    refine a_if_eq hX dX12_publish_14 rfl rfl ?_ ?_
    · exact a_sub (a_X12_publish_21 hX hR hQ hr v1 v2 v3 v4 v5 v6 x2.2) (ls_s (ls_s (ls_s (ls_s (ls_s (ls_s (ls_s (ls_n (ls_n (ls_n (ls_n (ls_n (ls_n ls_0)))))))))))))
    · refine a_ic 1 hX dX12_publish_17 (by decide) rfl ?_
      refine a_goto hX dX12_publish_18 rfl ?_
      exact a_sub (a_X12_publish_22 hX hR hQ hr v1 v2 v3 v4 v5 v6 1 x2.2) (ls_s (ls_s (ls_s (ls_s (ls_s (ls_s (ls_s (ls_n (ls_n (ls_n (ls_n (ls_n (ls_n ls_0)))))))))))))

set_option maxRecDepth 100000 in
theorem ci_X12_publish (l : Launch) (v1 v2 v3 v4 v5 v6 : Int32) (σ : Mem) : CI l yX12_publish cX12_publish 13 (some .int) 2 57 [.ref 94, .int v1, .int v2, .int v3, .int v4, .int v5, .int v6] σ (m_X12_publish v1 v2 v3 v4 v5 v6 σ) :=
  ci_of (by decide) (by simp [Value.category]) (by simp) (fun X r hl hX hR hQ hr => a_X12_publish_0 hX hR hQ hr v1 v2 v3 v4 v5 v6 σ)

