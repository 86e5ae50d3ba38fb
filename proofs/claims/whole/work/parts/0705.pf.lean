set_option maxRecDepth 100000 in
set_option maxHeartbeats 2000000 in
theorem a_X12_mending_95 {X : AX} {r0 : Int32 × Mem} (hX : CX X cX12_mending 5 RX12) (hR : (aR X).frames = 2 ∧ (aR X).locals = 50 ∧ aCe X ≤ (aR X).cells ∧ aSl X ≤ (aR X).slots) (hQ : QI X r0) (hr : (aMeth X).sig.returnType = (some .int)) (f26 : Int32 → Int32 → Int32 → Mem → Option (Int32 × Mem)) (hf26 : ∀ (v1 v2 v3 : Int32) (σ : Mem), AWo X r0 26 [some (.ref 94), some (.int v1), some (.int v2), some (.int v3), none] [] σ (f26 v1 v2 v3 σ)) (v1 v3 s0 : Int32) (σ : Mem) : AWo X r0 95 [some (.ref 94), some (.int v1), none, some (.int v3), none] [.int s0] σ (m_X12_mending_95 f26 v1 v3 s0 σ) := by
  unfold m_X12_mending_95
  refine a_is2 hX dX12_mending_95 rfl ?_
  refine a_inc3 1 hX dX12_mending_96 (by decide) rfl ?_
  refine a_goto hX dX12_mending_99 rfl ?_
  exact a_sub (hf26 v1 s0 (v3 + 1) (σ)) (ls_s (ls_s (ls_s (ls_s (ls_n ls_0)))))

set_option maxRecDepth 100000 in
set_option maxHeartbeats 2000000 in
theorem a_X12_mending_94 {X : AX} {r0 : Int32 × Mem} (hX : CX X cX12_mending 5 RX12) (hR : (aR X).frames = 2 ∧ (aR X).locals = 50 ∧ aCe X ≤ (aR X).cells ∧ aSl X ≤ (aR X).slots) (hQ : QI X r0) (hr : (aMeth X).sig.returnType = (some .int)) (f26 : Int32 → Int32 → Int32 → Mem → Option (Int32 × Mem)) (hf26 : ∀ (v1 v2 v3 : Int32) (σ : Mem), AWo X r0 26 [some (.ref 94), some (.int v1), some (.int v2), some (.int v3), none] [] σ (f26 v1 v2 v3 σ)) (v1 v2 v3 : Int32) (σ : Mem) : AWo X r0 94 [some (.ref 94), some (.int v1), some (.int v2), some (.int v3), none] [] σ (m_X12_mending_94 f26 v1 v2 v3 σ) := by
  unfold m_X12_mending_94
  refine a_il2 hX dX12_mending_94 rfl ?_
  exact a_sub (a_X12_mending_95 hX hR hQ hr f26 hf26 v1 v3 v2 (σ)) (ls_s (ls_s (ls_n (ls_s (ls_n ls_0)))))

set_option maxRecDepth 100000 in
set_option maxHeartbeats 2000000 in
theorem a_X12_mending_69 {X : AX} {r0 : Int32 × Mem} (hX : CX X cX12_mending 5 RX12) (hR : (aR X).frames = 2 ∧ (aR X).locals = 50 ∧ aCe X ≤ (aR X).cells ∧ aSl X ≤ (aR X).slots) (hQ : QI X r0) (hr : (aMeth X).sig.returnType = (some .int)) (f26 : Int32 → Int32 → Int32 → Mem → Option (Int32 × Mem)) (hf26 : ∀ (v1 v2 v3 : Int32) (σ : Mem), AWo X r0 26 [some (.ref 94), some (.int v1), some (.int v2), some (.int v3), none] [] σ (f26 v1 v2 v3 σ)) (v1 v2 v3 s0 : Int32) (σ : Mem) : AWo X r0 69 [some (.ref 94), some (.int v1), some (.int v2), some (.int v3), none] [.int s0] σ (m_X12_mending_69 f26 v1 v2 v3 s0 σ) := by
  unfold m_X12_mending_69
  refine a_is4 hX dX12_mending_69 rfl ?_
  refine a_il4 hX dX12_mending_71 rfl ?_
  refine a_if_eq hX dX12_mending_73 rfl rfl ?_ ?_
  · exact a_sub (a_X12_mending_94 hX hR hQ hr f26 hf26 v1 v2 v3 (σ)) (ls_s (ls_s (ls_s (ls_s (ls_n ls_0)))))
  · refine a_il2 hX dX12_mending_76 rfl ?_
    refine a_ic (-1) hX dX12_mending_77 (by decide) rfl ?_
    refine a_icmp_eq hX dX12_mending_78 rfl rfl ?_ ?_
    · refine a_il3 hX dX12_mending_90 rfl ?_
      refine a_goto hX dX12_mending_91 rfl ?_
      exact a_sub (a_X12_mending_95 hX hR hQ hr f26 hf26 v1 v3 v3 (σ)) (ls_s (ls_s (ls_n (ls_s (ls_n ls_0)))))
    · refine a_al0 hX dX12_mending_81 rfl ?_
      refine a_il3 hX dX12_mending_82 rfl ?_
      refine a_il2 hX dX12_mending_83 rfl ?_
      refine a_callI hX hR ml_X12_111 (ci_X12_compared _ _ _ _) s_94 rfl rfl rfl (by decide) (Nat.le_of_ble_eq_true rfl) rfl dX12_mending_84 rfl (fun x1 => ?_)
      refine a_if_ge hX dX12_mending_87 rfl rfl ?_ ?_
      · exact a_sub (a_X12_mending_94 hX hR hQ hr f26 hf26 v1 v2 v3 x1.2) (ls_s (ls_s (ls_s (ls_s (ls_n ls_0)))))
      · refine a_il3 hX dX12_mending_90 rfl ?_
        refine a_goto hX dX12_mending_91 rfl ?_
        exact a_sub (a_X12_mending_95 hX hR hQ hr f26 hf26 v1 v3 v3 x1.2) (ls_s (ls_s (ls_n (ls_s (ls_n ls_0)))))

set_option maxRecDepth 100000 in
set_option maxHeartbeats 2000000 in
theorem a_X12_mending_68 {X : AX} {r0 : Int32 × Mem} (hX : CX X cX12_mending 5 RX12) (hR : (aR X).frames = 2 ∧ (aR X).locals = 50 ∧ aCe X ≤ (aR X).cells ∧ aSl X ≤ (aR X).slots) (hQ : QI X r0) (hr : (aMeth X).sig.returnType = (some .int)) (f26 : Int32 → Int32 → Int32 → Mem → Option (Int32 × Mem)) (hf26 : ∀ (v1 v2 v3 : Int32) (σ : Mem), AWo X r0 26 [some (.ref 94), some (.int v1), some (.int v2), some (.int v3), none] [] σ (f26 v1 v2 v3 σ)) (v1 v2 v3 : Int32) (σ : Mem) : AWo X r0 68 [some (.ref 94), some (.int v1), some (.int v2), some (.int v3), none] [] σ (m_X12_mending_68 f26 v1 v2 v3 σ) := by
  unfold m_X12_mending_68
  refine a_ic 0 hX dX12_mending_68 (by decide) rfl ?_
  exact a_sub (a_X12_mending_69 hX hR hQ hr f26 hf26 v1 v2 v3 0 (σ)) (ls_s (ls_s (ls_s (ls_s (ls_n ls_0)))))

set_option maxRecDepth 100000 in
set_option maxHeartbeats 2000000 in
theorem a_X12_mending_26 {X : AX} {r0 : Int32 × Mem} (hX : CX X cX12_mending 5 RX12) (hR : (aR X).frames = 2 ∧ (aR X).locals = 50 ∧ aCe X ≤ (aR X).cells ∧ aSl X ≤ (aR X).slots) (hQ : QI X r0) (hr : (aMeth X).sig.returnType = (some .int)) : ∀ (fuel : Nat) (v1 v2 v3 : Int32) (σ : Mem), AWo X r0 26 [some (.ref 94), some (.int v1), some (.int v2), some (.int v3), none] [] σ (m_X12_mending_26 fuel v1 v2 v3 σ) := by
  intro fuel
  induction fuel with
  | zero => intro v1 v2 v3 σ; exact a_none
  | succ fuel ih =>
    intro v1 v2 v3 σ
    show AWo X r0 26 [some (.ref 94), some (.int v1), some (.int v2), some (.int v3), none] [] σ (m_X12_mending_26 (fuel + 1) v1 v2 v3 σ)
    unfold m_X12_mending_26
    refine a_il3 hX dX12_mending_26 rfl ?_
    refine a_al0 hX dX12_mending_27 rfl ?_
    refine a_getI hX fl_X12_79 s_94 rfl dX12_mending_28 rfl ?_
    refine a_icmp_ge hX dX12_mending_31 rfl rfl ?_ ?_
    · refine a_il2 hX dX12_mending_102 rfl ?_
      exact a_iret hX hQ hr dX12_mending_103
    · refine a_al0 hX dX12_mending_34 rfl ?_
      refine a_il3 hX dX12_mending_35 rfl ?_
      refine a_callI hX hR ml_X12_97 (ci_X12_packageOf _ _ _) s_94 rfl rfl rfl (by decide) (Nat.le_of_ble_eq_true rfl) rfl dX12_mending_36 rfl (fun x1 => ?_)
      refine a_al0 hX dX12_mending_39 rfl ?_
      refine a_il1 hX dX12_mending_40 rfl ?_
      refine a_callI hX hR ml_X12_97 (ci_X12_packageOf _ _ _) s_94 rfl rfl rfl (by decide) (Nat.le_of_ble_eq_true rfl) rfl dX12_mending_41 rfl (fun x2 => ?_)
      refine a_icmp_ne hX dX12_mending_44 rfl rfl ?_ ?_
      · exact a_sub (a_X12_mending_68 hX hR hQ hr (m_X12_mending_26 fuel) ih v1 v2 v3 x2.2) (ls_s (ls_s (ls_s (ls_s (ls_n ls_0)))))
      · refine a_al0 hX dX12_mending_47 rfl ?_
        refine a_il3 hX dX12_mending_48 rfl ?_
        refine a_il1 hX dX12_mending_49 rfl ?_
        refine a_callI hX hR ml_X12_111 (ci_X12_compared _ _ _ _) s_94 rfl rfl rfl (by decide) (Nat.le_of_ble_eq_true rfl) rfl dX12_mending_50 rfl (fun x3 => ?_)
        refine a_if_le hX dX12_mending_53 rfl rfl ?_ ?_
        · exact a_sub (a_X12_mending_68 hX hR hQ hr (m_X12_mending_26 fuel) ih v1 v2 v3 x3.2) (ls_s (ls_s (ls_s (ls_s (ls_n ls_0)))))
        · refine a_al0 hX dX12_mending_56 rfl ?_
          refine a_il3 hX dX12_mending_57 rfl ?_
          refine a_callI hX hR ml_X12_134 (ci_X12_hinders _ _ _) s_94 rfl rfl rfl (by decide) (Nat.le_of_ble_eq_true rfl) rfl dX12_mending_58 rfl (fun x4 => ?_)
          refine a_if_ne hX dX12_mending_61 rfl rfl ?_ ?_
          · exact a_sub (a_X12_mending_68 hX hR hQ hr (m_X12_mending_26 fuel) ih v1 v2 v3 x4.2) (ls_s (ls_s (ls_s (ls_s (ls_n ls_0)))))
          · refine a_ic 1 hX dX12_mending_64 (by decide) rfl ?_
            refine a_goto hX dX12_mending_65 rfl ?_
            exact a_sub (a_X12_mending_69 hX hR hQ hr (m_X12_mending_26 fuel) ih v1 v2 v3 1 x4.2) (ls_s (ls_s (ls_s (ls_s (ls_n ls_0)))))

set_option maxRecDepth 100000 in
set_option maxHeartbeats 2000000 in
theorem a_X12_mending_14 {X : AX} {r0 : Int32 × Mem} (hX : CX X cX12_mending 5 RX12) (hR : (aR X).frames = 2 ∧ (aR X).locals = 50 ∧ aCe X ≤ (aR X).cells ∧ aSl X ≤ (aR X).slots) (hQ : QI X r0) (hr : (aMeth X).sig.returnType = (some .int)) (v1 s1 : Int32) (σ : Mem) : AWo X r0 14 [some (.ref 94), some (.int v1), none, none, none] [.int s1, .ref 94] σ (m_X12_mending_14 v1 s1 σ) := by
  unfold m_X12_mending_14
  refine a_callI hX hR ml_X12_101 (ci_X12_goesWell _ _ _) s_94 rfl rfl rfl (by decide) (Nat.le_of_ble_eq_true rfl) rfl dX12_mending_14 rfl (fun x1 => ?_)
  refine a_if_ne hX dX12_mending_17 rfl rfl ?_ ?_
  · refine a_ic (-1) hX dX12_mending_22 (by decide) rfl ?_
    refine a_is2 hX dX12_mending_23 rfl ?_
    refine a_ic 0 hX dX12_mending_24 (by decide) rfl ?_
    refine a_is3 hX dX12_mending_25 rfl ?_
    exact a_sub (a_X12_mending_26 hX hR hQ hr FU v1 (-1) 0 x1.2) (ls_s (ls_s (ls_s (ls_s (ls_n ls_0)))))
  · refine a_ic 0 hX dX12_mending_20 (by decide) rfl ?_
    exact a_iret hX hQ hr dX12_mending_21

set_option maxRecDepth 100000 in
set_option maxHeartbeats 2000000 in
theorem a_X12_mending_0 {X : AX} {r0 : Int32 × Mem} (hX : CX X cX12_mending 5 RX12) (hR : (aR X).frames = 2 ∧ (aR X).locals = 50 ∧ aCe X ≤ (aR X).cells ∧ aSl X ≤ (aR X).slots) (hQ : QI X r0) (hr : (aMeth X).sig.returnType = (some .int)) (v1 : Int32) (σ : Mem) : AWo X r0 0 [some (.ref 94), some (.int v1), none, none, none] [] σ (m_X12_mending v1 σ) := by
  unfold m_X12_mending
  refine a_al0 hX dX12_mending_0 rfl ?_
  refine a_al0 hX dX12_mending_1 rfl ?_
  refine a_il1 hX dX12_mending_2 rfl ?_
  refine a_callI hX hR ml_X12_108 (ci_X12_isVersion _ _ _) s_94 rfl rfl rfl (by decide) (Nat.le_of_ble_eq_true rfl) rfl dX12_mending_3 rfl (fun x1 => ?_)
  refine a_if_eq hX dX12_mending_6 rfl rfl ?_ ?_
  · refine a_ic 1 hX dX12_mending_13 (by decide) rfl ?_
    exact a_sub (a_X12_mending_14 hX hR hQ hr v1 1 x1.2) (ls_s (ls_s (ls_n (ls_n (ls_n ls_0)))))
  · refine a_ic 0 hX dX12_mending_9 (by decide) rfl ?_
    refine a_goto hX dX12_mending_10 rfl ?_
    exact a_sub (a_X12_mending_14 hX hR hQ hr v1 0 x1.2) (ls_s (ls_s (ls_n (ls_n (ls_n ls_0)))))

set_option maxRecDepth 100000 in
theorem ci_X12_mending (l : Launch) (v1 : Int32) (σ : Mem) : CI l yX12_mending cX12_mending 5 (some .int) 2 50 [.ref 94, .int v1] σ (m_X12_mending v1 σ) :=
  ci_of (by decide) (by simp [Value.category]) (by simp) (fun X r hl hX hR hQ hr => a_X12_mending_0 hX hR hQ hr v1 σ)

set_option maxRecDepth 100000 in
set_option maxHeartbeats 2000000 in
theorem a_X12_standsFor_2 {X : AX} {r0 : Int32 × Mem} (hX : CX X cX12_standsFor 3 RX12) (hR : (aR X).frames = 0 ∧ (aR X).locals = 0 ∧ aCe X ≤ (aR X).cells ∧ aSl X ≤ (aR X).slots) (hQ : QI X r0) (hr : (aMeth X).sig.returnType = (some .int)) : ∀ (fuel : Nat) (v2 : Int32) (σ : Mem), AWo X r0 2 [some (.ref 94), none, some (.int v2)] [] σ (m_X12_standsFor_2 fuel v2 σ) := by
  intro fuel
  induction fuel with
  | zero => intro v2 σ; exact a_none
  | succ fuel ih =>
    intro v2 σ
    show AWo X r0 2 [some (.ref 94), none, some (.int v2)] [] σ (m_X12_standsFor_2 (fuel + 1) v2 σ)
    unfold m_X12_standsFor_2
    refine a_al0 hX dX12_standsFor_2 rfl ?_
    refine a_getR hX fl_X12_32 s_94 rfl dX12_standsFor_3 rfl ?_
    refine a_il2 hX dX12_standsFor_6 rfl ?_
    refine a_ald hX s_102 dX12_standsFor_7 rfl (fun x1 => ?_)
    refine a_ic (-1) hX dX12_standsFor_8 (by decide) rfl ?_
    refine a_icmp_eq hX dX12_standsFor_9 rfl rfl ?_ ?_
    · refine a_il2 hX dX12_standsFor_22 rfl ?_
      exact a_iret hX hQ hr dX12_standsFor_23
    · refine a_al0 hX dX12_standsFor_12 rfl ?_
      refine a_getR hX fl_X12_32 s_94 rfl dX12_standsFor_13 rfl ?_
      refine a_il2 hX dX12_standsFor_16 rfl ?_
      refine a_ald hX s_102 dX12_standsFor_17 rfl (fun x2 => ?_)
      refine a_is2 hX dX12_standsFor_18 rfl ?_
      refine a_goto hX dX12_standsFor_19 rfl ?_
      exact a_sub (ih x2 (σ)) (ls_s (ls_n (ls_s ls_0)))

set_option maxRecDepth 100000 in
set_option maxHeartbeats 2000000 in
theorem a_X12_standsFor_0 {X : AX} {r0 : Int32 × Mem} (hX : CX X cX12_standsFor 3 RX12) (hR : (aR X).frames = 0 ∧ (aR X).locals = 0 ∧ aCe X ≤ (aR X).cells ∧ aSl X ≤ (aR X).slots) (hQ : QI X r0) (hr : (aMeth X).sig.returnType = (some .int)) (v1 : Int32) (σ : Mem) : AWo X r0 0 [some (.ref 94), some (.int v1), none] [] σ (m_X12_standsFor v1 σ) := by
  unfold m_X12_standsFor
  refine a_il1 hX dX12_standsFor_0 rfl ?_
  refine a_is2 hX dX12_standsFor_1 rfl ?_
  exact a_sub (a_X12_standsFor_2 hX hR hQ hr FU v1 (σ)) (ls_s (ls_n (ls_s ls_0)))

set_option maxRecDepth 100000 in
theorem ci_X12_standsFor (l : Launch) (v1 : Int32) (σ : Mem) : CI l yX12_standsFor cX12_standsFor 3 (some .int) 0 0 [.ref 94, .int v1] σ (m_X12_standsFor v1 σ) :=
  ci_of (by decide) (by simp [Value.category]) (by simp) (fun X r hl hX hR hQ hr => a_X12_standsFor_0 hX hR hQ hr v1 σ)

set_option maxRecDepth 100000 in
set_option maxHeartbeats 2000000 in
theorem a_X12_replace_104 {X : AX} {r0 : Int32 × Mem} (hX : CX X cX12_replace 7 RX12) (hR : (aR X).frames = 2 ∧ (aR X).locals = 42 ∧ aCe X ≤ (aR X).cells ∧ aSl X ≤ (aR X).slots) (hQ : QI X r0) (hr : (aMeth X).sig.returnType = (some .int)) (v1 v2 s1 : Int32) (σ : Mem) : AWo X r0 104 [some (.ref 94), some (.int v1), some (.int v2), none, none, none, none] [.int s1, .ref 94] σ (m_X12_replace_104 v1 v2 s1 σ) := by
  unfold m_X12_replace_104
  refine a_callI hX hR ml_X12_101 (ci_X12_goesWell _ _ _) s_94 rfl rfl rfl (by decide) (Nat.le_of_ble_eq_true rfl) rfl dX12_replace_104 rfl (fun x1 => ?_)
  refine a_if_ne hX dX12_replace_107 rfl rfl ?_ ?_
  · refine a_al0 hX dX12_replace_112 rfl ?_
    refine a_getR hX fl_X12_32 s_94 rfl dX12_replace_113 rfl ?_
    refine a_il1 hX dX12_replace_116 rfl ?_
    refine a_ald hX s_102 dX12_replace_117 rfl (fun x2 => ?_)
    refine a_is6 hX dX12_replace_118 rfl ?_
    refine a_al0 hX dX12_replace_120 rfl ?_
    refine a_getR hX fl_X12_32 s_94 rfl dX12_replace_121 rfl ?_
    refine a_il1 hX dX12_replace_124 rfl ?_
    refine a_il2 hX dX12_replace_125 rfl ?_
    refine a_ast hX s_102 dX12_replace_126 rfl (fun m3 => ?_)
    refine a_al0 hX dX12_replace_127 rfl ?_
    refine a_ic 0 hX dX12_replace_128 (by decide) rfl ?_
    refine a_putZ hX fp_X12_104 (by decide) s_94 rfl dX12_replace_129 rfl ?_
    refine a_nameM (fun m4 => ?_)
    refine a_il6 hX dX12_replace_132 rfl ?_
    exact a_iret hX hQ hr dX12_replace_134
  · refine a_ic 0 hX dX12_replace_110 (by decide) rfl ?_
    exact a_iret hX hQ hr dX12_replace_111

set_option maxRecDepth 100000 in
set_option maxHeartbeats 2000000 in
theorem a_X12_replace_85 {X : AX} {r0 : Int32 × Mem} (hX : CX X cX12_replace 7 RX12) (hR : (aR X).frames = 2 ∧ (aR X).locals = 42 ∧ aCe X ≤ (aR X).cells ∧ aSl X ≤ (aR X).slots) (hQ : QI X r0) (hr : (aMeth X).sig.returnType = (some .int)) (v1 v2 v3 v4 : Int32) (σ : Mem) : AWo X r0 85 [some (.ref 94), some (.int v1), some (.int v2), some (.int v3), some (.int v4), none, none] [] σ (m_X12_replace_85 v1 v2 v3 v4 σ) := by
  unfold m_X12_replace_85
  refine a_al0 hX dX12_replace_85 rfl ?_
  refine a_il3 hX dX12_replace_86 rfl ?_
  refine a_if_ne hX dX12_replace_87 rfl rfl ?_ ?_
  · refine a_il4 hX dX12_replace_94 rfl ?_
    refine a_if_eq hX dX12_replace_96 rfl rfl ?_ ?_
    · refine a_ic 0 hX dX12_replace_103 (by decide) rfl ?_
      exact a_sub (a_X12_replace_104 hX hR hQ hr v1 v2 0 (σ)) (ls_s (ls_s (ls_s (ls_n (ls_n (ls_n (ls_n ls_0)))))))
    · refine a_ic 2 hX dX12_replace_99 (by decide) rfl ?_
      refine a_goto hX dX12_replace_100 rfl ?_
      exact a_sub (a_X12_replace_104 hX hR hQ hr v1 v2 2 (σ)) (ls_s (ls_s (ls_s (ls_n (ls_n (ls_n (ls_n ls_0)))))))
  · refine a_ic 1 hX dX12_replace_90 (by decide) rfl ?_
    refine a_goto hX dX12_replace_91 rfl ?_
    exact a_sub (a_X12_replace_104 hX hR hQ hr v1 v2 1 (σ)) (ls_s (ls_s (ls_s (ls_n (ls_n (ls_n (ls_n ls_0)))))))

set_option maxRecDepth 100000 in
set_option maxHeartbeats 2000000 in
theorem a_X12_replace_49 {X : AX} {r0 : Int32 × Mem} (hX : CX X cX12_replace 7 RX12) (hR : (aR X).frames = 2 ∧ (aR X).locals = 42 ∧ aCe X ≤ (aR X).cells ∧ aSl X ≤ (aR X).slots) (hQ : QI X r0) (hr : (aMeth X).sig.returnType = (some .int)) : ∀ (fuel : Nat) (v1 v2 v3 v4 v5 : Int32) (σ : Mem), AWo X r0 49 [some (.ref 94), some (.int v1), some (.int v2), some (.int v3), some (.int v4), some (.int v5), none] [] σ (m_X12_replace_49 fuel v1 v2 v3 v4 v5 σ) := by
  intro fuel
  induction fuel with
  | zero => intro v1 v2 v3 v4 v5 σ; exact a_none
  | succ fuel ih =>
    intro v1 v2 v3 v4 v5 σ
    show AWo X r0 49 [some (.ref 94), some (.int v1), some (.int v2), some (.int v3), some (.int v4), some (.int v5), none] [] σ (m_X12_replace_49 (fuel + 1) v1 v2 v3 v4 v5 σ)
    unfold m_X12_replace_49
    refine a_il5 hX dX12_replace_49 rfl ?_
    refine a_ic (-1) hX dX12_replace_51 (by decide) rfl ?_
    refine a_icmp_eq hX dX12_replace_52 rfl rfl ?_ ?_
    · exact a_sub (a_X12_replace_85 hX hR hQ hr v1 v2 v3 v4 (σ)) (ls_s (ls_s (ls_s (ls_s (ls_s (ls_n (ls_n ls_0)))))))
    · refine a_il4 hX dX12_replace_55 rfl ?_
      refine a_if_ne hX dX12_replace_57 rfl rfl ?_ ?_
      · exact a_sub (a_X12_replace_85 hX hR hQ hr v1 v2 v3 v4 (σ)) (ls_s (ls_s (ls_s (ls_s (ls_s (ls_n (ls_n ls_0)))))))
      · refine a_al0 hX dX12_replace_60 rfl ?_
        refine a_getR hX fl_X12_32 s_94 rfl dX12_replace_61 rfl ?_
        refine a_il5 hX dX12_replace_64 rfl ?_
        refine a_ald hX s_102 dX12_replace_66 rfl (fun x1 => ?_)
        refine a_is5 hX dX12_replace_67 rfl ?_
        refine a_il5 hX dX12_replace_69 rfl ?_
        refine a_il1 hX dX12_replace_71 rfl ?_
        refine a_icmp_ne hX dX12_replace_72 rfl rfl ?_ ?_
        · refine a_ic 0 hX dX12_replace_79 (by decide) rfl ?_
          refine a_is4 hX dX12_replace_80 rfl ?_
          refine a_goto hX dX12_replace_82 rfl ?_
          exact a_sub (ih v1 v2 v3 0 x1 (σ)) (ls_s (ls_s (ls_s (ls_s (ls_s (ls_s (ls_n ls_0)))))))
        · refine a_ic 1 hX dX12_replace_75 (by decide) rfl ?_
          refine a_goto hX dX12_replace_76 rfl ?_
          refine a_is4 hX dX12_replace_80 rfl ?_
          refine a_goto hX dX12_replace_82 rfl ?_
          exact a_sub (ih v1 v2 v3 1 x1 (σ)) (ls_s (ls_s (ls_s (ls_s (ls_s (ls_s (ls_n ls_0)))))))

set_option maxRecDepth 100000 in
set_option maxHeartbeats 2000000 in
theorem a_X12_replace_36 {X : AX} {r0 : Int32 × Mem} (hX : CX X cX12_replace 7 RX12) (hR : (aR X).frames = 2 ∧ (aR X).locals = 42 ∧ aCe X ≤ (aR X).cells ∧ aSl X ≤ (aR X).slots) (hQ : QI X r0) (hr : (aMeth X).sig.returnType = (some .int)) (v1 v2 v3 s0 : Int32) (σ : Mem) : AWo X r0 36 [some (.ref 94), some (.int v1), some (.int v2), some (.int v3), none, none, none] [.int s0] σ (m_X12_replace_36 v1 v2 v3 s0 σ) := by
  unfold m_X12_replace_36
  refine a_is4 hX dX12_replace_36 rfl ?_
  refine a_il3 hX dX12_replace_38 rfl ?_
  refine a_if_eq hX dX12_replace_39 rfl rfl ?_ ?_
  · refine a_ic (-1) hX dX12_replace_46 (by decide) rfl ?_
    refine a_is5 hX dX12_replace_47 rfl ?_
    exact a_sub (a_X12_replace_49 hX hR hQ hr FU v1 v2 v3 s0 (-1) (σ)) (ls_s (ls_s (ls_s (ls_s (ls_s (ls_s (ls_n ls_0)))))))
  · refine a_il2 hX dX12_replace_42 rfl ?_
    refine a_goto hX dX12_replace_43 rfl ?_
    refine a_is5 hX dX12_replace_47 rfl ?_
    exact a_sub (a_X12_replace_49 hX hR hQ hr FU v1 v2 v3 s0 v2 (σ)) (ls_s (ls_s (ls_s (ls_s (ls_s (ls_s (ls_n ls_0)))))))

set_option maxRecDepth 100000 in
set_option maxHeartbeats 2000000 in
theorem a_X12_replace_35 {X : AX} {r0 : Int32 × Mem} (hX : CX X cX12_replace 7 RX12) (hR : (aR X).frames = 2 ∧ (aR X).locals = 42 ∧ aCe X ≤ (aR X).cells ∧ aSl X ≤ (aR X).slots) (hQ : QI X r0) (hr : (aMeth X).sig.returnType = (some .int)) (v1 v2 v3 : Int32) (σ : Mem) : AWo X r0 35 [some (.ref 94), some (.int v1), some (.int v2), some (.int v3), none, none, none] [] σ (m_X12_replace_35 v1 v2 v3 σ) := by
  unfold m_X12_replace_35
  refine a_ic 0 hX dX12_replace_35 (by decide) rfl ?_
  exact a_sub (a_X12_replace_36 hX hR hQ hr v1 v2 v3 0 (σ)) (ls_s (ls_s (ls_s (ls_s (ls_n (ls_n (ls_n ls_0)))))))

set_option maxRecDepth 100000 in
set_option maxHeartbeats 2000000 in
theorem a_X12_replace_21 {X : AX} {r0 : Int32 × Mem} (hX : CX X cX12_replace 7 RX12) (hR : (aR X).frames = 2 ∧ (aR X).locals = 42 ∧ aCe X ≤ (aR X).cells ∧ aSl X ≤ (aR X).slots) (hQ : QI X r0) (hr : (aMeth X).sig.returnType = (some .int)) (v1 v2 s0 : Int32) (σ : Mem) : AWo X r0 21 [some (.ref 94), some (.int v1), some (.int v2), none, none, none, none] [.int s0] σ (m_X12_replace_21 v1 v2 s0 σ) := by
  unfold m_X12_replace_21
  refine a_is3 hX dX12_replace_21 rfl ?_
  refine a_il3 hX dX12_replace_22 rfl ?_
  refine a_if_eq hX dX12_replace_23 rfl rfl ?_ ?_
  · exact a_sub (a_X12_replace_35 hX hR hQ hr v1 v2 s0 (σ)) (ls_s (ls_s (ls_s (ls_s (ls_n (ls_n (ls_n ls_0)))))))
  · refine a_il2 hX dX12_replace_26 rfl ?_
    refine a_il1 hX dX12_replace_27 rfl ?_
    refine a_icmp_ne hX dX12_replace_28 rfl rfl ?_ ?_
    · exact a_sub (a_X12_replace_35 hX hR hQ hr v1 v2 s0 (σ)) (ls_s (ls_s (ls_s (ls_s (ls_n (ls_n (ls_n ls_0)))))))
    · refine a_ic 1 hX dX12_replace_31 (by decide) rfl ?_
      refine a_goto hX dX12_replace_32 rfl ?_
      exact a_sub (a_X12_replace_36 hX hR hQ hr v1 v2 s0 1 (σ)) (ls_s (ls_s (ls_s (ls_s (ls_n (ls_n (ls_n ls_0)))))))

set_option maxRecDepth 100000 in
set_option maxHeartbeats 2000000 in
theorem a_X12_replace_20 {X : AX} {r0 : Int32 × Mem} (hX : CX X cX12_replace 7 RX12) (hR : (aR X).frames = 2 ∧ (aR X).locals = 42 ∧ aCe X ≤ (aR X).cells ∧ aSl X ≤ (aR X).slots) (hQ : QI X r0) (hr : (aMeth X).sig.returnType = (some .int)) (v1 v2 : Int32) (σ : Mem) : AWo X r0 20 [some (.ref 94), some (.int v1), some (.int v2), none, none, none, none] [] σ (m_X12_replace_20 v1 v2 σ) := by
  unfold m_X12_replace_20
  refine a_ic 0 hX dX12_replace_20 (by decide) rfl ?_
  exact a_sub (a_X12_replace_21 hX hR hQ hr v1 v2 0 (σ)) (ls_s (ls_s (ls_s (ls_n (ls_n (ls_n (ls_n ls_0)))))))

set_option maxRecDepth 100000 in
set_option maxHeartbeats 2000000 in
theorem a_X12_replace_0 {X : AX} {r0 : Int32 × Mem} (hX : CX X cX12_replace 7 RX12) (hR : (aR X).frames = 2 ∧ (aR X).locals = 42 ∧ aCe X ≤ (aR X).cells ∧ aSl X ≤ (aR X).slots) (hQ : QI X r0) (hr : (aMeth X).sig.returnType = (some .int)) (v1 v2 : Int32) (σ : Mem) : AWo X r0 0 [some (.ref 94), some (.int v1), some (.int v2), none, none, none, none] [] σ (m_X12_replace v1 v2 σ) := by
  unfold m_X12_replace
  refine a_il1 hX dX12_replace_0 rfl ?_
  refine a_callSI hX hR ml_X12_93 (ci_X12_isPackage _ _ _) rfl rfl (by decide) (Nat.le_of_ble_eq_true rfl) rfl dX12_replace_1 rfl (fun x1 => ?_)
  refine a_if_eq hX dX12_replace_4 rfl rfl ?_ ?_
  · exact a_sub (a_X12_replace_20 hX hR hQ hr v1 v2 x1.2) (ls_s (ls_s (ls_s (ls_n (ls_n (ls_n (ls_n ls_0)))))))
  · refine a_il2 hX dX12_replace_7 rfl ?_
    refine a_ic (-1) hX dX12_replace_8 (by decide) rfl ?_
    refine a_ic 5 hX dX12_replace_9 (by decide) rfl ?_
    refine a_callSI hX hR ml_X12_75 (ci_X12_in _ _ _ _ _) rfl rfl (by decide) (Nat.le_of_ble_eq_true rfl) rfl dX12_replace_10 rfl (fun x2 => ?_)
    refine a_if_eq hX dX12_replace_13 rfl rfl ?_ ?_
    · exact a_sub (a_X12_replace_20 hX hR hQ hr v1 v2 x2.2) (ls_s (ls_s (ls_s (ls_n (ls_n (ls_n (ls_n ls_0)))))))
    · refine a_ic 1 hX dX12_replace_16 (by decide) rfl ?_
      refine a_goto hX dX12_replace_17 rfl ?_
      exact a_sub (a_X12_replace_21 hX hR hQ hr v1 v2 1 x2.2) (ls_s (ls_s (ls_s (ls_n (ls_n (ls_n (ls_n ls_0)))))))

set_option maxRecDepth 100000 in
theorem ci_X12_replace (l : Launch) (v1 v2 : Int32) (σ : Mem) : CI l yX12_replace cX12_replace 7 (some .int) 2 42 [.ref 94, .int v1, .int v2] σ (m_X12_replace v1 v2 σ) :=
  ci_of (by decide) (by simp [Value.category]) (by simp) (fun X r hl hX hR hQ hr => a_X12_replace_0 hX hR hQ hr v1 v2 σ)

set_option maxRecDepth 100000 in
set_option maxHeartbeats 2000000 in
theorem a_X12_setPlatform_15 {X : AX} {r0 : Int32 × Mem} (hX : CX X cX12_setPlatform 3 RX12) (hR : (aR X).frames = 1 ∧ (aR X).locals = 22 ∧ aCe X ≤ (aR X).cells ∧ aSl X ≤ (aR X).slots) (hQ : QI X r0) (hr : (aMeth X).sig.returnType = (some .int)) (v1 s1 : Int32) (σ : Mem) : AWo X r0 15 [some (.ref 94), some (.int v1), none] [.int s1, .ref 94] σ (m_X12_setPlatform_15 v1 s1 σ) := by
  unfold m_X12_setPlatform_15
  refine a_callI hX hR ml_X12_101 (ci_X12_goesWell _ _ _) s_94 rfl rfl rfl (by decide) (Nat.le_of_ble_eq_true rfl) rfl dX12_setPlatform_15 rfl (fun x1 => ?_)
  refine a_if_ne hX dX12_setPlatform_18 rfl rfl ?_ ?_
  · refine a_al0 hX dX12_setPlatform_23 rfl ?_
    refine a_getI hX fl_X12_131 s_94 rfl dX12_setPlatform_24 rfl ?_
    refine a_name (fun y2 => ?_)
    refine a_is2 hX dX12_setPlatform_27 rfl ?_
    refine a_al0 hX dX12_setPlatform_28 rfl ?_
    refine a_il1 hX dX12_setPlatform_29 rfl ?_
    refine a_putI hX fp_X12_131 s_94 rfl dX12_setPlatform_30 rfl ?_
    refine a_nameM (fun m3 => ?_)
    refine a_al0 hX dX12_setPlatform_33 rfl ?_
    refine a_ic 0 hX dX12_setPlatform_34 (by decide) rfl ?_
    refine a_putZ hX fp_X12_104 (by decide) s_94 rfl dX12_setPlatform_35 rfl ?_
    refine a_nameM (fun m4 => ?_)
    refine a_il2 hX dX12_setPlatform_38 rfl ?_
    exact a_iret hX hQ hr dX12_setPlatform_39
  · refine a_ic 0 hX dX12_setPlatform_21 (by decide) rfl ?_
    exact a_iret hX hQ hr dX12_setPlatform_22

set_option maxRecDepth 100000 in
set_option maxHeartbeats 2000000 in
theorem a_X12_setPlatform_0 {X : AX} {r0 : Int32 × Mem} (hX : CX X cX12_setPlatform 3 RX12) (hR : (aR X).frames = 1 ∧ (aR X).locals = 22 ∧ aCe X ≤ (aR X).cells ∧ aSl X ≤ (aR X).slots) (hQ : QI X r0) (hr : (aMeth X).sig.returnType = (some .int)) (v1 : Int32) (σ : Mem) : AWo X r0 0 [some (.ref 94), some (.int v1), none] [] σ (m_X12_setPlatform v1 σ) := by
  unfold m_X12_setPlatform
  refine a_al0 hX dX12_setPlatform_0 rfl ?_
  refine a_il1 hX dX12_setPlatform_1 rfl ?_
  refine a_ic 0 hX dX12_setPlatform_2 (by decide) rfl ?_
  refine a_ic 2 hX dX12_setPlatform_3 (by decide) rfl ?_
  refine a_callSI hX hR ml_X12_75 (ci_X12_in _ _ _ _ _) rfl rfl (by decide) (Nat.le_of_ble_eq_true rfl) rfl dX12_setPlatform_4 rfl (fun x1 => ?_)
  refine a_if_eq hX dX12_setPlatform_7 rfl rfl ?_ ?_
  · refine a_ic 1 hX dX12_setPlatform_14 (by decide) rfl ?_
    exact a_sub (a_X12_setPlatform_15 hX hR hQ hr v1 1 x1.2) (ls_s (ls_s (ls_n ls_0)))
  · refine a_ic 0 hX dX12_setPlatform_10 (by decide) rfl ?_
    refine a_goto hX dX12_setPlatform_11 rfl ?_
    exact a_sub (a_X12_setPlatform_15 hX hR hQ hr v1 0 x1.2) (ls_s (ls_s (ls_n ls_0)))

set_option maxRecDepth 100000 in
theorem ci_X12_setPlatform (l : Launch) (v1 : Int32) (σ : Mem) : CI l yX12_setPlatform cX12_setPlatform 3 (some .int) 1 22 [.ref 94, .int v1] σ (m_X12_setPlatform v1 σ) :=
  ci_of (by decide) (by simp [Value.category]) (by simp) (fun X r hl hX hR hQ hr => a_X12_setPlatform_0 hX hR hQ hr v1 σ)

set_option maxRecDepth 100000 in
set_option maxHeartbeats 2000000 in
theorem a_X12_demandsOf_36 {X : AX} {r0 : Int32 × Mem} (hX : CX X cX12_demandsOf 4 RX12) (hR : (aR X).frames = 0 ∧ (aR X).locals = 0 ∧ aCe X ≤ (aR X).cells ∧ aSl X ≤ (aR X).slots) (hQ : QI X r0) (hr : (aMeth X).sig.returnType = (some .int)) (f4 : Int32 → Int32 → Int32 → Mem → Option (Int32 × Mem)) (hf4 : ∀ (v1 v2 v3 : Int32) (σ : Mem), AWo X r0 4 [some (.ref 94), some (.int v1), some (.int v2), some (.int v3)] [] σ (f4 v1 v2 v3 σ)) (v1 v3 s0 s1 : Int32) (σ : Mem) : AWo X r0 36 [some (.ref 94), some (.int v1), none, some (.int v3)] [.int s1, .int s0] σ (m_X12_demandsOf_36 f4 v1 v3 s0 s1 σ) := by
  unfold m_X12_demandsOf_36
  refine a_ior hX dX12_demandsOf_36 rfl ?_
  refine a_name (fun y1 => ?_)
  refine a_is2 hX dX12_demandsOf_37 rfl ?_
  refine a_inc3 1 hX dX12_demandsOf_38 (by decide) rfl ?_
  refine a_goto hX dX12_demandsOf_41 rfl ?_
  exact a_sub (hf4 v1 y1 (v3 + 1) (σ)) (ls_s (ls_s (ls_s (ls_s ls_0))))

set_option maxRecDepth 100000 in
set_option maxHeartbeats 2000000 in
theorem a_X12_demandsOf_4 {X : AX} {r0 : Int32 × Mem} (hX : CX X cX12_demandsOf 4 RX12) (hR : (aR X).frames = 0 ∧ (aR X).locals = 0 ∧ aCe X ≤ (aR X).cells ∧ aSl X ≤ (aR X).slots) (hQ : QI X r0) (hr : (aMeth X).sig.returnType = (some .int)) : ∀ (fuel : Nat) (v1 v2 v3 : Int32) (σ : Mem), AWo X r0 4 [some (.ref 94), some (.int v1), some (.int v2), some (.int v3)] [] σ (m_X12_demandsOf_4 fuel v1 v2 v3 σ) := by
  intro fuel
  induction fuel with
  | zero => intro v1 v2 v3 σ; exact a_none
  | succ fuel ih =>
    intro v1 v2 v3 σ
    show AWo X r0 4 [some (.ref 94), some (.int v1), some (.int v2), some (.int v3)] [] σ (m_X12_demandsOf_4 (fuel + 1) v1 v2 v3 σ)
    unfold m_X12_demandsOf_4
    refine a_il3 hX dX12_demandsOf_4 rfl ?_
    refine a_al0 hX dX12_demandsOf_5 rfl ?_
    refine a_getI hX fl_X12_125 s_94 rfl dX12_demandsOf_6 rfl ?_
    refine a_icmp_ge hX dX12_demandsOf_9 rfl rfl ?_ ?_
    · refine a_il2 hX dX12_demandsOf_44 rfl ?_
      exact a_iret hX hQ hr dX12_demandsOf_45
    · refine a_il2 hX dX12_demandsOf_12 rfl ?_
      refine a_il1 hX dX12_demandsOf_13 rfl ?_
      refine a_al0 hX dX12_demandsOf_14 rfl ?_
      refine a_getR hX fl_X12_26 s_94 rfl dX12_demandsOf_15 rfl ?_
      refine a_ic 4 hX dX12_demandsOf_18 (by decide) rfl ?_
      refine a_il3 hX dX12_demandsOf_19 rfl ?_
      refine a_imul hX dX12_demandsOf_20 rfl ?_
      refine a_ald hX s_100 dX12_demandsOf_21 rfl (fun x1 => ?_)
      refine a_ishr hX dX12_demandsOf_22 rfl ?_
      refine a_ic 1 hX dX12_demandsOf_23 (by decide) rfl ?_
      refine a_iand hX dX12_demandsOf_24 rfl ?_
      refine a_ic 1 hX dX12_demandsOf_25 (by decide) rfl ?_
      refine a_icmp_ne hX dX12_demandsOf_26 rfl rfl ?_ ?_
      · refine a_ic 0 hX dX12_demandsOf_35 (by decide) rfl ?_
        exact a_sub (a_X12_demandsOf_36 hX hR hQ hr (m_X12_demandsOf_4 fuel) ih v1 v3 v2 0 (σ)) (ls_s (ls_s (ls_n (ls_s ls_0))))
      · refine a_ic 1 hX dX12_demandsOf_29 (by decide) rfl ?_
        refine a_il3 hX dX12_demandsOf_30 rfl ?_
        refine a_ishl hX dX12_demandsOf_31 rfl ?_
        refine a_goto hX dX12_demandsOf_32 rfl ?_
        exact a_sub (a_X12_demandsOf_36 hX hR hQ hr (m_X12_demandsOf_4 fuel) ih v1 v3 v2 (1 <<< (v3 &&& 31)) (σ)) (ls_s (ls_s (ls_n (ls_s ls_0))))

set_option maxRecDepth 100000 in
set_option maxHeartbeats 2000000 in
theorem a_X12_demandsOf_0 {X : AX} {r0 : Int32 × Mem} (hX : CX X cX12_demandsOf 4 RX12) (hR : (aR X).frames = 0 ∧ (aR X).locals = 0 ∧ aCe X ≤ (aR X).cells ∧ aSl X ≤ (aR X).slots) (hQ : QI X r0) (hr : (aMeth X).sig.returnType = (some .int)) (v1 : Int32) (σ : Mem) : AWo X r0 0 [some (.ref 94), some (.int v1), none, none] [] σ (m_X12_demandsOf v1 σ) := by
  unfold m_X12_demandsOf
  refine a_ic 0 hX dX12_demandsOf_0 (by decide) rfl ?_
  refine a_is2 hX dX12_demandsOf_1 rfl ?_
  refine a_ic 0 hX dX12_demandsOf_2 (by decide) rfl ?_
  refine a_is3 hX dX12_demandsOf_3 rfl ?_
  exact a_sub (a_X12_demandsOf_4 hX hR hQ hr FU v1 0 0 (σ)) (ls_s (ls_s (ls_s (ls_s ls_0))))

set_option maxRecDepth 100000 in
theorem ci_X12_demandsOf (l : Launch) (v1 : Int32) (σ : Mem) : CI l yX12_demandsOf cX12_demandsOf 4 (some .int) 0 0 [.ref 94, .int v1] σ (m_X12_demandsOf v1 σ) :=
  ci_of (by decide) (by simp [Value.category]) (by simp) (fun X r hl hX hR hQ hr => a_X12_demandsOf_0 hX hR hQ hr v1 σ)

set_option maxRecDepth 100000 in
set_option maxHeartbeats 2000000 in
theorem a_X12_isDemanded_96 {X : AX} {r0 : Int32 × Mem} (hX : CX X cX12_isDemanded 6 RX12) (hR : (aR X).frames = 1 ∧ (aR X).locals = 22 ∧ aCe X ≤ (aR X).cells ∧ aSl X ≤ (aR X).slots) (hQ : QI X r0) (hr : (aMeth X).sig.returnType = (some .boolean)) (f5 : Int32 → Int32 → Int32 → Int32 → Mem → Option (Int32 × Mem)) (hf5 : ∀ (v1 v2 v3 v4 : Int32) (σ : Mem), AWo X r0 5 [some (.ref 94), some (.int v1), some (.int v2), some (.int v3), some (.int v4), none] [] σ (f5 v1 v2 v3 v4 σ)) (v1 v2 v4 s0 : Int32) (σ : Mem) : AWo X r0 96 [some (.ref 94), some (.int v1), some (.int v2), none, some (.int v4), none] [.int s0] σ (m_X12_isDemanded_96 f5 v1 v2 v4 s0 σ) := by
  unfold m_X12_isDemanded_96
  refine a_is3 hX dX12_isDemanded_96 rfl ?_
  refine a_inc4 1 hX dX12_isDemanded_97 (by decide) rfl ?_
  refine a_goto hX dX12_isDemanded_100 rfl ?_
  exact a_sub (hf5 v1 v2 s0 (v4 + 1) (σ)) (ls_s (ls_s (ls_s (ls_s (ls_s (ls_n ls_0))))))

set_option maxRecDepth 100000 in
set_option maxHeartbeats 2000000 in
theorem a_X12_isDemanded_95 {X : AX} {r0 : Int32 × Mem} (hX : CX X cX12_isDemanded 6 RX12) (hR : (aR X).frames = 1 ∧ (aR X).locals = 22 ∧ aCe X ≤ (aR X).cells ∧ aSl X ≤ (aR X).slots) (hQ : QI X r0) (hr : (aMeth X).sig.returnType = (some .boolean)) (f5 : Int32 → Int32 → Int32 → Int32 → Mem → Option (Int32 × Mem)) (hf5 : ∀ (v1 v2 v3 v4 : Int32) (σ : Mem), AWo X r0 5 [some (.ref 94), some (.int v1), some (.int v2), some (.int v3), some (.int v4), none] [] σ (f5 v1 v2 v3 v4 σ)) (v1 v2 v4 : Int32) (σ : Mem) : AWo X r0 95 [some (.ref 94), some (.int v1), some (.int v2), none, some (.int v4), none] [] σ (m_X12_isDemanded_95 f5 v1 v2 v4 σ) := by
  unfold m_X12_isDemanded_95
  refine a_ic 0 hX dX12_isDemanded_95 (by decide) rfl ?_
  exact a_sub (a_X12_isDemanded_96 hX hR hQ hr f5 hf5 v1 v2 v4 0 (σ)) (ls_s (ls_s (ls_s (ls_n (ls_s (ls_n ls_0))))))

set_option maxRecDepth 100000 in
set_option maxHeartbeats 2000000 in
theorem a_X12_isDemanded_51 {X : AX} {r0 : Int32 × Mem} (hX : CX X cX12_isDemanded 6 RX12) (hR : (aR X).frames = 1 ∧ (aR X).locals = 22 ∧ aCe X ≤ (aR X).cells ∧ aSl X ≤ (aR X).slots) (hQ : QI X r0) (hr : (aMeth X).sig.returnType = (some .boolean)) (f5 : Int32 → Int32 → Int32 → Int32 → Mem → Option (Int32 × Mem)) (hf5 : ∀ (v1 v2 v3 v4 : Int32) (σ : Mem), AWo X r0 5 [some (.ref 94), some (.int v1), some (.int v2), some (.int v3), some (.int v4), none] [] σ (f5 v1 v2 v3 v4 σ)) (v1 v2 v3 v4 s0 : Int32) (σ : Mem) : AWo X r0 51 [some (.ref 94), some (.int v1), some (.int v2), some (.int v3), some (.int v4), none] [.int s0] σ (m_X12_isDemanded_51 f5 v1 v2 v3 v4 s0 σ) := by
  unfold m_X12_isDemanded_51
  refine a_is5 hX dX12_isDemanded_51 rfl ?_
  refine a_il3 hX dX12_isDemanded_53 rfl ?_
  refine a_if_eq hX dX12_isDemanded_54 rfl rfl ?_ ?_
  · exact a_sub (a_X12_isDemanded_95 hX hR hQ hr f5 hf5 v1 v2 v4 (σ)) (ls_s (ls_s (ls_s (ls_n (ls_s (ls_n ls_0))))))
  · refine a_il5 hX dX12_isDemanded_57 rfl ?_
    refine a_if_eq hX dX12_isDemanded_59 rfl rfl ?_ ?_
    · refine a_ic 1 hX dX12_isDemanded_91 (by decide) rfl ?_
      refine a_goto hX dX12_isDemanded_92 rfl ?_
      exact a_sub (a_X12_isDemanded_96 hX hR hQ hr f5 hf5 v1 v2 v4 1 (σ)) (ls_s (ls_s (ls_s (ls_n (ls_s (ls_n ls_0))))))
    · refine a_il2 hX dX12_isDemanded_62 rfl ?_
      refine a_ic (-1) hX dX12_isDemanded_63 (by decide) rfl ?_
      refine a_icmp_eq hX dX12_isDemanded_64 rfl rfl ?_ ?_
      · exact a_sub (a_X12_isDemanded_95 hX hR hQ hr f5 hf5 v1 v2 v4 (σ)) (ls_s (ls_s (ls_s (ls_n (ls_s (ls_n ls_0))))))
      · refine a_al0 hX dX12_isDemanded_67 rfl ?_
        refine a_getR hX fl_X12_22 s_94 rfl dX12_isDemanded_68 rfl ?_
        refine a_bi 24 hX dX12_isDemanded_71 (by decide) rfl ?_
        refine a_al0 hX dX12_isDemanded_73 rfl ?_
        refine a_getR hX fl_X12_26 s_94 rfl dX12_isDemanded_74 rfl ?_
        refine a_ic 4 hX dX12_isDemanded_77 (by decide) rfl ?_
        refine a_il4 hX dX12_isDemanded_78 rfl ?_
        refine a_imul hX dX12_isDemanded_80 rfl ?_
        refine a_ic 2 hX dX12_isDemanded_81 (by decide) rfl ?_
        refine a_iadd hX dX12_isDemanded_82 rfl ?_
        refine a_ald hX s_100 dX12_isDemanded_83 rfl (fun x1 => ?_)
        refine a_imul hX dX12_isDemanded_84 rfl ?_
        refine a_il2 hX dX12_isDemanded_85 rfl ?_
        refine a_iadd hX dX12_isDemanded_86 rfl ?_
        refine a_zld hX s_99 dX12_isDemanded_87 rfl (fun x2 => ?_)
        refine a_if_eq hX dX12_isDemanded_88 rfl rfl ?_ ?_
        · exact a_sub (a_X12_isDemanded_95 hX hR hQ hr f5 hf5 v1 v2 v4 (σ)) (ls_s (ls_s (ls_s (ls_n (ls_s (ls_n ls_0))))))
        · refine a_ic 1 hX dX12_isDemanded_91 (by decide) rfl ?_
          refine a_goto hX dX12_isDemanded_92 rfl ?_
          exact a_sub (a_X12_isDemanded_96 hX hR hQ hr f5 hf5 v1 v2 v4 1 (σ)) (ls_s (ls_s (ls_s (ls_n (ls_s (ls_n ls_0))))))

set_option maxRecDepth 100000 in
set_option maxHeartbeats 2000000 in
theorem a_X12_isDemanded_50 {X : AX} {r0 : Int32 × Mem} (hX : CX X cX12_isDemanded 6 RX12) (hR : (aR X).frames = 1 ∧ (aR X).locals = 22 ∧ aCe X ≤ (aR X).cells ∧ aSl X ≤ (aR X).slots) (hQ : QI X r0) (hr : (aMeth X).sig.returnType = (some .boolean)) (f5 : Int32 → Int32 → Int32 → Int32 → Mem → Option (Int32 × Mem)) (hf5 : ∀ (v1 v2 v3 v4 : Int32) (σ : Mem), AWo X r0 5 [some (.ref 94), some (.int v1), some (.int v2), some (.int v3), some (.int v4), none] [] σ (f5 v1 v2 v3 v4 σ)) (v1 v2 v3 v4 : Int32) (σ : Mem) : AWo X r0 50 [some (.ref 94), some (.int v1), some (.int v2), some (.int v3), some (.int v4), none] [] σ (m_X12_isDemanded_50 f5 v1 v2 v3 v4 σ) := by
  unfold m_X12_isDemanded_50
  refine a_ic 0 hX dX12_isDemanded_50 (by decide) rfl ?_
  exact a_sub (a_X12_isDemanded_51 hX hR hQ hr f5 hf5 v1 v2 v3 v4 0 (σ)) (ls_s (ls_s (ls_s (ls_s (ls_s (ls_n ls_0))))))

set_option maxRecDepth 100000 in
set_option maxHeartbeats 2000000 in
theorem a_X12_isDemanded_5 {X : AX} {r0 : Int32 × Mem} (hX : CX X cX12_isDemanded 6 RX12) (hR : (aR X).frames = 1 ∧ (aR X).locals = 22 ∧ aCe X ≤ (aR X).cells ∧ aSl X ≤ (aR X).slots) (hQ : QI X r0) (hr : (aMeth X).sig.returnType = (some .boolean)) : ∀ (fuel : Nat) (v1 v2 v3 v4 : Int32) (σ : Mem), AWo X r0 5 [some (.ref 94), some (.int v1), some (.int v2), some (.int v3), some (.int v4), none] [] σ (m_X12_isDemanded_5 fuel v1 v2 v3 v4 σ) := by
  intro fuel
  induction fuel with
  | zero => intro v1 v2 v3 v4 σ; exact a_none
  | succ fuel ih =>
    intro v1 v2 v3 v4 σ
    show AWo X r0 5 [some (.ref 94), some (.int v1), some (.int v2), some (.int v3), some (.int v4), none] [] σ (m_X12_isDemanded_5 (fuel + 1) v1 v2 v3 v4 σ)
    unfold m_X12_isDemanded_5
    refine a_il4 hX dX12_isDemanded_5 rfl ?_
    refine a_al0 hX dX12_isDemanded_7 rfl ?_
    refine a_getI hX fl_X12_125 s_94 rfl dX12_isDemanded_8 rfl ?_
    refine a_icmp_ge hX dX12_isDemanded_11 rfl rfl ?_ ?_
    · refine a_il3 hX dX12_isDemanded_103 rfl ?_
      exact a_zret hX hQ hr dX12_isDemanded_104
    · refine a_al0 hX dX12_isDemanded_14 rfl ?_
      refine a_getI hX fl_X12_137 s_94 rfl dX12_isDemanded_15 rfl ?_
      refine a_il4 hX dX12_isDemanded_18 rfl ?_
      refine a_ishr hX dX12_isDemanded_20 rfl ?_
      refine a_ic 1 hX dX12_isDemanded_21 (by decide) rfl ?_
      refine a_iand hX dX12_isDemanded_22 rfl ?_
      refine a_ic 1 hX dX12_isDemanded_23 (by decide) rfl ?_
      refine a_icmp_ne hX dX12_isDemanded_24 rfl rfl ?_ ?_
      · exact a_sub (a_X12_isDemanded_50 hX hR hQ hr (m_X12_isDemanded_5 fuel) ih v1 v2 v3 v4 (σ)) (ls_s (ls_s (ls_s (ls_s (ls_s (ls_n ls_0))))))
      · refine a_al0 hX dX12_isDemanded_27 rfl ?_
        refine a_al0 hX dX12_isDemanded_28 rfl ?_
        refine a_getR hX fl_X12_26 s_94 rfl dX12_isDemanded_29 rfl ?_
        refine a_ic 4 hX dX12_isDemanded_32 (by decide) rfl ?_
        refine a_il4 hX dX12_isDemanded_33 rfl ?_
        refine a_imul hX dX12_isDemanded_35 rfl ?_
        refine a_ic 1 hX dX12_isDemanded_36 (by decide) rfl ?_
        refine a_iadd hX dX12_isDemanded_37 rfl ?_
        refine a_ald hX s_100 dX12_isDemanded_38 rfl (fun x1 => ?_)
        refine a_callI hX hR ml_X12_140 (ci_X12_standsFor _ _ _) s_94 rfl rfl rfl (by decide) (Nat.le_of_ble_eq_true rfl) rfl dX12_isDemanded_39 rfl (fun x2 => ?_)
        refine a_il1 hX dX12_isDemanded_42 rfl ?_
        refine a_icmp_ne hX dX12_isDemanded_43 rfl rfl ?_ ?_
        · exact a_sub (a_X12_isDemanded_50 hX hR hQ hr (m_X12_isDemanded_5 fuel) ih v1 v2 v3 v4 x2.2) (ls_s (ls_s (ls_s (ls_s (ls_s (ls_n ls_0))))))
        · refine a_ic 1 hX dX12_isDemanded_46 (by decide) rfl ?_
          refine a_goto hX dX12_isDemanded_47 rfl ?_
          exact a_sub (a_X12_isDemanded_51 hX hR hQ hr (m_X12_isDemanded_5 fuel) ih v1 v2 v3 v4 1 x2.2) (ls_s (ls_s (ls_s (ls_s (ls_s (ls_n ls_0))))))

set_option maxRecDepth 100000 in
set_option maxHeartbeats 2000000 in
theorem a_X12_isDemanded_0 {X : AX} {r0 : Int32 × Mem} (hX : CX X cX12_isDemanded 6 RX12) (hR : (aR X).frames = 1 ∧ (aR X).locals = 22 ∧ aCe X ≤ (aR X).cells ∧ aSl X ≤ (aR X).slots) (hQ : QI X r0) (hr : (aMeth X).sig.returnType = (some .boolean)) (v1 v2 : Int32) (σ : Mem) : AWo X r0 0 [some (.ref 94), some (.int v1), some (.int v2), none, none, none] [] σ (m_X12_isDemanded v1 v2 σ) := by
  unfold m_X12_isDemanded
  refine a_ic 1 hX dX12_isDemanded_0 (by decide) rfl ?_
  refine a_is3 hX dX12_isDemanded_1 rfl ?_
  refine a_ic 0 hX dX12_isDemanded_2 (by decide) rfl ?_
  refine a_is4 hX dX12_isDemanded_3 rfl ?_
  exact a_sub (a_X12_isDemanded_5 hX hR hQ hr FU v1 v2 1 0 (σ)) (ls_s (ls_s (ls_s (ls_s (ls_s (ls_n ls_0))))))

set_option maxRecDepth 100000 in
theorem ci_X12_isDemanded (l : Launch) (v1 v2 : Int32) (σ : Mem) : CI l yX12_isDemanded cX12_isDemanded 6 (some .boolean) 1 22 [.ref 94, .int v1, .int v2] σ (m_X12_isDemanded v1 v2 σ) :=
  ci_of (by decide) (by simp [Value.category]) (by simp) (fun X r hl hX hR hQ hr => a_X12_isDemanded_0 hX hR hQ hr v1 v2 σ)

set_option maxRecDepth 100000 in
set_option maxHeartbeats 2000000 in
theorem a_X12_reached_75 {X : AX} {r0 : Int32 × Mem} (hX : CX X cX12_reached 5 RX12) (hR : (aR X).frames = 1 ∧ (aR X).locals = 22 ∧ aCe X ≤ (aR X).cells ∧ aSl X ≤ (aR X).slots) (hQ : QI X r0) (hr : (aMeth X).sig.returnType = (some .int)) (f55 : Int32 → Int32 → Mem → Option (Int32 × Mem)) (hf55 : ∀ (v1 v2 : Int32) (σ : Mem), AWo X r0 55 [some (.ref 94), some (.int v1), some (.int v2), none, none] [] σ (f55 v1 v2 σ)) (f64 : Int32 → Int32 → Int32 → Mem → Option (Int32 × Mem)) (hf64 : ∀ (v1 v2 v3 : Int32) (σ : Mem), AWo X r0 64 [some (.ref 94), some (.int v1), some (.int v2), some (.int v3), none] [] σ (f64 v1 v2 v3 σ)) : ∀ (fuel : Nat) (v1 v2 v3 v4 : Int32) (σ : Mem), AWo X r0 75 [some (.ref 94), some (.int v1), some (.int v2), some (.int v3), some (.int v4)] [] σ (m_X12_reached_75 f55 f64 fuel v1 v2 v3 v4 σ) := by
  intro fuel
  induction fuel with
  | zero => intro v1 v2 v3 v4 σ; exact a_none
  | succ fuel ih =>
    intro v1 v2 v3 v4 σ
    show AWo X r0 75 [some (.ref 94), some (.int v1), some (.int v2), some (.int v3), some (.int v4)] [] σ (m_X12_reached_75 f55 f64 (fuel + 1) v1 v2 v3 v4 σ)
    unfold m_X12_reached_75
    refine a_il4 hX dX12_reached_75 rfl ?_
    refine a_al0 hX dX12_reached_77 rfl ?_
    refine a_getR hX fl_X12_7 s_94 rfl dX12_reached_78 rfl ?_
    refine a_bi 9 hX dX12_reached_81 (by decide) rfl ?_
    refine a_il3 hX dX12_reached_83 rfl ?_
    refine a_imul hX dX12_reached_84 rfl ?_
    refine a_bi 8 hX dX12_reached_85 (by decide) rfl ?_
    refine a_iadd hX dX12_reached_87 rfl ?_
    refine a_ald hX s_95 dX12_reached_88 rfl (fun x1 => ?_)
    refine a_icmp_ge hX dX12_reached_89 rfl rfl ?_ ?_
    · refine a_inc3 1 hX dX12_reached_134 (by decide) rfl ?_
      refine a_goto hX dX12_reached_137 rfl ?_
      exact a_sub (hf64 v1 v2 (v3 + 1) (σ)) (ls_s (ls_s (ls_s (ls_s (ls_n ls_0)))))
    · refine a_il1 hX dX12_reached_92 rfl ?_
      refine a_al0 hX dX12_reached_93 rfl ?_
      refine a_il3 hX dX12_reached_94 rfl ?_
      refine a_callI hX hR ml_X12_97 (ci_X12_packageOf _ _ _) s_94 rfl rfl rfl (by decide) (Nat.le_of_ble_eq_true rfl) rfl dX12_reached_95 rfl (fun x2 => ?_)
      refine a_ishr hX dX12_reached_98 rfl ?_
      refine a_ic 1 hX dX12_reached_99 (by decide) rfl ?_
      refine a_iand hX dX12_reached_100 rfl ?_
      refine a_ic 1 hX dX12_reached_101 (by decide) rfl ?_
      refine a_icmp_ne hX dX12_reached_102 rfl rfl ?_ ?_
      · refine a_inc3 1 hX dX12_reached_134 (by decide) rfl ?_
        refine a_goto hX dX12_reached_137 rfl ?_
        exact a_sub (hf64 v1 v2 (v3 + 1) x2.2) (ls_s (ls_s (ls_s (ls_s (ls_n ls_0)))))
      · refine a_il1 hX dX12_reached_105 rfl ?_
        refine a_ic 1 hX dX12_reached_106 (by decide) rfl ?_
        refine a_al0 hX dX12_reached_107 rfl ?_
        refine a_al0 hX dX12_reached_108 rfl ?_
        refine a_getR hX fl_X12_16 s_94 rfl dX12_reached_109 rfl ?_
        refine a_bi 6 hX dX12_reached_112 (by decide) rfl ?_
        refine a_ic 5 hX dX12_reached_114 (by decide) rfl ?_
        refine a_il3 hX dX12_reached_115 rfl ?_
        refine a_imul hX dX12_reached_116 rfl ?_
        refine a_il4 hX dX12_reached_117 rfl ?_
        refine a_iadd hX dX12_reached_119 rfl ?_
        refine a_imul hX dX12_reached_120 rfl ?_
        refine a_ald hX s_97 dX12_reached_121 rfl (fun x3 => ?_)
        refine a_callI hX hR ml_X12_140 (ci_X12_standsFor _ _ _) s_94 rfl rfl rfl (by decide) (Nat.le_of_ble_eq_true rfl) rfl dX12_reached_122 rfl (fun x4 => ?_)
        refine a_ishl hX dX12_reached_125 rfl ?_
        refine a_ior hX dX12_reached_126 rfl ?_
        refine a_name (fun y5 => ?_)
        refine a_is1 hX dX12_reached_127 rfl ?_
        refine a_inc4 1 hX dX12_reached_128 (by decide) rfl ?_
        refine a_goto hX dX12_reached_131 rfl ?_
        exact a_sub (ih y5 v2 v3 (v4 + 1) x4.2) (ls_s (ls_s (ls_s (ls_s (ls_s ls_0)))))

set_option maxRecDepth 100000 in
set_option maxHeartbeats 2000000 in
theorem a_X12_reached_64 {X : AX} {r0 : Int32 × Mem} (hX : CX X cX12_reached 5 RX12) (hR : (aR X).frames = 1 ∧ (aR X).locals = 22 ∧ aCe X ≤ (aR X).cells ∧ aSl X ≤ (aR X).slots) (hQ : QI X r0) (hr : (aMeth X).sig.returnType = (some .int)) (f55 : Int32 → Int32 → Mem → Option (Int32 × Mem)) (hf55 : ∀ (v1 v2 : Int32) (σ : Mem), AWo X r0 55 [some (.ref 94), some (.int v1), some (.int v2), none, none] [] σ (f55 v1 v2 σ)) : ∀ (fuel : Nat) (v1 v2 v3 : Int32) (σ : Mem), AWo X r0 64 [some (.ref 94), some (.int v1), some (.int v2), some (.int v3), none] [] σ (m_X12_reached_64 f55 fuel v1 v2 v3 σ) := by
  intro fuel
  induction fuel with
  | zero => intro v1 v2 v3 σ; exact a_none
  | succ fuel ih =>
    intro v1 v2 v3 σ
    show AWo X r0 64 [some (.ref 94), some (.int v1), some (.int v2), some (.int v3), none] [] σ (m_X12_reached_64 f55 (fuel + 1) v1 v2 v3 σ)
    unfold m_X12_reached_64
    refine a_il3 hX dX12_reached_64 rfl ?_
    refine a_al0 hX dX12_reached_65 rfl ?_
    refine a_getI hX fl_X12_79 s_94 rfl dX12_reached_66 rfl ?_
    refine a_icmp_ge hX dX12_reached_69 rfl rfl ?_ ?_
    · refine a_goto hX dX12_reached_140 rfl ?_
      exact a_sub (hf55 v1 v2 (σ)) (ls_s (ls_s (ls_s (ls_n (ls_n ls_0)))))
    · refine a_ic 0 hX dX12_reached_72 (by decide) rfl ?_
      refine a_is4 hX dX12_reached_73 rfl ?_
      exact a_sub (a_X12_reached_75 hX hR hQ hr f55 hf55 (m_X12_reached_64 f55 fuel) ih FU v1 v2 v3 0 (σ)) (ls_s (ls_s (ls_s (ls_s (ls_s ls_0)))))

set_option maxRecDepth 100000 in
set_option maxHeartbeats 2000000 in
theorem a_X12_reached_55 {X : AX} {r0 : Int32 × Mem} (hX : CX X cX12_reached 5 RX12) (hR : (aR X).frames = 1 ∧ (aR X).locals = 22 ∧ aCe X ≤ (aR X).cells ∧ aSl X ≤ (aR X).slots) (hQ : QI X r0) (hr : (aMeth X).sig.returnType = (some .int)) : ∀ (fuel : Nat) (v1 v2 : Int32) (σ : Mem), AWo X r0 55 [some (.ref 94), some (.int v1), some (.int v2), none, none] [] σ (m_X12_reached_55 fuel v1 v2 σ) := by
  intro fuel
  induction fuel with
  | zero => intro v1 v2 σ; exact a_none
  | succ fuel ih =>
    intro v1 v2 σ
    show AWo X r0 55 [some (.ref 94), some (.int v1), some (.int v2), none, none] [] σ (m_X12_reached_55 (fuel + 1) v1 v2 σ)
    unfold m_X12_reached_55
    refine a_il2 hX dX12_reached_55 rfl ?_
    refine a_il1 hX dX12_reached_56 rfl ?_
    refine a_icmp_eq hX dX12_reached_57 rfl rfl ?_ ?_
    · refine a_il1 hX dX12_reached_143 rfl ?_
      exact a_iret hX hQ hr dX12_reached_144
    · refine a_il1 hX dX12_reached_60 rfl ?_
      refine a_is2 hX dX12_reached_61 rfl ?_
      refine a_ic 0 hX dX12_reached_62 (by decide) rfl ?_
      refine a_is3 hX dX12_reached_63 rfl ?_
      exact a_sub (a_X12_reached_64 hX hR hQ hr (m_X12_reached_55 fuel) ih FU v1 v1 0 (σ)) (ls_s (ls_s (ls_s (ls_s (ls_n ls_0)))))

set_option maxRecDepth 100000 in
set_option maxHeartbeats 2000000 in
theorem a_X12_reached_45 {X : AX} {r0 : Int32 × Mem} (hX : CX X cX12_reached 5 RX12) (hR : (aR X).frames = 1 ∧ (aR X).locals = 22 ∧ aCe X ≤ (aR X).cells ∧ aSl X ≤ (aR X).slots) (hQ : QI X r0) (hr : (aMeth X).sig.returnType = (some .int)) (f4 : Int32 → Int32 → Mem → Option (Int32 × Mem)) (hf4 : ∀ (v1 v2 : Int32) (σ : Mem), AWo X r0 4 [some (.ref 94), some (.int v1), some (.int v2), none, none] [] σ (f4 v1 v2 σ)) (v2 s0 s1 : Int32) (σ : Mem) : AWo X r0 45 [some (.ref 94), none, some (.int v2), none, none] [.int s1, .int s0] σ (m_X12_reached_45 f4 v2 s0 s1 σ) := by
  unfold m_X12_reached_45
  refine a_ior hX dX12_reached_45 rfl ?_
  refine a_name (fun y1 => ?_)
  refine a_is1 hX dX12_reached_46 rfl ?_
  refine a_inc2 1 hX dX12_reached_47 (by decide) rfl ?_
  refine a_goto hX dX12_reached_50 rfl ?_
  exact a_sub (hf4 y1 (v2 + 1) (σ)) (ls_s (ls_s (ls_s (ls_n (ls_n ls_0)))))

set_option maxRecDepth 100000 in
set_option maxHeartbeats 2000000 in
theorem a_X12_reached_4 {X : AX} {r0 : Int32 × Mem} (hX : CX X cX12_reached 5 RX12) (hR : (aR X).frames = 1 ∧ (aR X).locals = 22 ∧ aCe X ≤ (aR X).cells ∧ aSl X ≤ (aR X).slots) (hQ : QI X r0) (hr : (aMeth X).sig.returnType = (some .int)) : ∀ (fuel : Nat) (v1 v2 : Int32) (σ : Mem), AWo X r0 4 [some (.ref 94), some (.int v1), some (.int v2), none, none] [] σ (m_X12_reached_4 fuel v1 v2 σ) := by
  intro fuel
  induction fuel with
  | zero => intro v1 v2 σ; exact a_none
  | succ fuel ih =>
    intro v1 v2 σ
    show AWo X r0 4 [some (.ref 94), some (.int v1), some (.int v2), none, none] [] σ (m_X12_reached_4 (fuel + 1) v1 v2 σ)
    unfold m_X12_reached_4
    refine a_il2 hX dX12_reached_4 rfl ?_
    refine a_al0 hX dX12_reached_5 rfl ?_
    refine a_getI hX fl_X12_125 s_94 rfl dX12_reached_6 rfl ?_
    refine a_icmp_ge hX dX12_reached_9 rfl rfl ?_ ?_
    · refine a_ic (-1) hX dX12_reached_53 (by decide) rfl ?_
      refine a_is2 hX dX12_reached_54 rfl ?_
      exact a_sub (a_X12_reached_55 hX hR hQ hr FU v1 (-1) (σ)) (ls_s (ls_s (ls_s (ls_n (ls_n ls_0)))))
    · refine a_il1 hX dX12_reached_12 rfl ?_
      refine a_al0 hX dX12_reached_13 rfl ?_
      refine a_getI hX fl_X12_137 s_94 rfl dX12_reached_14 rfl ?_
      refine a_il2 hX dX12_reached_17 rfl ?_
      refine a_ishr hX dX12_reached_18 rfl ?_
      refine a_ic 1 hX dX12_reached_19 (by decide) rfl ?_
      refine a_iand hX dX12_reached_20 rfl ?_
      refine a_ic 1 hX dX12_reached_21 (by decide) rfl ?_
      refine a_icmp_ne hX dX12_reached_22 rfl rfl ?_ ?_
      · refine a_ic 0 hX dX12_reached_44 (by decide) rfl ?_
        exact a_sub (a_X12_reached_45 hX hR hQ hr (m_X12_reached_4 fuel) ih v2 v1 0 (σ)) (ls_s (ls_n (ls_s (ls_n (ls_n ls_0)))))
      · refine a_ic 1 hX dX12_reached_25 (by decide) rfl ?_
        refine a_al0 hX dX12_reached_26 rfl ?_
        refine a_al0 hX dX12_reached_27 rfl ?_
        refine a_getR hX fl_X12_26 s_94 rfl dX12_reached_28 rfl ?_
        refine a_ic 4 hX dX12_reached_31 (by decide) rfl ?_
        refine a_il2 hX dX12_reached_32 rfl ?_
        refine a_imul hX dX12_reached_33 rfl ?_
        refine a_ic 1 hX dX12_reached_34 (by decide) rfl ?_
        refine a_iadd hX dX12_reached_35 rfl ?_
        refine a_ald hX s_100 dX12_reached_36 rfl (fun x1 => ?_)
        refine a_callI hX hR ml_X12_140 (ci_X12_standsFor _ _ _) s_94 rfl rfl rfl (by decide) (Nat.le_of_ble_eq_true rfl) rfl dX12_reached_37 rfl (fun x2 => ?_)
        refine a_ishl hX dX12_reached_40 rfl ?_
        refine a_goto hX dX12_reached_41 rfl ?_
        exact a_sub (a_X12_reached_45 hX hR hQ hr (m_X12_reached_4 fuel) ih v2 v1 (1 <<< (x2.1 &&& 31)) x2.2) (ls_s (ls_n (ls_s (ls_n (ls_n ls_0)))))

set_option maxRecDepth 100000 in
set_option maxHeartbeats 2000000 in
theorem a_X12_reached_0 {X : AX} {r0 : Int32 × Mem} (hX : CX X cX12_reached 5 RX12) (hR : (aR X).frames = 1 ∧ (aR X).locals = 22 ∧ aCe X ≤ (aR X).cells ∧ aSl X ≤ (aR X).slots) (hQ : QI X r0) (hr : (aMeth X).sig.returnType = (some .int)) (σ : Mem) : AWo X r0 0 [some (.ref 94), none, none, none, none] [] σ (m_X12_reached  σ) := by
  unfold m_X12_reached
  refine a_ic 0 hX dX12_reached_0 (by decide) rfl ?_
  refine a_is1 hX dX12_reached_1 rfl ?_
  refine a_ic 0 hX dX12_reached_2 (by decide) rfl ?_
  refine a_is2 hX dX12_reached_3 rfl ?_
  exact a_sub (a_X12_reached_4 hX hR hQ hr FU 0 0 (σ)) (ls_s (ls_s (ls_s (ls_n (ls_n ls_0)))))

set_option maxRecDepth 100000 in
theorem ci_X12_reached (l : Launch) (σ : Mem) : CI l yX12_reached cX12_reached 5 (some .int) 1 22 [.ref 94] σ (m_X12_reached  σ) :=
  ci_of (by decide) (by simp [Value.category]) (by simp) (fun X r hl hX hR hQ hr => a_X12_reached_0 hX hR hQ hr σ)

set_option maxRecDepth 100000 in
set_option maxHeartbeats 2000000 in
theorem a_X12_begin_216 {X : AX} {r0 : Int32 × Mem} (hX : CX X cX12_begin 7 RX12) (hR : (aR X).frames = 2 ∧ (aR X).locals = 50 ∧ aCe X ≤ (aR X).cells ∧ aSl X ≤ (aR X).slots) (hQ : QV X r0) (hr : (aMeth X).sig.returnType = none) (f7 : Int32 → Int32 → Mem → Option (Int32 × Mem)) (hf7 : ∀ (v1 v2 : Int32) (σ : Mem), AWo X r0 7 [some (.ref 94), some (.int v1), some (.int v2), none, none, none, none] [] σ (f7 v1 v2 σ)) (v1 v2 v3 : Int32) (σ : Mem) : AWo X r0 216 [some (.ref 94), some (.int v1), some (.int v2), some (.int v3), none, none, none] [] σ (m_X12_begin_216 f7 v1 v2 v3 σ) := by
  unfold m_X12_begin_216
  refine a_al0 hX dX12_begin_216 rfl ?_
  refine a_getR hX fl_X12_56 s_94 rfl dX12_begin_217 rfl ?_
  refine a_il2 hX dX12_begin_220 rfl ?_
  refine a_il3 hX dX12_begin_221 rfl ?_
  refine a_ast hX s_110 dX12_begin_222 rfl (fun m1 => ?_)
  refine a_inc2 1 hX dX12_begin_223 (by decide) rfl ?_
  refine a_goto hX dX12_begin_226 rfl ?_
  exact a_sub (hf7 v1 (v2 + 1) m1) (ls_s (ls_s (ls_s (ls_n (ls_n (ls_n (ls_n ls_0)))))))

set_option maxRecDepth 100000 in
set_option maxHeartbeats 2000000 in
theorem a_X12_begin_188 {X : AX} {r0 : Int32 × Mem} (hX : CX X cX12_begin 7 RX12) (hR : (aR X).frames = 2 ∧ (aR X).locals = 50 ∧ aCe X ≤ (aR X).cells ∧ aSl X ≤ (aR X).slots) (hQ : QV X r0) (hr : (aMeth X).sig.returnType = none) (f7 : Int32 → Int32 → Mem → Option (Int32 × Mem)) (hf7 : ∀ (v1 v2 : Int32) (σ : Mem), AWo X r0 7 [some (.ref 94), some (.int v1), some (.int v2), none, none, none, none] [] σ (f7 v1 v2 σ)) (v1 v2 v3 v4 : Int32) (σ : Mem) : AWo X r0 188 [some (.ref 94), some (.int v1), some (.int v2), some (.int v3), some (.int v4), none, none] [] σ (m_X12_begin_188 f7 v1 v2 v3 v4 σ) := by
  unfold m_X12_begin_188
  refine a_il4 hX dX12_begin_188 rfl ?_
  refine a_if_ne hX dX12_begin_190 rfl rfl ?_ ?_
  · exact a_sub (a_X12_begin_216 hX hR hQ hr f7 hf7 v1 v2 v3 (σ)) (ls_s (ls_s (ls_s (ls_s (ls_n (ls_n (ls_n ls_0)))))))
  · refine a_al0 hX dX12_begin_193 rfl ?_
    refine a_il2 hX dX12_begin_194 rfl ?_
    refine a_ic (-1) hX dX12_begin_195 (by decide) rfl ?_
    refine a_callI hX hR ml_X12_147 (ci_X12_isDemanded _ _ _ _) s_94 rfl rfl rfl (by decide) (Nat.le_of_ble_eq_true rfl) rfl dX12_begin_196 rfl (fun x1 => ?_)
    refine a_if_eq hX dX12_begin_199 rfl rfl ?_ ?_
    · exact a_sub (a_X12_begin_216 hX hR hQ hr f7 hf7 v1 v2 v3 x1.2) (ls_s (ls_s (ls_s (ls_s (ls_n (ls_n (ls_n ls_0)))))))
    · refine a_al0 hX dX12_begin_202 rfl ?_
      refine a_getR hX fl_X12_53 s_94 rfl dX12_begin_203 rfl ?_
      refine a_ic 5 hX dX12_begin_206 (by decide) rfl ?_
      refine a_il2 hX dX12_begin_207 rfl ?_
      refine a_imul hX dX12_begin_208 rfl ?_
      refine a_il3 hX dX12_begin_209 rfl ?_
      refine a_iadd hX dX12_begin_210 rfl ?_
      refine a_ic (-1) hX dX12_begin_211 (by decide) rfl ?_
      refine a_ast hX s_109 dX12_begin_212 rfl (fun m2 => ?_)
      refine a_inc3 1 hX dX12_begin_213 (by decide) rfl ?_
      exact a_sub (a_X12_begin_216 hX hR hQ hr f7 hf7 v1 v2 (v3 + 1) m2) (ls_s (ls_s (ls_s (ls_s (ls_n (ls_n (ls_n ls_0)))))))

set_option maxRecDepth 100000 in
set_option maxHeartbeats 2000000 in
theorem a_X12_begin_166 {X : AX} {r0 : Int32 × Mem} (hX : CX X cX12_begin 7 RX12) (hR : (aR X).frames = 2 ∧ (aR X).locals = 50 ∧ aCe X ≤ (aR X).cells ∧ aSl X ≤ (aR X).slots) (hQ : QV X r0) (hr : (aMeth X).sig.returnType = none) (f7 : Int32 → Int32 → Mem → Option (Int32 × Mem)) (hf7 : ∀ (v1 v2 : Int32) (σ : Mem), AWo X r0 7 [some (.ref 94), some (.int v1), some (.int v2), none, none, none, none] [] σ (f7 v1 v2 σ)) (f45 : Int32 → Int32 → Int32 → Int32 → Int32 → Mem → Option (Int32 × Mem)) (hf45 : ∀ (v1 v2 v3 v4 v5 : Int32) (σ : Mem), AWo X r0 45 [some (.ref 94), some (.int v1), some (.int v2), some (.int v3), some (.int v4), some (.int v5), none] [] σ (f45 v1 v2 v3 v4 v5 σ)) (v1 v2 v3 v4 v5 v6 : Int32) (σ : Mem) : AWo X r0 166 [some (.ref 94), some (.int v1), some (.int v2), some (.int v3), some (.int v4), some (.int v5), some (.int v6)] [] σ (m_X12_begin_166 f7 f45 v1 v2 v3 v4 v5 v6 σ) := by
  unfold m_X12_begin_166
  refine a_al0 hX dX12_begin_166 rfl ?_
  refine a_getR hX fl_X12_53 s_94 rfl dX12_begin_167 rfl ?_
  refine a_ic 5 hX dX12_begin_170 (by decide) rfl ?_
  refine a_il2 hX dX12_begin_171 rfl ?_
  refine a_imul hX dX12_begin_172 rfl ?_
  refine a_il6 hX dX12_begin_173 rfl ?_
  refine a_iadd hX dX12_begin_175 rfl ?_
  refine a_il5 hX dX12_begin_176 rfl ?_
  refine a_ast hX s_109 dX12_begin_178 rfl (fun m1 => ?_)
  refine a_inc3 1 hX dX12_begin_179 (by decide) rfl ?_
  refine a_inc5 1 hX dX12_begin_182 (by decide) rfl ?_
  refine a_goto hX dX12_begin_185 rfl ?_
  exact a_sub (hf45 v1 v2 (v3 + 1) v4 (v5 + 1) m1) (ls_s (ls_s (ls_s (ls_s (ls_s (ls_s (ls_n ls_0)))))))

set_option maxRecDepth 100000 in
set_option maxHeartbeats 2000000 in
theorem a_X12_begin_109 {X : AX} {r0 : Int32 × Mem} (hX : CX X cX12_begin 7 RX12) (hR : (aR X).frames = 2 ∧ (aR X).locals = 50 ∧ aCe X ≤ (aR X).cells ∧ aSl X ≤ (aR X).slots) (hQ : QV X r0) (hr : (aMeth X).sig.returnType = none) (f7 : Int32 → Int32 → Mem → Option (Int32 × Mem)) (hf7 : ∀ (v1 v2 : Int32) (σ : Mem), AWo X r0 7 [some (.ref 94), some (.int v1), some (.int v2), none, none, none, none] [] σ (f7 v1 v2 σ)) (f45 : Int32 → Int32 → Int32 → Int32 → Int32 → Mem → Option (Int32 × Mem)) (hf45 : ∀ (v1 v2 v3 v4 v5 : Int32) (σ : Mem), AWo X r0 45 [some (.ref 94), some (.int v1), some (.int v2), some (.int v3), some (.int v4), some (.int v5), none] [] σ (f45 v1 v2 v3 v4 v5 σ)) : ∀ (fuel : Nat) (v1 v2 v3 v4 v5 v6 : Int32) (σ : Mem), AWo X r0 109 [some (.ref 94), some (.int v1), some (.int v2), some (.int v3), some (.int v4), some (.int v5), some (.int v6)] [] σ (m_X12_begin_109 f7 f45 fuel v1 v2 v3 v4 v5 v6 σ) := by
  intro fuel
  induction fuel with
  | zero => intro v1 v2 v3 v4 v5 v6 σ; exact a_none
  | succ fuel ih =>
    intro v1 v2 v3 v4 v5 v6 σ
    show AWo X r0 109 [some (.ref 94), some (.int v1), some (.int v2), some (.int v3), some (.int v4), some (.int v5), some (.int v6)] [] σ (m_X12_begin_109 f7 f45 (fuel + 1) v1 v2 v3 v4 v5 v6 σ)
    unfold m_X12_begin_109
    refine a_il6 hX dX12_begin_109 rfl ?_
    refine a_if_le hX dX12_begin_111 rfl rfl ?_ ?_
    · exact a_sub (a_X12_begin_166 hX hR hQ hr f7 hf7 f45 hf45 v1 v2 v3 v4 v5 v6 (σ)) (ls_s (ls_s (ls_s (ls_s (ls_s (ls_s (ls_s ls_0)))))))
    · refine a_al0 hX dX12_begin_114 rfl ?_
      refine a_al0 hX dX12_begin_115 rfl ?_
      refine a_getR hX fl_X12_53 s_94 rfl dX12_begin_116 rfl ?_
      refine a_ic 5 hX dX12_begin_119 (by decide) rfl ?_
      refine a_il2 hX dX12_begin_120 rfl ?_
      refine a_imul hX dX12_begin_121 rfl ?_
      refine a_il6 hX dX12_begin_122 rfl ?_
      refine a_iadd hX dX12_begin_124 rfl ?_
      refine a_ic 1 hX dX12_begin_125 (by decide) rfl ?_
      refine a_isub hX dX12_begin_126 rfl ?_
      refine a_ald hX s_109 dX12_begin_127 rfl (fun x1 => ?_)
      refine a_il5 hX dX12_begin_128 rfl ?_
      refine a_callI hX hR ml_X12_111 (ci_X12_compared _ _ _ _) s_94 rfl rfl rfl (by decide) (Nat.le_of_ble_eq_true rfl) rfl dX12_begin_130 rfl (fun x2 => ?_)
      refine a_if_ge hX dX12_begin_133 rfl rfl ?_ ?_
      · exact a_sub (a_X12_begin_166 hX hR hQ hr f7 hf7 f45 hf45 v1 v2 v3 v4 v5 v6 x2.2) (ls_s (ls_s (ls_s (ls_s (ls_s (ls_s (ls_s ls_0)))))))
      · refine a_al0 hX dX12_begin_136 rfl ?_
        refine a_getR hX fl_X12_53 s_94 rfl dX12_begin_137 rfl ?_
        refine a_ic 5 hX dX12_begin_140 (by decide) rfl ?_
        refine a_il2 hX dX12_begin_141 rfl ?_
        refine a_imul hX dX12_begin_142 rfl ?_
        refine a_il6 hX dX12_begin_143 rfl ?_
        refine a_iadd hX dX12_begin_145 rfl ?_
        refine a_al0 hX dX12_begin_146 rfl ?_
        refine a_getR hX fl_X12_53 s_94 rfl dX12_begin_147 rfl ?_
        refine a_ic 5 hX dX12_begin_150 (by decide) rfl ?_
        refine a_il2 hX dX12_begin_151 rfl ?_
        refine a_imul hX dX12_begin_152 rfl ?_
        refine a_il6 hX dX12_begin_153 rfl ?_
        refine a_iadd hX dX12_begin_155 rfl ?_
        refine a_ic 1 hX dX12_begin_156 (by decide) rfl ?_
        refine a_isub hX dX12_begin_157 rfl ?_
        refine a_ald hX s_109 dX12_begin_158 rfl (fun x3 => ?_)
        refine a_ast hX s_109 dX12_begin_159 rfl (fun m4 => ?_)
        refine a_inc6 (-1) hX dX12_begin_160 (by decide) rfl ?_
        refine a_goto hX dX12_begin_163 rfl ?_
        exact a_sub (ih v1 v2 v3 v4 v5 (v6 + (-1)) m4) (ls_s (ls_s (ls_s (ls_s (ls_s (ls_s (ls_s ls_0)))))))

set_option maxRecDepth 100000 in
set_option maxHeartbeats 2000000 in
theorem a_X12_begin_96 {X : AX} {r0 : Int32 × Mem} (hX : CX X cX12_begin 7 RX12) (hR : (aR X).frames = 2 ∧ (aR X).locals = 50 ∧ aCe X ≤ (aR X).cells ∧ aSl X ≤ (aR X).slots) (hQ : QV X r0) (hr : (aMeth X).sig.returnType = none) (f7 : Int32 → Int32 → Mem → Option (Int32 × Mem)) (hf7 : ∀ (v1 v2 : Int32) (σ : Mem), AWo X r0 7 [some (.ref 94), some (.int v1), some (.int v2), none, none, none, none] [] σ (f7 v1 v2 σ)) (f45 : Int32 → Int32 → Int32 → Int32 → Int32 → Mem → Option (Int32 × Mem)) (hf45 : ∀ (v1 v2 v3 v4 v5 : Int32) (σ : Mem), AWo X r0 45 [some (.ref 94), some (.int v1), some (.int v2), some (.int v3), some (.int v4), some (.int v5), none] [] σ (f45 v1 v2 v3 v4 v5 σ)) (v1 v2 v3 v4 v5 : Int32) (σ : Mem) : AWo X r0 96 [some (.ref 94), some (.int v1), some (.int v2), some (.int v3), some (.int v4), some (.int v5), none] [] σ (m_X12_begin_96 f7 f45 v1 v2 v3 v4 v5 σ) := by
  unfold m_X12_begin_96
  refine a_al0 hX dX12_begin_96 rfl ?_
  refine a_il2 hX dX12_begin_97 rfl ?_
  refine a_il5 hX dX12_begin_98 rfl ?_
  refine a_callI hX hR ml_X12_147 (ci_X12_isDemanded _ _ _ _) s_94 rfl rfl rfl (by decide) (Nat.le_of_ble_eq_true rfl) rfl dX12_begin_100 rfl (fun x1 => ?_)
  refine a_if_eq hX dX12_begin_103 rfl rfl ?_ ?_
  · refine a_inc5 1 hX dX12_begin_182 (by decide) rfl ?_
    refine a_goto hX dX12_begin_185 rfl ?_
    exact a_sub (hf45 v1 v2 v3 v4 (v5 + 1) x1.2) (ls_s (ls_s (ls_s (ls_s (ls_s (ls_s (ls_n ls_0)))))))
  · refine a_il3 hX dX12_begin_106 rfl ?_
    refine a_is6 hX dX12_begin_107 rfl ?_
    exact a_sub (a_X12_begin_109 hX hR hQ hr f7 hf7 f45 hf45 FU v1 v2 v3 v4 v5 v3 x1.2) (ls_s (ls_s (ls_s (ls_s (ls_s (ls_s (ls_s ls_0)))))))

set_option maxRecDepth 100000 in
set_option maxHeartbeats 2000000 in
theorem a_X12_begin_45 {X : AX} {r0 : Int32 × Mem} (hX : CX X cX12_begin 7 RX12) (hR : (aR X).frames = 2 ∧ (aR X).locals = 50 ∧ aCe X ≤ (aR X).cells ∧ aSl X ≤ (aR X).slots) (hQ : QV X r0) (hr : (aMeth X).sig.returnType = none) (f7 : Int32 → Int32 → Mem → Option (Int32 × Mem)) (hf7 : ∀ (v1 v2 : Int32) (σ : Mem), AWo X r0 7 [some (.ref 94), some (.int v1), some (.int v2), none, none, none, none] [] σ (f7 v1 v2 σ)) : ∀ (fuel : Nat) (v1 v2 v3 v4 v5 : Int32) (σ : Mem), AWo X r0 45 [some (.ref 94), some (.int v1), some (.int v2), some (.int v3), some (.int v4), some (.int v5), none] [] σ (m_X12_begin_45 f7 fuel v1 v2 v3 v4 v5 σ) := by
  intro fuel
  induction fuel with
  | zero => intro v1 v2 v3 v4 v5 σ; exact a_none
  | succ fuel ih =>
    intro v1 v2 v3 v4 v5 σ
    show AWo X r0 45 [some (.ref 94), some (.int v1), some (.int v2), some (.int v3), some (.int v4), some (.int v5), none] [] σ (m_X12_begin_45 f7 (fuel + 1) v1 v2 v3 v4 v5 σ)
    unfold m_X12_begin_45
    refine a_il5 hX dX12_begin_45 rfl ?_
    refine a_al0 hX dX12_begin_47 rfl ?_
    refine a_getI hX fl_X12_79 s_94 rfl dX12_begin_48 rfl ?_
    refine a_icmp_ge hX dX12_begin_51 rfl rfl ?_ ?_
    · exact a_sub (a_X12_begin_188 hX hR hQ hr f7 hf7 v1 v2 v3 v4 (σ)) (ls_s (ls_s (ls_s (ls_s (ls_s (ls_n (ls_n ls_0)))))))
    · refine a_il1 hX dX12_begin_54 rfl ?_
      refine a_il2 hX dX12_begin_55 rfl ?_
      refine a_ishr hX dX12_begin_56 rfl ?_
      refine a_ic 1 hX dX12_begin_57 (by decide) rfl ?_
      refine a_iand hX dX12_begin_58 rfl ?_
      refine a_ic 1 hX dX12_begin_59 (by decide) rfl ?_
      refine a_icmp_ne hX dX12_begin_60 rfl rfl ?_ ?_
      · exact a_sub (a_X12_begin_188 hX hR hQ hr f7 hf7 v1 v2 v3 v4 (σ)) (ls_s (ls_s (ls_s (ls_s (ls_s (ls_n (ls_n ls_0)))))))
      · refine a_al0 hX dX12_begin_63 rfl ?_
        refine a_il5 hX dX12_begin_64 rfl ?_
        refine a_callI hX hR ml_X12_97 (ci_X12_packageOf _ _ _) s_94 rfl rfl rfl (by decide) (Nat.le_of_ble_eq_true rfl) rfl dX12_begin_66 rfl (fun x1 => ?_)
        refine a_il2 hX dX12_begin_69 rfl ?_
        refine a_icmp_ne hX dX12_begin_70 rfl rfl ?_ ?_
        · refine a_inc5 1 hX dX12_begin_182 (by decide) rfl ?_
          refine a_goto hX dX12_begin_185 rfl ?_
          exact a_sub (ih v1 v2 v3 v4 (v5 + 1) x1.2) (ls_s (ls_s (ls_s (ls_s (ls_s (ls_s (ls_n ls_0)))))))
        · refine a_al0 hX dX12_begin_73 rfl ?_
          refine a_il5 hX dX12_begin_74 rfl ?_
          refine a_callI hX hR ml_X12_134 (ci_X12_hinders _ _ _) s_94 rfl rfl rfl (by decide) (Nat.le_of_ble_eq_true rfl) rfl dX12_begin_76 rfl (fun x2 => ?_)
          refine a_if_ne hX dX12_begin_79 rfl rfl ?_ ?_
          · refine a_inc5 1 hX dX12_begin_182 (by decide) rfl ?_
            refine a_goto hX dX12_begin_185 rfl ?_
            exact a_sub (ih v1 v2 v3 v4 (v5 + 1) x2.2) (ls_s (ls_s (ls_s (ls_s (ls_s (ls_s (ls_n ls_0)))))))
          · refine a_il4 hX dX12_begin_82 rfl ?_
            refine a_if_eq hX dX12_begin_84 rfl rfl ?_ ?_
            · exact a_sub (a_X12_begin_96 hX hR hQ hr f7 hf7 (m_X12_begin_45 f7 fuel) ih v1 v2 v3 v4 v5 x2.2) (ls_s (ls_s (ls_s (ls_s (ls_s (ls_s (ls_n ls_0)))))))
            · refine a_al0 hX dX12_begin_87 rfl ?_
              refine a_getI hX fl_X12_62 s_94 rfl dX12_begin_88 rfl ?_
              refine a_il5 hX dX12_begin_91 rfl ?_
              refine a_icmp_ne hX dX12_begin_93 rfl rfl ?_ ?_
              · refine a_inc5 1 hX dX12_begin_182 (by decide) rfl ?_
                refine a_goto hX dX12_begin_185 rfl ?_
                exact a_sub (ih v1 v2 v3 v4 (v5 + 1) x2.2) (ls_s (ls_s (ls_s (ls_s (ls_s (ls_s (ls_n ls_0)))))))
              · exact a_sub (a_X12_begin_96 hX hR hQ hr f7 hf7 (m_X12_begin_45 f7 fuel) ih v1 v2 v3 v4 v5 x2.2) (ls_s (ls_s (ls_s (ls_s (ls_s (ls_s (ls_n ls_0)))))))

set_option maxRecDepth 100000 in
set_option maxHeartbeats 2000000 in
theorem a_X12_begin_7 {X : AX} {r0 : Int32 × Mem} (hX : CX X cX12_begin 7 RX12) (hR : (aR X).frames = 2 ∧ (aR X).locals = 50 ∧ aCe X ≤ (aR X).cells ∧ aSl X ≤ (aR X).slots) (hQ : QV X r0) (hr : (aMeth X).sig.returnType = none) : ∀ (fuel : Nat) (v1 v2 : Int32) (σ : Mem), AWo X r0 7 [some (.ref 94), some (.int v1), some (.int v2), none, none, none, none] [] σ (m_X12_begin_7 fuel v1 v2 σ) := by
  intro fuel
  induction fuel with
  | zero => intro v1 v2 σ; exact a_none
  | succ fuel ih =>
    intro v1 v2 σ
    show AWo X r0 7 [some (.ref 94), some (.int v1), some (.int v2), none, none, none, none] [] σ (m_X12_begin_7 (fuel + 1) v1 v2 σ)
    unfold m_X12_begin_7
    refine a_il2 hX dX12_begin_7 rfl ?_
    refine a_bi 6 hX dX12_begin_8 (by decide) rfl ?_
    refine a_icmp_ge hX dX12_begin_10 rfl rfl ?_ ?_
    · exact a_vret hX hQ hr dX12_begin_229
    · refine a_ic 0 hX dX12_begin_13 (by decide) rfl ?_
      refine a_is3 hX dX12_begin_14 rfl ?_
      refine a_al0 hX dX12_begin_15 rfl ?_
      refine a_getI hX fl_X12_62 s_94 rfl dX12_begin_16 rfl ?_
      refine a_ic (-1) hX dX12_begin_19 (by decide) rfl ?_
      refine a_icmp_eq hX dX12_begin_20 rfl rfl ?_ ?_
      · refine a_ic 0 hX dX12_begin_39 (by decide) rfl ?_
        refine a_is4 hX dX12_begin_40 rfl ?_
        refine a_ic 0 hX dX12_begin_42 (by decide) rfl ?_
        refine a_is5 hX dX12_begin_43 rfl ?_
        exact a_sub (a_X12_begin_45 hX hR hQ hr (m_X12_begin_7 fuel) ih FU v1 v2 0 0 0 (σ)) (ls_s (ls_s (ls_s (ls_s (ls_s (ls_s (ls_n ls_0)))))))
      · refine a_al0 hX dX12_begin_23 rfl ?_
        refine a_al0 hX dX12_begin_24 rfl ?_
        refine a_getI hX fl_X12_62 s_94 rfl dX12_begin_25 rfl ?_
        refine a_callI hX hR ml_X12_97 (ci_X12_packageOf _ _ _) s_94 rfl rfl rfl (by decide) (Nat.le_of_ble_eq_true rfl) rfl dX12_begin_28 rfl (fun x1 => ?_)
        refine a_il2 hX dX12_begin_31 rfl ?_
        refine a_icmp_ne hX dX12_begin_32 rfl rfl ?_ ?_
        · refine a_ic 0 hX dX12_begin_39 (by decide) rfl ?_
          refine a_is4 hX dX12_begin_40 rfl ?_
          refine a_ic 0 hX dX12_begin_42 (by decide) rfl ?_
          refine a_is5 hX dX12_begin_43 rfl ?_
          exact a_sub (a_X12_begin_45 hX hR hQ hr (m_X12_begin_7 fuel) ih FU v1 v2 0 0 0 x1.2) (ls_s (ls_s (ls_s (ls_s (ls_s (ls_s (ls_n ls_0)))))))
        · refine a_ic 1 hX dX12_begin_35 (by decide) rfl ?_
          refine a_goto hX dX12_begin_36 rfl ?_
          refine a_is4 hX dX12_begin_40 rfl ?_
          refine a_ic 0 hX dX12_begin_42 (by decide) rfl ?_
          refine a_is5 hX dX12_begin_43 rfl ?_
          exact a_sub (a_X12_begin_45 hX hR hQ hr (m_X12_begin_7 fuel) ih FU v1 v2 0 1 0 x1.2) (ls_s (ls_s (ls_s (ls_s (ls_s (ls_s (ls_n ls_0)))))))

set_option maxRecDepth 100000 in
set_option maxHeartbeats 2000000 in
theorem a_X12_begin_0 {X : AX} {r0 : Int32 × Mem} (hX : CX X cX12_begin 7 RX12) (hR : (aR X).frames = 2 ∧ (aR X).locals = 50 ∧ aCe X ≤ (aR X).cells ∧ aSl X ≤ (aR X).slots) (hQ : QV X r0) (hr : (aMeth X).sig.returnType = none) (σ : Mem) : AWo X r0 0 [some (.ref 94), none, none, none, none, none, none] [] σ (m_X12_begin  σ) := by
  unfold m_X12_begin
  refine a_al0 hX dX12_begin_0 rfl ?_
  refine a_callI hX hR ml_X12_143 (ci_X12_reached _ _) s_94 rfl rfl rfl (by decide) (Nat.le_of_ble_eq_true rfl) rfl dX12_begin_1 rfl (fun x1 => ?_)
  refine a_is1 hX dX12_begin_4 rfl ?_
  refine a_ic 0 hX dX12_begin_5 (by decide) rfl ?_
  refine a_is2 hX dX12_begin_6 rfl ?_
  exact a_sub (a_X12_begin_7 hX hR hQ hr FU x1.1 0 x1.2) (ls_s (ls_s (ls_s (ls_n (ls_n (ls_n (ls_n ls_0)))))))

set_option maxRecDepth 100000 in
theorem ci_X12_begin (l : Launch) (σ : Mem) : CV l yX12_begin cX12_begin 7 2 50 [.ref 94] σ (m_X12_begin  σ) :=
  cv_of (by decide) (by simp [Value.category]) (by simp) (fun X r hl hX hR hQ hr => a_X12_begin_0 hX hR hQ hr σ)

set_option maxRecDepth 100000 in
set_option maxHeartbeats 2000000 in
theorem a_X12_isBroken_11 {X : AX} {r0 : Int32 × Mem} (hX : CX X cX12_isBroken 9 RX12) (hR : (aR X).frames = 1 ∧ (aR X).locals = 22 ∧ aCe X ≤ (aR X).cells ∧ aSl X ≤ (aR X).slots) (hQ : QI X r0) (hr : (aMeth X).sig.returnType = (some .boolean)) : ∀ (fuel : Nat) (v2 v3 v4 v5 : Int32) (σ : Mem), AWo X r0 11 [some (.ref 94), none, some (.int v2), some (.int v3), some (.int v4), some (.int v5), none, none, none] [] σ (m_X12_isBroken_11 fuel v2 v3 v4 v5 σ) := by
  intro fuel
  induction fuel with
  | zero => intro v2 v3 v4 v5 σ; exact a_none
  | succ fuel ih =>
    intro v2 v3 v4 v5 σ
    show AWo X r0 11 [some (.ref 94), none, some (.int v2), some (.int v3), some (.int v4), some (.int v5), none, none, none] [] σ (m_X12_isBroken_11 (fuel + 1) v2 v3 v4 v5 σ)
    unfold m_X12_isBroken_11
    refine a_il4 hX dX12_isBroken_11 rfl ?_
    refine a_ic (-1) hX dX12_isBroken_13 (by decide) rfl ?_
    refine a_icmp_eq hX dX12_isBroken_14 rfl rfl ?_ ?_
    · refine a_ic 0 hX dX12_isBroken_165 (by decide) rfl ?_
      exact a_zret0 (by decide) hX hQ hr dX12_isBroken_166
    · refine a_il5 hX dX12_isBroken_17 rfl ?_
      refine a_al0 hX dX12_isBroken_19 rfl ?_
      refine a_getR hX fl_X12_7 s_94 rfl dX12_isBroken_20 rfl ?_
      refine a_bi 9 hX dX12_isBroken_23 (by decide) rfl ?_
      refine a_il4 hX dX12_isBroken_25 rfl ?_
      refine a_imul hX dX12_isBroken_27 rfl ?_
      refine a_bi 8 hX dX12_isBroken_28 (by decide) rfl ?_
      refine a_iadd hX dX12_isBroken_30 rfl ?_
      refine a_ald hX s_95 dX12_isBroken_31 rfl (fun x1 => ?_)
      refine a_icmp_ge hX dX12_isBroken_32 rfl rfl ?_ ?_
      · refine a_ic 0 hX dX12_isBroken_165 (by decide) rfl ?_
        exact a_zret0 (by decide) hX hQ hr dX12_isBroken_166
      · refine a_bi 6 hX dX12_isBroken_35 (by decide) rfl ?_
        refine a_ic 5 hX dX12_isBroken_37 (by decide) rfl ?_
        refine a_il4 hX dX12_isBroken_38 rfl ?_
        refine a_imul hX dX12_isBroken_40 rfl ?_
        refine a_il5 hX dX12_isBroken_41 rfl ?_
        refine a_iadd hX dX12_isBroken_43 rfl ?_
        refine a_imul hX dX12_isBroken_44 rfl ?_
        refine a_name (fun y2 => ?_)
        refine a_is6 hX dX12_isBroken_45 rfl ?_
        refine a_al0 hX dX12_isBroken_47 rfl ?_
        refine a_al0 hX dX12_isBroken_48 rfl ?_
        refine a_getR hX fl_X12_16 s_94 rfl dX12_isBroken_49 rfl ?_
        refine a_il6 hX dX12_isBroken_52 rfl ?_
        refine a_ald hX s_97 dX12_isBroken_54 rfl (fun x3 => ?_)
        refine a_callI hX hR ml_X12_140 (ci_X12_standsFor _ _ _) s_94 rfl rfl rfl (by decide) (Nat.le_of_ble_eq_true rfl) rfl dX12_isBroken_55 rfl (fun x4 => ?_)
        refine a_is7 hX dX12_isBroken_58 rfl ?_
        refine a_il7 hX dX12_isBroken_60 rfl ?_
        refine a_il2 hX dX12_isBroken_62 rfl ?_
        refine a_il3 hX dX12_isBroken_63 rfl ?_
        refine a_callSI hX hR ml_X12_75 (ci_X12_in _ _ _ _ _) rfl rfl (by decide) (Nat.le_of_ble_eq_true rfl) rfl dX12_isBroken_64 rfl (fun x5 => ?_)
        refine a_if_eq hX dX12_isBroken_67 rfl rfl ?_ ?_
        · refine a_inc5 1 hX dX12_isBroken_159 (by decide) rfl ?_
          refine a_goto hX dX12_isBroken_162 rfl ?_
          exact a_sub (ih v2 v3 v4 (v5 + 1) x5.2) (ls_s (ls_n (ls_s (ls_s (ls_s (ls_s (ls_n (ls_n (ls_n ls_0)))))))))
        · refine a_al0 hX dX12_isBroken_70 rfl ?_
          refine a_getR hX fl_X12_16 s_94 rfl dX12_isBroken_71 rfl ?_
          refine a_il6 hX dX12_isBroken_74 rfl ?_
          refine a_ic 3 hX dX12_isBroken_76 (by decide) rfl ?_
          refine a_iadd hX dX12_isBroken_77 rfl ?_
          refine a_ald hX s_97 dX12_isBroken_78 rfl (fun x6 => ?_)
          refine a_ic (-1) hX dX12_isBroken_79 (by decide) rfl ?_
          refine a_icmp_ne hX dX12_isBroken_80 rfl rfl ?_ ?_
          · refine a_inc5 1 hX dX12_isBroken_159 (by decide) rfl ?_
            refine a_goto hX dX12_isBroken_162 rfl ?_
            exact a_sub (ih v2 v3 v4 (v5 + 1) x5.2) (ls_s (ls_n (ls_s (ls_s (ls_s (ls_s (ls_n (ls_n (ls_n ls_0)))))))))
          · refine a_al0 hX dX12_isBroken_83 rfl ?_
            refine a_getR hX fl_X12_16 s_94 rfl dX12_isBroken_84 rfl ?_
            refine a_il6 hX dX12_isBroken_87 rfl ?_
            refine a_ic 4 hX dX12_isBroken_89 (by decide) rfl ?_
            refine a_iadd hX dX12_isBroken_90 rfl ?_
            refine a_ald hX s_97 dX12_isBroken_91 rfl (fun x7 => ?_)
            refine a_al0 hX dX12_isBroken_92 rfl ?_
            refine a_getI hX fl_X12_131 s_94 rfl dX12_isBroken_93 rfl ?_
            refine a_ishr hX dX12_isBroken_96 rfl ?_
            refine a_ic 1 hX dX12_isBroken_97 (by decide) rfl ?_
            refine a_iand hX dX12_isBroken_98 rfl ?_
            refine a_ic 1 hX dX12_isBroken_99 (by decide) rfl ?_
            refine a_icmp_ne hX dX12_isBroken_100 rfl rfl ?_ ?_
            · refine a_inc5 1 hX dX12_isBroken_159 (by decide) rfl ?_
              refine a_goto hX dX12_isBroken_162 rfl ?_
              exact a_sub (ih v2 v3 v4 (v5 + 1) x5.2) (ls_s (ls_n (ls_s (ls_s (ls_s (ls_s (ls_n (ls_n (ls_n ls_0)))))))))
            · refine a_al0 hX dX12_isBroken_103 rfl ?_
              refine a_getR hX fl_X12_44 s_94 rfl dX12_isBroken_104 rfl ?_
              refine a_il7 hX dX12_isBroken_107 rfl ?_
              refine a_ald hX s_106 dX12_isBroken_109 rfl (fun x8 => ?_)
              refine a_is8 hX dX12_isBroken_110 rfl ?_
              refine a_il8 hX dX12_isBroken_112 rfl ?_
              refine a_ic (-1) hX dX12_isBroken_114 (by decide) rfl ?_
              refine a_icmp_ne hX dX12_isBroken_115 rfl rfl ?_ ?_
              · refine a_al0 hX dX12_isBroken_134 rfl ?_
                refine a_getR hX fl_X12_22 s_94 rfl dX12_isBroken_135 rfl ?_
                refine a_bi 24 hX dX12_isBroken_138 (by decide) rfl ?_
                refine a_al0 hX dX12_isBroken_140 rfl ?_
                refine a_getR hX fl_X12_16 s_94 rfl dX12_isBroken_141 rfl ?_
                refine a_il6 hX dX12_isBroken_144 rfl ?_
                refine a_ic 1 hX dX12_isBroken_146 (by decide) rfl ?_
                refine a_iadd hX dX12_isBroken_147 rfl ?_
                refine a_ald hX s_97 dX12_isBroken_148 rfl (fun x9 => ?_)
                refine a_imul hX dX12_isBroken_149 rfl ?_
                refine a_il8 hX dX12_isBroken_150 rfl ?_
                refine a_iadd hX dX12_isBroken_152 rfl ?_
                refine a_zld hX s_99 dX12_isBroken_153 rfl (fun x10 => ?_)
                refine a_if_ne hX dX12_isBroken_154 rfl rfl ?_ ?_
                · refine a_inc5 1 hX dX12_isBroken_159 (by decide) rfl ?_
                  refine a_goto hX dX12_isBroken_162 rfl ?_
                  exact a_sub (ih v2 v3 v4 (v5 + 1) x5.2) (ls_s (ls_n (ls_s (ls_s (ls_s (ls_s (ls_n (ls_n (ls_n ls_0)))))))))
                · refine a_ic 1 hX dX12_isBroken_157 (by decide) rfl ?_
                  exact a_zret0 (by decide) hX hQ hr dX12_isBroken_158
              · refine a_al0 hX dX12_isBroken_118 rfl ?_
                refine a_getR hX fl_X12_16 s_94 rfl dX12_isBroken_119 rfl ?_
                refine a_il6 hX dX12_isBroken_122 rfl ?_
                refine a_ic 2 hX dX12_isBroken_124 (by decide) rfl ?_
                refine a_iadd hX dX12_isBroken_125 rfl ?_
                refine a_ald hX s_97 dX12_isBroken_126 rfl (fun x11 => ?_)
                refine a_ic 1 hX dX12_isBroken_127 (by decide) rfl ?_
                refine a_icmp_eq hX dX12_isBroken_128 rfl rfl ?_ ?_
                · refine a_inc5 1 hX dX12_isBroken_159 (by decide) rfl ?_
                  refine a_goto hX dX12_isBroken_162 rfl ?_
                  exact a_sub (ih v2 v3 v4 (v5 + 1) x5.2) (ls_s (ls_n (ls_s (ls_s (ls_s (ls_s (ls_n (ls_n (ls_n ls_0)))))))))
                · refine a_goto hX dX12_isBroken_131 rfl ?_
                  refine a_ic 1 hX dX12_isBroken_157 (by decide) rfl ?_
                  exact a_zret0 (by decide) hX hQ hr dX12_isBroken_158

set_option maxRecDepth 100000 in
set_option maxHeartbeats 2000000 in
theorem a_X12_isBroken_0 {X : AX} {r0 : Int32 × Mem} (hX : CX X cX12_isBroken 9 RX12) (hR : (aR X).frames = 1 ∧ (aR X).locals = 22 ∧ aCe X ≤ (aR X).cells ∧ aSl X ≤ (aR X).slots) (hQ : QI X r0) (hr : (aMeth X).sig.returnType = (some .boolean)) (v1 v2 v3 : Int32) (σ : Mem) : AWo X r0 0 [some (.ref 94), some (.int v1), some (.int v2), some (.int v3), none, none, none, none, none] [] σ (m_X12_isBroken v1 v2 v3 σ) := by
  unfold m_X12_isBroken
  refine a_al0 hX dX12_isBroken_0 rfl ?_
  refine a_getR hX fl_X12_44 s_94 rfl dX12_isBroken_1 rfl ?_
  refine a_il1 hX dX12_isBroken_4 rfl ?_
  refine a_ald hX s_106 dX12_isBroken_5 rfl (fun x1 => ?_)
  refine a_is4 hX dX12_isBroken_6 rfl ?_
  refine a_ic 0 hX dX12_isBroken_8 (by decide) rfl ?_
  refine a_is5 hX dX12_isBroken_9 rfl ?_
  exact a_sub (a_X12_isBroken_11 hX hR hQ hr FU v2 v3 x1 0 (σ)) (ls_s (ls_n (ls_s (ls_s (ls_s (ls_s (ls_n (ls_n (ls_n ls_0)))))))))

set_option maxRecDepth 100000 in
theorem ci_X12_isBroken (l : Launch) (v1 v2 v3 : Int32) (σ : Mem) : CI l yX12_isBroken cX12_isBroken 9 (some .boolean) 1 22 [.ref 94, .int v1, .int v2, .int v3] σ (m_X12_isBroken v1 v2 v3 σ) :=
  ci_of (by decide) (by simp [Value.category]) (by simp) (fun X r hl hX hR hQ hr => a_X12_isBroken_0 hX hR hQ hr v1 v2 v3 σ)

set_option maxRecDepth 100000 in
set_option maxHeartbeats 2000000 in
theorem a_X12_fitsSoFar_42 {X : AX} {r0 : Int32 × Mem} (hX : CX X cX12_fitsSoFar 4 RX12) (hR : (aR X).frames = 2 ∧ (aR X).locals = 50 ∧ aCe X ≤ (aR X).cells ∧ aSl X ≤ (aR X).slots) (hQ : QI X r0) (hr : (aMeth X).sig.returnType = (some .boolean)) (f18 : Int32 → Int32 → Int32 → Mem → Option (Int32 × Mem)) (hf18 : ∀ (v1 v2 v3 : Int32) (σ : Mem), AWo X r0 18 [some (.ref 94), some (.int v1), some (.int v2), some (.int v3)] [] σ (f18 v1 v2 v3 σ)) (v1 v3 s0 : Int32) (σ : Mem) : AWo X r0 42 [some (.ref 94), some (.int v1), none, some (.int v3)] [.int s0] σ (m_X12_fitsSoFar_42 f18 v1 v3 s0 σ) := by
  unfold m_X12_fitsSoFar_42
  refine a_is2 hX dX12_fitsSoFar_42 rfl ?_
  refine a_inc3 1 hX dX12_fitsSoFar_43 (by decide) rfl ?_
  refine a_goto hX dX12_fitsSoFar_46 rfl ?_
  exact a_sub (hf18 v1 s0 (v3 + 1) (σ)) (ls_s (ls_s (ls_s (ls_s ls_0))))

set_option maxRecDepth 100000 in
set_option maxHeartbeats 2000000 in
theorem a_X12_fitsSoFar_18 {X : AX} {r0 : Int32 × Mem} (hX : CX X cX12_fitsSoFar 4 RX12) (hR : (aR X).frames = 2 ∧ (aR X).locals = 50 ∧ aCe X ≤ (aR X).cells ∧ aSl X ≤ (aR X).slots) (hQ : QI X r0) (hr : (aMeth X).sig.returnType = (some .boolean)) : ∀ (fuel : Nat) (v1 v2 v3 : Int32) (σ : Mem), AWo X r0 18 [some (.ref 94), some (.int v1), some (.int v2), some (.int v3)] [] σ (m_X12_fitsSoFar_18 fuel v1 v2 v3 σ) := by
  intro fuel
  induction fuel with
  | zero => intro v1 v2 v3 σ; exact a_none
  | succ fuel ih =>
    intro v1 v2 v3 σ
    show AWo X r0 18 [some (.ref 94), some (.int v1), some (.int v2), some (.int v3)] [] σ (m_X12_fitsSoFar_18 (fuel + 1) v1 v2 v3 σ)
    unfold m_X12_fitsSoFar_18
    refine a_il3 hX dX12_fitsSoFar_18 rfl ?_
    refine a_il1 hX dX12_fitsSoFar_19 rfl ?_
    refine a_icmp_ge hX dX12_fitsSoFar_20 rfl rfl ?_ ?_
    · refine a_il2 hX dX12_fitsSoFar_49 rfl ?_
      exact a_zret hX hQ hr dX12_fitsSoFar_50
    · refine a_il2 hX dX12_fitsSoFar_23 rfl ?_
      refine a_if_eq hX dX12_fitsSoFar_24 rfl rfl ?_ ?_
      · refine a_il2 hX dX12_fitsSoFar_49 rfl ?_
        exact a_zret hX hQ hr dX12_fitsSoFar_50
      · refine a_al0 hX dX12_fitsSoFar_27 rfl ?_
        refine a_il3 hX dX12_fitsSoFar_28 rfl ?_
        refine a_il1 hX dX12_fitsSoFar_29 rfl ?_
        refine a_il1 hX dX12_fitsSoFar_30 rfl ?_
        refine a_callI hX hR ml_X12_150 (ci_X12_isBroken _ _ _ _ _) s_94 rfl rfl rfl (by decide) (Nat.le_of_ble_eq_true rfl) rfl dX12_fitsSoFar_31 rfl (fun x1 => ?_)
        refine a_if_ne hX dX12_fitsSoFar_34 rfl rfl ?_ ?_
        · refine a_ic 0 hX dX12_fitsSoFar_41 (by decide) rfl ?_
          exact a_sub (a_X12_fitsSoFar_42 hX hR hQ hr (m_X12_fitsSoFar_18 fuel) ih v1 v3 0 x1.2) (ls_s (ls_s (ls_n (ls_s ls_0))))
        · refine a_ic 1 hX dX12_fitsSoFar_37 (by decide) rfl ?_
          refine a_goto hX dX12_fitsSoFar_38 rfl ?_
          exact a_sub (a_X12_fitsSoFar_42 hX hR hQ hr (m_X12_fitsSoFar_18 fuel) ih v1 v3 1 x1.2) (ls_s (ls_s (ls_n (ls_s ls_0))))

set_option maxRecDepth 100000 in
set_option maxHeartbeats 2000000 in
theorem a_X12_fitsSoFar_0 {X : AX} {r0 : Int32 × Mem} (hX : CX X cX12_fitsSoFar 4 RX12) (hR : (aR X).frames = 2 ∧ (aR X).locals = 50 ∧ aCe X ≤ (aR X).cells ∧ aSl X ≤ (aR X).slots) (hQ : QI X r0) (hr : (aMeth X).sig.returnType = (some .boolean)) (v1 : Int32) (σ : Mem) : AWo X r0 0 [some (.ref 94), some (.int v1), none, none] [] σ (m_X12_fitsSoFar v1 σ) := by
  unfold m_X12_fitsSoFar
  refine a_al0 hX dX12_fitsSoFar_0 rfl ?_
  refine a_il1 hX dX12_fitsSoFar_1 rfl ?_
  refine a_ic 0 hX dX12_fitsSoFar_2 (by decide) rfl ?_
  refine a_il1 hX dX12_fitsSoFar_3 rfl ?_
  refine a_callI hX hR ml_X12_150 (ci_X12_isBroken _ _ _ _ _) s_94 rfl rfl rfl (by decide) (Nat.le_of_ble_eq_true rfl) rfl dX12_fitsSoFar_4 rfl (fun x1 => ?_)
  refine a_if_ne hX dX12_fitsSoFar_7 rfl rfl ?_ ?_
  · refine a_ic 0 hX dX12_fitsSoFar_14 (by decide) rfl ?_
    refine a_is2 hX dX12_fitsSoFar_15 rfl ?_
    refine a_ic 0 hX dX12_fitsSoFar_16 (by decide) rfl ?_
    refine a_is3 hX dX12_fitsSoFar_17 rfl ?_
    exact a_sub (a_X12_fitsSoFar_18 hX hR hQ hr FU v1 0 0 x1.2) (ls_s (ls_s (ls_s (ls_s ls_0))))
  · refine a_ic 1 hX dX12_fitsSoFar_10 (by decide) rfl ?_
    refine a_goto hX dX12_fitsSoFar_11 rfl ?_
    refine a_is2 hX dX12_fitsSoFar_15 rfl ?_
    refine a_ic 0 hX dX12_fitsSoFar_16 (by decide) rfl ?_
    refine a_is3 hX dX12_fitsSoFar_17 rfl ?_
    exact a_sub (a_X12_fitsSoFar_18 hX hR hQ hr FU v1 1 0 x1.2) (ls_s (ls_s (ls_s (ls_s ls_0))))

set_option maxRecDepth 100000 in
theorem ci_X12_fitsSoFar (l : Launch) (v1 : Int32) (σ : Mem) : CI l yX12_fitsSoFar cX12_fitsSoFar 4 (some .boolean) 2 50 [.ref 94, .int v1] σ (m_X12_fitsSoFar v1 σ) :=
  ci_of (by decide) (by simp [Value.category]) (by simp) (fun X r hl hX hR hQ hr => a_X12_fitsSoFar_0 hX hR hQ hr v1 σ)

