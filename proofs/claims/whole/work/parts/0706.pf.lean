set_option maxRecDepth 100000 in
set_option maxHeartbeats 2000000 in
theorem a_X12_goOn_21 {X : AX} {r0 : Int32 × Mem} (hX : CX X cX12_goOn 3 RX12) (hR : (aR X).frames = 3 ∧ (aR X).locals = 73 ∧ aCe X ≤ (aR X).cells ∧ aSl X ≤ (aR X).slots) (hQ : QI X r0) (hr : (aMeth X).sig.returnType = (some .boolean)) : ∀ (fuel : Nat) (v2 : Int32) (σ : Mem), AWo X r0 21 [some (.ref 94), none, some (.int v2)] [] σ (m_X12_goOn_21 fuel v2 σ) := by
  intro fuel
  induction fuel with
  | zero => intro v2 σ; exact a_none
  | succ fuel ih =>
    intro v2 σ
    show AWo X r0 21 [some (.ref 94), none, some (.int v2)] [] σ (m_X12_goOn_21 (fuel + 1) v2 σ)
    unfold m_X12_goOn_21
    refine a_il2 hX dX12_goOn_21 rfl ?_
    refine a_if_lt hX dX12_goOn_22 rfl rfl ?_ ?_
    · refine a_ic 0 hX dX12_goOn_105 (by decide) rfl ?_
      exact a_zret0 (by decide) hX hQ hr dX12_goOn_106
    · refine a_al0 hX dX12_goOn_25 rfl ?_
      refine a_getR hX fl_X12_59 s_94 rfl dX12_goOn_26 rfl ?_
      refine a_il2 hX dX12_goOn_29 rfl ?_
      refine a_dup2 hX dX12_goOn_30 rfl rfl rfl ?_
      refine a_ald hX s_111 dX12_goOn_31 rfl (fun x1 => ?_)
      refine a_ic 1 hX dX12_goOn_32 (by decide) rfl ?_
      refine a_iadd hX dX12_goOn_33 rfl ?_
      refine a_ast hX s_111 dX12_goOn_34 rfl (fun m2 => ?_)
      refine a_al0 hX dX12_goOn_35 rfl ?_
      refine a_getR hX fl_X12_59 s_94 rfl dX12_goOn_36 rfl ?_
      refine a_il2 hX dX12_goOn_39 rfl ?_
      refine a_ald hX s_111 dX12_goOn_40 rfl (fun x3 => ?_)
      refine a_al0 hX dX12_goOn_41 rfl ?_
      refine a_getR hX fl_X12_56 s_94 rfl dX12_goOn_42 rfl ?_
      refine a_il2 hX dX12_goOn_45 rfl ?_
      refine a_ald hX s_110 dX12_goOn_46 rfl (fun x4 => ?_)
      refine a_icmp_lt hX dX12_goOn_47 rfl rfl ?_ ?_
      · refine a_al0 hX dX12_goOn_56 rfl ?_
        refine a_getR hX fl_X12_44 s_94 rfl dX12_goOn_57 rfl ?_
        refine a_il2 hX dX12_goOn_60 rfl ?_
        refine a_al0 hX dX12_goOn_61 rfl ?_
        refine a_getR hX fl_X12_53 s_94 rfl dX12_goOn_62 rfl ?_
        refine a_ic 5 hX dX12_goOn_65 (by decide) rfl ?_
        refine a_il2 hX dX12_goOn_66 rfl ?_
        refine a_imul hX dX12_goOn_67 rfl ?_
        refine a_al0 hX dX12_goOn_68 rfl ?_
        refine a_getR hX fl_X12_59 s_94 rfl dX12_goOn_69 rfl ?_
        refine a_il2 hX dX12_goOn_72 rfl ?_
        refine a_ald hX s_111 dX12_goOn_73 rfl (fun x5 => ?_)
        refine a_iadd hX dX12_goOn_74 rfl ?_
        refine a_ald hX s_109 dX12_goOn_75 rfl (fun x6 => ?_)
        refine a_ast hX s_106 dX12_goOn_76 rfl (fun m7 => ?_)
        refine a_al0 hX dX12_goOn_77 rfl ?_
        refine a_il2 hX dX12_goOn_78 rfl ?_
        refine a_callI hX hR ml_X12_153 (ci_X12_fitsSoFar _ _ _) s_94 rfl rfl rfl (by decide) (Nat.le_of_ble_eq_true rfl) rfl dX12_goOn_79 rfl (fun x8 => ?_)
        refine a_if_eq hX dX12_goOn_82 rfl rfl ?_ ?_
        · exact a_sub (ih v2 x8.2) (ls_s (ls_n (ls_s ls_0)))
        · refine a_il2 hX dX12_goOn_85 rfl ?_
          refine a_ic 5 hX dX12_goOn_86 (by decide) rfl ?_
          refine a_icmp_ne hX dX12_goOn_87 rfl rfl ?_ ?_
          · refine a_inc2 1 hX dX12_goOn_92 (by decide) rfl ?_
            refine a_al0 hX dX12_goOn_95 rfl ?_
            refine a_getR hX fl_X12_59 s_94 rfl dX12_goOn_96 rfl ?_
            refine a_il2 hX dX12_goOn_99 rfl ?_
            refine a_ic (-1) hX dX12_goOn_100 (by decide) rfl ?_
            refine a_ast hX s_111 dX12_goOn_101 rfl (fun m9 => ?_)
            refine a_goto hX dX12_goOn_102 rfl ?_
            exact a_sub (ih (v2 + 1) m9) (ls_s (ls_n (ls_s ls_0)))
          · refine a_ic 1 hX dX12_goOn_90 (by decide) rfl ?_
            exact a_zret0 (by decide) hX hQ hr dX12_goOn_91
      · refine a_inc2 (-1) hX dX12_goOn_50 (by decide) rfl ?_
        refine a_goto hX dX12_goOn_53 rfl ?_
        exact a_sub (ih (v2 + (-1)) m2) (ls_s (ls_n (ls_s ls_0)))

set_option maxRecDepth 100000 in
set_option maxHeartbeats 2000000 in
theorem a_X12_goOn_9 {X : AX} {r0 : Int32 × Mem} (hX : CX X cX12_goOn 3 RX12) (hR : (aR X).frames = 3 ∧ (aR X).locals = 73 ∧ aCe X ≤ (aR X).cells ∧ aSl X ≤ (aR X).slots) (hQ : QI X r0) (hr : (aMeth X).sig.returnType = (some .boolean)) (v1 s0 : Int32) (σ : Mem) : AWo X r0 9 [some (.ref 94), some (.int v1), none] [.int s0] σ (m_X12_goOn_9 v1 s0 σ) := by
  unfold m_X12_goOn_9
  refine a_is2 hX dX12_goOn_9 rfl ?_
  refine a_il1 hX dX12_goOn_10 rfl ?_
  refine a_if_eq hX dX12_goOn_11 rfl rfl ?_ ?_
  · exact a_sub (a_X12_goOn_21 hX hR hQ hr FU s0 (σ)) (ls_s (ls_n (ls_s ls_0)))
  · refine a_al0 hX dX12_goOn_14 rfl ?_
    refine a_getR hX fl_X12_59 s_94 rfl dX12_goOn_15 rfl ?_
    refine a_ic 0 hX dX12_goOn_18 (by decide) rfl ?_
    refine a_ic (-1) hX dX12_goOn_19 (by decide) rfl ?_
    refine a_ast hX s_111 dX12_goOn_20 rfl (fun m1 => ?_)
    exact a_sub (a_X12_goOn_21 hX hR hQ hr FU s0 m1) (ls_s (ls_n (ls_s ls_0)))

set_option maxRecDepth 100000 in
set_option maxHeartbeats 2000000 in
theorem a_X12_goOn_0 {X : AX} {r0 : Int32 × Mem} (hX : CX X cX12_goOn 3 RX12) (hR : (aR X).frames = 3 ∧ (aR X).locals = 73 ∧ aCe X ≤ (aR X).cells ∧ aSl X ≤ (aR X).slots) (hQ : QI X r0) (hr : (aMeth X).sig.returnType = (some .boolean)) (v1 : Int32) (σ : Mem) : AWo X r0 0 [some (.ref 94), some (.int v1), none] [] σ (m_X12_goOn v1 σ) := by
  unfold m_X12_goOn
  refine a_il1 hX dX12_goOn_0 rfl ?_
  refine a_if_eq hX dX12_goOn_1 rfl rfl ?_ ?_
  · refine a_ic 5 hX dX12_goOn_8 (by decide) rfl ?_
    exact a_sub (a_X12_goOn_9 hX hR hQ hr v1 5 (σ)) (ls_s (ls_s (ls_n ls_0)))
  · refine a_ic 0 hX dX12_goOn_4 (by decide) rfl ?_
    refine a_goto hX dX12_goOn_5 rfl ?_
    exact a_sub (a_X12_goOn_9 hX hR hQ hr v1 0 (σ)) (ls_s (ls_s (ls_n ls_0)))

set_option maxRecDepth 100000 in
theorem ci_X12_goOn (l : Launch) (v1 : Int32) (σ : Mem) : CI l yX12_goOn cX12_goOn 3 (some .boolean) 3 73 [.ref 94, .int v1] σ (m_X12_goOn v1 σ) :=
  ci_of (by decide) (by simp [Value.category]) (by simp) (fun X r hl hX hR hQ hr => a_X12_goOn_0 hX hR hQ hr v1 σ)

set_option maxRecDepth 100000 in
set_option maxHeartbeats 2000000 in
theorem a_X12_areDemandsRight_30 {X : AX} {r0 : Int32 × Mem} (hX : CX X cX12_areDemandsRight 3 RX12) (hR : (aR X).frames = 1 ∧ (aR X).locals = 22 ∧ aCe X ≤ (aR X).cells ∧ aSl X ≤ (aR X).slots) (hQ : QI X r0) (hr : (aMeth X).sig.returnType = (some .boolean)) : ∀ (fuel : Nat) (v1 : Int32) (σ : Mem), AWo X r0 30 [some (.ref 94), some (.int v1), none] [] σ (m_X12_areDemandsRight_30 fuel v1 σ) := by
  intro fuel
  induction fuel with
  | zero => intro v1 σ; exact a_none
  | succ fuel ih =>
    intro v1 σ
    show AWo X r0 30 [some (.ref 94), some (.int v1), none] [] σ (m_X12_areDemandsRight_30 (fuel + 1) v1 σ)
    unfold m_X12_areDemandsRight_30
    refine a_il1 hX dX12_areDemandsRight_30 rfl ?_
    refine a_al0 hX dX12_areDemandsRight_31 rfl ?_
    refine a_getI hX fl_X12_125 s_94 rfl dX12_areDemandsRight_32 rfl ?_
    refine a_icmp_ge hX dX12_areDemandsRight_35 rfl rfl ?_ ?_
    · refine a_ic 1 hX dX12_areDemandsRight_137 (by decide) rfl ?_
      exact a_zret0 (by decide) hX hQ hr dX12_areDemandsRight_138
    · refine a_al0 hX dX12_areDemandsRight_38 rfl ?_
      refine a_getI hX fl_X12_137 s_94 rfl dX12_areDemandsRight_39 rfl ?_
      refine a_il1 hX dX12_areDemandsRight_42 rfl ?_
      refine a_ishr hX dX12_areDemandsRight_43 rfl ?_
      refine a_ic 1 hX dX12_areDemandsRight_44 (by decide) rfl ?_
      refine a_iand hX dX12_areDemandsRight_45 rfl ?_
      refine a_ic 1 hX dX12_areDemandsRight_46 (by decide) rfl ?_
      refine a_icmp_ne hX dX12_areDemandsRight_47 rfl rfl ?_ ?_
      · refine a_inc1 1 hX dX12_areDemandsRight_131 (by decide) rfl ?_
        refine a_goto hX dX12_areDemandsRight_134 rfl ?_
        exact a_sub (ih (v1 + 1) (σ)) (ls_s (ls_s (ls_n ls_0)))
      · refine a_al0 hX dX12_areDemandsRight_50 rfl ?_
        refine a_al0 hX dX12_areDemandsRight_51 rfl ?_
        refine a_getR hX fl_X12_26 s_94 rfl dX12_areDemandsRight_52 rfl ?_
        refine a_ic 4 hX dX12_areDemandsRight_55 (by decide) rfl ?_
        refine a_il1 hX dX12_areDemandsRight_56 rfl ?_
        refine a_imul hX dX12_areDemandsRight_57 rfl ?_
        refine a_ic 1 hX dX12_areDemandsRight_58 (by decide) rfl ?_
        refine a_iadd hX dX12_areDemandsRight_59 rfl ?_
        refine a_ald hX s_100 dX12_areDemandsRight_60 rfl (fun x1 => ?_)
        refine a_callI hX hR ml_X12_140 (ci_X12_standsFor _ _ _) s_94 rfl rfl rfl (by decide) (Nat.le_of_ble_eq_true rfl) rfl dX12_areDemandsRight_61 rfl (fun x2 => ?_)
        refine a_is2 hX dX12_areDemandsRight_64 rfl ?_
        refine a_al0 hX dX12_areDemandsRight_65 rfl ?_
        refine a_getR hX fl_X12_44 s_94 rfl dX12_areDemandsRight_66 rfl ?_
        refine a_il2 hX dX12_areDemandsRight_69 rfl ?_
        refine a_ald hX s_106 dX12_areDemandsRight_70 rfl (fun x3 => ?_)
        refine a_ic (-1) hX dX12_areDemandsRight_71 (by decide) rfl ?_
        refine a_icmp_eq hX dX12_areDemandsRight_72 rfl rfl ?_ ?_
        · refine a_ic 0 hX dX12_areDemandsRight_103 (by decide) rfl ?_
          exact a_zret0 (by decide) hX hQ hr dX12_areDemandsRight_104
        · refine a_al0 hX dX12_areDemandsRight_75 rfl ?_
          refine a_getR hX fl_X12_22 s_94 rfl dX12_areDemandsRight_76 rfl ?_
          refine a_bi 24 hX dX12_areDemandsRight_79 (by decide) rfl ?_
          refine a_al0 hX dX12_areDemandsRight_81 rfl ?_
          refine a_getR hX fl_X12_26 s_94 rfl dX12_areDemandsRight_82 rfl ?_
          refine a_ic 4 hX dX12_areDemandsRight_85 (by decide) rfl ?_
          refine a_il1 hX dX12_areDemandsRight_86 rfl ?_
          refine a_imul hX dX12_areDemandsRight_87 rfl ?_
          refine a_ic 2 hX dX12_areDemandsRight_88 (by decide) rfl ?_
          refine a_iadd hX dX12_areDemandsRight_89 rfl ?_
          refine a_ald hX s_100 dX12_areDemandsRight_90 rfl (fun x4 => ?_)
          refine a_imul hX dX12_areDemandsRight_91 rfl ?_
          refine a_al0 hX dX12_areDemandsRight_92 rfl ?_
          refine a_getR hX fl_X12_44 s_94 rfl dX12_areDemandsRight_93 rfl ?_
          refine a_il2 hX dX12_areDemandsRight_96 rfl ?_
          refine a_ald hX s_106 dX12_areDemandsRight_97 rfl (fun x5 => ?_)
          refine a_iadd hX dX12_areDemandsRight_98 rfl ?_
          refine a_zld hX s_99 dX12_areDemandsRight_99 rfl (fun x6 => ?_)
          refine a_if_ne hX dX12_areDemandsRight_100 rfl rfl ?_ ?_
          · refine a_al0 hX dX12_areDemandsRight_105 rfl ?_
            refine a_getR hX fl_X12_47 s_94 rfl dX12_areDemandsRight_106 rfl ?_
            refine a_il2 hX dX12_areDemandsRight_109 rfl ?_
            refine a_dup2 hX dX12_areDemandsRight_110 rfl rfl rfl ?_
            refine a_ald hX s_107 dX12_areDemandsRight_111 rfl (fun x7 => ?_)
            refine a_al0 hX dX12_areDemandsRight_112 rfl ?_
            refine a_getR hX fl_X12_26 s_94 rfl dX12_areDemandsRight_113 rfl ?_
            refine a_ic 4 hX dX12_areDemandsRight_116 (by decide) rfl ?_
            refine a_il1 hX dX12_areDemandsRight_117 rfl ?_
            refine a_imul hX dX12_areDemandsRight_118 rfl ?_
            refine a_ic 3 hX dX12_areDemandsRight_119 (by decide) rfl ?_
            refine a_iadd hX dX12_areDemandsRight_120 rfl ?_
            refine a_ald hX s_100 dX12_areDemandsRight_121 rfl (fun x8 => ?_)
            refine a_ior hX dX12_areDemandsRight_122 rfl ?_
            refine a_ast hX s_107 dX12_areDemandsRight_123 rfl (fun m9 => ?_)
            refine a_al0 hX dX12_areDemandsRight_124 rfl ?_
            refine a_getR hX fl_X12_50 s_94 rfl dX12_areDemandsRight_125 rfl ?_
            refine a_il2 hX dX12_areDemandsRight_128 rfl ?_
            refine a_ic 1 hX dX12_areDemandsRight_129 (by decide) rfl ?_
            refine a_zst hX s_108 dX12_areDemandsRight_130 rfl (fun m10 => ?_)
            refine a_inc1 1 hX dX12_areDemandsRight_131 (by decide) rfl ?_
            refine a_goto hX dX12_areDemandsRight_134 rfl ?_
            exact a_sub (ih (v1 + 1) m10) (ls_s (ls_s (ls_n ls_0)))
          · refine a_ic 0 hX dX12_areDemandsRight_103 (by decide) rfl ?_
            exact a_zret0 (by decide) hX hQ hr dX12_areDemandsRight_104

set_option maxRecDepth 100000 in
set_option maxHeartbeats 2000000 in
theorem a_X12_areDemandsRight_2 {X : AX} {r0 : Int32 × Mem} (hX : CX X cX12_areDemandsRight 3 RX12) (hR : (aR X).frames = 1 ∧ (aR X).locals = 22 ∧ aCe X ≤ (aR X).cells ∧ aSl X ≤ (aR X).slots) (hQ : QI X r0) (hr : (aMeth X).sig.returnType = (some .boolean)) : ∀ (fuel : Nat) (v1 : Int32) (σ : Mem), AWo X r0 2 [some (.ref 94), some (.int v1), none] [] σ (m_X12_areDemandsRight_2 fuel v1 σ) := by
  intro fuel
  induction fuel with
  | zero => intro v1 σ; exact a_none
  | succ fuel ih =>
    intro v1 σ
    show AWo X r0 2 [some (.ref 94), some (.int v1), none] [] σ (m_X12_areDemandsRight_2 (fuel + 1) v1 σ)
    unfold m_X12_areDemandsRight_2
    refine a_il1 hX dX12_areDemandsRight_2 rfl ?_
    refine a_bi 6 hX dX12_areDemandsRight_3 (by decide) rfl ?_
    refine a_icmp_ge hX dX12_areDemandsRight_5 rfl rfl ?_ ?_
    · refine a_ic 0 hX dX12_areDemandsRight_28 (by decide) rfl ?_
      refine a_is1 hX dX12_areDemandsRight_29 rfl ?_
      exact a_sub (a_X12_areDemandsRight_30 hX hR hQ hr FU 0 (σ)) (ls_s (ls_s (ls_n ls_0)))
    · refine a_al0 hX dX12_areDemandsRight_8 rfl ?_
      refine a_getR hX fl_X12_47 s_94 rfl dX12_areDemandsRight_9 rfl ?_
      refine a_il1 hX dX12_areDemandsRight_12 rfl ?_
      refine a_ic 0 hX dX12_areDemandsRight_13 (by decide) rfl ?_
      refine a_ast hX s_107 dX12_areDemandsRight_14 rfl (fun m1 => ?_)
      refine a_al0 hX dX12_areDemandsRight_15 rfl ?_
      refine a_getR hX fl_X12_50 s_94 rfl dX12_areDemandsRight_16 rfl ?_
      refine a_il1 hX dX12_areDemandsRight_19 rfl ?_
      refine a_ic 0 hX dX12_areDemandsRight_20 (by decide) rfl ?_
      refine a_zst hX s_108 dX12_areDemandsRight_21 rfl (fun m2 => ?_)
      refine a_inc1 1 hX dX12_areDemandsRight_22 (by decide) rfl ?_
      refine a_goto hX dX12_areDemandsRight_25 rfl ?_
      exact a_sub (ih (v1 + 1) m2) (ls_s (ls_s (ls_n ls_0)))

set_option maxRecDepth 100000 in
set_option maxHeartbeats 2000000 in
theorem a_X12_areDemandsRight_0 {X : AX} {r0 : Int32 × Mem} (hX : CX X cX12_areDemandsRight 3 RX12) (hR : (aR X).frames = 1 ∧ (aR X).locals = 22 ∧ aCe X ≤ (aR X).cells ∧ aSl X ≤ (aR X).slots) (hQ : QI X r0) (hr : (aMeth X).sig.returnType = (some .boolean)) (σ : Mem) : AWo X r0 0 [some (.ref 94), none, none] [] σ (m_X12_areDemandsRight  σ) := by
  unfold m_X12_areDemandsRight
  refine a_ic 0 hX dX12_areDemandsRight_0 (by decide) rfl ?_
  refine a_is1 hX dX12_areDemandsRight_1 rfl ?_
  exact a_sub (a_X12_areDemandsRight_2 hX hR hQ hr FU 0 (σ)) (ls_s (ls_s (ls_n ls_0)))

set_option maxRecDepth 100000 in
theorem ci_X12_areDemandsRight (l : Launch) (σ : Mem) : CI l yX12_areDemandsRight cX12_areDemandsRight 3 (some .boolean) 1 22 [.ref 94] σ (m_X12_areDemandsRight  σ) :=
  ci_of (by decide) (by simp [Value.category]) (by simp) (fun X r hl hX hR hQ hr => a_X12_areDemandsRight_0 hX hR hQ hr σ)

set_option maxRecDepth 100000 in
set_option maxHeartbeats 2000000 in
theorem a_X12_counts_0 {X : AX} {r0 : Int32 × Mem} (hX : CX X cX12_counts 3 RX12) (hR : (aR X).frames = 0 ∧ (aR X).locals = 0 ∧ aCe X ≤ (aR X).cells ∧ aSl X ≤ (aR X).slots) (hQ : QI X r0) (hr : (aMeth X).sig.returnType = (some .boolean)) (v1 v2 : Int32) (σ : Mem) : AWo X r0 0 [some (.ref 94), some (.int v1), some (.int v2)] [] σ (m_X12_counts v1 v2 σ) := by
  unfold m_X12_counts
  refine a_al0 hX dX12_counts_0 rfl ?_
  refine a_getR hX fl_X12_16 s_94 rfl dX12_counts_1 rfl ?_
  refine a_il1 hX dX12_counts_4 rfl ?_
  refine a_ic 4 hX dX12_counts_5 (by decide) rfl ?_
  refine a_iadd hX dX12_counts_6 rfl ?_
  refine a_ald hX s_97 dX12_counts_7 rfl (fun x1 => ?_)
  refine a_al0 hX dX12_counts_8 rfl ?_
  refine a_getI hX fl_X12_131 s_94 rfl dX12_counts_9 rfl ?_
  refine a_ishr hX dX12_counts_12 rfl ?_
  refine a_ic 1 hX dX12_counts_13 (by decide) rfl ?_
  refine a_iand hX dX12_counts_14 rfl ?_
  refine a_ic 1 hX dX12_counts_15 (by decide) rfl ?_
  refine a_icmp_ne hX dX12_counts_16 rfl rfl ?_ ?_
  · refine a_ic 0 hX dX12_counts_56 (by decide) rfl ?_
    exact a_zret0 (by decide) hX hQ hr dX12_counts_57
  · refine a_al0 hX dX12_counts_19 rfl ?_
    refine a_getR hX fl_X12_16 s_94 rfl dX12_counts_20 rfl ?_
    refine a_il1 hX dX12_counts_23 rfl ?_
    refine a_ic 3 hX dX12_counts_24 (by decide) rfl ?_
    refine a_iadd hX dX12_counts_25 rfl ?_
    refine a_ald hX s_97 dX12_counts_26 rfl (fun x2 => ?_)
    refine a_ic (-1) hX dX12_counts_27 (by decide) rfl ?_
    refine a_icmp_eq hX dX12_counts_28 rfl rfl ?_ ?_
    · refine a_ic 1 hX dX12_counts_52 (by decide) rfl ?_
      refine a_goto hX dX12_counts_53 rfl ?_
      exact a_zret0 (by decide) hX hQ hr dX12_counts_57
    · refine a_al0 hX dX12_counts_31 rfl ?_
      refine a_getR hX fl_X12_47 s_94 rfl dX12_counts_32 rfl ?_
      refine a_il2 hX dX12_counts_35 rfl ?_
      refine a_ald hX s_107 dX12_counts_36 rfl (fun x3 => ?_)
      refine a_al0 hX dX12_counts_37 rfl ?_
      refine a_getR hX fl_X12_16 s_94 rfl dX12_counts_38 rfl ?_
      refine a_il1 hX dX12_counts_41 rfl ?_
      refine a_ic 3 hX dX12_counts_42 (by decide) rfl ?_
      refine a_iadd hX dX12_counts_43 rfl ?_
      refine a_ald hX s_97 dX12_counts_44 rfl (fun x4 => ?_)
      refine a_ishr hX dX12_counts_45 rfl ?_
      refine a_ic 1 hX dX12_counts_46 (by decide) rfl ?_
      refine a_iand hX dX12_counts_47 rfl ?_
      refine a_ic 1 hX dX12_counts_48 (by decide) rfl ?_
      refine a_icmp_ne hX dX12_counts_49 rfl rfl ?_ ?_
      · refine a_ic 0 hX dX12_counts_56 (by decide) rfl ?_
        exact a_zret0 (by decide) hX hQ hr dX12_counts_57
      · refine a_ic 1 hX dX12_counts_52 (by decide) rfl ?_
        refine a_goto hX dX12_counts_53 rfl ?_
        exact a_zret0 (by decide) hX hQ hr dX12_counts_57

set_option maxRecDepth 100000 in
theorem ci_X12_counts (l : Launch) (v1 v2 : Int32) (σ : Mem) : CI l yX12_counts cX12_counts 3 (some .boolean) 0 0 [.ref 94, .int v1, .int v2] σ (m_X12_counts v1 v2 σ) :=
  ci_of (by decide) (by simp [Value.category]) (by simp) (fun X r hl hX hR hQ hr => a_X12_counts_0 hX hR hQ hr v1 v2 σ)

set_option maxRecDepth 100000 in
set_option maxHeartbeats 2000000 in
theorem a_X12_spread_196 {X : AX} {r0 : Int32 × Mem} (hX : CX X cX12_spread 7 RX12) (hR : (aR X).frames = 1 ∧ (aR X).locals = 22 ∧ aCe X ≤ (aR X).cells ∧ aSl X ≤ (aR X).slots) (hQ : QI X r0) (hr : (aMeth X).sig.returnType = (some .boolean)) (f98 : Int32 → Int32 → Int32 → Int32 → Mem → Option (Int32 × Mem)) (hf98 : ∀ (v1 v2 v3 v4 : Int32) (σ : Mem), AWo X r0 98 [some (.ref 94), some (.int v1), some (.int v2), some (.int v3), some (.int v4), none, none] [] σ (f98 v1 v2 v3 v4 σ)) (v1 v2 v4 v5 v6 s0 : Int32) (σ : Mem) : AWo X r0 196 [some (.ref 94), some (.int v1), some (.int v2), none, some (.int v4), some (.int v5), some (.int v6)] [.int s0] σ (m_X12_spread_196 f98 v1 v2 v4 v5 v6 s0 σ) := by
  unfold m_X12_spread_196
  refine a_is3 hX dX12_spread_196 rfl ?_
  refine a_al0 hX dX12_spread_197 rfl ?_
  refine a_getR hX fl_X12_47 s_94 rfl dX12_spread_198 rfl ?_
  refine a_il6 hX dX12_spread_201 rfl ?_
  refine a_dup2 hX dX12_spread_203 rfl rfl rfl ?_
  refine a_ald hX s_107 dX12_spread_204 rfl (fun x1 => ?_)
  refine a_al0 hX dX12_spread_205 rfl ?_
  refine a_getR hX fl_X12_16 s_94 rfl dX12_spread_206 rfl ?_
  refine a_il5 hX dX12_spread_209 rfl ?_
  refine a_ic 5 hX dX12_spread_211 (by decide) rfl ?_
  refine a_iadd hX dX12_spread_212 rfl ?_
  refine a_ald hX s_97 dX12_spread_213 rfl (fun x2 => ?_)
  refine a_ior hX dX12_spread_214 rfl ?_
  refine a_ast hX s_107 dX12_spread_215 rfl (fun m3 => ?_)
  refine a_inc4 1 hX dX12_spread_216 (by decide) rfl ?_
  refine a_goto hX dX12_spread_219 rfl ?_
  exact a_sub (hf98 v1 v2 s0 (v4 + 1) m3) (ls_s (ls_s (ls_s (ls_s (ls_s (ls_n (ls_n ls_0)))))))

set_option maxRecDepth 100000 in
set_option maxHeartbeats 2000000 in
theorem a_X12_spread_98 {X : AX} {r0 : Int32 × Mem} (hX : CX X cX12_spread 7 RX12) (hR : (aR X).frames = 1 ∧ (aR X).locals = 22 ∧ aCe X ≤ (aR X).cells ∧ aSl X ≤ (aR X).slots) (hQ : QI X r0) (hr : (aMeth X).sig.returnType = (some .boolean)) : ∀ (fuel : Nat) (v1 v2 v3 v4 : Int32) (σ : Mem), AWo X r0 98 [some (.ref 94), some (.int v1), some (.int v2), some (.int v3), some (.int v4), none, none] [] σ (m_X12_spread_98 fuel v1 v2 v3 v4 σ) := by
  intro fuel
  induction fuel with
  | zero => intro v1 v2 v3 v4 σ; exact a_none
  | succ fuel ih =>
    intro v1 v2 v3 v4 σ
    show AWo X r0 98 [some (.ref 94), some (.int v1), some (.int v2), some (.int v3), some (.int v4), none, none] [] σ (m_X12_spread_98 (fuel + 1) v1 v2 v3 v4 σ)
    unfold m_X12_spread_98
    refine a_il4 hX dX12_spread_98 rfl ?_
    refine a_al0 hX dX12_spread_100 rfl ?_
    refine a_getR hX fl_X12_7 s_94 rfl dX12_spread_101 rfl ?_
    refine a_bi 9 hX dX12_spread_104 (by decide) rfl ?_
    refine a_il2 hX dX12_spread_106 rfl ?_
    refine a_imul hX dX12_spread_107 rfl ?_
    refine a_bi 8 hX dX12_spread_108 (by decide) rfl ?_
    refine a_iadd hX dX12_spread_110 rfl ?_
    refine a_ald hX s_95 dX12_spread_111 rfl (fun x1 => ?_)
    refine a_icmp_ge hX dX12_spread_112 rfl rfl ?_ ?_
    · refine a_il3 hX dX12_spread_222 rfl ?_
      exact a_zret hX hQ hr dX12_spread_223
    · refine a_bi 6 hX dX12_spread_115 (by decide) rfl ?_
      refine a_ic 5 hX dX12_spread_117 (by decide) rfl ?_
      refine a_il2 hX dX12_spread_118 rfl ?_
      refine a_imul hX dX12_spread_119 rfl ?_
      refine a_il4 hX dX12_spread_120 rfl ?_
      refine a_iadd hX dX12_spread_122 rfl ?_
      refine a_imul hX dX12_spread_123 rfl ?_
      refine a_name (fun y2 => ?_)
      refine a_is5 hX dX12_spread_124 rfl ?_
      refine a_al0 hX dX12_spread_126 rfl ?_
      refine a_al0 hX dX12_spread_127 rfl ?_
      refine a_getR hX fl_X12_16 s_94 rfl dX12_spread_128 rfl ?_
      refine a_il5 hX dX12_spread_131 rfl ?_
      refine a_ald hX s_97 dX12_spread_133 rfl (fun x3 => ?_)
      refine a_callI hX hR ml_X12_140 (ci_X12_standsFor _ _ _) s_94 rfl rfl rfl (by decide) (Nat.le_of_ble_eq_true rfl) rfl dX12_spread_134 rfl (fun x4 => ?_)
      refine a_is6 hX dX12_spread_137 rfl ?_
      refine a_al0 hX dX12_spread_139 rfl ?_
      refine a_il5 hX dX12_spread_140 rfl ?_
      refine a_il1 hX dX12_spread_142 rfl ?_
      refine a_callI hX hR ml_X12_156 (ci_X12_counts _ _ _ _) s_94 rfl rfl rfl (by decide) (Nat.le_of_ble_eq_true rfl) rfl dX12_spread_143 rfl (fun x5 => ?_)
      refine a_if_eq hX dX12_spread_146 rfl rfl ?_ ?_
      · refine a_inc4 1 hX dX12_spread_216 (by decide) rfl ?_
        refine a_goto hX dX12_spread_219 rfl ?_
        exact a_sub (ih v1 v2 v3 (v4 + 1) x5.2) (ls_s (ls_s (ls_s (ls_s (ls_s (ls_n (ls_n ls_0)))))))
      · refine a_al0 hX dX12_spread_149 rfl ?_
        refine a_getR hX fl_X12_44 s_94 rfl dX12_spread_150 rfl ?_
        refine a_il6 hX dX12_spread_153 rfl ?_
        refine a_ald hX s_106 dX12_spread_155 rfl (fun x6 => ?_)
        refine a_ic (-1) hX dX12_spread_156 (by decide) rfl ?_
        refine a_icmp_eq hX dX12_spread_157 rfl rfl ?_ ?_
        · refine a_inc4 1 hX dX12_spread_216 (by decide) rfl ?_
          refine a_goto hX dX12_spread_219 rfl ?_
          exact a_sub (ih v1 v2 v3 (v4 + 1) x5.2) (ls_s (ls_s (ls_s (ls_s (ls_s (ls_n (ls_n ls_0)))))))
        · refine a_il3 hX dX12_spread_160 rfl ?_
          refine a_if_ne hX dX12_spread_161 rfl rfl ?_ ?_
          · refine a_ic 1 hX dX12_spread_191 (by decide) rfl ?_
            refine a_goto hX dX12_spread_192 rfl ?_
            exact a_sub (a_X12_spread_196 hX hR hQ hr (m_X12_spread_98 fuel) ih v1 v2 v4 y2 x4.1 1 x5.2) (ls_s (ls_s (ls_s (ls_n (ls_s (ls_s (ls_s ls_0)))))))
          · refine a_al0 hX dX12_spread_164 rfl ?_
            refine a_getR hX fl_X12_47 s_94 rfl dX12_spread_165 rfl ?_
            refine a_il6 hX dX12_spread_168 rfl ?_
            refine a_ald hX s_107 dX12_spread_170 rfl (fun x7 => ?_)
            refine a_al0 hX dX12_spread_171 rfl ?_
            refine a_getR hX fl_X12_16 s_94 rfl dX12_spread_172 rfl ?_
            refine a_il5 hX dX12_spread_175 rfl ?_
            refine a_ic 5 hX dX12_spread_177 (by decide) rfl ?_
            refine a_iadd hX dX12_spread_178 rfl ?_
            refine a_ald hX s_97 dX12_spread_179 rfl (fun x8 => ?_)
            refine a_ior hX dX12_spread_180 rfl ?_
            refine a_al0 hX dX12_spread_181 rfl ?_
            refine a_getR hX fl_X12_47 s_94 rfl dX12_spread_182 rfl ?_
            refine a_il6 hX dX12_spread_185 rfl ?_
            refine a_ald hX s_107 dX12_spread_187 rfl (fun x9 => ?_)
            refine a_icmp_eq hX dX12_spread_188 rfl rfl ?_ ?_
            · refine a_ic 0 hX dX12_spread_195 (by decide) rfl ?_
              exact a_sub (a_X12_spread_196 hX hR hQ hr (m_X12_spread_98 fuel) ih v1 v2 v4 y2 x4.1 0 x5.2) (ls_s (ls_s (ls_s (ls_n (ls_s (ls_s (ls_s ls_0)))))))
            · refine a_ic 1 hX dX12_spread_191 (by decide) rfl ?_
              refine a_goto hX dX12_spread_192 rfl ?_
              exact a_sub (a_X12_spread_196 hX hR hQ hr (m_X12_spread_98 fuel) ih v1 v2 v4 y2 x4.1 1 x5.2) (ls_s (ls_s (ls_s (ls_n (ls_s (ls_s (ls_s ls_0)))))))

set_option maxRecDepth 100000 in
set_option maxHeartbeats 2000000 in
theorem a_X12_spread_77 {X : AX} {r0 : Int32 × Mem} (hX : CX X cX12_spread 7 RX12) (hR : (aR X).frames = 1 ∧ (aR X).locals = 22 ∧ aCe X ≤ (aR X).cells ∧ aSl X ≤ (aR X).slots) (hQ : QI X r0) (hr : (aMeth X).sig.returnType = (some .boolean)) (f12 : Int32 → Int32 → Int32 → Int32 → Mem → Option (Int32 × Mem)) (hf12 : ∀ (v1 v2 v3 v4 : Int32) (σ : Mem), AWo X r0 12 [some (.ref 94), some (.int v1), some (.int v2), some (.int v3), some (.int v4), none, none] [] σ (f12 v1 v2 v3 v4 σ)) (v1 v2 v4 v5 s0 : Int32) (σ : Mem) : AWo X r0 77 [some (.ref 94), some (.int v1), some (.int v2), none, some (.int v4), some (.int v5), none] [.int s0] σ (m_X12_spread_77 f12 v1 v2 v4 v5 s0 σ) := by
  unfold m_X12_spread_77
  refine a_is3 hX dX12_spread_77 rfl ?_
  refine a_al0 hX dX12_spread_78 rfl ?_
  refine a_getR hX fl_X12_47 s_94 rfl dX12_spread_79 rfl ?_
  refine a_il1 hX dX12_spread_82 rfl ?_
  refine a_dup2 hX dX12_spread_83 rfl rfl rfl ?_
  refine a_ald hX s_107 dX12_spread_84 rfl (fun x1 => ?_)
  refine a_il5 hX dX12_spread_85 rfl ?_
  refine a_ior hX dX12_spread_87 rfl ?_
  refine a_ast hX s_107 dX12_spread_88 rfl (fun m2 => ?_)
  refine a_inc4 1 hX dX12_spread_89 (by decide) rfl ?_
  refine a_goto hX dX12_spread_92 rfl ?_
  exact a_sub (hf12 v1 v2 s0 (v4 + 1) m2) (ls_s (ls_s (ls_s (ls_s (ls_s (ls_n (ls_n ls_0)))))))

set_option maxRecDepth 100000 in
set_option maxHeartbeats 2000000 in
theorem a_X12_spread_48 {X : AX} {r0 : Int32 × Mem} (hX : CX X cX12_spread 7 RX12) (hR : (aR X).frames = 1 ∧ (aR X).locals = 22 ∧ aCe X ≤ (aR X).cells ∧ aSl X ≤ (aR X).slots) (hQ : QI X r0) (hr : (aMeth X).sig.returnType = (some .boolean)) (f12 : Int32 → Int32 → Int32 → Int32 → Mem → Option (Int32 × Mem)) (hf12 : ∀ (v1 v2 v3 v4 : Int32) (σ : Mem), AWo X r0 12 [some (.ref 94), some (.int v1), some (.int v2), some (.int v3), some (.int v4), none, none] [] σ (f12 v1 v2 v3 v4 σ)) (v1 v2 v3 v4 s0 : Int32) (σ : Mem) : AWo X r0 48 [some (.ref 94), some (.int v1), some (.int v2), some (.int v3), some (.int v4), none, none] [.int s0] σ (m_X12_spread_48 f12 v1 v2 v3 v4 s0 σ) := by
  unfold m_X12_spread_48
  refine a_is5 hX dX12_spread_48 rfl ?_
  refine a_il3 hX dX12_spread_50 rfl ?_
  refine a_if_ne hX dX12_spread_51 rfl rfl ?_ ?_
  · refine a_ic 1 hX dX12_spread_72 (by decide) rfl ?_
    refine a_goto hX dX12_spread_73 rfl ?_
    exact a_sub (a_X12_spread_77 hX hR hQ hr f12 hf12 v1 v2 v4 s0 1 (σ)) (ls_s (ls_s (ls_s (ls_n (ls_s (ls_s (ls_n ls_0)))))))
  · refine a_al0 hX dX12_spread_54 rfl ?_
    refine a_getR hX fl_X12_47 s_94 rfl dX12_spread_55 rfl ?_
    refine a_il1 hX dX12_spread_58 rfl ?_
    refine a_ald hX s_107 dX12_spread_59 rfl (fun x1 => ?_)
    refine a_il5 hX dX12_spread_60 rfl ?_
    refine a_ior hX dX12_spread_62 rfl ?_
    refine a_al0 hX dX12_spread_63 rfl ?_
    refine a_getR hX fl_X12_47 s_94 rfl dX12_spread_64 rfl ?_
    refine a_il1 hX dX12_spread_67 rfl ?_
    refine a_ald hX s_107 dX12_spread_68 rfl (fun x2 => ?_)
    refine a_icmp_eq hX dX12_spread_69 rfl rfl ?_ ?_
    · refine a_ic 0 hX dX12_spread_76 (by decide) rfl ?_
      exact a_sub (a_X12_spread_77 hX hR hQ hr f12 hf12 v1 v2 v4 s0 0 (σ)) (ls_s (ls_s (ls_s (ls_n (ls_s (ls_s (ls_n ls_0)))))))
    · refine a_ic 1 hX dX12_spread_72 (by decide) rfl ?_
      refine a_goto hX dX12_spread_73 rfl ?_
      exact a_sub (a_X12_spread_77 hX hR hQ hr f12 hf12 v1 v2 v4 s0 1 (σ)) (ls_s (ls_s (ls_s (ls_n (ls_s (ls_s (ls_n ls_0)))))))

set_option maxRecDepth 100000 in
set_option maxHeartbeats 2000000 in
theorem a_X12_spread_12 {X : AX} {r0 : Int32 × Mem} (hX : CX X cX12_spread 7 RX12) (hR : (aR X).frames = 1 ∧ (aR X).locals = 22 ∧ aCe X ≤ (aR X).cells ∧ aSl X ≤ (aR X).slots) (hQ : QI X r0) (hr : (aMeth X).sig.returnType = (some .boolean)) : ∀ (fuel : Nat) (v1 v2 v3 v4 : Int32) (σ : Mem), AWo X r0 12 [some (.ref 94), some (.int v1), some (.int v2), some (.int v3), some (.int v4), none, none] [] σ (m_X12_spread_12 fuel v1 v2 v3 v4 σ) := by
  intro fuel
  induction fuel with
  | zero => intro v1 v2 v3 v4 σ; exact a_none
  | succ fuel ih =>
    intro v1 v2 v3 v4 σ
    show AWo X r0 12 [some (.ref 94), some (.int v1), some (.int v2), some (.int v3), some (.int v4), none, none] [] σ (m_X12_spread_12 (fuel + 1) v1 v2 v3 v4 σ)
    unfold m_X12_spread_12
    refine a_il4 hX dX12_spread_12 rfl ?_
    refine a_ic 3 hX dX12_spread_14 (by decide) rfl ?_
    refine a_icmp_ge hX dX12_spread_15 rfl rfl ?_ ?_
    · refine a_ic 0 hX dX12_spread_95 (by decide) rfl ?_
      refine a_is4 hX dX12_spread_96 rfl ?_
      exact a_sub (a_X12_spread_98 hX hR hQ hr FU v1 v2 v3 0 (σ)) (ls_s (ls_s (ls_s (ls_s (ls_s (ls_n (ls_n ls_0)))))))
    · refine a_al0 hX dX12_spread_18 rfl ?_
      refine a_getR hX fl_X12_47 s_94 rfl dX12_spread_19 rfl ?_
      refine a_il1 hX dX12_spread_22 rfl ?_
      refine a_ald hX s_107 dX12_spread_23 rfl (fun x1 => ?_)
      refine a_il4 hX dX12_spread_24 rfl ?_
      refine a_ishr hX dX12_spread_26 rfl ?_
      refine a_ic 1 hX dX12_spread_27 (by decide) rfl ?_
      refine a_iand hX dX12_spread_28 rfl ?_
      refine a_ic 1 hX dX12_spread_29 (by decide) rfl ?_
      refine a_icmp_ne hX dX12_spread_30 rfl rfl ?_ ?_
      · refine a_ic 0 hX dX12_spread_47 (by decide) rfl ?_
        exact a_sub (a_X12_spread_48 hX hR hQ hr (m_X12_spread_12 fuel) ih v1 v2 v3 v4 0 (σ)) (ls_s (ls_s (ls_s (ls_s (ls_s (ls_n (ls_n ls_0)))))))
      · refine a_al0 hX dX12_spread_33 rfl ?_
        refine a_getR hX fl_X12_13 s_94 rfl dX12_spread_34 rfl ?_
        refine a_ic 3 hX dX12_spread_37 (by decide) rfl ?_
        refine a_il2 hX dX12_spread_38 rfl ?_
        refine a_imul hX dX12_spread_39 rfl ?_
        refine a_il4 hX dX12_spread_40 rfl ?_
        refine a_iadd hX dX12_spread_42 rfl ?_
        refine a_ald hX s_96 dX12_spread_43 rfl (fun x2 => ?_)
        refine a_goto hX dX12_spread_44 rfl ?_
        exact a_sub (a_X12_spread_48 hX hR hQ hr (m_X12_spread_12 fuel) ih v1 v2 v3 v4 x2 (σ)) (ls_s (ls_s (ls_s (ls_s (ls_s (ls_n (ls_n ls_0)))))))

set_option maxRecDepth 100000 in
set_option maxHeartbeats 2000000 in
theorem a_X12_spread_0 {X : AX} {r0 : Int32 × Mem} (hX : CX X cX12_spread 7 RX12) (hR : (aR X).frames = 1 ∧ (aR X).locals = 22 ∧ aCe X ≤ (aR X).cells ∧ aSl X ≤ (aR X).slots) (hQ : QI X r0) (hr : (aMeth X).sig.returnType = (some .boolean)) (v1 : Int32) (σ : Mem) : AWo X r0 0 [some (.ref 94), some (.int v1), none, none, none, none, none] [] σ (m_X12_spread v1 σ) := by
  unfold m_X12_spread
  refine a_al0 hX dX12_spread_0 rfl ?_
  refine a_getR hX fl_X12_44 s_94 rfl dX12_spread_1 rfl ?_
  refine a_il1 hX dX12_spread_4 rfl ?_
  refine a_ald hX s_106 dX12_spread_5 rfl (fun x1 => ?_)
  refine a_is2 hX dX12_spread_6 rfl ?_
  refine a_ic 0 hX dX12_spread_7 (by decide) rfl ?_
  refine a_is3 hX dX12_spread_8 rfl ?_
  refine a_ic 0 hX dX12_spread_9 (by decide) rfl ?_
  refine a_is4 hX dX12_spread_10 rfl ?_
  exact a_sub (a_X12_spread_12 hX hR hQ hr FU v1 x1 0 0 (σ)) (ls_s (ls_s (ls_s (ls_s (ls_s (ls_n (ls_n ls_0)))))))

set_option maxRecDepth 100000 in
theorem ci_X12_spread (l : Launch) (v1 : Int32) (σ : Mem) : CI l yX12_spread cX12_spread 7 (some .boolean) 1 22 [.ref 94, .int v1] σ (m_X12_spread v1 σ) :=
  ci_of (by decide) (by simp [Value.category]) (by simp) (fun X r hl hX hR hQ hr => a_X12_spread_0 hX hR hQ hr v1 σ)

set_option maxRecDepth 100000 in
set_option maxHeartbeats 2000000 in
theorem a_X12_areNeedsRight_9 {X : AX} {r0 : Int32 × Mem} (hX : CX X cX12_areNeedsRight 6 RX12) (hR : (aR X).frames = 1 ∧ (aR X).locals = 22 ∧ aCe X ≤ (aR X).cells ∧ aSl X ≤ (aR X).slots) (hQ : QI X r0) (hr : (aMeth X).sig.returnType = (some .boolean)) : ∀ (fuel : Nat) (v1 v2 v3 : Int32) (σ : Mem), AWo X r0 9 [some (.ref 94), some (.int v1), some (.int v2), some (.int v3), none, none] [] σ (m_X12_areNeedsRight_9 fuel v1 v2 v3 σ) := by
  intro fuel
  induction fuel with
  | zero => intro v1 v2 v3 σ; exact a_none
  | succ fuel ih =>
    intro v1 v2 v3 σ
    show AWo X r0 9 [some (.ref 94), some (.int v1), some (.int v2), some (.int v3), none, none] [] σ (m_X12_areNeedsRight_9 (fuel + 1) v1 v2 v3 σ)
    unfold m_X12_areNeedsRight_9
    refine a_il3 hX dX12_areNeedsRight_9 rfl ?_
    refine a_al0 hX dX12_areNeedsRight_10 rfl ?_
    refine a_getR hX fl_X12_7 s_94 rfl dX12_areNeedsRight_11 rfl ?_
    refine a_bi 9 hX dX12_areNeedsRight_14 (by decide) rfl ?_
    refine a_il2 hX dX12_areNeedsRight_16 rfl ?_
    refine a_imul hX dX12_areNeedsRight_17 rfl ?_
    refine a_bi 8 hX dX12_areNeedsRight_18 (by decide) rfl ?_
    refine a_iadd hX dX12_areNeedsRight_20 rfl ?_
    refine a_ald hX s_95 dX12_areNeedsRight_21 rfl (fun x1 => ?_)
    refine a_icmp_ge hX dX12_areNeedsRight_22 rfl rfl ?_ ?_
    · refine a_ic 1 hX dX12_areNeedsRight_116 (by decide) rfl ?_
      exact a_zret0 (by decide) hX hQ hr dX12_areNeedsRight_117
    · refine a_bi 6 hX dX12_areNeedsRight_25 (by decide) rfl ?_
      refine a_ic 5 hX dX12_areNeedsRight_27 (by decide) rfl ?_
      refine a_il2 hX dX12_areNeedsRight_28 rfl ?_
      refine a_imul hX dX12_areNeedsRight_29 rfl ?_
      refine a_il3 hX dX12_areNeedsRight_30 rfl ?_
      refine a_iadd hX dX12_areNeedsRight_31 rfl ?_
      refine a_imul hX dX12_areNeedsRight_32 rfl ?_
      refine a_name (fun y2 => ?_)
      refine a_is4 hX dX12_areNeedsRight_33 rfl ?_
      refine a_al0 hX dX12_areNeedsRight_35 rfl ?_
      refine a_getR hX fl_X12_44 s_94 rfl dX12_areNeedsRight_36 rfl ?_
      refine a_al0 hX dX12_areNeedsRight_39 rfl ?_
      refine a_al0 hX dX12_areNeedsRight_40 rfl ?_
      refine a_getR hX fl_X12_16 s_94 rfl dX12_areNeedsRight_41 rfl ?_
      refine a_il4 hX dX12_areNeedsRight_44 rfl ?_
      refine a_ald hX s_97 dX12_areNeedsRight_46 rfl (fun x3 => ?_)
      refine a_callI hX hR ml_X12_140 (ci_X12_standsFor _ _ _) s_94 rfl rfl rfl (by decide) (Nat.le_of_ble_eq_true rfl) rfl dX12_areNeedsRight_47 rfl (fun x4 => ?_)
      refine a_ald hX s_106 dX12_areNeedsRight_50 rfl (fun x5 => ?_)
      refine a_is5 hX dX12_areNeedsRight_51 rfl ?_
      refine a_al0 hX dX12_areNeedsRight_53 rfl ?_
      refine a_il4 hX dX12_areNeedsRight_54 rfl ?_
      refine a_il1 hX dX12_areNeedsRight_56 rfl ?_
      refine a_callI hX hR ml_X12_156 (ci_X12_counts _ _ _ _) s_94 rfl rfl rfl (by decide) (Nat.le_of_ble_eq_true rfl) rfl dX12_areNeedsRight_57 rfl (fun x6 => ?_)
      refine a_if_eq hX dX12_areNeedsRight_60 rfl rfl ?_ ?_
      · refine a_inc3 1 hX dX12_areNeedsRight_110 (by decide) rfl ?_
        refine a_goto hX dX12_areNeedsRight_113 rfl ?_
        exact a_sub (ih v1 v2 (v3 + 1) x6.2) (ls_s (ls_s (ls_s (ls_s (ls_n (ls_n ls_0))))))
      · refine a_il5 hX dX12_areNeedsRight_63 rfl ?_
        refine a_ic (-1) hX dX12_areNeedsRight_65 (by decide) rfl ?_
        refine a_icmp_ne hX dX12_areNeedsRight_66 rfl rfl ?_ ?_
        · refine a_al0 hX dX12_areNeedsRight_85 rfl ?_
          refine a_getR hX fl_X12_22 s_94 rfl dX12_areNeedsRight_86 rfl ?_
          refine a_bi 24 hX dX12_areNeedsRight_89 (by decide) rfl ?_
          refine a_al0 hX dX12_areNeedsRight_91 rfl ?_
          refine a_getR hX fl_X12_16 s_94 rfl dX12_areNeedsRight_92 rfl ?_
          refine a_il4 hX dX12_areNeedsRight_95 rfl ?_
          refine a_ic 1 hX dX12_areNeedsRight_97 (by decide) rfl ?_
          refine a_iadd hX dX12_areNeedsRight_98 rfl ?_
          refine a_ald hX s_97 dX12_areNeedsRight_99 rfl (fun x7 => ?_)
          refine a_imul hX dX12_areNeedsRight_100 rfl ?_
          refine a_il5 hX dX12_areNeedsRight_101 rfl ?_
          refine a_iadd hX dX12_areNeedsRight_103 rfl ?_
          refine a_zld hX s_99 dX12_areNeedsRight_104 rfl (fun x8 => ?_)
          refine a_if_ne hX dX12_areNeedsRight_105 rfl rfl ?_ ?_
          · refine a_inc3 1 hX dX12_areNeedsRight_110 (by decide) rfl ?_
            refine a_goto hX dX12_areNeedsRight_113 rfl ?_
            exact a_sub (ih v1 v2 (v3 + 1) x6.2) (ls_s (ls_s (ls_s (ls_s (ls_n (ls_n ls_0))))))
          · refine a_ic 0 hX dX12_areNeedsRight_108 (by decide) rfl ?_
            exact a_zret0 (by decide) hX hQ hr dX12_areNeedsRight_109
        · refine a_al0 hX dX12_areNeedsRight_69 rfl ?_
          refine a_getR hX fl_X12_16 s_94 rfl dX12_areNeedsRight_70 rfl ?_
          refine a_il4 hX dX12_areNeedsRight_73 rfl ?_
          refine a_ic 2 hX dX12_areNeedsRight_75 (by decide) rfl ?_
          refine a_iadd hX dX12_areNeedsRight_76 rfl ?_
          refine a_ald hX s_97 dX12_areNeedsRight_77 rfl (fun x9 => ?_)
          refine a_ic 1 hX dX12_areNeedsRight_78 (by decide) rfl ?_
          refine a_icmp_eq hX dX12_areNeedsRight_79 rfl rfl ?_ ?_
          · refine a_inc3 1 hX dX12_areNeedsRight_110 (by decide) rfl ?_
            refine a_goto hX dX12_areNeedsRight_113 rfl ?_
            exact a_sub (ih v1 v2 (v3 + 1) x6.2) (ls_s (ls_s (ls_s (ls_s (ls_n (ls_n ls_0))))))
          · refine a_goto hX dX12_areNeedsRight_82 rfl ?_
            refine a_ic 0 hX dX12_areNeedsRight_108 (by decide) rfl ?_
            exact a_zret0 (by decide) hX hQ hr dX12_areNeedsRight_109

set_option maxRecDepth 100000 in
set_option maxHeartbeats 2000000 in
theorem a_X12_areNeedsRight_0 {X : AX} {r0 : Int32 × Mem} (hX : CX X cX12_areNeedsRight 6 RX12) (hR : (aR X).frames = 1 ∧ (aR X).locals = 22 ∧ aCe X ≤ (aR X).cells ∧ aSl X ≤ (aR X).slots) (hQ : QI X r0) (hr : (aMeth X).sig.returnType = (some .boolean)) (v1 : Int32) (σ : Mem) : AWo X r0 0 [some (.ref 94), some (.int v1), none, none, none, none] [] σ (m_X12_areNeedsRight v1 σ) := by
  unfold m_X12_areNeedsRight
  refine a_al0 hX dX12_areNeedsRight_0 rfl ?_
  refine a_getR hX fl_X12_44 s_94 rfl dX12_areNeedsRight_1 rfl ?_
  refine a_il1 hX dX12_areNeedsRight_4 rfl ?_
  refine a_ald hX s_106 dX12_areNeedsRight_5 rfl (fun x1 => ?_)
  refine a_is2 hX dX12_areNeedsRight_6 rfl ?_
  refine a_ic 0 hX dX12_areNeedsRight_7 (by decide) rfl ?_
  refine a_is3 hX dX12_areNeedsRight_8 rfl ?_
  exact a_sub (a_X12_areNeedsRight_9 hX hR hQ hr FU v1 x1 0 (σ)) (ls_s (ls_s (ls_s (ls_s (ls_n (ls_n ls_0))))))

set_option maxRecDepth 100000 in
theorem ci_X12_areNeedsRight (l : Launch) (v1 : Int32) (σ : Mem) : CI l yX12_areNeedsRight cX12_areNeedsRight 6 (some .boolean) 1 22 [.ref 94, .int v1] σ (m_X12_areNeedsRight v1 σ) :=
  ci_of (by decide) (by simp [Value.category]) (by simp) (fun X r hl hX hR hQ hr => a_X12_areNeedsRight_0 hX hR hQ hr v1 σ)

set_option maxRecDepth 100000 in
set_option maxHeartbeats 2000000 in
theorem a_X12_pull_12 {X : AX} {r0 : Int32 × Mem} (hX : CX X cX12_pull 7 RX12) (hR : (aR X).frames = 1 ∧ (aR X).locals = 22 ∧ aCe X ≤ (aR X).cells ∧ aSl X ≤ (aR X).slots) (hQ : QI X r0) (hr : (aMeth X).sig.returnType = (some .boolean)) : ∀ (fuel : Nat) (v1 v2 v3 v4 : Int32) (σ : Mem), AWo X r0 12 [some (.ref 94), some (.int v1), some (.int v2), some (.int v3), some (.int v4), none, none] [] σ (m_X12_pull_12 fuel v1 v2 v3 v4 σ) := by
  intro fuel
  induction fuel with
  | zero => intro v1 v2 v3 v4 σ; exact a_none
  | succ fuel ih =>
    intro v1 v2 v3 v4 σ
    show AWo X r0 12 [some (.ref 94), some (.int v1), some (.int v2), some (.int v3), some (.int v4), none, none] [] σ (m_X12_pull_12 (fuel + 1) v1 v2 v3 v4 σ)
    unfold m_X12_pull_12
    refine a_il4 hX dX12_pull_12 rfl ?_
    refine a_al0 hX dX12_pull_14 rfl ?_
    refine a_getR hX fl_X12_7 s_94 rfl dX12_pull_15 rfl ?_
    refine a_bi 9 hX dX12_pull_18 (by decide) rfl ?_
    refine a_il3 hX dX12_pull_20 rfl ?_
    refine a_imul hX dX12_pull_21 rfl ?_
    refine a_bi 8 hX dX12_pull_22 (by decide) rfl ?_
    refine a_iadd hX dX12_pull_24 rfl ?_
    refine a_ald hX s_95 dX12_pull_25 rfl (fun x1 => ?_)
    refine a_icmp_ge hX dX12_pull_26 rfl rfl ?_ ?_
    · refine a_il2 hX dX12_pull_113 rfl ?_
      exact a_zret hX hQ hr dX12_pull_114
    · refine a_bi 6 hX dX12_pull_29 (by decide) rfl ?_
      refine a_ic 5 hX dX12_pull_31 (by decide) rfl ?_
      refine a_il3 hX dX12_pull_32 rfl ?_
      refine a_imul hX dX12_pull_33 rfl ?_
      refine a_il4 hX dX12_pull_34 rfl ?_
      refine a_iadd hX dX12_pull_36 rfl ?_
      refine a_imul hX dX12_pull_37 rfl ?_
      refine a_name (fun y2 => ?_)
      refine a_is5 hX dX12_pull_38 rfl ?_
      refine a_al0 hX dX12_pull_40 rfl ?_
      refine a_al0 hX dX12_pull_41 rfl ?_
      refine a_getR hX fl_X12_16 s_94 rfl dX12_pull_42 rfl ?_
      refine a_il5 hX dX12_pull_45 rfl ?_
      refine a_ald hX s_97 dX12_pull_47 rfl (fun x3 => ?_)
      refine a_callI hX hR ml_X12_140 (ci_X12_standsFor _ _ _) s_94 rfl rfl rfl (by decide) (Nat.le_of_ble_eq_true rfl) rfl dX12_pull_48 rfl (fun x4 => ?_)
      refine a_is6 hX dX12_pull_51 rfl ?_
      refine a_al0 hX dX12_pull_53 rfl ?_
      refine a_il5 hX dX12_pull_54 rfl ?_
      refine a_il1 hX dX12_pull_56 rfl ?_
      refine a_callI hX hR ml_X12_156 (ci_X12_counts _ _ _ _) s_94 rfl rfl rfl (by decide) (Nat.le_of_ble_eq_true rfl) rfl dX12_pull_57 rfl (fun x5 => ?_)
      refine a_if_eq hX dX12_pull_60 rfl rfl ?_ ?_
      · refine a_inc4 1 hX dX12_pull_107 (by decide) rfl ?_
        refine a_goto hX dX12_pull_110 rfl ?_
        exact a_sub (ih v1 v2 v3 (v4 + 1) x5.2) (ls_s (ls_s (ls_s (ls_s (ls_s (ls_n (ls_n ls_0)))))))
      · refine a_al0 hX dX12_pull_63 rfl ?_
        refine a_getR hX fl_X12_16 s_94 rfl dX12_pull_64 rfl ?_
        refine a_il5 hX dX12_pull_67 rfl ?_
        refine a_ic 2 hX dX12_pull_69 (by decide) rfl ?_
        refine a_iadd hX dX12_pull_70 rfl ?_
        refine a_ald hX s_97 dX12_pull_71 rfl (fun x6 => ?_)
        refine a_ic 2 hX dX12_pull_72 (by decide) rfl ?_
        refine a_icmp_eq hX dX12_pull_73 rfl rfl ?_ ?_
        · refine a_inc4 1 hX dX12_pull_107 (by decide) rfl ?_
          refine a_goto hX dX12_pull_110 rfl ?_
          exact a_sub (ih v1 v2 v3 (v4 + 1) x5.2) (ls_s (ls_s (ls_s (ls_s (ls_s (ls_n (ls_n ls_0)))))))
        · refine a_al0 hX dX12_pull_76 rfl ?_
          refine a_getR hX fl_X12_44 s_94 rfl dX12_pull_77 rfl ?_
          refine a_il6 hX dX12_pull_80 rfl ?_
          refine a_ald hX s_106 dX12_pull_82 rfl (fun x7 => ?_)
          refine a_ic (-1) hX dX12_pull_83 (by decide) rfl ?_
          refine a_icmp_eq hX dX12_pull_84 rfl rfl ?_ ?_
          · refine a_inc4 1 hX dX12_pull_107 (by decide) rfl ?_
            refine a_goto hX dX12_pull_110 rfl ?_
            exact a_sub (ih v1 v2 v3 (v4 + 1) x5.2) (ls_s (ls_s (ls_s (ls_s (ls_s (ls_n (ls_n ls_0)))))))
          · refine a_al0 hX dX12_pull_87 rfl ?_
            refine a_getR hX fl_X12_50 s_94 rfl dX12_pull_88 rfl ?_
            refine a_il6 hX dX12_pull_91 rfl ?_
            refine a_zld hX s_108 dX12_pull_93 rfl (fun x8 => ?_)
            refine a_if_ne hX dX12_pull_94 rfl rfl ?_ ?_
            · refine a_inc4 1 hX dX12_pull_107 (by decide) rfl ?_
              refine a_goto hX dX12_pull_110 rfl ?_
              exact a_sub (ih v1 v2 v3 (v4 + 1) x5.2) (ls_s (ls_s (ls_s (ls_s (ls_s (ls_n (ls_n ls_0)))))))
            · refine a_al0 hX dX12_pull_97 rfl ?_
              refine a_getR hX fl_X12_50 s_94 rfl dX12_pull_98 rfl ?_
              refine a_il6 hX dX12_pull_101 rfl ?_
              refine a_ic 1 hX dX12_pull_103 (by decide) rfl ?_
              refine a_zst hX s_108 dX12_pull_104 rfl (fun m9 => ?_)
              refine a_ic 1 hX dX12_pull_105 (by decide) rfl ?_
              refine a_is2 hX dX12_pull_106 rfl ?_
              refine a_inc4 1 hX dX12_pull_107 (by decide) rfl ?_
              refine a_goto hX dX12_pull_110 rfl ?_
              exact a_sub (ih v1 1 v3 (v4 + 1) m9) (ls_s (ls_s (ls_s (ls_s (ls_s (ls_n (ls_n ls_0)))))))

set_option maxRecDepth 100000 in
set_option maxHeartbeats 2000000 in
theorem a_X12_pull_0 {X : AX} {r0 : Int32 × Mem} (hX : CX X cX12_pull 7 RX12) (hR : (aR X).frames = 1 ∧ (aR X).locals = 22 ∧ aCe X ≤ (aR X).cells ∧ aSl X ≤ (aR X).slots) (hQ : QI X r0) (hr : (aMeth X).sig.returnType = (some .boolean)) (v1 : Int32) (σ : Mem) : AWo X r0 0 [some (.ref 94), some (.int v1), none, none, none, none, none] [] σ (m_X12_pull v1 σ) := by
  unfold m_X12_pull
  refine a_ic 0 hX dX12_pull_0 (by decide) rfl ?_
  refine a_is2 hX dX12_pull_1 rfl ?_
  refine a_al0 hX dX12_pull_2 rfl ?_
  refine a_getR hX fl_X12_44 s_94 rfl dX12_pull_3 rfl ?_
  refine a_il1 hX dX12_pull_6 rfl ?_
  refine a_ald hX s_106 dX12_pull_7 rfl (fun x1 => ?_)
  refine a_is3 hX dX12_pull_8 rfl ?_
  refine a_ic 0 hX dX12_pull_9 (by decide) rfl ?_
  refine a_is4 hX dX12_pull_10 rfl ?_
  exact a_sub (a_X12_pull_12 hX hR hQ hr FU v1 0 x1 0 (σ)) (ls_s (ls_s (ls_s (ls_s (ls_s (ls_n (ls_n ls_0)))))))

set_option maxRecDepth 100000 in
theorem ci_X12_pull (l : Launch) (v1 : Int32) (σ : Mem) : CI l yX12_pull cX12_pull 7 (some .boolean) 1 22 [.ref 94, .int v1] σ (m_X12_pull v1 σ) :=
  ci_of (by decide) (by simp [Value.category]) (by simp) (fun X r hl hX hR hQ hr => a_X12_pull_0 hX hR hQ hr v1 σ)

set_option maxRecDepth 100000 in
set_option maxHeartbeats 2000000 in
theorem a_X12_isSolution_160 {X : AX} {r0 : Int32 × Mem} (hX : CX X cX12_isSolution 3 RX12) (hR : (aR X).frames = 2 ∧ (aR X).locals = 48 ∧ aCe X ≤ (aR X).cells ∧ aSl X ≤ (aR X).slots) (hQ : QI X r0) (hr : (aMeth X).sig.returnType = (some .boolean)) : ∀ (fuel : Nat) (v2 : Int32) (σ : Mem), AWo X r0 160 [some (.ref 94), none, some (.int v2)] [] σ (m_X12_isSolution_160 fuel v2 σ) := by
  intro fuel
  induction fuel with
  | zero => intro v2 σ; exact a_none
  | succ fuel ih =>
    intro v2 σ
    show AWo X r0 160 [some (.ref 94), none, some (.int v2)] [] σ (m_X12_isSolution_160 (fuel + 1) v2 σ)
    unfold m_X12_isSolution_160
    refine a_il2 hX dX12_isSolution_160 rfl ?_
    refine a_bi 6 hX dX12_isSolution_161 (by decide) rfl ?_
    refine a_icmp_ge hX dX12_isSolution_163 rfl rfl ?_ ?_
    · refine a_ic 1 hX dX12_isSolution_193 (by decide) rfl ?_
      exact a_zret0 (by decide) hX hQ hr dX12_isSolution_194
    · refine a_al0 hX dX12_isSolution_166 rfl ?_
      refine a_getR hX fl_X12_44 s_94 rfl dX12_isSolution_167 rfl ?_
      refine a_il2 hX dX12_isSolution_170 rfl ?_
      refine a_ald hX s_106 dX12_isSolution_171 rfl (fun x1 => ?_)
      refine a_ic (-1) hX dX12_isSolution_172 (by decide) rfl ?_
      refine a_icmp_eq hX dX12_isSolution_173 rfl rfl ?_ ?_
      · refine a_inc2 1 hX dX12_isSolution_187 (by decide) rfl ?_
        refine a_goto hX dX12_isSolution_190 rfl ?_
        exact a_sub (ih (v2 + 1) (σ)) (ls_s (ls_n (ls_s ls_0)))
      · refine a_al0 hX dX12_isSolution_176 rfl ?_
        refine a_getR hX fl_X12_50 s_94 rfl dX12_isSolution_177 rfl ?_
        refine a_il2 hX dX12_isSolution_180 rfl ?_
        refine a_zld hX s_108 dX12_isSolution_181 rfl (fun x2 => ?_)
        refine a_if_ne hX dX12_isSolution_182 rfl rfl ?_ ?_
        · refine a_inc2 1 hX dX12_isSolution_187 (by decide) rfl ?_
          refine a_goto hX dX12_isSolution_190 rfl ?_
          exact a_sub (ih (v2 + 1) (σ)) (ls_s (ls_n (ls_s ls_0)))
        · refine a_ic 0 hX dX12_isSolution_185 (by decide) rfl ?_
          exact a_zret0 (by decide) hX hQ hr dX12_isSolution_186

set_option maxRecDepth 100000 in
set_option maxHeartbeats 2000000 in
theorem a_X12_isSolution_148 {X : AX} {r0 : Int32 × Mem} (hX : CX X cX12_isSolution 3 RX12) (hR : (aR X).frames = 2 ∧ (aR X).locals = 48 ∧ aCe X ≤ (aR X).cells ∧ aSl X ≤ (aR X).slots) (hQ : QI X r0) (hr : (aMeth X).sig.returnType = (some .boolean)) (f98 : Int32 → Mem → Option (Int32 × Mem)) (hf98 : ∀ (v1 : Int32) (σ : Mem), AWo X r0 98 [some (.ref 94), some (.int v1), none] [] σ (f98 v1 σ)) (f106 : Int32 → Int32 → Mem → Option (Int32 × Mem)) (hf106 : ∀ (v1 v2 : Int32) (σ : Mem), AWo X r0 106 [some (.ref 94), some (.int v1), some (.int v2)] [] σ (f106 v1 v2 σ)) (v2 s0 : Int32) (σ : Mem) : AWo X r0 148 [some (.ref 94), none, some (.int v2)] [.int s0] σ (m_X12_isSolution_148 f98 f106 v2 s0 σ) := by
  unfold m_X12_isSolution_148
  refine a_is1 hX dX12_isSolution_148 rfl ?_
  refine a_inc2 1 hX dX12_isSolution_149 (by decide) rfl ?_
  refine a_goto hX dX12_isSolution_152 rfl ?_
  exact a_sub (hf106 s0 (v2 + 1) (σ)) (ls_s (ls_s (ls_s ls_0)))

set_option maxRecDepth 100000 in
set_option maxHeartbeats 2000000 in
theorem a_X12_isSolution_139 {X : AX} {r0 : Int32 × Mem} (hX : CX X cX12_isSolution 3 RX12) (hR : (aR X).frames = 2 ∧ (aR X).locals = 48 ∧ aCe X ≤ (aR X).cells ∧ aSl X ≤ (aR X).slots) (hQ : QI X r0) (hr : (aMeth X).sig.returnType = (some .boolean)) (f98 : Int32 → Mem → Option (Int32 × Mem)) (hf98 : ∀ (v1 : Int32) (σ : Mem), AWo X r0 98 [some (.ref 94), some (.int v1), none] [] σ (f98 v1 σ)) (f106 : Int32 → Int32 → Mem → Option (Int32 × Mem)) (hf106 : ∀ (v1 v2 : Int32) (σ : Mem), AWo X r0 106 [some (.ref 94), some (.int v1), some (.int v2)] [] σ (f106 v1 v2 σ)) (v1 v2 : Int32) (σ : Mem) : AWo X r0 139 [some (.ref 94), some (.int v1), some (.int v2)] [] σ (m_X12_isSolution_139 f98 f106 v1 v2 σ) := by
  unfold m_X12_isSolution_139
  refine a_il1 hX dX12_isSolution_139 rfl ?_
  refine a_if_eq hX dX12_isSolution_140 rfl rfl ?_ ?_
  · refine a_ic 0 hX dX12_isSolution_147 (by decide) rfl ?_
    exact a_sub (a_X12_isSolution_148 hX hR hQ hr f98 hf98 f106 hf106 v2 0 (σ)) (ls_s (ls_n (ls_s ls_0)))
  · refine a_ic 1 hX dX12_isSolution_143 (by decide) rfl ?_
    refine a_goto hX dX12_isSolution_144 rfl ?_
    exact a_sub (a_X12_isSolution_148 hX hR hQ hr f98 hf98 f106 hf106 v2 1 (σ)) (ls_s (ls_n (ls_s ls_0)))

set_option maxRecDepth 100000 in
set_option maxHeartbeats 2000000 in
theorem a_X12_isSolution_106 {X : AX} {r0 : Int32 × Mem} (hX : CX X cX12_isSolution 3 RX12) (hR : (aR X).frames = 2 ∧ (aR X).locals = 48 ∧ aCe X ≤ (aR X).cells ∧ aSl X ≤ (aR X).slots) (hQ : QI X r0) (hr : (aMeth X).sig.returnType = (some .boolean)) (f98 : Int32 → Mem → Option (Int32 × Mem)) (hf98 : ∀ (v1 : Int32) (σ : Mem), AWo X r0 98 [some (.ref 94), some (.int v1), none] [] σ (f98 v1 σ)) : ∀ (fuel : Nat) (v1 v2 : Int32) (σ : Mem), AWo X r0 106 [some (.ref 94), some (.int v1), some (.int v2)] [] σ (m_X12_isSolution_106 f98 fuel v1 v2 σ) := by
  intro fuel
  induction fuel with
  | zero => intro v1 v2 σ; exact a_none
  | succ fuel ih =>
    intro v1 v2 σ
    show AWo X r0 106 [some (.ref 94), some (.int v1), some (.int v2)] [] σ (m_X12_isSolution_106 f98 (fuel + 1) v1 v2 σ)
    unfold m_X12_isSolution_106
    refine a_il2 hX dX12_isSolution_106 rfl ?_
    refine a_bi 6 hX dX12_isSolution_107 (by decide) rfl ?_
    refine a_icmp_ge hX dX12_isSolution_109 rfl rfl ?_ ?_
    · refine a_goto hX dX12_isSolution_155 rfl ?_
      exact a_sub (hf98 v1 (σ)) (ls_s (ls_s (ls_n ls_0)))
    · refine a_al0 hX dX12_isSolution_112 rfl ?_
      refine a_getR hX fl_X12_44 s_94 rfl dX12_isSolution_113 rfl ?_
      refine a_il2 hX dX12_isSolution_116 rfl ?_
      refine a_ald hX s_106 dX12_isSolution_117 rfl (fun x1 => ?_)
      refine a_ic (-1) hX dX12_isSolution_118 (by decide) rfl ?_
      refine a_icmp_eq hX dX12_isSolution_119 rfl rfl ?_ ?_
      · exact a_sub (a_X12_isSolution_139 hX hR hQ hr f98 hf98 (m_X12_isSolution_106 f98 fuel) ih v1 v2 (σ)) (ls_s (ls_s (ls_s ls_0)))
      · refine a_al0 hX dX12_isSolution_122 rfl ?_
        refine a_getR hX fl_X12_50 s_94 rfl dX12_isSolution_123 rfl ?_
        refine a_il2 hX dX12_isSolution_126 rfl ?_
        refine a_zld hX s_108 dX12_isSolution_127 rfl (fun x2 => ?_)
        refine a_if_eq hX dX12_isSolution_128 rfl rfl ?_ ?_
        · exact a_sub (a_X12_isSolution_139 hX hR hQ hr f98 hf98 (m_X12_isSolution_106 f98 fuel) ih v1 v2 (σ)) (ls_s (ls_s (ls_s ls_0)))
        · refine a_al0 hX dX12_isSolution_131 rfl ?_
          refine a_il2 hX dX12_isSolution_132 rfl ?_
          refine a_callI hX hR ml_X12_169 (ci_X12_pull _ _ _) s_94 rfl rfl rfl (by decide) (Nat.le_of_ble_eq_true rfl) rfl dX12_isSolution_133 rfl (fun x3 => ?_)
          refine a_if_ne hX dX12_isSolution_136 rfl rfl ?_ ?_
          · refine a_ic 1 hX dX12_isSolution_143 (by decide) rfl ?_
            refine a_goto hX dX12_isSolution_144 rfl ?_
            exact a_sub (a_X12_isSolution_148 hX hR hQ hr f98 hf98 (m_X12_isSolution_106 f98 fuel) ih v2 1 x3.2) (ls_s (ls_n (ls_s ls_0)))
          · exact a_sub (a_X12_isSolution_139 hX hR hQ hr f98 hf98 (m_X12_isSolution_106 f98 fuel) ih v1 v2 x3.2) (ls_s (ls_s (ls_s ls_0)))

set_option maxRecDepth 100000 in
set_option maxHeartbeats 2000000 in
theorem a_X12_isSolution_98 {X : AX} {r0 : Int32 × Mem} (hX : CX X cX12_isSolution 3 RX12) (hR : (aR X).frames = 2 ∧ (aR X).locals = 48 ∧ aCe X ≤ (aR X).cells ∧ aSl X ≤ (aR X).slots) (hQ : QI X r0) (hr : (aMeth X).sig.returnType = (some .boolean)) : ∀ (fuel : Nat) (v1 : Int32) (σ : Mem), AWo X r0 98 [some (.ref 94), some (.int v1), none] [] σ (m_X12_isSolution_98 fuel v1 σ) := by
  intro fuel
  induction fuel with
  | zero => intro v1 σ; exact a_none
  | succ fuel ih =>
    intro v1 σ
    show AWo X r0 98 [some (.ref 94), some (.int v1), none] [] σ (m_X12_isSolution_98 (fuel + 1) v1 σ)
    unfold m_X12_isSolution_98
    refine a_il1 hX dX12_isSolution_98 rfl ?_
    refine a_if_eq hX dX12_isSolution_99 rfl rfl ?_ ?_
    · refine a_ic 0 hX dX12_isSolution_158 (by decide) rfl ?_
      refine a_is2 hX dX12_isSolution_159 rfl ?_
      exact a_sub (a_X12_isSolution_160 hX hR hQ hr FU 0 (σ)) (ls_s (ls_n (ls_s ls_0)))
    · refine a_ic 0 hX dX12_isSolution_102 (by decide) rfl ?_
      refine a_is1 hX dX12_isSolution_103 rfl ?_
      refine a_ic 0 hX dX12_isSolution_104 (by decide) rfl ?_
      refine a_is2 hX dX12_isSolution_105 rfl ?_
      exact a_sub (a_X12_isSolution_106 hX hR hQ hr (m_X12_isSolution_98 fuel) ih FU 0 0 (σ)) (ls_s (ls_s (ls_s ls_0)))

set_option maxRecDepth 100000 in
set_option maxHeartbeats 2000000 in
theorem a_X12_isSolution_64 {X : AX} {r0 : Int32 × Mem} (hX : CX X cX12_isSolution 3 RX12) (hR : (aR X).frames = 2 ∧ (aR X).locals = 48 ∧ aCe X ≤ (aR X).cells ∧ aSl X ≤ (aR X).slots) (hQ : QI X r0) (hr : (aMeth X).sig.returnType = (some .boolean)) : ∀ (fuel : Nat) (v2 : Int32) (σ : Mem), AWo X r0 64 [some (.ref 94), none, some (.int v2)] [] σ (m_X12_isSolution_64 fuel v2 σ) := by
  intro fuel
  induction fuel with
  | zero => intro v2 σ; exact a_none
  | succ fuel ih =>
    intro v2 σ
    show AWo X r0 64 [some (.ref 94), none, some (.int v2)] [] σ (m_X12_isSolution_64 (fuel + 1) v2 σ)
    unfold m_X12_isSolution_64
    refine a_il2 hX dX12_isSolution_64 rfl ?_
    refine a_bi 6 hX dX12_isSolution_65 (by decide) rfl ?_
    refine a_icmp_ge hX dX12_isSolution_67 rfl rfl ?_ ?_
    · refine a_ic 1 hX dX12_isSolution_96 (by decide) rfl ?_
      refine a_is1 hX dX12_isSolution_97 rfl ?_
      exact a_sub (a_X12_isSolution_98 hX hR hQ hr FU 1 (σ)) (ls_s (ls_s (ls_n ls_0)))
    · refine a_al0 hX dX12_isSolution_70 rfl ?_
      refine a_getR hX fl_X12_44 s_94 rfl dX12_isSolution_71 rfl ?_
      refine a_il2 hX dX12_isSolution_74 rfl ?_
      refine a_ald hX s_106 dX12_isSolution_75 rfl (fun x1 => ?_)
      refine a_ic (-1) hX dX12_isSolution_76 (by decide) rfl ?_
      refine a_icmp_eq hX dX12_isSolution_77 rfl rfl ?_ ?_
      · refine a_inc2 1 hX dX12_isSolution_90 (by decide) rfl ?_
        refine a_goto hX dX12_isSolution_93 rfl ?_
        exact a_sub (ih (v2 + 1) (σ)) (ls_s (ls_n (ls_s ls_0)))
      · refine a_al0 hX dX12_isSolution_80 rfl ?_
        refine a_il2 hX dX12_isSolution_81 rfl ?_
        refine a_callI hX hR ml_X12_166 (ci_X12_areNeedsRight _ _ _) s_94 rfl rfl rfl (by decide) (Nat.le_of_ble_eq_true rfl) rfl dX12_isSolution_82 rfl (fun x2 => ?_)
        refine a_if_ne hX dX12_isSolution_85 rfl rfl ?_ ?_
        · refine a_inc2 1 hX dX12_isSolution_90 (by decide) rfl ?_
          refine a_goto hX dX12_isSolution_93 rfl ?_
          exact a_sub (ih (v2 + 1) x2.2) (ls_s (ls_n (ls_s ls_0)))
        · refine a_ic 0 hX dX12_isSolution_88 (by decide) rfl ?_
          exact a_zret0 (by decide) hX hQ hr dX12_isSolution_89

set_option maxRecDepth 100000 in
set_option maxHeartbeats 2000000 in
theorem a_X12_isSolution_52 {X : AX} {r0 : Int32 × Mem} (hX : CX X cX12_isSolution 3 RX12) (hR : (aR X).frames = 2 ∧ (aR X).locals = 48 ∧ aCe X ≤ (aR X).cells ∧ aSl X ≤ (aR X).slots) (hQ : QI X r0) (hr : (aMeth X).sig.returnType = (some .boolean)) (f11 : Int32 → Mem → Option (Int32 × Mem)) (hf11 : ∀ (v1 : Int32) (σ : Mem), AWo X r0 11 [some (.ref 94), some (.int v1), none] [] σ (f11 v1 σ)) (f19 : Int32 → Int32 → Mem → Option (Int32 × Mem)) (hf19 : ∀ (v1 v2 : Int32) (σ : Mem), AWo X r0 19 [some (.ref 94), some (.int v1), some (.int v2)] [] σ (f19 v1 v2 σ)) (v2 s0 : Int32) (σ : Mem) : AWo X r0 52 [some (.ref 94), none, some (.int v2)] [.int s0] σ (m_X12_isSolution_52 f11 f19 v2 s0 σ) := by
  unfold m_X12_isSolution_52
  refine a_is1 hX dX12_isSolution_52 rfl ?_
  refine a_inc2 1 hX dX12_isSolution_53 (by decide) rfl ?_
  refine a_goto hX dX12_isSolution_56 rfl ?_
  exact a_sub (hf19 s0 (v2 + 1) (σ)) (ls_s (ls_s (ls_s ls_0)))

set_option maxRecDepth 100000 in
set_option maxHeartbeats 2000000 in
theorem a_X12_isSolution_43 {X : AX} {r0 : Int32 × Mem} (hX : CX X cX12_isSolution 3 RX12) (hR : (aR X).frames = 2 ∧ (aR X).locals = 48 ∧ aCe X ≤ (aR X).cells ∧ aSl X ≤ (aR X).slots) (hQ : QI X r0) (hr : (aMeth X).sig.returnType = (some .boolean)) (f11 : Int32 → Mem → Option (Int32 × Mem)) (hf11 : ∀ (v1 : Int32) (σ : Mem), AWo X r0 11 [some (.ref 94), some (.int v1), none] [] σ (f11 v1 σ)) (f19 : Int32 → Int32 → Mem → Option (Int32 × Mem)) (hf19 : ∀ (v1 v2 : Int32) (σ : Mem), AWo X r0 19 [some (.ref 94), some (.int v1), some (.int v2)] [] σ (f19 v1 v2 σ)) (v1 v2 : Int32) (σ : Mem) : AWo X r0 43 [some (.ref 94), some (.int v1), some (.int v2)] [] σ (m_X12_isSolution_43 f11 f19 v1 v2 σ) := by
  unfold m_X12_isSolution_43
  refine a_il1 hX dX12_isSolution_43 rfl ?_
  refine a_if_eq hX dX12_isSolution_44 rfl rfl ?_ ?_
  · refine a_ic 0 hX dX12_isSolution_51 (by decide) rfl ?_
    exact a_sub (a_X12_isSolution_52 hX hR hQ hr f11 hf11 f19 hf19 v2 0 (σ)) (ls_s (ls_n (ls_s ls_0)))
  · refine a_ic 1 hX dX12_isSolution_47 (by decide) rfl ?_
    refine a_goto hX dX12_isSolution_48 rfl ?_
    exact a_sub (a_X12_isSolution_52 hX hR hQ hr f11 hf11 f19 hf19 v2 1 (σ)) (ls_s (ls_n (ls_s ls_0)))

set_option maxRecDepth 100000 in
set_option maxHeartbeats 2000000 in
theorem a_X12_isSolution_19 {X : AX} {r0 : Int32 × Mem} (hX : CX X cX12_isSolution 3 RX12) (hR : (aR X).frames = 2 ∧ (aR X).locals = 48 ∧ aCe X ≤ (aR X).cells ∧ aSl X ≤ (aR X).slots) (hQ : QI X r0) (hr : (aMeth X).sig.returnType = (some .boolean)) (f11 : Int32 → Mem → Option (Int32 × Mem)) (hf11 : ∀ (v1 : Int32) (σ : Mem), AWo X r0 11 [some (.ref 94), some (.int v1), none] [] σ (f11 v1 σ)) : ∀ (fuel : Nat) (v1 v2 : Int32) (σ : Mem), AWo X r0 19 [some (.ref 94), some (.int v1), some (.int v2)] [] σ (m_X12_isSolution_19 f11 fuel v1 v2 σ) := by
  intro fuel
  induction fuel with
  | zero => intro v1 v2 σ; exact a_none
  | succ fuel ih =>
    intro v1 v2 σ
    show AWo X r0 19 [some (.ref 94), some (.int v1), some (.int v2)] [] σ (m_X12_isSolution_19 f11 (fuel + 1) v1 v2 σ)
    unfold m_X12_isSolution_19
    refine a_il2 hX dX12_isSolution_19 rfl ?_
    refine a_bi 6 hX dX12_isSolution_20 (by decide) rfl ?_
    refine a_icmp_ge hX dX12_isSolution_22 rfl rfl ?_ ?_
    · refine a_goto hX dX12_isSolution_59 rfl ?_
      exact a_sub (hf11 v1 (σ)) (ls_s (ls_s (ls_n ls_0)))
    · refine a_al0 hX dX12_isSolution_25 rfl ?_
      refine a_getR hX fl_X12_44 s_94 rfl dX12_isSolution_26 rfl ?_
      refine a_il2 hX dX12_isSolution_29 rfl ?_
      refine a_ald hX s_106 dX12_isSolution_30 rfl (fun x1 => ?_)
      refine a_ic (-1) hX dX12_isSolution_31 (by decide) rfl ?_
      refine a_icmp_eq hX dX12_isSolution_32 rfl rfl ?_ ?_
      · exact a_sub (a_X12_isSolution_43 hX hR hQ hr f11 hf11 (m_X12_isSolution_19 f11 fuel) ih v1 v2 (σ)) (ls_s (ls_s (ls_s ls_0)))
      · refine a_al0 hX dX12_isSolution_35 rfl ?_
        refine a_il2 hX dX12_isSolution_36 rfl ?_
        refine a_callI hX hR ml_X12_163 (ci_X12_spread _ _ _) s_94 rfl rfl rfl (by decide) (Nat.le_of_ble_eq_true rfl) rfl dX12_isSolution_37 rfl (fun x2 => ?_)
        refine a_if_ne hX dX12_isSolution_40 rfl rfl ?_ ?_
        · refine a_ic 1 hX dX12_isSolution_47 (by decide) rfl ?_
          refine a_goto hX dX12_isSolution_48 rfl ?_
          exact a_sub (a_X12_isSolution_52 hX hR hQ hr f11 hf11 (m_X12_isSolution_19 f11 fuel) ih v2 1 x2.2) (ls_s (ls_n (ls_s ls_0)))
        · exact a_sub (a_X12_isSolution_43 hX hR hQ hr f11 hf11 (m_X12_isSolution_19 f11 fuel) ih v1 v2 x2.2) (ls_s (ls_s (ls_s ls_0)))

set_option maxRecDepth 100000 in
set_option maxHeartbeats 2000000 in
theorem a_X12_isSolution_11 {X : AX} {r0 : Int32 × Mem} (hX : CX X cX12_isSolution 3 RX12) (hR : (aR X).frames = 2 ∧ (aR X).locals = 48 ∧ aCe X ≤ (aR X).cells ∧ aSl X ≤ (aR X).slots) (hQ : QI X r0) (hr : (aMeth X).sig.returnType = (some .boolean)) : ∀ (fuel : Nat) (v1 : Int32) (σ : Mem), AWo X r0 11 [some (.ref 94), some (.int v1), none] [] σ (m_X12_isSolution_11 fuel v1 σ) := by
  intro fuel
  induction fuel with
  | zero => intro v1 σ; exact a_none
  | succ fuel ih =>
    intro v1 σ
    show AWo X r0 11 [some (.ref 94), some (.int v1), none] [] σ (m_X12_isSolution_11 (fuel + 1) v1 σ)
    unfold m_X12_isSolution_11
    refine a_il1 hX dX12_isSolution_11 rfl ?_
    refine a_if_eq hX dX12_isSolution_12 rfl rfl ?_ ?_
    · refine a_ic 0 hX dX12_isSolution_62 (by decide) rfl ?_
      refine a_is2 hX dX12_isSolution_63 rfl ?_
      exact a_sub (a_X12_isSolution_64 hX hR hQ hr FU 0 (σ)) (ls_s (ls_n (ls_s ls_0)))
    · refine a_ic 0 hX dX12_isSolution_15 (by decide) rfl ?_
      refine a_is1 hX dX12_isSolution_16 rfl ?_
      refine a_ic 0 hX dX12_isSolution_17 (by decide) rfl ?_
      refine a_is2 hX dX12_isSolution_18 rfl ?_
      exact a_sub (a_X12_isSolution_19 hX hR hQ hr (m_X12_isSolution_11 fuel) ih FU 0 0 (σ)) (ls_s (ls_s (ls_s ls_0)))

set_option maxRecDepth 100000 in
set_option maxHeartbeats 2000000 in
theorem a_X12_isSolution_0 {X : AX} {r0 : Int32 × Mem} (hX : CX X cX12_isSolution 3 RX12) (hR : (aR X).frames = 2 ∧ (aR X).locals = 48 ∧ aCe X ≤ (aR X).cells ∧ aSl X ≤ (aR X).slots) (hQ : QI X r0) (hr : (aMeth X).sig.returnType = (some .boolean)) (σ : Mem) : AWo X r0 0 [some (.ref 94), none, none] [] σ (m_X12_isSolution  σ) := by
  unfold m_X12_isSolution
  refine a_al0 hX dX12_isSolution_0 rfl ?_
  refine a_callI hX hR ml_X12_159 (ci_X12_areDemandsRight _ _) s_94 rfl rfl rfl (by decide) (Nat.le_of_ble_eq_true rfl) rfl dX12_isSolution_1 rfl (fun x1 => ?_)
  refine a_if_ne hX dX12_isSolution_4 rfl rfl ?_ ?_
  · refine a_ic 1 hX dX12_isSolution_9 (by decide) rfl ?_
    refine a_is1 hX dX12_isSolution_10 rfl ?_
    exact a_sub (a_X12_isSolution_11 hX hR hQ hr FU 1 x1.2) (ls_s (ls_s (ls_n ls_0)))
  · refine a_ic 0 hX dX12_isSolution_7 (by decide) rfl ?_
    exact a_zret0 (by decide) hX hQ hr dX12_isSolution_8

set_option maxRecDepth 100000 in
theorem ci_X12_isSolution (l : Launch) (σ : Mem) : CI l yX12_isSolution cX12_isSolution 3 (some .boolean) 2 48 [.ref 94] σ (m_X12_isSolution  σ) :=
  ci_of (by decide) (by simp [Value.category]) (by simp) (fun X r hl hX hR hQ hr => a_X12_isSolution_0 hX hR hQ hr σ)

set_option maxRecDepth 100000 in
set_option maxHeartbeats 2000000 in
theorem a_X12_isKept_0 {X : AX} {r0 : Int32 × Mem} (hX : CX X cX12_isKept 2 RX12) (hR : (aR X).frames = 0 ∧ (aR X).locals = 0 ∧ aCe X ≤ (aR X).cells ∧ aSl X ≤ (aR X).slots) (hQ : QI X r0) (hr : (aMeth X).sig.returnType = (some .boolean)) (v1 : Int32) (σ : Mem) : AWo X r0 0 [some (.ref 94), some (.int v1)] [] σ (m_X12_isKept v1 σ) := by
  unfold m_X12_isKept
  refine a_al0 hX dX12_isKept_0 rfl ?_
  refine a_getR hX fl_X12_35 s_94 rfl dX12_isKept_1 rfl ?_
  refine a_il1 hX dX12_isKept_4 rfl ?_
  refine a_ald hX s_103 dX12_isKept_5 rfl (fun x1 => ?_)
  refine a_ic (-1) hX dX12_isKept_6 (by decide) rfl ?_
  refine a_icmp_eq hX dX12_isKept_7 rfl rfl ?_ ?_
  · refine a_ic 0 hX dX12_isKept_25 (by decide) rfl ?_
    exact a_zret0 (by decide) hX hQ hr dX12_isKept_26
  · refine a_al0 hX dX12_isKept_10 rfl ?_
    refine a_getI hX fl_X12_172 s_94 rfl dX12_isKept_11 rfl ?_
    refine a_il1 hX dX12_isKept_14 rfl ?_
    refine a_ishr hX dX12_isKept_15 rfl ?_
    refine a_ic 1 hX dX12_isKept_16 (by decide) rfl ?_
    refine a_iand hX dX12_isKept_17 rfl ?_
    refine a_if_ne hX dX12_isKept_18 rfl rfl ?_ ?_
    · refine a_ic 0 hX dX12_isKept_25 (by decide) rfl ?_
      exact a_zret0 (by decide) hX hQ hr dX12_isKept_26
    · refine a_ic 1 hX dX12_isKept_21 (by decide) rfl ?_
      refine a_goto hX dX12_isKept_22 rfl ?_
      exact a_zret0 (by decide) hX hQ hr dX12_isKept_26

set_option maxRecDepth 100000 in
theorem ci_X12_isKept (l : Launch) (v1 : Int32) (σ : Mem) : CI l yX12_isKept cX12_isKept 2 (some .boolean) 0 0 [.ref 94, .int v1] σ (m_X12_isKept v1 σ) :=
  ci_of (by decide) (by simp [Value.category]) (by simp) (fun X r hl hX hR hQ hr => a_X12_isKept_0 hX hR hQ hr v1 σ)

set_option maxRecDepth 100000 in
set_option maxHeartbeats 2000000 in
theorem a_X12_changes_39 {X : AX} {r0 : Int32 × Mem} (hX : CX X cX12_changes 3 RX12) (hR : (aR X).frames = 1 ∧ (aR X).locals = 21 ∧ aCe X ≤ (aR X).cells ∧ aSl X ≤ (aR X).slots) (hQ : QI X r0) (hr : (aMeth X).sig.returnType = (some .int)) (f4 : Int32 → Int32 → Mem → Option (Int32 × Mem)) (hf4 : ∀ (v1 v2 : Int32) (σ : Mem), AWo X r0 4 [some (.ref 94), some (.int v1), some (.int v2)] [] σ (f4 v1 v2 σ)) (v2 s0 s1 : Int32) (σ : Mem) : AWo X r0 39 [some (.ref 94), none, some (.int v2)] [.int s1, .int s0] σ (m_X12_changes_39 f4 v2 s0 s1 σ) := by
  unfold m_X12_changes_39
  refine a_iadd hX dX12_changes_39 rfl ?_
  refine a_name (fun y1 => ?_)
  refine a_is1 hX dX12_changes_40 rfl ?_
  refine a_inc2 1 hX dX12_changes_41 (by decide) rfl ?_
  refine a_goto hX dX12_changes_44 rfl ?_
  exact a_sub (hf4 y1 (v2 + 1) (σ)) (ls_s (ls_s (ls_s ls_0)))

set_option maxRecDepth 100000 in
set_option maxHeartbeats 2000000 in
theorem a_X12_changes_38 {X : AX} {r0 : Int32 × Mem} (hX : CX X cX12_changes 3 RX12) (hR : (aR X).frames = 1 ∧ (aR X).locals = 21 ∧ aCe X ≤ (aR X).cells ∧ aSl X ≤ (aR X).slots) (hQ : QI X r0) (hr : (aMeth X).sig.returnType = (some .int)) (f4 : Int32 → Int32 → Mem → Option (Int32 × Mem)) (hf4 : ∀ (v1 v2 : Int32) (σ : Mem), AWo X r0 4 [some (.ref 94), some (.int v1), some (.int v2)] [] σ (f4 v1 v2 σ)) (v2 s0 : Int32) (σ : Mem) : AWo X r0 38 [some (.ref 94), none, some (.int v2)] [.int s0] σ (m_X12_changes_38 f4 v2 s0 σ) := by
  unfold m_X12_changes_38
  refine a_ic 0 hX dX12_changes_38 (by decide) rfl ?_
  exact a_sub (a_X12_changes_39 hX hR hQ hr f4 hf4 v2 s0 0 (σ)) (ls_s (ls_n (ls_s ls_0)))

set_option maxRecDepth 100000 in
set_option maxHeartbeats 2000000 in
theorem a_X12_changes_4 {X : AX} {r0 : Int32 × Mem} (hX : CX X cX12_changes 3 RX12) (hR : (aR X).frames = 1 ∧ (aR X).locals = 21 ∧ aCe X ≤ (aR X).cells ∧ aSl X ≤ (aR X).slots) (hQ : QI X r0) (hr : (aMeth X).sig.returnType = (some .int)) : ∀ (fuel : Nat) (v1 v2 : Int32) (σ : Mem), AWo X r0 4 [some (.ref 94), some (.int v1), some (.int v2)] [] σ (m_X12_changes_4 fuel v1 v2 σ) := by
  intro fuel
  induction fuel with
  | zero => intro v1 v2 σ; exact a_none
  | succ fuel ih =>
    intro v1 v2 σ
    show AWo X r0 4 [some (.ref 94), some (.int v1), some (.int v2)] [] σ (m_X12_changes_4 (fuel + 1) v1 v2 σ)
    unfold m_X12_changes_4
    refine a_il2 hX dX12_changes_4 rfl ?_
    refine a_bi 6 hX dX12_changes_5 (by decide) rfl ?_
    refine a_icmp_ge hX dX12_changes_7 rfl rfl ?_ ?_
    · refine a_il1 hX dX12_changes_47 rfl ?_
      exact a_iret hX hQ hr dX12_changes_48
    · refine a_il1 hX dX12_changes_10 rfl ?_
      refine a_al0 hX dX12_changes_11 rfl ?_
      refine a_il2 hX dX12_changes_12 rfl ?_
      refine a_callI hX hR ml_X12_175 (ci_X12_isKept _ _ _) s_94 rfl rfl rfl (by decide) (Nat.le_of_ble_eq_true rfl) rfl dX12_changes_13 rfl (fun x1 => ?_)
      refine a_if_eq hX dX12_changes_16 rfl rfl ?_ ?_
      · exact a_sub (a_X12_changes_38 hX hR hQ hr (m_X12_changes_4 fuel) ih v2 v1 x1.2) (ls_s (ls_n (ls_s ls_0)))
      · refine a_al0 hX dX12_changes_19 rfl ?_
        refine a_getR hX fl_X12_44 s_94 rfl dX12_changes_20 rfl ?_
        refine a_il2 hX dX12_changes_23 rfl ?_
        refine a_ald hX s_106 dX12_changes_24 rfl (fun x2 => ?_)
        refine a_al0 hX dX12_changes_25 rfl ?_
        refine a_getR hX fl_X12_35 s_94 rfl dX12_changes_26 rfl ?_
        refine a_il2 hX dX12_changes_29 rfl ?_
        refine a_ald hX s_103 dX12_changes_30 rfl (fun x3 => ?_)
        refine a_icmp_eq hX dX12_changes_31 rfl rfl ?_ ?_
        · exact a_sub (a_X12_changes_38 hX hR hQ hr (m_X12_changes_4 fuel) ih v2 v1 x1.2) (ls_s (ls_n (ls_s ls_0)))
        · refine a_ic 1 hX dX12_changes_34 (by decide) rfl ?_
          refine a_goto hX dX12_changes_35 rfl ?_
          exact a_sub (a_X12_changes_39 hX hR hQ hr (m_X12_changes_4 fuel) ih v2 v1 1 x1.2) (ls_s (ls_n (ls_s ls_0)))

set_option maxRecDepth 100000 in
set_option maxHeartbeats 2000000 in
theorem a_X12_changes_0 {X : AX} {r0 : Int32 × Mem} (hX : CX X cX12_changes 3 RX12) (hR : (aR X).frames = 1 ∧ (aR X).locals = 21 ∧ aCe X ≤ (aR X).cells ∧ aSl X ≤ (aR X).slots) (hQ : QI X r0) (hr : (aMeth X).sig.returnType = (some .int)) (σ : Mem) : AWo X r0 0 [some (.ref 94), none, none] [] σ (m_X12_changes  σ) := by
  unfold m_X12_changes
  refine a_ic 0 hX dX12_changes_0 (by decide) rfl ?_
  refine a_is1 hX dX12_changes_1 rfl ?_
  refine a_ic 0 hX dX12_changes_2 (by decide) rfl ?_
  refine a_is2 hX dX12_changes_3 rfl ?_
  exact a_sub (a_X12_changes_4 hX hR hQ hr FU 0 0 (σ)) (ls_s (ls_s (ls_s ls_0)))

set_option maxRecDepth 100000 in
theorem ci_X12_changes (l : Launch) (σ : Mem) : CI l yX12_changes cX12_changes 3 (some .int) 1 21 [.ref 94] σ (m_X12_changes  σ) :=
  ci_of (by decide) (by simp [Value.category]) (by simp) (fun X r hl hX hR hQ hr => a_X12_changes_0 hX hR hQ hr σ)

set_option maxRecDepth 100000 in
set_option maxHeartbeats 2000000 in
theorem a_X12_isWished_57 {X : AX} {r0 : Int32 × Mem} (hX : CX X cX12_isWished 4 RX12) (hR : (aR X).frames = 2 ∧ (aR X).locals = 50 ∧ aCe X ≤ (aR X).cells ∧ aSl X ≤ (aR X).slots) (hQ : QI X r0) (hr : (aMeth X).sig.returnType = (some .boolean)) (v2 v3 : Int32) (σ : Mem) : AWo X r0 57 [some (.ref 94), none, some (.int v2), some (.int v3)] [] σ (m_X12_isWished_57 v2 v3 σ) := by
  unfold m_X12_isWished_57
  refine a_il3 hX dX12_isWished_57 rfl ?_
  refine a_ic (-1) hX dX12_isWished_58 (by decide) rfl ?_
  refine a_icmp_eq hX dX12_isWished_59 rfl rfl ?_ ?_
  · refine a_ic 1 hX dX12_isWished_76 (by decide) rfl ?_
    refine a_goto hX dX12_isWished_77 rfl ?_
    exact a_zret0 (by decide) hX hQ hr dX12_isWished_81
  · refine a_il2 hX dX12_isWished_62 rfl ?_
    refine a_ic (-1) hX dX12_isWished_63 (by decide) rfl ?_
    refine a_icmp_eq hX dX12_isWished_64 rfl rfl ?_ ?_
    · refine a_ic 0 hX dX12_isWished_80 (by decide) rfl ?_
      exact a_zret0 (by decide) hX hQ hr dX12_isWished_81
    · refine a_al0 hX dX12_isWished_67 rfl ?_
      refine a_il2 hX dX12_isWished_68 rfl ?_
      refine a_il3 hX dX12_isWished_69 rfl ?_
      refine a_callI hX hR ml_X12_111 (ci_X12_compared _ _ _ _) s_94 rfl rfl rfl (by decide) (Nat.le_of_ble_eq_true rfl) rfl dX12_isWished_70 rfl (fun x1 => ?_)
      refine a_if_le hX dX12_isWished_73 rfl rfl ?_ ?_
      · refine a_ic 0 hX dX12_isWished_80 (by decide) rfl ?_
        exact a_zret0 (by decide) hX hQ hr dX12_isWished_81
      · refine a_ic 1 hX dX12_isWished_76 (by decide) rfl ?_
        refine a_goto hX dX12_isWished_77 rfl ?_
        exact a_zret0 (by decide) hX hQ hr dX12_isWished_81

set_option maxRecDepth 100000 in
set_option maxHeartbeats 2000000 in
theorem a_X12_isWished_38 {X : AX} {r0 : Int32 × Mem} (hX : CX X cX12_isWished 4 RX12) (hR : (aR X).frames = 2 ∧ (aR X).locals = 50 ∧ aCe X ≤ (aR X).cells ∧ aSl X ≤ (aR X).slots) (hQ : QI X r0) (hr : (aMeth X).sig.returnType = (some .boolean)) (v1 v2 v3 s0 s1 : Int32) (σ : Mem) : AWo X r0 38 [some (.ref 94), some (.int v1), some (.int v2), some (.int v3)] [.int s1, .int s0] σ (m_X12_isWished_38 v1 v2 v3 s0 s1 σ) := by
  unfold m_X12_isWished_38
  refine a_icmp_eq hX dX12_isWished_38 rfl rfl ?_ ?_
  · exact a_sub (a_X12_isWished_57 hX hR hQ hr v2 v3 (σ)) (ls_s (ls_n (ls_s (ls_s ls_0))))
  · refine a_il2 hX dX12_isWished_41 rfl ?_
    refine a_al0 hX dX12_isWished_42 rfl ?_
    refine a_getR hX fl_X12_35 s_94 rfl dX12_isWished_43 rfl ?_
    refine a_il1 hX dX12_isWished_46 rfl ?_
    refine a_ald hX s_103 dX12_isWished_47 rfl (fun x1 => ?_)
    refine a_icmp_ne hX dX12_isWished_48 rfl rfl ?_ ?_
    · refine a_ic 0 hX dX12_isWished_55 (by decide) rfl ?_
      exact a_zret0 (by decide) hX hQ hr dX12_isWished_56
    · refine a_ic 1 hX dX12_isWished_51 (by decide) rfl ?_
      refine a_goto hX dX12_isWished_52 rfl ?_
      exact a_zret0 (by decide) hX hQ hr dX12_isWished_56

set_option maxRecDepth 100000 in
set_option maxHeartbeats 2000000 in
theorem a_X12_isWished_23 {X : AX} {r0 : Int32 × Mem} (hX : CX X cX12_isWished 4 RX12) (hR : (aR X).frames = 2 ∧ (aR X).locals = 50 ∧ aCe X ≤ (aR X).cells ∧ aSl X ≤ (aR X).slots) (hQ : QI X r0) (hr : (aMeth X).sig.returnType = (some .boolean)) (v1 v2 v3 s0 : Int32) (σ : Mem) : AWo X r0 23 [some (.ref 94), some (.int v1), some (.int v2), some (.int v3)] [.int s0] σ (m_X12_isWished_23 v1 v2 v3 s0 σ) := by
  unfold m_X12_isWished_23
  refine a_il3 hX dX12_isWished_23 rfl ?_
  refine a_al0 hX dX12_isWished_24 rfl ?_
  refine a_getR hX fl_X12_35 s_94 rfl dX12_isWished_25 rfl ?_
  refine a_il1 hX dX12_isWished_28 rfl ?_
  refine a_ald hX s_103 dX12_isWished_29 rfl (fun x1 => ?_)
  refine a_icmp_ne hX dX12_isWished_30 rfl rfl ?_ ?_
  · refine a_ic 0 hX dX12_isWished_37 (by decide) rfl ?_
    exact a_sub (a_X12_isWished_38 hX hR hQ hr v1 v2 v3 s0 0 (σ)) (ls_s (ls_s (ls_s (ls_s ls_0))))
  · refine a_ic 1 hX dX12_isWished_33 (by decide) rfl ?_
    refine a_goto hX dX12_isWished_34 rfl ?_
    exact a_sub (a_X12_isWished_38 hX hR hQ hr v1 v2 v3 s0 1 (σ)) (ls_s (ls_s (ls_s (ls_s ls_0))))

set_option maxRecDepth 100000 in
set_option maxHeartbeats 2000000 in
theorem a_X12_isWished_0 {X : AX} {r0 : Int32 × Mem} (hX : CX X cX12_isWished 4 RX12) (hR : (aR X).frames = 2 ∧ (aR X).locals = 50 ∧ aCe X ≤ (aR X).cells ∧ aSl X ≤ (aR X).slots) (hQ : QI X r0) (hr : (aMeth X).sig.returnType = (some .boolean)) (v1 v2 v3 : Int32) (σ : Mem) : AWo X r0 0 [some (.ref 94), some (.int v1), some (.int v2), some (.int v3)] [] σ (m_X12_isWished v1 v2 v3 σ) := by
  unfold m_X12_isWished
  refine a_al0 hX dX12_isWished_0 rfl ?_
  refine a_il1 hX dX12_isWished_1 rfl ?_
  refine a_callI hX hR ml_X12_175 (ci_X12_isKept _ _ _) s_94 rfl rfl rfl (by decide) (Nat.le_of_ble_eq_true rfl) rfl dX12_isWished_2 rfl (fun x1 => ?_)
  refine a_if_eq hX dX12_isWished_5 rfl rfl ?_ ?_
  · exact a_sub (a_X12_isWished_57 hX hR hQ hr v2 v3 x1.2) (ls_s (ls_n (ls_s (ls_s ls_0))))
  · refine a_il2 hX dX12_isWished_8 rfl ?_
    refine a_al0 hX dX12_isWished_9 rfl ?_
    refine a_getR hX fl_X12_35 s_94 rfl dX12_isWished_10 rfl ?_
    refine a_il1 hX dX12_isWished_13 rfl ?_
    refine a_ald hX s_103 dX12_isWished_14 rfl (fun x2 => ?_)
    refine a_icmp_ne hX dX12_isWished_15 rfl rfl ?_ ?_
    · refine a_ic 0 hX dX12_isWished_22 (by decide) rfl ?_
      exact a_sub (a_X12_isWished_23 hX hR hQ hr v1 v2 v3 0 x1.2) (ls_s (ls_s (ls_s (ls_s ls_0))))
    · refine a_ic 1 hX dX12_isWished_18 (by decide) rfl ?_
      refine a_goto hX dX12_isWished_19 rfl ?_
      exact a_sub (a_X12_isWished_23 hX hR hQ hr v1 v2 v3 1 x1.2) (ls_s (ls_s (ls_s (ls_s ls_0))))

set_option maxRecDepth 100000 in
theorem ci_X12_isWished (l : Launch) (v1 v2 v3 : Int32) (σ : Mem) : CI l yX12_isWished cX12_isWished 4 (some .boolean) 2 50 [.ref 94, .int v1, .int v2, .int v3] σ (m_X12_isWished v1 v2 v3 σ) :=
  ci_of (by decide) (by simp [Value.category]) (by simp) (fun X r hl hX hR hQ hr => a_X12_isWished_0 hX hR hQ hr v1 v2 v3 σ)

set_option maxRecDepth 100000 in
set_option maxHeartbeats 2000000 in
theorem a_X12_goesAhead_43 {X : AX} {r0 : Int32 × Mem} (hX : CX X cX12_goesAhead 3 RX12) (hR : (aR X).frames = 3 ∧ (aR X).locals = 73 ∧ aCe X ≤ (aR X).cells ∧ aSl X ≤ (aR X).slots) (hQ : QI X r0) (hr : (aMeth X).sig.returnType = (some .boolean)) : ∀ (fuel : Nat) (v2 : Int32) (σ : Mem), AWo X r0 43 [some (.ref 94), none, some (.int v2)] [] σ (m_X12_goesAhead_43 fuel v2 σ) := by
  intro fuel
  induction fuel with
  | zero => intro v2 σ; exact a_none
  | succ fuel ih =>
    intro v2 σ
    show AWo X r0 43 [some (.ref 94), none, some (.int v2)] [] σ (m_X12_goesAhead_43 (fuel + 1) v2 σ)
    unfold m_X12_goesAhead_43
    refine a_il2 hX dX12_goesAhead_43 rfl ?_
    refine a_bi 6 hX dX12_goesAhead_44 (by decide) rfl ?_
    refine a_icmp_ge hX dX12_goesAhead_46 rfl rfl ?_ ?_
    · refine a_ic 0 hX dX12_goesAhead_88 (by decide) rfl ?_
      exact a_zret0 (by decide) hX hQ hr dX12_goesAhead_89
    · refine a_al0 hX dX12_goesAhead_49 rfl ?_
      refine a_getR hX fl_X12_44 s_94 rfl dX12_goesAhead_50 rfl ?_
      refine a_il2 hX dX12_goesAhead_53 rfl ?_
      refine a_ald hX s_106 dX12_goesAhead_54 rfl (fun x1 => ?_)
      refine a_al0 hX dX12_goesAhead_55 rfl ?_
      refine a_getR hX fl_X12_66 s_94 rfl dX12_goesAhead_56 rfl ?_
      refine a_il2 hX dX12_goesAhead_59 rfl ?_
      refine a_ald hX s_112 dX12_goesAhead_60 rfl (fun x2 => ?_)
      refine a_icmp_eq hX dX12_goesAhead_61 rfl rfl ?_ ?_
      · refine a_inc2 1 hX dX12_goesAhead_82 (by decide) rfl ?_
        refine a_goto hX dX12_goesAhead_85 rfl ?_
        exact a_sub (ih (v2 + 1) (σ)) (ls_s (ls_n (ls_s ls_0)))
      · refine a_al0 hX dX12_goesAhead_64 rfl ?_
        refine a_il2 hX dX12_goesAhead_65 rfl ?_
        refine a_al0 hX dX12_goesAhead_66 rfl ?_
        refine a_getR hX fl_X12_44 s_94 rfl dX12_goesAhead_67 rfl ?_
        refine a_il2 hX dX12_goesAhead_70 rfl ?_
        refine a_ald hX s_106 dX12_goesAhead_71 rfl (fun x3 => ?_)
        refine a_al0 hX dX12_goesAhead_72 rfl ?_
        refine a_getR hX fl_X12_66 s_94 rfl dX12_goesAhead_73 rfl ?_
        refine a_il2 hX dX12_goesAhead_76 rfl ?_
        refine a_ald hX s_112 dX12_goesAhead_77 rfl (fun x4 => ?_)
        refine a_callI hX hR ml_X12_187 (ci_X12_isWished _ _ _ _ _) s_94 rfl rfl rfl (by decide) (Nat.le_of_ble_eq_true rfl) rfl dX12_goesAhead_78 rfl (fun x5 => ?_)
        exact a_zret hX hQ hr dX12_goesAhead_81

set_option maxRecDepth 100000 in
set_option maxHeartbeats 2000000 in
theorem a_X12_goesAhead_20 {X : AX} {r0 : Int32 × Mem} (hX : CX X cX12_goesAhead 3 RX12) (hR : (aR X).frames = 3 ∧ (aR X).locals = 73 ∧ aCe X ≤ (aR X).cells ∧ aSl X ≤ (aR X).slots) (hQ : QI X r0) (hr : (aMeth X).sig.returnType = (some .boolean)) (v1 : Int32) (σ : Mem) : AWo X r0 20 [some (.ref 94), some (.int v1), none] [] σ (m_X12_goesAhead_20 v1 σ) := by
  unfold m_X12_goesAhead_20
  refine a_al0 hX dX12_goesAhead_20 rfl ?_
  refine a_getI hX fl_X12_181 s_94 rfl dX12_goesAhead_21 rfl ?_
  refine a_if_eq hX dX12_goesAhead_24 rfl rfl ?_ ?_
  · refine a_ic 1 hX dX12_goesAhead_35 (by decide) rfl ?_
    refine a_goto hX dX12_goesAhead_36 rfl ?_
    exact a_zret0 (by decide) hX hQ hr dX12_goesAhead_40
  · refine a_il1 hX dX12_goesAhead_27 rfl ?_
    refine a_al0 hX dX12_goesAhead_28 rfl ?_
    refine a_getI hX fl_X12_184 s_94 rfl dX12_goesAhead_29 rfl ?_
    refine a_icmp_ge hX dX12_goesAhead_32 rfl rfl ?_ ?_
    · refine a_ic 0 hX dX12_goesAhead_39 (by decide) rfl ?_
      exact a_zret0 (by decide) hX hQ hr dX12_goesAhead_40
    · refine a_ic 1 hX dX12_goesAhead_35 (by decide) rfl ?_
      refine a_goto hX dX12_goesAhead_36 rfl ?_
      exact a_zret0 (by decide) hX hQ hr dX12_goesAhead_40

set_option maxRecDepth 100000 in
set_option maxHeartbeats 2000000 in
theorem a_X12_goesAhead_0 {X : AX} {r0 : Int32 × Mem} (hX : CX X cX12_goesAhead 3 RX12) (hR : (aR X).frames = 3 ∧ (aR X).locals = 73 ∧ aCe X ≤ (aR X).cells ∧ aSl X ≤ (aR X).slots) (hQ : QI X r0) (hr : (aMeth X).sig.returnType = (some .boolean)) (σ : Mem) : AWo X r0 0 [some (.ref 94), none, none] [] σ (m_X12_goesAhead  σ) := by
  unfold m_X12_goesAhead
  refine a_al0 hX dX12_goesAhead_0 rfl ?_
  refine a_callI hX hR ml_X12_178 (ci_X12_changes _ _) s_94 rfl rfl rfl (by decide) (Nat.le_of_ble_eq_true rfl) rfl dX12_goesAhead_1 rfl (fun x1 => ?_)
  refine a_is1 hX dX12_goesAhead_4 rfl ?_
  refine a_al0 hX dX12_goesAhead_5 rfl ?_
  refine a_getI hX fl_X12_181 s_94 rfl dX12_goesAhead_6 rfl ?_
  refine a_if_eq hX dX12_goesAhead_9 rfl rfl ?_ ?_
  · exact a_sub (a_X12_goesAhead_20 hX hR hQ hr x1.1 x1.2) (ls_s (ls_s (ls_n ls_0)))
  · refine a_il1 hX dX12_goesAhead_12 rfl ?_
    refine a_al0 hX dX12_goesAhead_13 rfl ?_
    refine a_getI hX fl_X12_184 s_94 rfl dX12_goesAhead_14 rfl ?_
    refine a_icmp_eq hX dX12_goesAhead_17 rfl rfl ?_ ?_
    · refine a_ic 0 hX dX12_goesAhead_41 (by decide) rfl ?_
      refine a_is2 hX dX12_goesAhead_42 rfl ?_
      exact a_sub (a_X12_goesAhead_43 hX hR hQ hr FU 0 x1.2) (ls_s (ls_n (ls_s ls_0)))
    · exact a_sub (a_X12_goesAhead_20 hX hR hQ hr x1.1 x1.2) (ls_s (ls_s (ls_n ls_0)))

set_option maxRecDepth 100000 in
theorem ci_X12_goesAhead (l : Launch) (σ : Mem) : CI l yX12_goesAhead cX12_goesAhead 3 (some .boolean) 3 73 [.ref 94] σ (m_X12_goesAhead  σ) :=
  ci_of (by decide) (by simp [Value.category]) (by simp) (fun X r hl hX hR hQ hr => a_X12_goesAhead_0 hX hR hQ hr σ)

