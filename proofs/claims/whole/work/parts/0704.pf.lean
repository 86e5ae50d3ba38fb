set_option maxRecDepth 100000 in
set_option maxHeartbeats 2000000 in
theorem a_X12_compare_49 {X : AX} {r0 : Int32 × Mem} (hX : CX X cX12_compare 5 RX12) (hR : (aR X).frames = 2 ∧ (aR X).locals = 50 ∧ aCe X ≤ (aR X).cells ∧ aSl X ≤ (aR X).slots) (hQ : QI X r0) (hr : (aMeth X).sig.returnType = (some .int)) (v1 v2 s1 : Int32) (σ : Mem) : AWo X r0 49 [some (.ref 94), some (.int v1), some (.int v2), none, none] [.int s1, .ref 94] σ (m_X12_compare_49 v1 v2 s1 σ) := by
  unfold m_X12_compare_49
  refine a_callI hX hR ml_X12_101 (ci_X12_goesWell _ _ _) s_94 rfl rfl rfl (by decide) (Nat.le_of_ble_eq_true rfl) rfl dX12_compare_49 rfl (fun x1 => ?_)
  refine a_if_ne hX dX12_compare_52 rfl rfl ?_ ?_
  · refine a_al0 hX dX12_compare_57 rfl ?_
    refine a_il1 hX dX12_compare_58 rfl ?_
    refine a_il2 hX dX12_compare_59 rfl ?_
    refine a_callI hX hR ml_X12_111 (ci_X12_compared _ _ _ _) s_94 rfl rfl rfl (by decide) (Nat.le_of_ble_eq_true rfl) rfl dX12_compare_60 rfl (fun x2 => ?_)
    refine a_is4 hX dX12_compare_63 rfl ?_
    refine a_il4 hX dX12_compare_65 rfl ?_
    refine a_if_le hX dX12_compare_67 rfl rfl ?_ ?_
    · refine a_il4 hX dX12_compare_74 rfl ?_
      refine a_if_ge hX dX12_compare_76 rfl rfl ?_ ?_
      · refine a_ic 0 hX dX12_compare_83 (by decide) rfl ?_
        exact a_iret hX hQ hr dX12_compare_84
      · refine a_ic (-1) hX dX12_compare_79 (by decide) rfl ?_
        refine a_goto hX dX12_compare_80 rfl ?_
        exact a_iret hX hQ hr dX12_compare_84
    · refine a_ic 1 hX dX12_compare_70 (by decide) rfl ?_
      refine a_goto hX dX12_compare_71 rfl ?_
      exact a_iret hX hQ hr dX12_compare_84
  · refine a_ic 0 hX dX12_compare_55 (by decide) rfl ?_
    exact a_iret hX hQ hr dX12_compare_56

set_option maxRecDepth 100000 in
set_option maxHeartbeats 2000000 in
theorem a_X12_compare_21 {X : AX} {r0 : Int32 × Mem} (hX : CX X cX12_compare 5 RX12) (hR : (aR X).frames = 2 ∧ (aR X).locals = 50 ∧ aCe X ≤ (aR X).cells ∧ aSl X ≤ (aR X).slots) (hQ : QI X r0) (hr : (aMeth X).sig.returnType = (some .int)) (v1 v2 s0 : Int32) (σ : Mem) : AWo X r0 21 [some (.ref 94), some (.int v1), some (.int v2), none, none] [.int s0] σ (m_X12_compare_21 v1 v2 s0 σ) := by
  unfold m_X12_compare_21
  refine a_is3 hX dX12_compare_21 rfl ?_
  refine a_al0 hX dX12_compare_22 rfl ?_
  refine a_il3 hX dX12_compare_23 rfl ?_
  refine a_if_ne hX dX12_compare_24 rfl rfl ?_ ?_
  · refine a_al0 hX dX12_compare_31 rfl ?_
    refine a_il1 hX dX12_compare_32 rfl ?_
    refine a_callI hX hR ml_X12_97 (ci_X12_packageOf _ _ _) s_94 rfl rfl rfl (by decide) (Nat.le_of_ble_eq_true rfl) rfl dX12_compare_33 rfl (fun x1 => ?_)
    refine a_al0 hX dX12_compare_36 rfl ?_
    refine a_il2 hX dX12_compare_37 rfl ?_
    refine a_callI hX hR ml_X12_97 (ci_X12_packageOf _ _ _) s_94 rfl rfl rfl (by decide) (Nat.le_of_ble_eq_true rfl) rfl dX12_compare_38 rfl (fun x2 => ?_)
    refine a_icmp_eq hX dX12_compare_41 rfl rfl ?_ ?_
    · refine a_ic 0 hX dX12_compare_48 (by decide) rfl ?_
      exact a_sub (a_X12_compare_49 hX hR hQ hr v1 v2 0 x2.2) (ls_s (ls_s (ls_s (ls_n (ls_n ls_0)))))
    · refine a_ic 2 hX dX12_compare_44 (by decide) rfl ?_
      refine a_goto hX dX12_compare_45 rfl ?_
      exact a_sub (a_X12_compare_49 hX hR hQ hr v1 v2 2 x2.2) (ls_s (ls_s (ls_s (ls_n (ls_n ls_0)))))
  · refine a_ic 1 hX dX12_compare_27 (by decide) rfl ?_
    refine a_goto hX dX12_compare_28 rfl ?_
    exact a_sub (a_X12_compare_49 hX hR hQ hr v1 v2 1 (σ)) (ls_s (ls_s (ls_s (ls_n (ls_n ls_0)))))

set_option maxRecDepth 100000 in
set_option maxHeartbeats 2000000 in
theorem a_X12_compare_20 {X : AX} {r0 : Int32 × Mem} (hX : CX X cX12_compare 5 RX12) (hR : (aR X).frames = 2 ∧ (aR X).locals = 50 ∧ aCe X ≤ (aR X).cells ∧ aSl X ≤ (aR X).slots) (hQ : QI X r0) (hr : (aMeth X).sig.returnType = (some .int)) (v1 v2 : Int32) (σ : Mem) : AWo X r0 20 [some (.ref 94), some (.int v1), some (.int v2), none, none] [] σ (m_X12_compare_20 v1 v2 σ) := by
  unfold m_X12_compare_20
  refine a_ic 0 hX dX12_compare_20 (by decide) rfl ?_
  exact a_sub (a_X12_compare_21 hX hR hQ hr v1 v2 0 (σ)) (ls_s (ls_s (ls_s (ls_n (ls_n ls_0)))))

set_option maxRecDepth 100000 in
set_option maxHeartbeats 2000000 in
theorem a_X12_compare_0 {X : AX} {r0 : Int32 × Mem} (hX : CX X cX12_compare 5 RX12) (hR : (aR X).frames = 2 ∧ (aR X).locals = 50 ∧ aCe X ≤ (aR X).cells ∧ aSl X ≤ (aR X).slots) (hQ : QI X r0) (hr : (aMeth X).sig.returnType = (some .int)) (v1 v2 : Int32) (σ : Mem) : AWo X r0 0 [some (.ref 94), some (.int v1), some (.int v2), none, none] [] σ (m_X12_compare v1 v2 σ) := by
  unfold m_X12_compare
  refine a_al0 hX dX12_compare_0 rfl ?_
  refine a_il1 hX dX12_compare_1 rfl ?_
  refine a_callI hX hR ml_X12_108 (ci_X12_isVersion _ _ _) s_94 rfl rfl rfl (by decide) (Nat.le_of_ble_eq_true rfl) rfl dX12_compare_2 rfl (fun x1 => ?_)
  refine a_if_eq hX dX12_compare_5 rfl rfl ?_ ?_
  · exact a_sub (a_X12_compare_20 hX hR hQ hr v1 v2 x1.2) (ls_s (ls_s (ls_s (ls_n (ls_n ls_0)))))
  · refine a_al0 hX dX12_compare_8 rfl ?_
    refine a_il2 hX dX12_compare_9 rfl ?_
    refine a_callI hX hR ml_X12_108 (ci_X12_isVersion _ _ _) s_94 rfl rfl rfl (by decide) (Nat.le_of_ble_eq_true rfl) rfl dX12_compare_10 rfl (fun x2 => ?_)
    refine a_if_eq hX dX12_compare_13 rfl rfl ?_ ?_
    · exact a_sub (a_X12_compare_20 hX hR hQ hr v1 v2 x2.2) (ls_s (ls_s (ls_s (ls_n (ls_n ls_0)))))
    · refine a_ic 1 hX dX12_compare_16 (by decide) rfl ?_
      refine a_goto hX dX12_compare_17 rfl ?_
      exact a_sub (a_X12_compare_21 hX hR hQ hr v1 v2 1 x2.2) (ls_s (ls_s (ls_s (ls_n (ls_n ls_0)))))

set_option maxRecDepth 100000 in
theorem ci_X12_compare (l : Launch) (v1 v2 : Int32) (σ : Mem) : CI l yX12_compare cX12_compare 5 (some .int) 2 50 [.ref 94, .int v1, .int v2] σ (m_X12_compare v1 v2 σ) :=
  ci_of (by decide) (by simp [Value.category]) (by simp) (fun X r hl hX hR hQ hr => a_X12_compare_0 hX hR hQ hr v1 v2 σ)

set_option maxRecDepth 100000 in
set_option maxHeartbeats 2000000 in
theorem a_X12_yank_14 {X : AX} {r0 : Int32 × Mem} (hX : CX X cX12_yank 2 RX12) (hR : (aR X).frames = 2 ∧ (aR X).locals = 43 ∧ aCe X ≤ (aR X).cells ∧ aSl X ≤ (aR X).slots) (hQ : QI X r0) (hr : (aMeth X).sig.returnType = (some .boolean)) (v1 s1 : Int32) (σ : Mem) : AWo X r0 14 [some (.ref 94), some (.int v1)] [.int s1, .ref 94] σ (m_X12_yank_14 v1 s1 σ) := by
  unfold m_X12_yank_14
  refine a_callI hX hR ml_X12_101 (ci_X12_goesWell _ _ _) s_94 rfl rfl rfl (by decide) (Nat.le_of_ble_eq_true rfl) rfl dX12_yank_14 rfl (fun x1 => ?_)
  refine a_if_ne hX dX12_yank_17 rfl rfl ?_ ?_
  · refine a_al0 hX dX12_yank_22 rfl ?_
    refine a_getR hX fl_X12_7 s_94 rfl dX12_yank_23 rfl ?_
    refine a_bi 9 hX dX12_yank_26 (by decide) rfl ?_
    refine a_il1 hX dX12_yank_28 rfl ?_
    refine a_imul hX dX12_yank_29 rfl ?_
    refine a_bi 6 hX dX12_yank_30 (by decide) rfl ?_
    refine a_iadd hX dX12_yank_32 rfl ?_
    refine a_ic 1 hX dX12_yank_33 (by decide) rfl ?_
    refine a_al0 hX dX12_yank_34 rfl ?_
    refine a_getR hX fl_X12_7 s_94 rfl dX12_yank_35 rfl ?_
    refine a_bi 9 hX dX12_yank_38 (by decide) rfl ?_
    refine a_il1 hX dX12_yank_40 rfl ?_
    refine a_imul hX dX12_yank_41 rfl ?_
    refine a_bi 6 hX dX12_yank_42 (by decide) rfl ?_
    refine a_iadd hX dX12_yank_44 rfl ?_
    refine a_ald hX s_95 dX12_yank_45 rfl (fun x2 => ?_)
    refine a_isub hX dX12_yank_46 rfl ?_
    refine a_ast hX s_95 dX12_yank_47 rfl (fun m3 => ?_)
    refine a_al0 hX dX12_yank_48 rfl ?_
    refine a_ic 0 hX dX12_yank_49 (by decide) rfl ?_
    refine a_putZ hX fp_X12_104 (by decide) s_94 rfl dX12_yank_50 rfl ?_
    refine a_nameM (fun m4 => ?_)
    refine a_al0 hX dX12_yank_53 rfl ?_
    refine a_getR hX fl_X12_7 s_94 rfl dX12_yank_54 rfl ?_
    refine a_bi 9 hX dX12_yank_57 (by decide) rfl ?_
    refine a_il1 hX dX12_yank_59 rfl ?_
    refine a_imul hX dX12_yank_60 rfl ?_
    refine a_bi 6 hX dX12_yank_61 (by decide) rfl ?_
    refine a_iadd hX dX12_yank_63 rfl ?_
    refine a_ald hX s_95 dX12_yank_64 rfl (fun x5 => ?_)
    refine a_ic 1 hX dX12_yank_65 (by decide) rfl ?_
    refine a_icmp_ne hX dX12_yank_66 rfl rfl ?_ ?_
    · refine a_ic 0 hX dX12_yank_73 (by decide) rfl ?_
      exact a_zret0 (by decide) hX hQ hr dX12_yank_74
    · refine a_ic 1 hX dX12_yank_69 (by decide) rfl ?_
      refine a_goto hX dX12_yank_70 rfl ?_
      exact a_zret0 (by decide) hX hQ hr dX12_yank_74
  · refine a_ic 0 hX dX12_yank_20 (by decide) rfl ?_
    exact a_zret0 (by decide) hX hQ hr dX12_yank_21

set_option maxRecDepth 100000 in
set_option maxHeartbeats 2000000 in
theorem a_X12_yank_0 {X : AX} {r0 : Int32 × Mem} (hX : CX X cX12_yank 2 RX12) (hR : (aR X).frames = 2 ∧ (aR X).locals = 43 ∧ aCe X ≤ (aR X).cells ∧ aSl X ≤ (aR X).slots) (hQ : QI X r0) (hr : (aMeth X).sig.returnType = (some .boolean)) (v1 : Int32) (σ : Mem) : AWo X r0 0 [some (.ref 94), some (.int v1)] [] σ (m_X12_yank v1 σ) := by
  unfold m_X12_yank
  refine a_al0 hX dX12_yank_0 rfl ?_
  refine a_al0 hX dX12_yank_1 rfl ?_
  refine a_il1 hX dX12_yank_2 rfl ?_
  refine a_callI hX hR ml_X12_108 (ci_X12_isVersion _ _ _) s_94 rfl rfl rfl (by decide) (Nat.le_of_ble_eq_true rfl) rfl dX12_yank_3 rfl (fun x1 => ?_)
  refine a_if_eq hX dX12_yank_6 rfl rfl ?_ ?_
  · refine a_ic 1 hX dX12_yank_13 (by decide) rfl ?_
    exact a_sub (a_X12_yank_14 hX hR hQ hr v1 1 x1.2) (ls_s (ls_s ls_0))
  · refine a_ic 0 hX dX12_yank_9 (by decide) rfl ?_
    refine a_goto hX dX12_yank_10 rfl ?_
    exact a_sub (a_X12_yank_14 hX hR hQ hr v1 0 x1.2) (ls_s (ls_s ls_0))

set_option maxRecDepth 100000 in
theorem ci_X12_yank (l : Launch) (v1 : Int32) (σ : Mem) : CI l yX12_yank cX12_yank 2 (some .boolean) 2 43 [.ref 94, .int v1] σ (m_X12_yank v1 σ) :=
  ci_of (by decide) (by simp [Value.category]) (by simp) (fun X r hl hX hR hQ hr => a_X12_yank_0 hX hR hQ hr v1 σ)

set_option maxRecDepth 100000 in
set_option maxHeartbeats 2000000 in
theorem a_X12_setPlatforms_28 {X : AX} {r0 : Int32 × Mem} (hX : CX X cX12_setPlatforms 4 RX12) (hR : (aR X).frames = 2 ∧ (aR X).locals = 43 ∧ aCe X ≤ (aR X).cells ∧ aSl X ≤ (aR X).slots) (hQ : QI X r0) (hr : (aMeth X).sig.returnType = (some .int)) (v1 v2 s1 : Int32) (σ : Mem) : AWo X r0 28 [some (.ref 94), some (.int v1), some (.int v2), none] [.int s1, .ref 94] σ (m_X12_setPlatforms_28 v1 v2 s1 σ) := by
  unfold m_X12_setPlatforms_28
  refine a_callI hX hR ml_X12_101 (ci_X12_goesWell _ _ _) s_94 rfl rfl rfl (by decide) (Nat.le_of_ble_eq_true rfl) rfl dX12_setPlatforms_28 rfl (fun x1 => ?_)
  refine a_if_ne hX dX12_setPlatforms_31 rfl rfl ?_ ?_
  · refine a_al0 hX dX12_setPlatforms_36 rfl ?_
    refine a_getR hX fl_X12_7 s_94 rfl dX12_setPlatforms_37 rfl ?_
    refine a_bi 9 hX dX12_setPlatforms_40 (by decide) rfl ?_
    refine a_il1 hX dX12_setPlatforms_42 rfl ?_
    refine a_imul hX dX12_setPlatforms_43 rfl ?_
    refine a_bi 7 hX dX12_setPlatforms_44 (by decide) rfl ?_
    refine a_iadd hX dX12_setPlatforms_46 rfl ?_
    refine a_ald hX s_95 dX12_setPlatforms_47 rfl (fun x2 => ?_)
    refine a_is3 hX dX12_setPlatforms_48 rfl ?_
    refine a_al0 hX dX12_setPlatforms_49 rfl ?_
    refine a_getR hX fl_X12_7 s_94 rfl dX12_setPlatforms_50 rfl ?_
    refine a_bi 9 hX dX12_setPlatforms_53 (by decide) rfl ?_
    refine a_il1 hX dX12_setPlatforms_55 rfl ?_
    refine a_imul hX dX12_setPlatforms_56 rfl ?_
    refine a_bi 7 hX dX12_setPlatforms_57 (by decide) rfl ?_
    refine a_iadd hX dX12_setPlatforms_59 rfl ?_
    refine a_il2 hX dX12_setPlatforms_60 rfl ?_
    refine a_ast hX s_95 dX12_setPlatforms_61 rfl (fun m3 => ?_)
    refine a_al0 hX dX12_setPlatforms_62 rfl ?_
    refine a_ic 0 hX dX12_setPlatforms_63 (by decide) rfl ?_
    refine a_putZ hX fp_X12_104 (by decide) s_94 rfl dX12_setPlatforms_64 rfl ?_
    refine a_nameM (fun m4 => ?_)
    refine a_il3 hX dX12_setPlatforms_67 rfl ?_
    exact a_iret hX hQ hr dX12_setPlatforms_68
  · refine a_ic 0 hX dX12_setPlatforms_34 (by decide) rfl ?_
    exact a_iret hX hQ hr dX12_setPlatforms_35

set_option maxRecDepth 100000 in
set_option maxHeartbeats 2000000 in
theorem a_X12_setPlatforms_0 {X : AX} {r0 : Int32 × Mem} (hX : CX X cX12_setPlatforms 4 RX12) (hR : (aR X).frames = 2 ∧ (aR X).locals = 43 ∧ aCe X ≤ (aR X).cells ∧ aSl X ≤ (aR X).slots) (hQ : QI X r0) (hr : (aMeth X).sig.returnType = (some .int)) (v1 v2 : Int32) (σ : Mem) : AWo X r0 0 [some (.ref 94), some (.int v1), some (.int v2), none] [] σ (m_X12_setPlatforms v1 v2 σ) := by
  unfold m_X12_setPlatforms
  refine a_al0 hX dX12_setPlatforms_0 rfl ?_
  refine a_al0 hX dX12_setPlatforms_1 rfl ?_
  refine a_il1 hX dX12_setPlatforms_2 rfl ?_
  refine a_callI hX hR ml_X12_108 (ci_X12_isVersion _ _ _) s_94 rfl rfl rfl (by decide) (Nat.le_of_ble_eq_true rfl) rfl dX12_setPlatforms_3 rfl (fun x1 => ?_)
  refine a_if_ne hX dX12_setPlatforms_6 rfl rfl ?_ ?_
  · refine a_il2 hX dX12_setPlatforms_13 rfl ?_
    refine a_ic 0 hX dX12_setPlatforms_14 (by decide) rfl ?_
    refine a_bi 7 hX dX12_setPlatforms_15 (by decide) rfl ?_
    refine a_callSI hX hR ml_X12_75 (ci_X12_in _ _ _ _ _) rfl rfl (by decide) (Nat.le_of_ble_eq_true rfl) rfl dX12_setPlatforms_17 rfl (fun x2 => ?_)
    refine a_if_eq hX dX12_setPlatforms_20 rfl rfl ?_ ?_
    · refine a_ic 2 hX dX12_setPlatforms_27 (by decide) rfl ?_
      exact a_sub (a_X12_setPlatforms_28 hX hR hQ hr v1 v2 2 x2.2) (ls_s (ls_s (ls_s (ls_n ls_0))))
    · refine a_ic 0 hX dX12_setPlatforms_23 (by decide) rfl ?_
      refine a_goto hX dX12_setPlatforms_24 rfl ?_
      exact a_sub (a_X12_setPlatforms_28 hX hR hQ hr v1 v2 0 x2.2) (ls_s (ls_s (ls_s (ls_n ls_0))))
  · refine a_ic 1 hX dX12_setPlatforms_9 (by decide) rfl ?_
    refine a_goto hX dX12_setPlatforms_10 rfl ?_
    exact a_sub (a_X12_setPlatforms_28 hX hR hQ hr v1 v2 1 x1.2) (ls_s (ls_s (ls_s (ls_n ls_0))))

set_option maxRecDepth 100000 in
theorem ci_X12_setPlatforms (l : Launch) (v1 v2 : Int32) (σ : Mem) : CI l yX12_setPlatforms cX12_setPlatforms 4 (some .int) 2 43 [.ref 94, .int v1, .int v2] σ (m_X12_setPlatforms v1 v2 σ) :=
  ci_of (by decide) (by simp [Value.category]) (by simp) (fun X r hl hX hR hQ hr => a_X12_setPlatforms_0 hX hR hQ hr v1 v2 σ)

set_option maxRecDepth 100000 in
set_option maxHeartbeats 2000000 in
theorem a_X12_bring_75 {X : AX} {r0 : Int32 × Mem} (hX : CX X cX12_bring 6 RX12) (hR : (aR X).frames = 2 ∧ (aR X).locals = 43 ∧ aCe X ≤ (aR X).cells ∧ aSl X ≤ (aR X).slots) (hQ : QI X r0) (hr : (aMeth X).sig.returnType = (some .boolean)) (v1 v2 v3 s0 : Int32) (σ : Mem) : AWo X r0 75 [some (.ref 94), some (.int v1), some (.int v2), some (.int v3), none, none] [.int s0] σ (m_X12_bring_75 v1 v2 v3 s0 σ) := by
  unfold m_X12_bring_75
  refine a_is5 hX dX12_bring_75 rfl ?_
  refine a_al0 hX dX12_bring_77 rfl ?_
  refine a_getR hX fl_X12_13 s_94 rfl dX12_bring_78 rfl ?_
  refine a_ic 3 hX dX12_bring_81 (by decide) rfl ?_
  refine a_il1 hX dX12_bring_82 rfl ?_
  refine a_imul hX dX12_bring_83 rfl ?_
  refine a_il2 hX dX12_bring_84 rfl ?_
  refine a_iadd hX dX12_bring_85 rfl ?_
  refine a_dup2 hX dX12_bring_86 rfl rfl rfl ?_
  refine a_ald hX s_96 dX12_bring_87 rfl (fun x1 => ?_)
  refine a_ic 1 hX dX12_bring_88 (by decide) rfl ?_
  refine a_il3 hX dX12_bring_89 rfl ?_
  refine a_ishl hX dX12_bring_90 rfl ?_
  refine a_ior hX dX12_bring_91 rfl ?_
  refine a_ast hX s_96 dX12_bring_92 rfl (fun m2 => ?_)
  refine a_al0 hX dX12_bring_93 rfl ?_
  refine a_ic 0 hX dX12_bring_94 (by decide) rfl ?_
  refine a_putZ hX fp_X12_104 (by decide) s_94 rfl dX12_bring_95 rfl ?_
  refine a_nameM (fun m3 => ?_)
  refine a_il5 hX dX12_bring_98 rfl ?_
  refine a_if_ne hX dX12_bring_100 rfl rfl ?_ ?_
  · refine a_ic 0 hX dX12_bring_107 (by decide) rfl ?_
    exact a_zret0 (by decide) hX hQ hr dX12_bring_108
  · refine a_ic 1 hX dX12_bring_103 (by decide) rfl ?_
    refine a_goto hX dX12_bring_104 rfl ?_
    exact a_zret0 (by decide) hX hQ hr dX12_bring_108

set_option maxRecDepth 100000 in
set_option maxHeartbeats 2000000 in
theorem a_X12_bring_44 {X : AX} {r0 : Int32 × Mem} (hX : CX X cX12_bring 6 RX12) (hR : (aR X).frames = 2 ∧ (aR X).locals = 43 ∧ aCe X ≤ (aR X).cells ∧ aSl X ≤ (aR X).slots) (hQ : QI X r0) (hr : (aMeth X).sig.returnType = (some .boolean)) (v1 v2 v3 s1 : Int32) (σ : Mem) : AWo X r0 44 [some (.ref 94), some (.int v1), some (.int v2), some (.int v3), none, none] [.int s1, .ref 94] σ (m_X12_bring_44 v1 v2 v3 s1 σ) := by
  unfold m_X12_bring_44
  refine a_callI hX hR ml_X12_101 (ci_X12_goesWell _ _ _) s_94 rfl rfl rfl (by decide) (Nat.le_of_ble_eq_true rfl) rfl dX12_bring_44 rfl (fun x1 => ?_)
  refine a_if_ne hX dX12_bring_47 rfl rfl ?_ ?_
  · refine a_al0 hX dX12_bring_52 rfl ?_
    refine a_getR hX fl_X12_13 s_94 rfl dX12_bring_53 rfl ?_
    refine a_ic 3 hX dX12_bring_56 (by decide) rfl ?_
    refine a_il1 hX dX12_bring_57 rfl ?_
    refine a_imul hX dX12_bring_58 rfl ?_
    refine a_il2 hX dX12_bring_59 rfl ?_
    refine a_iadd hX dX12_bring_60 rfl ?_
    refine a_ald hX s_96 dX12_bring_61 rfl (fun x2 => ?_)
    refine a_il3 hX dX12_bring_62 rfl ?_
    refine a_ishr hX dX12_bring_63 rfl ?_
    refine a_ic 1 hX dX12_bring_64 (by decide) rfl ?_
    refine a_iand hX dX12_bring_65 rfl ?_
    refine a_ic 1 hX dX12_bring_66 (by decide) rfl ?_
    refine a_icmp_ne hX dX12_bring_67 rfl rfl ?_ ?_
    · refine a_ic 0 hX dX12_bring_74 (by decide) rfl ?_
      exact a_sub (a_X12_bring_75 hX hR hQ hr v1 v2 v3 0 x1.2) (ls_s (ls_s (ls_s (ls_s (ls_n (ls_n ls_0))))))
    · refine a_ic 1 hX dX12_bring_70 (by decide) rfl ?_
      refine a_goto hX dX12_bring_71 rfl ?_
      exact a_sub (a_X12_bring_75 hX hR hQ hr v1 v2 v3 1 x1.2) (ls_s (ls_s (ls_s (ls_s (ls_n (ls_n ls_0))))))
  · refine a_ic 0 hX dX12_bring_50 (by decide) rfl ?_
    exact a_zret0 (by decide) hX hQ hr dX12_bring_51

set_option maxRecDepth 100000 in
set_option maxHeartbeats 2000000 in
theorem a_X12_bring_31 {X : AX} {r0 : Int32 × Mem} (hX : CX X cX12_bring 6 RX12) (hR : (aR X).frames = 2 ∧ (aR X).locals = 43 ∧ aCe X ≤ (aR X).cells ∧ aSl X ≤ (aR X).slots) (hQ : QI X r0) (hr : (aMeth X).sig.returnType = (some .boolean)) (v1 v2 v3 s0 : Int32) (σ : Mem) : AWo X r0 31 [some (.ref 94), some (.int v1), some (.int v2), some (.int v3), none, none] [.int s0] σ (m_X12_bring_31 v1 v2 v3 s0 σ) := by
  unfold m_X12_bring_31
  refine a_is4 hX dX12_bring_31 rfl ?_
  refine a_al0 hX dX12_bring_33 rfl ?_
  refine a_il4 hX dX12_bring_34 rfl ?_
  refine a_if_eq hX dX12_bring_36 rfl rfl ?_ ?_
  · refine a_ic 1 hX dX12_bring_43 (by decide) rfl ?_
    exact a_sub (a_X12_bring_44 hX hR hQ hr v1 v2 v3 1 (σ)) (ls_s (ls_s (ls_s (ls_s (ls_n (ls_n ls_0))))))
  · refine a_ic 0 hX dX12_bring_39 (by decide) rfl ?_
    refine a_goto hX dX12_bring_40 rfl ?_
    exact a_sub (a_X12_bring_44 hX hR hQ hr v1 v2 v3 0 (σ)) (ls_s (ls_s (ls_s (ls_s (ls_n (ls_n ls_0))))))

set_option maxRecDepth 100000 in
set_option maxHeartbeats 2000000 in
theorem a_X12_bring_30 {X : AX} {r0 : Int32 × Mem} (hX : CX X cX12_bring 6 RX12) (hR : (aR X).frames = 2 ∧ (aR X).locals = 43 ∧ aCe X ≤ (aR X).cells ∧ aSl X ≤ (aR X).slots) (hQ : QI X r0) (hr : (aMeth X).sig.returnType = (some .boolean)) (v1 v2 v3 : Int32) (σ : Mem) : AWo X r0 30 [some (.ref 94), some (.int v1), some (.int v2), some (.int v3), none, none] [] σ (m_X12_bring_30 v1 v2 v3 σ) := by
  unfold m_X12_bring_30
  refine a_ic 0 hX dX12_bring_30 (by decide) rfl ?_
  exact a_sub (a_X12_bring_31 hX hR hQ hr v1 v2 v3 0 (σ)) (ls_s (ls_s (ls_s (ls_s (ls_n (ls_n ls_0))))))

set_option maxRecDepth 100000 in
set_option maxHeartbeats 2000000 in
theorem a_X12_bring_0 {X : AX} {r0 : Int32 × Mem} (hX : CX X cX12_bring 6 RX12) (hR : (aR X).frames = 2 ∧ (aR X).locals = 43 ∧ aCe X ≤ (aR X).cells ∧ aSl X ≤ (aR X).slots) (hQ : QI X r0) (hr : (aMeth X).sig.returnType = (some .boolean)) (v1 v2 v3 : Int32) (σ : Mem) : AWo X r0 0 [some (.ref 94), some (.int v1), some (.int v2), some (.int v3), none, none] [] σ (m_X12_bring v1 v2 v3 σ) := by
  unfold m_X12_bring
  refine a_al0 hX dX12_bring_0 rfl ?_
  refine a_il1 hX dX12_bring_1 rfl ?_
  refine a_callI hX hR ml_X12_108 (ci_X12_isVersion _ _ _) s_94 rfl rfl rfl (by decide) (Nat.le_of_ble_eq_true rfl) rfl dX12_bring_2 rfl (fun x1 => ?_)
  refine a_if_eq hX dX12_bring_5 rfl rfl ?_ ?_
  · exact a_sub (a_X12_bring_30 hX hR hQ hr v1 v2 v3 x1.2) (ls_s (ls_s (ls_s (ls_s (ls_n (ls_n ls_0))))))
  · refine a_il2 hX dX12_bring_8 rfl ?_
    refine a_ic 0 hX dX12_bring_9 (by decide) rfl ?_
    refine a_ic 2 hX dX12_bring_10 (by decide) rfl ?_
    refine a_callSI hX hR ml_X12_75 (ci_X12_in _ _ _ _ _) rfl rfl (by decide) (Nat.le_of_ble_eq_true rfl) rfl dX12_bring_11 rfl (fun x2 => ?_)
    refine a_if_eq hX dX12_bring_14 rfl rfl ?_ ?_
    · exact a_sub (a_X12_bring_30 hX hR hQ hr v1 v2 v3 x2.2) (ls_s (ls_s (ls_s (ls_s (ls_n (ls_n ls_0))))))
    · refine a_il3 hX dX12_bring_17 rfl ?_
      refine a_ic 0 hX dX12_bring_18 (by decide) rfl ?_
      refine a_ic 2 hX dX12_bring_19 (by decide) rfl ?_
      refine a_callSI hX hR ml_X12_75 (ci_X12_in _ _ _ _ _) rfl rfl (by decide) (Nat.le_of_ble_eq_true rfl) rfl dX12_bring_20 rfl (fun x3 => ?_)
      refine a_if_eq hX dX12_bring_23 rfl rfl ?_ ?_
      · exact a_sub (a_X12_bring_30 hX hR hQ hr v1 v2 v3 x3.2) (ls_s (ls_s (ls_s (ls_s (ls_n (ls_n ls_0))))))
      · refine a_ic 1 hX dX12_bring_26 (by decide) rfl ?_
        refine a_goto hX dX12_bring_27 rfl ?_
        exact a_sub (a_X12_bring_31 hX hR hQ hr v1 v2 v3 1 x3.2) (ls_s (ls_s (ls_s (ls_s (ls_n (ls_n ls_0))))))

set_option maxRecDepth 100000 in
theorem ci_X12_bring (l : Launch) (v1 v2 v3 : Int32) (σ : Mem) : CI l yX12_bring cX12_bring 6 (some .boolean) 2 43 [.ref 94, .int v1, .int v2, .int v3] σ (m_X12_bring v1 v2 v3 σ) :=
  ci_of (by decide) (by simp [Value.category]) (by simp) (fun X r hl hX hR hQ hr => a_X12_bring_0 hX hR hQ hr v1 v2 v3 σ)

set_option maxRecDepth 100000 in
set_option maxHeartbeats 2000000 in
theorem a_X12_addRange_0 {X : AX} {r0 : Int32 × Mem} (hX : CX X cX12_addRange 7 RX12) (hR : (aR X).frames = 3 ∧ (aR X).locals = 79 ∧ aCe X ≤ (aR X).cells ∧ aSl X ≤ (aR X).slots) (hQ : QI X r0) (hr : (aMeth X).sig.returnType = (some .int)) (v1 v2 v3 v4 v5 : Int32) (σ : Mem) : AWo X r0 0 [some (.ref 94), some (.int v1), some (.int v2), some (.int v3), some (.int v4), some (.int v5), none] [] σ (m_X12_addRange v1 v2 v3 v4 v5 σ) := by
  unfold m_X12_addRange
  refine a_ic 5 hX dX12_addRange_0 (by decide) rfl ?_
  refine a_al0 hX dX12_addRange_1 rfl ?_
  refine a_getI hX fl_X12_82 s_94 rfl dX12_addRange_2 rfl ?_
  refine a_imul hX dX12_addRange_5 rfl ?_
  refine a_name (fun y1 => ?_)
  refine a_is6 hX dX12_addRange_6 rfl ?_
  refine a_al0 hX dX12_addRange_8 rfl ?_
  refine a_getR hX fl_X12_19 s_94 rfl dX12_addRange_9 rfl ?_
  refine a_il6 hX dX12_addRange_12 rfl ?_
  refine a_il1 hX dX12_addRange_14 rfl ?_
  refine a_ast hX s_98 dX12_addRange_15 rfl (fun m2 => ?_)
  refine a_al0 hX dX12_addRange_16 rfl ?_
  refine a_getR hX fl_X12_19 s_94 rfl dX12_addRange_17 rfl ?_
  refine a_il6 hX dX12_addRange_20 rfl ?_
  refine a_ic 1 hX dX12_addRange_22 (by decide) rfl ?_
  refine a_iadd hX dX12_addRange_23 rfl ?_
  refine a_il2 hX dX12_addRange_24 rfl ?_
  refine a_ast hX s_98 dX12_addRange_25 rfl (fun m3 => ?_)
  refine a_al0 hX dX12_addRange_26 rfl ?_
  refine a_getR hX fl_X12_19 s_94 rfl dX12_addRange_27 rfl ?_
  refine a_il6 hX dX12_addRange_30 rfl ?_
  refine a_ic 2 hX dX12_addRange_32 (by decide) rfl ?_
  refine a_iadd hX dX12_addRange_33 rfl ?_
  refine a_il3 hX dX12_addRange_34 rfl ?_
  refine a_ast hX s_98 dX12_addRange_35 rfl (fun m4 => ?_)
  refine a_al0 hX dX12_addRange_36 rfl ?_
  refine a_getR hX fl_X12_19 s_94 rfl dX12_addRange_37 rfl ?_
  refine a_il6 hX dX12_addRange_40 rfl ?_
  refine a_ic 3 hX dX12_addRange_42 (by decide) rfl ?_
  refine a_iadd hX dX12_addRange_43 rfl ?_
  refine a_il4 hX dX12_addRange_44 rfl ?_
  refine a_ast hX s_98 dX12_addRange_46 rfl (fun m5 => ?_)
  refine a_al0 hX dX12_addRange_47 rfl ?_
  refine a_getR hX fl_X12_19 s_94 rfl dX12_addRange_48 rfl ?_
  refine a_il6 hX dX12_addRange_51 rfl ?_
  refine a_ic 4 hX dX12_addRange_53 (by decide) rfl ?_
  refine a_iadd hX dX12_addRange_54 rfl ?_
  refine a_il5 hX dX12_addRange_55 rfl ?_
  refine a_ast hX s_98 dX12_addRange_57 rfl (fun m6 => ?_)
  refine a_al0 hX dX12_addRange_58 rfl ?_
  refine a_dup hX dX12_addRange_59 rfl rfl ?_
  refine a_getI hX fl_X12_82 s_94 rfl dX12_addRange_60 rfl ?_
  refine a_ic 1 hX dX12_addRange_63 (by decide) rfl ?_
  refine a_iadd hX dX12_addRange_64 rfl ?_
  refine a_putI hX fp_X12_82 s_94 rfl dX12_addRange_65 rfl ?_
  refine a_nameM (fun m7 => ?_)
  refine a_al0 hX dX12_addRange_68 rfl ?_
  refine a_al0 hX dX12_addRange_69 rfl ?_
  refine a_getI hX fl_X12_82 s_94 rfl dX12_addRange_70 rfl ?_
  refine a_ic 1 hX dX12_addRange_73 (by decide) rfl ?_
  refine a_isub hX dX12_addRange_74 rfl ?_
  refine a_callV hX hR ml_X12_115 (ci_X12_fill _ _ _) s_94 rfl rfl rfl (by decide) (Nat.le_of_ble_eq_true rfl) rfl dX12_addRange_75 rfl (fun x8 => ?_)
  refine a_al0 hX dX12_addRange_78 rfl ?_
  refine a_getI hX fl_X12_82 s_94 rfl dX12_addRange_79 rfl ?_
  refine a_ic 1 hX dX12_addRange_82 (by decide) rfl ?_
  refine a_isub hX dX12_addRange_83 rfl ?_
  exact a_iret hX hQ hr dX12_addRange_84

set_option maxRecDepth 100000 in
theorem ci_X12_addRange (l : Launch) (v1 v2 v3 v4 v5 : Int32) (σ : Mem) : CI l yX12_addRange cX12_addRange 7 (some .int) 3 79 [.ref 94, .int v1, .int v2, .int v3, .int v4, .int v5] σ (m_X12_addRange v1 v2 v3 v4 v5 σ) :=
  ci_of (by decide) (by simp [Value.category]) (by simp) (fun X r hl hX hR hQ hr => a_X12_addRange_0 hX hR hQ hr v1 v2 v3 v4 v5 σ)

set_option maxRecDepth 100000 in
set_option maxHeartbeats 2000000 in
theorem a_X12_range_171 {X : AX} {r0 : Int32 × Mem} (hX : CX X cX12_range 10 RX12) (hR : (aR X).frames = 4 ∧ (aR X).locals = 105 ∧ aCe X ≤ (aR X).cells ∧ aSl X ≤ (aR X).slots) (hQ : QI X r0) (hr : (aMeth X).sig.returnType = (some .int)) (v1 v2 v3 v4 v5 s1 : Int32) (σ : Mem) : AWo X r0 171 [some (.ref 94), some (.int v1), some (.int v2), some (.int v3), some (.int v4), some (.int v5), none, none, none, none] [.int s1, .ref 94] σ (m_X12_range_171 v1 v2 v3 v4 v5 s1 σ) := by
  unfold m_X12_range_171
  refine a_callI hX hR ml_X12_101 (ci_X12_goesWell _ _ _) s_94 rfl rfl rfl (by decide) (Nat.le_of_ble_eq_true rfl) rfl dX12_range_171 rfl (fun x1 => ?_)
  refine a_if_eq hX dX12_range_174 rfl rfl ?_ ?_
  · refine a_ic 0 hX dX12_range_191 (by decide) rfl ?_
    exact a_iret hX hQ hr dX12_range_192
  · refine a_al0 hX dX12_range_177 rfl ?_
    refine a_il1 hX dX12_range_178 rfl ?_
    refine a_il2 hX dX12_range_179 rfl ?_
    refine a_il3 hX dX12_range_180 rfl ?_
    refine a_il4 hX dX12_range_181 rfl ?_
    refine a_il5 hX dX12_range_183 rfl ?_
    refine a_callI hX hR ml_X12_119 (ci_X12_addRange _ _ _ _ _ _ _) s_94 rfl rfl rfl (by decide) (Nat.le_of_ble_eq_true rfl) rfl dX12_range_185 rfl (fun x2 => ?_)
    refine a_goto hX dX12_range_188 rfl ?_
    exact a_iret hX hQ hr dX12_range_192

set_option maxRecDepth 100000 in
set_option maxHeartbeats 2000000 in
theorem a_X12_range_131 {X : AX} {r0 : Int32 × Mem} (hX : CX X cX12_range 10 RX12) (hR : (aR X).frames = 4 ∧ (aR X).locals = 105 ∧ aCe X ≤ (aR X).cells ∧ aSl X ≤ (aR X).slots) (hQ : QI X r0) (hr : (aMeth X).sig.returnType = (some .int)) (v1 v2 v3 v4 v5 s0 : Int32) (σ : Mem) : AWo X r0 131 [some (.ref 94), some (.int v1), some (.int v2), some (.int v3), some (.int v4), some (.int v5), none, none, none, none] [.int s0] σ (m_X12_range_131 v1 v2 v3 v4 v5 s0 σ) := by
  unfold m_X12_range_131
  refine a_is9 hX dX12_range_131 rfl ?_
  refine a_al0 hX dX12_range_133 rfl ?_
  refine a_il1 hX dX12_range_134 rfl ?_
  refine a_ic 0 hX dX12_range_135 (by decide) rfl ?_
  refine a_bi 7 hX dX12_range_136 (by decide) rfl ?_
  refine a_callSI hX hR ml_X12_75 (ci_X12_in _ _ _ _ _) rfl rfl (by decide) (Nat.le_of_ble_eq_true rfl) rfl dX12_range_138 rfl (fun x1 => ?_)
  refine a_if_ne hX dX12_range_141 rfl rfl ?_ ?_
  · refine a_il9 hX dX12_range_148 rfl ?_
    refine a_if_ne hX dX12_range_150 rfl rfl ?_ ?_
    · refine a_al0 hX dX12_range_157 rfl ?_
      refine a_getI hX fl_X12_82 s_94 rfl dX12_range_158 rfl ?_
      refine a_bi 30 hX dX12_range_161 (by decide) rfl ?_
      refine a_icmp_ne hX dX12_range_163 rfl rfl ?_ ?_
      · refine a_ic 0 hX dX12_range_170 (by decide) rfl ?_
        exact a_sub (a_X12_range_171 hX hR hQ hr v1 v2 v3 v4 v5 0 x1.2) (ls_s (ls_s (ls_s (ls_s (ls_s (ls_s (ls_n (ls_n (ls_n (ls_n ls_0))))))))))
      · refine a_ic 3 hX dX12_range_166 (by decide) rfl ?_
        refine a_goto hX dX12_range_167 rfl ?_
        exact a_sub (a_X12_range_171 hX hR hQ hr v1 v2 v3 v4 v5 3 x1.2) (ls_s (ls_s (ls_s (ls_s (ls_s (ls_s (ls_n (ls_n (ls_n (ls_n ls_0))))))))))
    · refine a_ic 2 hX dX12_range_153 (by decide) rfl ?_
      refine a_goto hX dX12_range_154 rfl ?_
      exact a_sub (a_X12_range_171 hX hR hQ hr v1 v2 v3 v4 v5 2 x1.2) (ls_s (ls_s (ls_s (ls_s (ls_s (ls_s (ls_n (ls_n (ls_n (ls_n ls_0))))))))))
  · refine a_ic 1 hX dX12_range_144 (by decide) rfl ?_
    refine a_goto hX dX12_range_145 rfl ?_
    exact a_sub (a_X12_range_171 hX hR hQ hr v1 v2 v3 v4 v5 1 x1.2) (ls_s (ls_s (ls_s (ls_s (ls_s (ls_s (ls_n (ls_n (ls_n (ls_n ls_0))))))))))

set_option maxRecDepth 100000 in
set_option maxHeartbeats 2000000 in
theorem a_X12_range_130 {X : AX} {r0 : Int32 × Mem} (hX : CX X cX12_range 10 RX12) (hR : (aR X).frames = 4 ∧ (aR X).locals = 105 ∧ aCe X ≤ (aR X).cells ∧ aSl X ≤ (aR X).slots) (hQ : QI X r0) (hr : (aMeth X).sig.returnType = (some .int)) (v1 v2 v3 v4 v5 : Int32) (σ : Mem) : AWo X r0 130 [some (.ref 94), some (.int v1), some (.int v2), some (.int v3), some (.int v4), some (.int v5), none, none, none, none] [] σ (m_X12_range_130 v1 v2 v3 v4 v5 σ) := by
  unfold m_X12_range_130
  refine a_ic 0 hX dX12_range_130 (by decide) rfl ?_
  exact a_sub (a_X12_range_131 hX hR hQ hr v1 v2 v3 v4 v5 0 (σ)) (ls_s (ls_s (ls_s (ls_s (ls_s (ls_s (ls_n (ls_n (ls_n (ls_n ls_0))))))))))

set_option maxRecDepth 100000 in
set_option maxHeartbeats 2000000 in
theorem a_X12_range_120 {X : AX} {r0 : Int32 × Mem} (hX : CX X cX12_range 10 RX12) (hR : (aR X).frames = 4 ∧ (aR X).locals = 105 ∧ aCe X ≤ (aR X).cells ∧ aSl X ≤ (aR X).slots) (hQ : QI X r0) (hr : (aMeth X).sig.returnType = (some .int)) (v1 v2 v3 v4 v5 s0 s1 s2 : Int32) (σ : Mem) : AWo X r0 120 [some (.ref 94), some (.int v1), some (.int v2), some (.int v3), some (.int v4), some (.int v5), none, none, none, none] [.int s2, .int s1, .int s0] σ (m_X12_range_120 v1 v2 v3 v4 v5 s0 s1 s2 σ) := by
  unfold m_X12_range_120
  refine a_callSI hX hR ml_X12_75 (ci_X12_in _ _ _ _ _) rfl rfl (by decide) (Nat.le_of_ble_eq_true rfl) rfl dX12_range_120 rfl (fun x1 => ?_)
  refine a_if_eq hX dX12_range_123 rfl rfl ?_ ?_
  · exact a_sub (a_X12_range_130 hX hR hQ hr v1 v2 v3 v4 v5 x1.2) (ls_s (ls_s (ls_s (ls_s (ls_s (ls_s (ls_n (ls_n (ls_n (ls_n ls_0))))))))))
  · refine a_ic 1 hX dX12_range_126 (by decide) rfl ?_
    refine a_goto hX dX12_range_127 rfl ?_
    exact a_sub (a_X12_range_131 hX hR hQ hr v1 v2 v3 v4 v5 1 x1.2) (ls_s (ls_s (ls_s (ls_s (ls_s (ls_s (ls_n (ls_n (ls_n (ls_n ls_0))))))))))

set_option maxRecDepth 100000 in
set_option maxHeartbeats 2000000 in
theorem a_X12_range_100 {X : AX} {r0 : Int32 × Mem} (hX : CX X cX12_range 10 RX12) (hR : (aR X).frames = 4 ∧ (aR X).locals = 105 ∧ aCe X ≤ (aR X).cells ∧ aSl X ≤ (aR X).slots) (hQ : QI X r0) (hr : (aMeth X).sig.returnType = (some .int)) (v1 v2 v3 v4 v5 v8 s0 s1 s2 : Int32) (σ : Mem) : AWo X r0 100 [some (.ref 94), some (.int v1), some (.int v2), some (.int v3), some (.int v4), some (.int v5), none, none, some (.int v8), none] [.int s2, .int s1, .int s0] σ (m_X12_range_100 v1 v2 v3 v4 v5 v8 s0 s1 s2 σ) := by
  unfold m_X12_range_100
  refine a_callSI hX hR ml_X12_75 (ci_X12_in _ _ _ _ _) rfl rfl (by decide) (Nat.le_of_ble_eq_true rfl) rfl dX12_range_100 rfl (fun x1 => ?_)
  refine a_if_eq hX dX12_range_103 rfl rfl ?_ ?_
  · exact a_sub (a_X12_range_130 hX hR hQ hr v1 v2 v3 v4 v5 x1.2) (ls_s (ls_s (ls_s (ls_s (ls_s (ls_s (ls_n (ls_n (ls_n (ls_n ls_0))))))))))
  · refine a_il5 hX dX12_range_106 rfl ?_
    refine a_ic 0 hX dX12_range_108 (by decide) rfl ?_
    refine a_il8 hX dX12_range_109 rfl ?_
    refine a_if_eq hX dX12_range_111 rfl rfl ?_ ?_
    · refine a_ic 0 hX dX12_range_119 (by decide) rfl ?_
      exact a_sub (a_X12_range_120 hX hR hQ hr v1 v2 v3 v4 v5 v5 0 0 x1.2) (ls_s (ls_s (ls_s (ls_s (ls_s (ls_s (ls_n (ls_n (ls_n (ls_n ls_0))))))))))
    · refine a_bi 9 hX dX12_range_114 (by decide) rfl ?_
      refine a_goto hX dX12_range_116 rfl ?_
      exact a_sub (a_X12_range_120 hX hR hQ hr v1 v2 v3 v4 v5 v5 0 9 x1.2) (ls_s (ls_s (ls_s (ls_s (ls_s (ls_s (ls_n (ls_n (ls_n (ls_n ls_0))))))))))

set_option maxRecDepth 100000 in
set_option maxHeartbeats 2000000 in
theorem a_X12_range_80 {X : AX} {r0 : Int32 × Mem} (hX : CX X cX12_range 10 RX12) (hR : (aR X).frames = 4 ∧ (aR X).locals = 105 ∧ aCe X ≤ (aR X).cells ∧ aSl X ≤ (aR X).slots) (hQ : QI X r0) (hr : (aMeth X).sig.returnType = (some .int)) (v1 v2 v3 v4 v5 v8 s0 s1 s2 : Int32) (σ : Mem) : AWo X r0 80 [some (.ref 94), some (.int v1), some (.int v2), some (.int v3), some (.int v4), some (.int v5), none, none, some (.int v8), none] [.int s2, .int s1, .int s0] σ (m_X12_range_80 v1 v2 v3 v4 v5 v8 s0 s1 s2 σ) := by
  unfold m_X12_range_80
  refine a_callSI hX hR ml_X12_75 (ci_X12_in _ _ _ _ _) rfl rfl (by decide) (Nat.le_of_ble_eq_true rfl) rfl dX12_range_80 rfl (fun x1 => ?_)
  refine a_if_eq hX dX12_range_83 rfl rfl ?_ ?_
  · exact a_sub (a_X12_range_130 hX hR hQ hr v1 v2 v3 v4 v5 x1.2) (ls_s (ls_s (ls_s (ls_s (ls_s (ls_s (ls_n (ls_n (ls_n (ls_n ls_0))))))))))
  · refine a_il4 hX dX12_range_86 rfl ?_
    refine a_ic 0 hX dX12_range_88 (by decide) rfl ?_
    refine a_il8 hX dX12_range_89 rfl ?_
    refine a_if_eq hX dX12_range_91 rfl rfl ?_ ?_
    · refine a_ic 0 hX dX12_range_99 (by decide) rfl ?_
      exact a_sub (a_X12_range_100 hX hR hQ hr v1 v2 v3 v4 v5 v8 v4 0 0 x1.2) (ls_s (ls_s (ls_s (ls_s (ls_s (ls_s (ls_n (ls_n (ls_s (ls_n ls_0))))))))))
    · refine a_bi 9 hX dX12_range_94 (by decide) rfl ?_
      refine a_goto hX dX12_range_96 rfl ?_
      exact a_sub (a_X12_range_100 hX hR hQ hr v1 v2 v3 v4 v5 v8 v4 0 9 x1.2) (ls_s (ls_s (ls_s (ls_s (ls_s (ls_s (ls_n (ls_n (ls_s (ls_n ls_0))))))))))

set_option maxRecDepth 100000 in
set_option maxHeartbeats 2000000 in
theorem a_X12_range_61 {X : AX} {r0 : Int32 × Mem} (hX : CX X cX12_range 10 RX12) (hR : (aR X).frames = 4 ∧ (aR X).locals = 105 ∧ aCe X ≤ (aR X).cells ∧ aSl X ≤ (aR X).slots) (hQ : QI X r0) (hr : (aMeth X).sig.returnType = (some .int)) (v1 v2 v3 v4 v5 v7 v8 s0 s1 s2 : Int32) (σ : Mem) : AWo X r0 61 [some (.ref 94), some (.int v1), some (.int v2), some (.int v3), some (.int v4), some (.int v5), none, some (.int v7), some (.int v8), none] [.int s2, .int s1, .int s0] σ (m_X12_range_61 v1 v2 v3 v4 v5 v7 v8 s0 s1 s2 σ) := by
  unfold m_X12_range_61
  refine a_callSI hX hR ml_X12_75 (ci_X12_in _ _ _ _ _) rfl rfl (by decide) (Nat.le_of_ble_eq_true rfl) rfl dX12_range_61 rfl (fun x1 => ?_)
  refine a_if_eq hX dX12_range_64 rfl rfl ?_ ?_
  · exact a_sub (a_X12_range_130 hX hR hQ hr v1 v2 v3 v4 v5 x1.2) (ls_s (ls_s (ls_s (ls_s (ls_s (ls_s (ls_n (ls_n (ls_n (ls_n ls_0))))))))))
  · refine a_il3 hX dX12_range_67 rfl ?_
    refine a_ic 0 hX dX12_range_68 (by decide) rfl ?_
    refine a_il7 hX dX12_range_69 rfl ?_
    refine a_if_eq hX dX12_range_71 rfl rfl ?_ ?_
    · refine a_ic 0 hX dX12_range_79 (by decide) rfl ?_
      exact a_sub (a_X12_range_80 hX hR hQ hr v1 v2 v3 v4 v5 v8 v3 0 0 x1.2) (ls_s (ls_s (ls_s (ls_s (ls_s (ls_s (ls_n (ls_n (ls_s (ls_n ls_0))))))))))
    · refine a_bi 9 hX dX12_range_74 (by decide) rfl ?_
      refine a_goto hX dX12_range_76 rfl ?_
      exact a_sub (a_X12_range_80 hX hR hQ hr v1 v2 v3 v4 v5 v8 v3 0 9 x1.2) (ls_s (ls_s (ls_s (ls_s (ls_s (ls_s (ls_n (ls_n (ls_s (ls_n ls_0))))))))))

set_option maxRecDepth 100000 in
set_option maxHeartbeats 2000000 in
theorem a_X12_range_46 {X : AX} {r0 : Int32 × Mem} (hX : CX X cX12_range 10 RX12) (hR : (aR X).frames = 4 ∧ (aR X).locals = 105 ∧ aCe X ≤ (aR X).cells ∧ aSl X ≤ (aR X).slots) (hQ : QI X r0) (hr : (aMeth X).sig.returnType = (some .int)) (v1 v2 v3 v4 v5 v6 v7 s0 : Int32) (σ : Mem) : AWo X r0 46 [some (.ref 94), some (.int v1), some (.int v2), some (.int v3), some (.int v4), some (.int v5), some (.int v6), some (.int v7), none, none] [.int s0] σ (m_X12_range_46 v1 v2 v3 v4 v5 v6 v7 s0 σ) := by
  unfold m_X12_range_46
  refine a_is8 hX dX12_range_46 rfl ?_
  refine a_il2 hX dX12_range_48 rfl ?_
  refine a_ic 0 hX dX12_range_49 (by decide) rfl ?_
  refine a_il6 hX dX12_range_50 rfl ?_
  refine a_if_eq hX dX12_range_52 rfl rfl ?_ ?_
  · refine a_ic 0 hX dX12_range_60 (by decide) rfl ?_
    exact a_sub (a_X12_range_61 hX hR hQ hr v1 v2 v3 v4 v5 v7 s0 v2 0 0 (σ)) (ls_s (ls_s (ls_s (ls_s (ls_s (ls_s (ls_n (ls_s (ls_s (ls_n ls_0))))))))))
  · refine a_bi 9 hX dX12_range_55 (by decide) rfl ?_
    refine a_goto hX dX12_range_57 rfl ?_
    exact a_sub (a_X12_range_61 hX hR hQ hr v1 v2 v3 v4 v5 v7 s0 v2 0 9 (σ)) (ls_s (ls_s (ls_s (ls_s (ls_s (ls_s (ls_n (ls_s (ls_s (ls_n ls_0))))))))))

set_option maxRecDepth 100000 in
set_option maxHeartbeats 2000000 in
theorem a_X12_range_45 {X : AX} {r0 : Int32 × Mem} (hX : CX X cX12_range 10 RX12) (hR : (aR X).frames = 4 ∧ (aR X).locals = 105 ∧ aCe X ≤ (aR X).cells ∧ aSl X ≤ (aR X).slots) (hQ : QI X r0) (hr : (aMeth X).sig.returnType = (some .int)) (v1 v2 v3 v4 v5 v6 v7 : Int32) (σ : Mem) : AWo X r0 45 [some (.ref 94), some (.int v1), some (.int v2), some (.int v3), some (.int v4), some (.int v5), some (.int v6), some (.int v7), none, none] [] σ (m_X12_range_45 v1 v2 v3 v4 v5 v6 v7 σ) := by
  unfold m_X12_range_45
  refine a_ic 0 hX dX12_range_45 (by decide) rfl ?_
  exact a_sub (a_X12_range_46 hX hR hQ hr v1 v2 v3 v4 v5 v6 v7 0 (σ)) (ls_s (ls_s (ls_s (ls_s (ls_s (ls_s (ls_s (ls_s (ls_n (ls_n ls_0))))))))))

set_option maxRecDepth 100000 in
set_option maxHeartbeats 2000000 in
theorem a_X12_range_28 {X : AX} {r0 : Int32 × Mem} (hX : CX X cX12_range 10 RX12) (hR : (aR X).frames = 4 ∧ (aR X).locals = 105 ∧ aCe X ≤ (aR X).cells ∧ aSl X ≤ (aR X).slots) (hQ : QI X r0) (hr : (aMeth X).sig.returnType = (some .int)) (v1 v2 v3 v4 v5 v6 s0 : Int32) (σ : Mem) : AWo X r0 28 [some (.ref 94), some (.int v1), some (.int v2), some (.int v3), some (.int v4), some (.int v5), some (.int v6), none, none, none] [.int s0] σ (m_X12_range_28 v1 v2 v3 v4 v5 v6 s0 σ) := by
  unfold m_X12_range_28
  refine a_is7 hX dX12_range_28 rfl ?_
  refine a_il7 hX dX12_range_30 rfl ?_
  refine a_if_eq hX dX12_range_32 rfl rfl ?_ ?_
  · exact a_sub (a_X12_range_45 hX hR hQ hr v1 v2 v3 v4 v5 v6 s0 (σ)) (ls_s (ls_s (ls_s (ls_s (ls_s (ls_s (ls_s (ls_s (ls_n (ls_n ls_0))))))))))
  · refine a_il1 hX dX12_range_35 rfl ?_
    refine a_bi 7 hX dX12_range_36 (by decide) rfl ?_
    refine a_icmp_eq hX dX12_range_38 rfl rfl ?_ ?_
    · exact a_sub (a_X12_range_45 hX hR hQ hr v1 v2 v3 v4 v5 v6 s0 (σ)) (ls_s (ls_s (ls_s (ls_s (ls_s (ls_s (ls_s (ls_s (ls_n (ls_n ls_0))))))))))
    · refine a_ic 1 hX dX12_range_41 (by decide) rfl ?_
      refine a_goto hX dX12_range_42 rfl ?_
      exact a_sub (a_X12_range_46 hX hR hQ hr v1 v2 v3 v4 v5 v6 s0 1 (σ)) (ls_s (ls_s (ls_s (ls_s (ls_s (ls_s (ls_s (ls_s (ls_n (ls_n ls_0))))))))))

set_option maxRecDepth 100000 in
set_option maxHeartbeats 2000000 in
theorem a_X12_range_27 {X : AX} {r0 : Int32 × Mem} (hX : CX X cX12_range 10 RX12) (hR : (aR X).frames = 4 ∧ (aR X).locals = 105 ∧ aCe X ≤ (aR X).cells ∧ aSl X ≤ (aR X).slots) (hQ : QI X r0) (hr : (aMeth X).sig.returnType = (some .int)) (v1 v2 v3 v4 v5 v6 : Int32) (σ : Mem) : AWo X r0 27 [some (.ref 94), some (.int v1), some (.int v2), some (.int v3), some (.int v4), some (.int v5), some (.int v6), none, none, none] [] σ (m_X12_range_27 v1 v2 v3 v4 v5 v6 σ) := by
  unfold m_X12_range_27
  refine a_ic 0 hX dX12_range_27 (by decide) rfl ?_
  exact a_sub (a_X12_range_28 hX hR hQ hr v1 v2 v3 v4 v5 v6 0 (σ)) (ls_s (ls_s (ls_s (ls_s (ls_s (ls_s (ls_s (ls_n (ls_n (ls_n ls_0))))))))))

set_option maxRecDepth 100000 in
set_option maxHeartbeats 2000000 in
theorem a_X12_range_10 {X : AX} {r0 : Int32 × Mem} (hX : CX X cX12_range 10 RX12) (hR : (aR X).frames = 4 ∧ (aR X).locals = 105 ∧ aCe X ≤ (aR X).cells ∧ aSl X ≤ (aR X).slots) (hQ : QI X r0) (hr : (aMeth X).sig.returnType = (some .int)) (v1 v2 v3 v4 v5 s0 : Int32) (σ : Mem) : AWo X r0 10 [some (.ref 94), some (.int v1), some (.int v2), some (.int v3), some (.int v4), some (.int v5), none, none, none, none] [.int s0] σ (m_X12_range_10 v1 v2 v3 v4 v5 s0 σ) := by
  unfold m_X12_range_10
  refine a_is6 hX dX12_range_10 rfl ?_
  refine a_il6 hX dX12_range_12 rfl ?_
  refine a_if_eq hX dX12_range_14 rfl rfl ?_ ?_
  · exact a_sub (a_X12_range_27 hX hR hQ hr v1 v2 v3 v4 v5 s0 (σ)) (ls_s (ls_s (ls_s (ls_s (ls_s (ls_s (ls_s (ls_n (ls_n (ls_n ls_0))))))))))
  · refine a_il1 hX dX12_range_17 rfl ?_
    refine a_bi 6 hX dX12_range_18 (by decide) rfl ?_
    refine a_icmp_eq hX dX12_range_20 rfl rfl ?_ ?_
    · exact a_sub (a_X12_range_27 hX hR hQ hr v1 v2 v3 v4 v5 s0 (σ)) (ls_s (ls_s (ls_s (ls_s (ls_s (ls_s (ls_s (ls_n (ls_n (ls_n ls_0))))))))))
    · refine a_ic 1 hX dX12_range_23 (by decide) rfl ?_
      refine a_goto hX dX12_range_24 rfl ?_
      exact a_sub (a_X12_range_28 hX hR hQ hr v1 v2 v3 v4 v5 s0 1 (σ)) (ls_s (ls_s (ls_s (ls_s (ls_s (ls_s (ls_s (ls_n (ls_n (ls_n ls_0))))))))))

set_option maxRecDepth 100000 in
set_option maxHeartbeats 2000000 in
theorem a_X12_range_0 {X : AX} {r0 : Int32 × Mem} (hX : CX X cX12_range 10 RX12) (hR : (aR X).frames = 4 ∧ (aR X).locals = 105 ∧ aCe X ≤ (aR X).cells ∧ aSl X ≤ (aR X).slots) (hQ : QI X r0) (hr : (aMeth X).sig.returnType = (some .int)) (v1 v2 v3 v4 v5 : Int32) (σ : Mem) : AWo X r0 0 [some (.ref 94), some (.int v1), some (.int v2), some (.int v3), some (.int v4), some (.int v5), none, none, none, none] [] σ (m_X12_range v1 v2 v3 v4 v5 σ) := by
  unfold m_X12_range
  refine a_il1 hX dX12_range_0 rfl ?_
  refine a_ic 3 hX dX12_range_1 (by decide) rfl ?_
  refine a_icmp_eq hX dX12_range_2 rfl rfl ?_ ?_
  · refine a_ic 0 hX dX12_range_9 (by decide) rfl ?_
    exact a_sub (a_X12_range_10 hX hR hQ hr v1 v2 v3 v4 v5 0 (σ)) (ls_s (ls_s (ls_s (ls_s (ls_s (ls_s (ls_n (ls_n (ls_n (ls_n ls_0))))))))))
  · refine a_ic 1 hX dX12_range_5 (by decide) rfl ?_
    refine a_goto hX dX12_range_6 rfl ?_
    exact a_sub (a_X12_range_10 hX hR hQ hr v1 v2 v3 v4 v5 1 (σ)) (ls_s (ls_s (ls_s (ls_s (ls_s (ls_s (ls_n (ls_n (ls_n (ls_n ls_0))))))))))

set_option maxRecDepth 100000 in
theorem ci_X12_range (l : Launch) (v1 v2 v3 v4 v5 : Int32) (σ : Mem) : CI l yX12_range cX12_range 10 (some .int) 4 105 [.ref 94, .int v1, .int v2, .int v3, .int v4, .int v5] σ (m_X12_range v1 v2 v3 v4 v5 σ) :=
  ci_of (by decide) (by simp [Value.category]) (by simp) (fun X r hl hX hR hQ hr => a_X12_range_0 hX hR hQ hr v1 v2 v3 v4 v5 σ)

set_option maxRecDepth 100000 in
set_option maxHeartbeats 2000000 in
theorem a_X12_join_58 {X : AX} {r0 : Int32 × Mem} (hX : CX X cX12_join 5 RX12) (hR : (aR X).frames = 4 ∧ (aR X).locals = 105 ∧ aCe X ≤ (aR X).cells ∧ aSl X ≤ (aR X).slots) (hQ : QI X r0) (hr : (aMeth X).sig.returnType = (some .int)) (v1 v2 v3 s1 : Int32) (σ : Mem) : AWo X r0 58 [some (.ref 94), some (.int v1), some (.int v2), some (.int v3), none] [.int s1, .ref 94] σ (m_X12_join_58 v1 v2 v3 s1 σ) := by
  unfold m_X12_join_58
  refine a_callI hX hR ml_X12_101 (ci_X12_goesWell _ _ _) s_94 rfl rfl rfl (by decide) (Nat.le_of_ble_eq_true rfl) rfl dX12_join_58 rfl (fun x1 => ?_)
  refine a_if_eq hX dX12_join_61 rfl rfl ?_ ?_
  · refine a_ic 0 hX dX12_join_76 (by decide) rfl ?_
    exact a_iret hX hQ hr dX12_join_77
  · refine a_al0 hX dX12_join_64 rfl ?_
    refine a_il1 hX dX12_join_65 rfl ?_
    refine a_il2 hX dX12_join_66 rfl ?_
    refine a_il3 hX dX12_join_67 rfl ?_
    refine a_ic 0 hX dX12_join_68 (by decide) rfl ?_
    refine a_ic 0 hX dX12_join_69 (by decide) rfl ?_
    refine a_callI hX hR ml_X12_119 (ci_X12_addRange _ _ _ _ _ _ _) s_94 rfl rfl rfl (by decide) (Nat.le_of_ble_eq_true rfl) rfl dX12_join_70 rfl (fun x2 => ?_)
    refine a_goto hX dX12_join_73 rfl ?_
    exact a_iret hX hQ hr dX12_join_77

set_option maxRecDepth 100000 in
set_option maxHeartbeats 2000000 in
theorem a_X12_join_32 {X : AX} {r0 : Int32 × Mem} (hX : CX X cX12_join 5 RX12) (hR : (aR X).frames = 4 ∧ (aR X).locals = 105 ∧ aCe X ≤ (aR X).cells ∧ aSl X ≤ (aR X).slots) (hQ : QI X r0) (hr : (aMeth X).sig.returnType = (some .int)) (v1 v2 v3 s0 : Int32) (σ : Mem) : AWo X r0 32 [some (.ref 94), some (.int v1), some (.int v2), some (.int v3), none] [.int s0] σ (m_X12_join_32 v1 v2 v3 s0 σ) := by
  unfold m_X12_join_32
  refine a_is4 hX dX12_join_32 rfl ?_
  refine a_al0 hX dX12_join_34 rfl ?_
  refine a_il4 hX dX12_join_35 rfl ?_
  refine a_if_ne hX dX12_join_37 rfl rfl ?_ ?_
  · refine a_al0 hX dX12_join_44 rfl ?_
    refine a_getI hX fl_X12_82 s_94 rfl dX12_join_45 rfl ?_
    refine a_bi 30 hX dX12_join_48 (by decide) rfl ?_
    refine a_icmp_ne hX dX12_join_50 rfl rfl ?_ ?_
    · refine a_ic 0 hX dX12_join_57 (by decide) rfl ?_
      exact a_sub (a_X12_join_58 hX hR hQ hr v1 v2 v3 0 (σ)) (ls_s (ls_s (ls_s (ls_s (ls_n ls_0)))))
    · refine a_ic 2 hX dX12_join_53 (by decide) rfl ?_
      refine a_goto hX dX12_join_54 rfl ?_
      exact a_sub (a_X12_join_58 hX hR hQ hr v1 v2 v3 2 (σ)) (ls_s (ls_s (ls_s (ls_s (ls_n ls_0)))))
  · refine a_ic 1 hX dX12_join_40 (by decide) rfl ?_
    refine a_goto hX dX12_join_41 rfl ?_
    exact a_sub (a_X12_join_58 hX hR hQ hr v1 v2 v3 1 (σ)) (ls_s (ls_s (ls_s (ls_s (ls_n ls_0)))))

set_option maxRecDepth 100000 in
set_option maxHeartbeats 2000000 in
theorem a_X12_join_31 {X : AX} {r0 : Int32 × Mem} (hX : CX X cX12_join 5 RX12) (hR : (aR X).frames = 4 ∧ (aR X).locals = 105 ∧ aCe X ≤ (aR X).cells ∧ aSl X ≤ (aR X).slots) (hQ : QI X r0) (hr : (aMeth X).sig.returnType = (some .int)) (v1 v2 v3 : Int32) (σ : Mem) : AWo X r0 31 [some (.ref 94), some (.int v1), some (.int v2), some (.int v3), none] [] σ (m_X12_join_31 v1 v2 v3 σ) := by
  unfold m_X12_join_31
  refine a_ic 0 hX dX12_join_31 (by decide) rfl ?_
  exact a_sub (a_X12_join_32 hX hR hQ hr v1 v2 v3 0 (σ)) (ls_s (ls_s (ls_s (ls_s (ls_n ls_0)))))

set_option maxRecDepth 100000 in
set_option maxHeartbeats 2000000 in
theorem a_X12_join_0 {X : AX} {r0 : Int32 × Mem} (hX : CX X cX12_join 5 RX12) (hR : (aR X).frames = 4 ∧ (aR X).locals = 105 ∧ aCe X ≤ (aR X).cells ∧ aSl X ≤ (aR X).slots) (hQ : QI X r0) (hr : (aMeth X).sig.returnType = (some .int)) (v1 v2 v3 : Int32) (σ : Mem) : AWo X r0 0 [some (.ref 94), some (.int v1), some (.int v2), some (.int v3), none] [] σ (m_X12_join v1 v2 v3 σ) := by
  unfold m_X12_join
  refine a_il1 hX dX12_join_0 rfl ?_
  refine a_bi 8 hX dX12_join_1 (by decide) rfl ?_
  refine a_bi 9 hX dX12_join_3 (by decide) rfl ?_
  refine a_callSI hX hR ml_X12_75 (ci_X12_in _ _ _ _ _) rfl rfl (by decide) (Nat.le_of_ble_eq_true rfl) rfl dX12_join_5 rfl (fun x1 => ?_)
  refine a_if_eq hX dX12_join_8 rfl rfl ?_ ?_
  · exact a_sub (a_X12_join_31 hX hR hQ hr v1 v2 v3 x1.2) (ls_s (ls_s (ls_s (ls_s (ls_n ls_0)))))
  · refine a_al0 hX dX12_join_11 rfl ?_
    refine a_il2 hX dX12_join_12 rfl ?_
    refine a_callI hX hR ml_X12_122 (ci_X12_isRange _ _ _) s_94 rfl rfl rfl (by decide) (Nat.le_of_ble_eq_true rfl) rfl dX12_join_13 rfl (fun x2 => ?_)
    refine a_if_eq hX dX12_join_16 rfl rfl ?_ ?_
    · exact a_sub (a_X12_join_31 hX hR hQ hr v1 v2 v3 x2.2) (ls_s (ls_s (ls_s (ls_s (ls_n ls_0)))))
    · refine a_al0 hX dX12_join_19 rfl ?_
      refine a_il3 hX dX12_join_20 rfl ?_
      refine a_callI hX hR ml_X12_122 (ci_X12_isRange _ _ _) s_94 rfl rfl rfl (by decide) (Nat.le_of_ble_eq_true rfl) rfl dX12_join_21 rfl (fun x3 => ?_)
      refine a_if_eq hX dX12_join_24 rfl rfl ?_ ?_
      · exact a_sub (a_X12_join_31 hX hR hQ hr v1 v2 v3 x3.2) (ls_s (ls_s (ls_s (ls_s (ls_n ls_0)))))
      · refine a_ic 1 hX dX12_join_27 (by decide) rfl ?_
        refine a_goto hX dX12_join_28 rfl ?_
        exact a_sub (a_X12_join_32 hX hR hQ hr v1 v2 v3 1 x3.2) (ls_s (ls_s (ls_s (ls_s (ls_n ls_0)))))

set_option maxRecDepth 100000 in
theorem ci_X12_join (l : Launch) (v1 v2 v3 : Int32) (σ : Mem) : CI l yX12_join cX12_join 5 (some .int) 4 105 [.ref 94, .int v1, .int v2, .int v3] σ (m_X12_join v1 v2 v3 σ) :=
  ci_of (by decide) (by simp [Value.category]) (by simp) (fun X r hl hX hR hQ hr => a_X12_join_0 hX hR hQ hr v1 v2 v3 σ)

set_option maxRecDepth 100000 in
set_option maxHeartbeats 2000000 in
theorem a_X12_has_22 {X : AX} {r0 : Int32 × Mem} (hX : CX X cX12_has 3 RX12) (hR : (aR X).frames = 2 ∧ (aR X).locals = 43 ∧ aCe X ≤ (aR X).cells ∧ aSl X ≤ (aR X).slots) (hQ : QI X r0) (hr : (aMeth X).sig.returnType = (some .boolean)) (v1 v2 s1 : Int32) (σ : Mem) : AWo X r0 22 [some (.ref 94), some (.int v1), some (.int v2)] [.int s1, .ref 94] σ (m_X12_has_22 v1 v2 s1 σ) := by
  unfold m_X12_has_22
  refine a_callI hX hR ml_X12_101 (ci_X12_goesWell _ _ _) s_94 rfl rfl rfl (by decide) (Nat.le_of_ble_eq_true rfl) rfl dX12_has_22 rfl (fun x1 => ?_)
  refine a_if_eq hX dX12_has_25 rfl rfl ?_ ?_
  · refine a_ic 0 hX dX12_has_46 (by decide) rfl ?_
    exact a_zret0 (by decide) hX hQ hr dX12_has_47
  · refine a_al0 hX dX12_has_28 rfl ?_
    refine a_getR hX fl_X12_22 s_94 rfl dX12_has_29 rfl ?_
    refine a_bi 24 hX dX12_has_32 (by decide) rfl ?_
    refine a_il1 hX dX12_has_34 rfl ?_
    refine a_imul hX dX12_has_35 rfl ?_
    refine a_il2 hX dX12_has_36 rfl ?_
    refine a_iadd hX dX12_has_37 rfl ?_
    refine a_zld hX s_99 dX12_has_38 rfl (fun x2 => ?_)
    refine a_if_eq hX dX12_has_39 rfl rfl ?_ ?_
    · refine a_ic 0 hX dX12_has_46 (by decide) rfl ?_
      exact a_zret0 (by decide) hX hQ hr dX12_has_47
    · refine a_ic 1 hX dX12_has_42 (by decide) rfl ?_
      refine a_goto hX dX12_has_43 rfl ?_
      exact a_zret0 (by decide) hX hQ hr dX12_has_47

set_option maxRecDepth 100000 in
set_option maxHeartbeats 2000000 in
theorem a_X12_has_21 {X : AX} {r0 : Int32 × Mem} (hX : CX X cX12_has 3 RX12) (hR : (aR X).frames = 2 ∧ (aR X).locals = 43 ∧ aCe X ≤ (aR X).cells ∧ aSl X ≤ (aR X).slots) (hQ : QI X r0) (hr : (aMeth X).sig.returnType = (some .boolean)) (v1 v2 : Int32) (σ : Mem) : AWo X r0 21 [some (.ref 94), some (.int v1), some (.int v2)] [.ref 94] σ (m_X12_has_21 v1 v2 σ) := by
  unfold m_X12_has_21
  refine a_ic 1 hX dX12_has_21 (by decide) rfl ?_
  exact a_sub (a_X12_has_22 hX hR hQ hr v1 v2 1 (σ)) (ls_s (ls_s (ls_s ls_0)))

set_option maxRecDepth 100000 in
set_option maxHeartbeats 2000000 in
theorem a_X12_has_0 {X : AX} {r0 : Int32 × Mem} (hX : CX X cX12_has 3 RX12) (hR : (aR X).frames = 2 ∧ (aR X).locals = 43 ∧ aCe X ≤ (aR X).cells ∧ aSl X ≤ (aR X).slots) (hQ : QI X r0) (hr : (aMeth X).sig.returnType = (some .boolean)) (v1 v2 : Int32) (σ : Mem) : AWo X r0 0 [some (.ref 94), some (.int v1), some (.int v2)] [] σ (m_X12_has v1 v2 σ) := by
  unfold m_X12_has
  refine a_al0 hX dX12_has_0 rfl ?_
  refine a_al0 hX dX12_has_1 rfl ?_
  refine a_il1 hX dX12_has_2 rfl ?_
  refine a_callI hX hR ml_X12_122 (ci_X12_isRange _ _ _) s_94 rfl rfl rfl (by decide) (Nat.le_of_ble_eq_true rfl) rfl dX12_has_3 rfl (fun x1 => ?_)
  refine a_if_eq hX dX12_has_6 rfl rfl ?_ ?_
  · exact a_sub (a_X12_has_21 hX hR hQ hr v1 v2 x1.2) (ls_s (ls_s (ls_s ls_0)))
  · refine a_al0 hX dX12_has_9 rfl ?_
    refine a_il2 hX dX12_has_10 rfl ?_
    refine a_callI hX hR ml_X12_108 (ci_X12_isVersion _ _ _) s_94 rfl rfl rfl (by decide) (Nat.le_of_ble_eq_true rfl) rfl dX12_has_11 rfl (fun x2 => ?_)
    refine a_if_eq hX dX12_has_14 rfl rfl ?_ ?_
    · exact a_sub (a_X12_has_21 hX hR hQ hr v1 v2 x2.2) (ls_s (ls_s (ls_s ls_0)))
    · refine a_ic 0 hX dX12_has_17 (by decide) rfl ?_
      refine a_goto hX dX12_has_18 rfl ?_
      exact a_sub (a_X12_has_22 hX hR hQ hr v1 v2 0 x2.2) (ls_s (ls_s (ls_s ls_0)))

set_option maxRecDepth 100000 in
theorem ci_X12_has (l : Launch) (v1 v2 : Int32) (σ : Mem) : CI l yX12_has cX12_has 3 (some .boolean) 2 43 [.ref 94, .int v1, .int v2] σ (m_X12_has v1 v2 σ) :=
  ci_of (by decide) (by simp [Value.category]) (by simp) (fun X r hl hX hR hQ hr => a_X12_has_0 hX hR hQ hr v1 v2 σ)

set_option maxRecDepth 100000 in
set_option maxHeartbeats 2000000 in
theorem a_X12_need_132 {X : AX} {r0 : Int32 × Mem} (hX : CX X cX12_need 12 RX12) (hR : (aR X).frames = 2 ∧ (aR X).locals = 43 ∧ aCe X ≤ (aR X).cells ∧ aSl X ≤ (aR X).slots) (hQ : QI X r0) (hr : (aMeth X).sig.returnType = (some .int)) (v1 v2 v3 v4 v5 v6 v7 v10 s1 : Int32) (σ : Mem) : AWo X r0 132 [some (.ref 94), some (.int v1), some (.int v2), some (.int v3), some (.int v4), some (.int v5), some (.int v6), some (.int v7), none, none, some (.int v10), none] [.int s1, .ref 94] σ (m_X12_need_132 v1 v2 v3 v4 v5 v6 v7 v10 s1 σ) := by
  unfold m_X12_need_132
  refine a_callI hX hR ml_X12_101 (ci_X12_goesWell _ _ _) s_94 rfl rfl rfl (by decide) (Nat.le_of_ble_eq_true rfl) rfl dX12_need_132 rfl (fun x1 => ?_)
  refine a_if_ne hX dX12_need_135 rfl rfl ?_ ?_
  · refine a_bi 6 hX dX12_need_140 (by decide) rfl ?_
    refine a_ic 5 hX dX12_need_142 (by decide) rfl ?_
    refine a_il1 hX dX12_need_143 rfl ?_
    refine a_imul hX dX12_need_144 rfl ?_
    refine a_il10 hX dX12_need_145 rfl ?_
    refine a_iadd hX dX12_need_147 rfl ?_
    refine a_imul hX dX12_need_148 rfl ?_
    refine a_name (fun y2 => ?_)
    refine a_is11 hX dX12_need_149 rfl ?_
    refine a_al0 hX dX12_need_151 rfl ?_
    refine a_getR hX fl_X12_16 s_94 rfl dX12_need_152 rfl ?_
    refine a_il11 hX dX12_need_155 rfl ?_
    refine a_il2 hX dX12_need_157 rfl ?_
    refine a_ast hX s_97 dX12_need_158 rfl (fun m3 => ?_)
    refine a_al0 hX dX12_need_159 rfl ?_
    refine a_getR hX fl_X12_16 s_94 rfl dX12_need_160 rfl ?_
    refine a_il11 hX dX12_need_163 rfl ?_
    refine a_ic 1 hX dX12_need_165 (by decide) rfl ?_
    refine a_iadd hX dX12_need_166 rfl ?_
    refine a_il3 hX dX12_need_167 rfl ?_
    refine a_ast hX s_97 dX12_need_168 rfl (fun m4 => ?_)
    refine a_al0 hX dX12_need_169 rfl ?_
    refine a_getR hX fl_X12_16 s_94 rfl dX12_need_170 rfl ?_
    refine a_il11 hX dX12_need_173 rfl ?_
    refine a_ic 2 hX dX12_need_175 (by decide) rfl ?_
    refine a_iadd hX dX12_need_176 rfl ?_
    refine a_il4 hX dX12_need_177 rfl ?_
    refine a_ast hX s_97 dX12_need_179 rfl (fun m5 => ?_)
    refine a_al0 hX dX12_need_180 rfl ?_
    refine a_getR hX fl_X12_16 s_94 rfl dX12_need_181 rfl ?_
    refine a_il11 hX dX12_need_184 rfl ?_
    refine a_ic 3 hX dX12_need_186 (by decide) rfl ?_
    refine a_iadd hX dX12_need_187 rfl ?_
    refine a_il5 hX dX12_need_188 rfl ?_
    refine a_ast hX s_97 dX12_need_190 rfl (fun m6 => ?_)
    refine a_al0 hX dX12_need_191 rfl ?_
    refine a_getR hX fl_X12_16 s_94 rfl dX12_need_192 rfl ?_
    refine a_il11 hX dX12_need_195 rfl ?_
    refine a_ic 4 hX dX12_need_197 (by decide) rfl ?_
    refine a_iadd hX dX12_need_198 rfl ?_
    refine a_il6 hX dX12_need_199 rfl ?_
    refine a_ast hX s_97 dX12_need_201 rfl (fun m7 => ?_)
    refine a_al0 hX dX12_need_202 rfl ?_
    refine a_getR hX fl_X12_16 s_94 rfl dX12_need_203 rfl ?_
    refine a_il11 hX dX12_need_206 rfl ?_
    refine a_ic 5 hX dX12_need_208 (by decide) rfl ?_
    refine a_iadd hX dX12_need_209 rfl ?_
    refine a_il7 hX dX12_need_210 rfl ?_
    refine a_ast hX s_97 dX12_need_212 rfl (fun m8 => ?_)
    refine a_al0 hX dX12_need_213 rfl ?_
    refine a_getR hX fl_X12_7 s_94 rfl dX12_need_214 rfl ?_
    refine a_bi 9 hX dX12_need_217 (by decide) rfl ?_
    refine a_il1 hX dX12_need_219 rfl ?_
    refine a_imul hX dX12_need_220 rfl ?_
    refine a_bi 8 hX dX12_need_221 (by decide) rfl ?_
    refine a_iadd hX dX12_need_223 rfl ?_
    refine a_dup2 hX dX12_need_224 rfl rfl rfl ?_
    refine a_ald hX s_95 dX12_need_225 rfl (fun x9 => ?_)
    refine a_ic 1 hX dX12_need_226 (by decide) rfl ?_
    refine a_iadd hX dX12_need_227 rfl ?_
    refine a_ast hX s_95 dX12_need_228 rfl (fun m10 => ?_)
    refine a_al0 hX dX12_need_229 rfl ?_
    refine a_ic 0 hX dX12_need_230 (by decide) rfl ?_
    refine a_putZ hX fp_X12_104 (by decide) s_94 rfl dX12_need_231 rfl ?_
    refine a_nameM (fun m11 => ?_)
    refine a_il10 hX dX12_need_234 rfl ?_
    refine a_ic 1 hX dX12_need_236 (by decide) rfl ?_
    refine a_iadd hX dX12_need_237 rfl ?_
    exact a_iret hX hQ hr dX12_need_238
  · refine a_ic 0 hX dX12_need_138 (by decide) rfl ?_
    exact a_iret hX hQ hr dX12_need_139

set_option maxRecDepth 100000 in
set_option maxHeartbeats 2000000 in
theorem a_X12_need_100 {X : AX} {r0 : Int32 × Mem} (hX : CX X cX12_need 12 RX12) (hR : (aR X).frames = 2 ∧ (aR X).locals = 43 ∧ aCe X ≤ (aR X).cells ∧ aSl X ≤ (aR X).slots) (hQ : QI X r0) (hr : (aMeth X).sig.returnType = (some .int)) (v1 v2 v3 v4 v5 v6 v7 v8 v9 s0 : Int32) (σ : Mem) : AWo X r0 100 [some (.ref 94), some (.int v1), some (.int v2), some (.int v3), some (.int v4), some (.int v5), some (.int v6), some (.int v7), some (.int v8), some (.int v9), none, none] [.int s0] σ (m_X12_need_100 v1 v2 v3 v4 v5 v6 v7 v8 v9 s0 σ) := by
  unfold m_X12_need_100
  refine a_is10 hX dX12_need_100 rfl ?_
  refine a_al0 hX dX12_need_102 rfl ?_
  refine a_il8 hX dX12_need_103 rfl ?_
  refine a_if_ne hX dX12_need_105 rfl rfl ?_ ?_
  · refine a_il9 hX dX12_need_112 rfl ?_
    refine a_if_ne hX dX12_need_114 rfl rfl ?_ ?_
    · refine a_il10 hX dX12_need_121 rfl ?_
      refine a_ic 5 hX dX12_need_123 (by decide) rfl ?_
      refine a_icmp_ne hX dX12_need_124 rfl rfl ?_ ?_
      · refine a_ic 0 hX dX12_need_131 (by decide) rfl ?_
        exact a_sub (a_X12_need_132 hX hR hQ hr v1 v2 v3 v4 v5 v6 v7 s0 0 (σ)) (ls_s (ls_s (ls_s (ls_s (ls_s (ls_s (ls_s (ls_s (ls_n (ls_n (ls_s (ls_n ls_0))))))))))))
      · refine a_ic 3 hX dX12_need_127 (by decide) rfl ?_
        refine a_goto hX dX12_need_128 rfl ?_
        exact a_sub (a_X12_need_132 hX hR hQ hr v1 v2 v3 v4 v5 v6 v7 s0 3 (σ)) (ls_s (ls_s (ls_s (ls_s (ls_s (ls_s (ls_s (ls_s (ls_n (ls_n (ls_s (ls_n ls_0))))))))))))
    · refine a_ic 2 hX dX12_need_117 (by decide) rfl ?_
      refine a_goto hX dX12_need_118 rfl ?_
      exact a_sub (a_X12_need_132 hX hR hQ hr v1 v2 v3 v4 v5 v6 v7 s0 2 (σ)) (ls_s (ls_s (ls_s (ls_s (ls_s (ls_s (ls_s (ls_s (ls_n (ls_n (ls_s (ls_n ls_0))))))))))))
  · refine a_ic 1 hX dX12_need_108 (by decide) rfl ?_
    refine a_goto hX dX12_need_109 rfl ?_
    exact a_sub (a_X12_need_132 hX hR hQ hr v1 v2 v3 v4 v5 v6 v7 s0 1 (σ)) (ls_s (ls_s (ls_s (ls_s (ls_s (ls_s (ls_s (ls_s (ls_n (ls_n (ls_s (ls_n ls_0))))))))))))

set_option maxRecDepth 100000 in
set_option maxHeartbeats 2000000 in
theorem a_X12_need_77 {X : AX} {r0 : Int32 × Mem} (hX : CX X cX12_need 12 RX12) (hR : (aR X).frames = 2 ∧ (aR X).locals = 43 ∧ aCe X ≤ (aR X).cells ∧ aSl X ≤ (aR X).slots) (hQ : QI X r0) (hr : (aMeth X).sig.returnType = (some .int)) (v1 v2 v3 v4 v5 v6 v7 v8 s0 : Int32) (σ : Mem) : AWo X r0 77 [some (.ref 94), some (.int v1), some (.int v2), some (.int v3), some (.int v4), some (.int v5), some (.int v6), some (.int v7), some (.int v8), none, none, none] [.int s0] σ (m_X12_need_77 v1 v2 v3 v4 v5 v6 v7 v8 s0 σ) := by
  unfold m_X12_need_77
  refine a_is9 hX dX12_need_77 rfl ?_
  refine a_il8 hX dX12_need_79 rfl ?_
  refine a_if_eq hX dX12_need_81 rfl rfl ?_ ?_
  · refine a_ic 0 hX dX12_need_99 (by decide) rfl ?_
    exact a_sub (a_X12_need_100 hX hR hQ hr v1 v2 v3 v4 v5 v6 v7 v8 s0 0 (σ)) (ls_s (ls_s (ls_s (ls_s (ls_s (ls_s (ls_s (ls_s (ls_s (ls_s (ls_n (ls_n ls_0))))))))))))
  · refine a_al0 hX dX12_need_84 rfl ?_
    refine a_getR hX fl_X12_7 s_94 rfl dX12_need_85 rfl ?_
    refine a_bi 9 hX dX12_need_88 (by decide) rfl ?_
    refine a_il1 hX dX12_need_90 rfl ?_
    refine a_imul hX dX12_need_91 rfl ?_
    refine a_bi 8 hX dX12_need_92 (by decide) rfl ?_
    refine a_iadd hX dX12_need_94 rfl ?_
    refine a_ald hX s_95 dX12_need_95 rfl (fun x1 => ?_)
    refine a_goto hX dX12_need_96 rfl ?_
    exact a_sub (a_X12_need_100 hX hR hQ hr v1 v2 v3 v4 v5 v6 v7 v8 s0 x1 (σ)) (ls_s (ls_s (ls_s (ls_s (ls_s (ls_s (ls_s (ls_s (ls_s (ls_s (ls_n (ls_n ls_0))))))))))))

set_option maxRecDepth 100000 in
set_option maxHeartbeats 2000000 in
theorem a_X12_need_76 {X : AX} {r0 : Int32 × Mem} (hX : CX X cX12_need 12 RX12) (hR : (aR X).frames = 2 ∧ (aR X).locals = 43 ∧ aCe X ≤ (aR X).cells ∧ aSl X ≤ (aR X).slots) (hQ : QI X r0) (hr : (aMeth X).sig.returnType = (some .int)) (v1 v2 v3 v4 v5 v6 v7 v8 : Int32) (σ : Mem) : AWo X r0 76 [some (.ref 94), some (.int v1), some (.int v2), some (.int v3), some (.int v4), some (.int v5), some (.int v6), some (.int v7), some (.int v8), none, none, none] [] σ (m_X12_need_76 v1 v2 v3 v4 v5 v6 v7 v8 σ) := by
  unfold m_X12_need_76
  refine a_ic 0 hX dX12_need_76 (by decide) rfl ?_
  exact a_sub (a_X12_need_77 hX hR hQ hr v1 v2 v3 v4 v5 v6 v7 v8 0 (σ)) (ls_s (ls_s (ls_s (ls_s (ls_s (ls_s (ls_s (ls_s (ls_s (ls_n (ls_n (ls_n ls_0))))))))))))

set_option maxRecDepth 100000 in
set_option maxHeartbeats 2000000 in
theorem a_X12_need_48 {X : AX} {r0 : Int32 × Mem} (hX : CX X cX12_need 12 RX12) (hR : (aR X).frames = 2 ∧ (aR X).locals = 43 ∧ aCe X ≤ (aR X).cells ∧ aSl X ≤ (aR X).slots) (hQ : QI X r0) (hr : (aMeth X).sig.returnType = (some .int)) (v1 v2 v3 v4 v5 v6 v7 s0 : Int32) (σ : Mem) : AWo X r0 48 [some (.ref 94), some (.int v1), some (.int v2), some (.int v3), some (.int v4), some (.int v5), some (.int v6), some (.int v7), none, none, none, none] [.int s0] σ (m_X12_need_48 v1 v2 v3 v4 v5 v6 v7 s0 σ) := by
  unfold m_X12_need_48
  refine a_is8 hX dX12_need_48 rfl ?_
  refine a_il6 hX dX12_need_50 rfl ?_
  refine a_ic 0 hX dX12_need_52 (by decide) rfl ?_
  refine a_bi 7 hX dX12_need_53 (by decide) rfl ?_
  refine a_callSI hX hR ml_X12_75 (ci_X12_in _ _ _ _ _) rfl rfl (by decide) (Nat.le_of_ble_eq_true rfl) rfl dX12_need_55 rfl (fun x1 => ?_)
  refine a_if_eq hX dX12_need_58 rfl rfl ?_ ?_
  · exact a_sub (a_X12_need_76 hX hR hQ hr v1 v2 v3 v4 v5 v6 v7 s0 x1.2) (ls_s (ls_s (ls_s (ls_s (ls_s (ls_s (ls_s (ls_s (ls_s (ls_n (ls_n (ls_n ls_0))))))))))))
  · refine a_il7 hX dX12_need_61 rfl ?_
    refine a_ic 0 hX dX12_need_63 (by decide) rfl ?_
    refine a_bi 7 hX dX12_need_64 (by decide) rfl ?_
    refine a_callSI hX hR ml_X12_75 (ci_X12_in _ _ _ _ _) rfl rfl (by decide) (Nat.le_of_ble_eq_true rfl) rfl dX12_need_66 rfl (fun x2 => ?_)
    refine a_if_eq hX dX12_need_69 rfl rfl ?_ ?_
    · exact a_sub (a_X12_need_76 hX hR hQ hr v1 v2 v3 v4 v5 v6 v7 s0 x2.2) (ls_s (ls_s (ls_s (ls_s (ls_s (ls_s (ls_s (ls_s (ls_s (ls_n (ls_n (ls_n ls_0))))))))))))
    · refine a_ic 1 hX dX12_need_72 (by decide) rfl ?_
      refine a_goto hX dX12_need_73 rfl ?_
      exact a_sub (a_X12_need_77 hX hR hQ hr v1 v2 v3 v4 v5 v6 v7 s0 1 x2.2) (ls_s (ls_s (ls_s (ls_s (ls_s (ls_s (ls_s (ls_s (ls_s (ls_n (ls_n (ls_n ls_0))))))))))))

set_option maxRecDepth 100000 in
set_option maxHeartbeats 2000000 in
theorem a_X12_need_47 {X : AX} {r0 : Int32 × Mem} (hX : CX X cX12_need 12 RX12) (hR : (aR X).frames = 2 ∧ (aR X).locals = 43 ∧ aCe X ≤ (aR X).cells ∧ aSl X ≤ (aR X).slots) (hQ : QI X r0) (hr : (aMeth X).sig.returnType = (some .int)) (v1 v2 v3 v4 v5 v6 v7 : Int32) (σ : Mem) : AWo X r0 47 [some (.ref 94), some (.int v1), some (.int v2), some (.int v3), some (.int v4), some (.int v5), some (.int v6), some (.int v7), none, none, none, none] [] σ (m_X12_need_47 v1 v2 v3 v4 v5 v6 v7 σ) := by
  unfold m_X12_need_47
  refine a_ic 0 hX dX12_need_47 (by decide) rfl ?_
  exact a_sub (a_X12_need_48 hX hR hQ hr v1 v2 v3 v4 v5 v6 v7 0 (σ)) (ls_s (ls_s (ls_s (ls_s (ls_s (ls_s (ls_s (ls_s (ls_n (ls_n (ls_n (ls_n ls_0))))))))))))

set_option maxRecDepth 100000 in
set_option maxHeartbeats 2000000 in
theorem a_X12_need_0 {X : AX} {r0 : Int32 × Mem} (hX : CX X cX12_need 12 RX12) (hR : (aR X).frames = 2 ∧ (aR X).locals = 43 ∧ aCe X ≤ (aR X).cells ∧ aSl X ≤ (aR X).slots) (hQ : QI X r0) (hr : (aMeth X).sig.returnType = (some .int)) (v1 v2 v3 v4 v5 v6 v7 : Int32) (σ : Mem) : AWo X r0 0 [some (.ref 94), some (.int v1), some (.int v2), some (.int v3), some (.int v4), some (.int v5), some (.int v6), some (.int v7), none, none, none, none] [] σ (m_X12_need v1 v2 v3 v4 v5 v6 v7 σ) := by
  unfold m_X12_need
  refine a_al0 hX dX12_need_0 rfl ?_
  refine a_il1 hX dX12_need_1 rfl ?_
  refine a_callI hX hR ml_X12_108 (ci_X12_isVersion _ _ _) s_94 rfl rfl rfl (by decide) (Nat.le_of_ble_eq_true rfl) rfl dX12_need_2 rfl (fun x1 => ?_)
  refine a_if_eq hX dX12_need_5 rfl rfl ?_ ?_
  · exact a_sub (a_X12_need_47 hX hR hQ hr v1 v2 v3 v4 v5 v6 v7 x1.2) (ls_s (ls_s (ls_s (ls_s (ls_s (ls_s (ls_s (ls_s (ls_n (ls_n (ls_n (ls_n ls_0))))))))))))
  · refine a_il2 hX dX12_need_8 rfl ?_
    refine a_callSI hX hR ml_X12_93 (ci_X12_isPackage _ _ _) rfl rfl (by decide) (Nat.le_of_ble_eq_true rfl) rfl dX12_need_9 rfl (fun x2 => ?_)
    refine a_if_eq hX dX12_need_12 rfl rfl ?_ ?_
    · exact a_sub (a_X12_need_47 hX hR hQ hr v1 v2 v3 v4 v5 v6 v7 x2.2) (ls_s (ls_s (ls_s (ls_s (ls_s (ls_s (ls_s (ls_s (ls_n (ls_n (ls_n (ls_n ls_0))))))))))))
    · refine a_al0 hX dX12_need_15 rfl ?_
      refine a_il3 hX dX12_need_16 rfl ?_
      refine a_callI hX hR ml_X12_122 (ci_X12_isRange _ _ _) s_94 rfl rfl rfl (by decide) (Nat.le_of_ble_eq_true rfl) rfl dX12_need_17 rfl (fun x3 => ?_)
      refine a_if_eq hX dX12_need_20 rfl rfl ?_ ?_
      · exact a_sub (a_X12_need_47 hX hR hQ hr v1 v2 v3 v4 v5 v6 v7 x3.2) (ls_s (ls_s (ls_s (ls_s (ls_s (ls_s (ls_s (ls_s (ls_n (ls_n (ls_n (ls_n ls_0))))))))))))
      · refine a_il4 hX dX12_need_23 rfl ?_
        refine a_ic 0 hX dX12_need_25 (by decide) rfl ?_
        refine a_ic 2 hX dX12_need_26 (by decide) rfl ?_
        refine a_callSI hX hR ml_X12_75 (ci_X12_in _ _ _ _ _) rfl rfl (by decide) (Nat.le_of_ble_eq_true rfl) rfl dX12_need_27 rfl (fun x4 => ?_)
        refine a_if_eq hX dX12_need_30 rfl rfl ?_ ?_
        · exact a_sub (a_X12_need_47 hX hR hQ hr v1 v2 v3 v4 v5 v6 v7 x4.2) (ls_s (ls_s (ls_s (ls_s (ls_s (ls_s (ls_s (ls_s (ls_n (ls_n (ls_n (ls_n ls_0))))))))))))
        · refine a_il5 hX dX12_need_33 rfl ?_
          refine a_ic (-1) hX dX12_need_35 (by decide) rfl ?_
          refine a_ic 2 hX dX12_need_36 (by decide) rfl ?_
          refine a_callSI hX hR ml_X12_75 (ci_X12_in _ _ _ _ _) rfl rfl (by decide) (Nat.le_of_ble_eq_true rfl) rfl dX12_need_37 rfl (fun x5 => ?_)
          refine a_if_eq hX dX12_need_40 rfl rfl ?_ ?_
          · exact a_sub (a_X12_need_47 hX hR hQ hr v1 v2 v3 v4 v5 v6 v7 x5.2) (ls_s (ls_s (ls_s (ls_s (ls_s (ls_s (ls_s (ls_s (ls_n (ls_n (ls_n (ls_n ls_0))))))))))))
          · refine a_ic 1 hX dX12_need_43 (by decide) rfl ?_
            refine a_goto hX dX12_need_44 rfl ?_
            exact a_sub (a_X12_need_48 hX hR hQ hr v1 v2 v3 v4 v5 v6 v7 1 x5.2) (ls_s (ls_s (ls_s (ls_s (ls_s (ls_s (ls_s (ls_s (ls_n (ls_n (ls_n (ls_n ls_0))))))))))))

set_option maxRecDepth 100000 in
theorem ci_X12_need (l : Launch) (v1 v2 v3 v4 v5 v6 v7 : Int32) (σ : Mem) : CI l yX12_need cX12_need 12 (some .int) 2 43 [.ref 94, .int v1, .int v2, .int v3, .int v4, .int v5, .int v6, .int v7] σ (m_X12_need v1 v2 v3 v4 v5 v6 v7 σ) :=
  ci_of (by decide) (by simp [Value.category]) (by simp) (fun X r hl hX hR hQ hr => a_X12_need_0 hX hR hQ hr v1 v2 v3 v4 v5 v6 v7 σ)

set_option maxRecDepth 100000 in
set_option maxHeartbeats 2000000 in
theorem a_X12_demand_70 {X : AX} {r0 : Int32 × Mem} (hX : CX X cX12_demand 7 RX12) (hR : (aR X).frames = 2 ∧ (aR X).locals = 43 ∧ aCe X ≤ (aR X).cells ∧ aSl X ≤ (aR X).slots) (hQ : QI X r0) (hr : (aMeth X).sig.returnType = (some .int)) (v1 v2 v3 v4 s1 : Int32) (σ : Mem) : AWo X r0 70 [some (.ref 94), some (.int v1), some (.int v2), some (.int v3), some (.int v4), none, none] [.int s1, .ref 94] σ (m_X12_demand_70 v1 v2 v3 v4 s1 σ) := by
  unfold m_X12_demand_70
  refine a_callI hX hR ml_X12_101 (ci_X12_goesWell _ _ _) s_94 rfl rfl rfl (by decide) (Nat.le_of_ble_eq_true rfl) rfl dX12_demand_70 rfl (fun x1 => ?_)
  refine a_if_ne hX dX12_demand_73 rfl rfl ?_ ?_
  · refine a_ic 4 hX dX12_demand_78 (by decide) rfl ?_
    refine a_al0 hX dX12_demand_79 rfl ?_
    refine a_getI hX fl_X12_125 s_94 rfl dX12_demand_80 rfl ?_
    refine a_imul hX dX12_demand_83 rfl ?_
    refine a_name (fun y2 => ?_)
    refine a_is6 hX dX12_demand_84 rfl ?_
    refine a_al0 hX dX12_demand_86 rfl ?_
    refine a_getR hX fl_X12_26 s_94 rfl dX12_demand_87 rfl ?_
    refine a_il6 hX dX12_demand_90 rfl ?_
    refine a_il1 hX dX12_demand_92 rfl ?_
    refine a_ast hX s_100 dX12_demand_93 rfl (fun m3 => ?_)
    refine a_al0 hX dX12_demand_94 rfl ?_
    refine a_getR hX fl_X12_26 s_94 rfl dX12_demand_95 rfl ?_
    refine a_il6 hX dX12_demand_98 rfl ?_
    refine a_ic 1 hX dX12_demand_100 (by decide) rfl ?_
    refine a_iadd hX dX12_demand_101 rfl ?_
    refine a_il2 hX dX12_demand_102 rfl ?_
    refine a_ast hX s_100 dX12_demand_103 rfl (fun m4 => ?_)
    refine a_al0 hX dX12_demand_104 rfl ?_
    refine a_getR hX fl_X12_26 s_94 rfl dX12_demand_105 rfl ?_
    refine a_il6 hX dX12_demand_108 rfl ?_
    refine a_ic 2 hX dX12_demand_110 (by decide) rfl ?_
    refine a_iadd hX dX12_demand_111 rfl ?_
    refine a_il3 hX dX12_demand_112 rfl ?_
    refine a_ast hX s_100 dX12_demand_113 rfl (fun m5 => ?_)
    refine a_al0 hX dX12_demand_114 rfl ?_
    refine a_getR hX fl_X12_26 s_94 rfl dX12_demand_115 rfl ?_
    refine a_il6 hX dX12_demand_118 rfl ?_
    refine a_ic 3 hX dX12_demand_120 (by decide) rfl ?_
    refine a_iadd hX dX12_demand_121 rfl ?_
    refine a_il4 hX dX12_demand_122 rfl ?_
    refine a_ast hX s_100 dX12_demand_124 rfl (fun m6 => ?_)
    refine a_al0 hX dX12_demand_125 rfl ?_
    refine a_dup hX dX12_demand_126 rfl rfl ?_
    refine a_getI hX fl_X12_125 s_94 rfl dX12_demand_127 rfl ?_
    refine a_ic 1 hX dX12_demand_130 (by decide) rfl ?_
    refine a_iadd hX dX12_demand_131 rfl ?_
    refine a_putI hX fp_X12_125 s_94 rfl dX12_demand_132 rfl ?_
    refine a_nameM (fun m7 => ?_)
    refine a_al0 hX dX12_demand_135 rfl ?_
    refine a_ic 0 hX dX12_demand_136 (by decide) rfl ?_
    refine a_putZ hX fp_X12_104 (by decide) s_94 rfl dX12_demand_137 rfl ?_
    refine a_nameM (fun m8 => ?_)
    refine a_al0 hX dX12_demand_140 rfl ?_
    refine a_getI hX fl_X12_125 s_94 rfl dX12_demand_141 rfl ?_
    refine a_ic 1 hX dX12_demand_144 (by decide) rfl ?_
    refine a_isub hX dX12_demand_145 rfl ?_
    exact a_iret hX hQ hr dX12_demand_146
  · refine a_ic 0 hX dX12_demand_76 (by decide) rfl ?_
    exact a_iret hX hQ hr dX12_demand_77

set_option maxRecDepth 100000 in
set_option maxHeartbeats 2000000 in
theorem a_X12_demand_29 {X : AX} {r0 : Int32 × Mem} (hX : CX X cX12_demand 7 RX12) (hR : (aR X).frames = 2 ∧ (aR X).locals = 43 ∧ aCe X ≤ (aR X).cells ∧ aSl X ≤ (aR X).slots) (hQ : QI X r0) (hr : (aMeth X).sig.returnType = (some .int)) (v1 v2 v3 v4 s0 : Int32) (σ : Mem) : AWo X r0 29 [some (.ref 94), some (.int v1), some (.int v2), some (.int v3), some (.int v4), none, none] [.int s0] σ (m_X12_demand_29 v1 v2 v3 v4 s0 σ) := by
  unfold m_X12_demand_29
  refine a_is5 hX dX12_demand_29 rfl ?_
  refine a_al0 hX dX12_demand_31 rfl ?_
  refine a_il5 hX dX12_demand_32 rfl ?_
  refine a_if_ne hX dX12_demand_34 rfl rfl ?_ ?_
  · refine a_il4 hX dX12_demand_41 rfl ?_
    refine a_ic 0 hX dX12_demand_43 (by decide) rfl ?_
    refine a_bi 7 hX dX12_demand_44 (by decide) rfl ?_
    refine a_callSI hX hR ml_X12_75 (ci_X12_in _ _ _ _ _) rfl rfl (by decide) (Nat.le_of_ble_eq_true rfl) rfl dX12_demand_46 rfl (fun x1 => ?_)
    refine a_if_ne hX dX12_demand_49 rfl rfl ?_ ?_
    · refine a_al0 hX dX12_demand_56 rfl ?_
      refine a_getI hX fl_X12_125 s_94 rfl dX12_demand_57 rfl ?_
      refine a_bi 6 hX dX12_demand_60 (by decide) rfl ?_
      refine a_icmp_ne hX dX12_demand_62 rfl rfl ?_ ?_
      · refine a_ic 0 hX dX12_demand_69 (by decide) rfl ?_
        exact a_sub (a_X12_demand_70 hX hR hQ hr v1 v2 v3 v4 0 x1.2) (ls_s (ls_s (ls_s (ls_s (ls_s (ls_n (ls_n ls_0)))))))
      · refine a_ic 3 hX dX12_demand_65 (by decide) rfl ?_
        refine a_goto hX dX12_demand_66 rfl ?_
        exact a_sub (a_X12_demand_70 hX hR hQ hr v1 v2 v3 v4 3 x1.2) (ls_s (ls_s (ls_s (ls_s (ls_s (ls_n (ls_n ls_0)))))))
    · refine a_ic 2 hX dX12_demand_52 (by decide) rfl ?_
      refine a_goto hX dX12_demand_53 rfl ?_
      exact a_sub (a_X12_demand_70 hX hR hQ hr v1 v2 v3 v4 2 x1.2) (ls_s (ls_s (ls_s (ls_s (ls_s (ls_n (ls_n ls_0)))))))
  · refine a_ic 1 hX dX12_demand_37 (by decide) rfl ?_
    refine a_goto hX dX12_demand_38 rfl ?_
    exact a_sub (a_X12_demand_70 hX hR hQ hr v1 v2 v3 v4 1 (σ)) (ls_s (ls_s (ls_s (ls_s (ls_s (ls_n (ls_n ls_0)))))))

set_option maxRecDepth 100000 in
set_option maxHeartbeats 2000000 in
theorem a_X12_demand_28 {X : AX} {r0 : Int32 × Mem} (hX : CX X cX12_demand 7 RX12) (hR : (aR X).frames = 2 ∧ (aR X).locals = 43 ∧ aCe X ≤ (aR X).cells ∧ aSl X ≤ (aR X).slots) (hQ : QI X r0) (hr : (aMeth X).sig.returnType = (some .int)) (v1 v2 v3 v4 : Int32) (σ : Mem) : AWo X r0 28 [some (.ref 94), some (.int v1), some (.int v2), some (.int v3), some (.int v4), none, none] [] σ (m_X12_demand_28 v1 v2 v3 v4 σ) := by
  unfold m_X12_demand_28
  refine a_ic 0 hX dX12_demand_28 (by decide) rfl ?_
  exact a_sub (a_X12_demand_29 hX hR hQ hr v1 v2 v3 v4 0 (σ)) (ls_s (ls_s (ls_s (ls_s (ls_s (ls_n (ls_n ls_0)))))))

set_option maxRecDepth 100000 in
set_option maxHeartbeats 2000000 in
theorem a_X12_demand_0 {X : AX} {r0 : Int32 × Mem} (hX : CX X cX12_demand 7 RX12) (hR : (aR X).frames = 2 ∧ (aR X).locals = 43 ∧ aCe X ≤ (aR X).cells ∧ aSl X ≤ (aR X).slots) (hQ : QI X r0) (hr : (aMeth X).sig.returnType = (some .int)) (v1 v2 v3 v4 : Int32) (σ : Mem) : AWo X r0 0 [some (.ref 94), some (.int v1), some (.int v2), some (.int v3), some (.int v4), none, none] [] σ (m_X12_demand v1 v2 v3 v4 σ) := by
  unfold m_X12_demand
  refine a_il1 hX dX12_demand_0 rfl ?_
  refine a_ic 0 hX dX12_demand_1 (by decide) rfl ?_
  refine a_ic 2 hX dX12_demand_2 (by decide) rfl ?_
  refine a_callSI hX hR ml_X12_75 (ci_X12_in _ _ _ _ _) rfl rfl (by decide) (Nat.le_of_ble_eq_true rfl) rfl dX12_demand_3 rfl (fun x1 => ?_)
  refine a_if_eq hX dX12_demand_6 rfl rfl ?_ ?_
  · exact a_sub (a_X12_demand_28 hX hR hQ hr v1 v2 v3 v4 x1.2) (ls_s (ls_s (ls_s (ls_s (ls_s (ls_n (ls_n ls_0)))))))
  · refine a_il2 hX dX12_demand_9 rfl ?_
    refine a_callSI hX hR ml_X12_93 (ci_X12_isPackage _ _ _) rfl rfl (by decide) (Nat.le_of_ble_eq_true rfl) rfl dX12_demand_10 rfl (fun x2 => ?_)
    refine a_if_eq hX dX12_demand_13 rfl rfl ?_ ?_
    · exact a_sub (a_X12_demand_28 hX hR hQ hr v1 v2 v3 v4 x2.2) (ls_s (ls_s (ls_s (ls_s (ls_s (ls_n (ls_n ls_0)))))))
    · refine a_al0 hX dX12_demand_16 rfl ?_
      refine a_il3 hX dX12_demand_17 rfl ?_
      refine a_callI hX hR ml_X12_122 (ci_X12_isRange _ _ _) s_94 rfl rfl rfl (by decide) (Nat.le_of_ble_eq_true rfl) rfl dX12_demand_18 rfl (fun x3 => ?_)
      refine a_if_eq hX dX12_demand_21 rfl rfl ?_ ?_
      · exact a_sub (a_X12_demand_28 hX hR hQ hr v1 v2 v3 v4 x3.2) (ls_s (ls_s (ls_s (ls_s (ls_s (ls_n (ls_n ls_0)))))))
      · refine a_ic 1 hX dX12_demand_24 (by decide) rfl ?_
        refine a_goto hX dX12_demand_25 rfl ?_
        exact a_sub (a_X12_demand_29 hX hR hQ hr v1 v2 v3 v4 1 x3.2) (ls_s (ls_s (ls_s (ls_s (ls_s (ls_n (ls_n ls_0)))))))

set_option maxRecDepth 100000 in
theorem ci_X12_demand (l : Launch) (v1 v2 v3 v4 : Int32) (σ : Mem) : CI l yX12_demand cX12_demand 7 (some .int) 2 43 [.ref 94, .int v1, .int v2, .int v3, .int v4] σ (m_X12_demand v1 v2 v3 v4 σ) :=
  ci_of (by decide) (by simp [Value.category]) (by simp) (fun X r hl hX hR hQ hr => a_X12_demand_0 hX hR hQ hr v1 v2 v3 v4 σ)

set_option maxRecDepth 100000 in
set_option maxHeartbeats 2000000 in
theorem a_X12_advise_34 {X : AX} {r0 : Int32 × Mem} (hX : CX X cX12_advise 3 RX12) (hR : (aR X).frames = 2 ∧ (aR X).locals = 43 ∧ aCe X ≤ (aR X).cells ∧ aSl X ≤ (aR X).slots) (hQ : QI X r0) (hr : (aMeth X).sig.returnType = (some .int)) (v1 v2 s1 : Int32) (σ : Mem) : AWo X r0 34 [some (.ref 94), some (.int v1), some (.int v2)] [.int s1, .ref 94] σ (m_X12_advise_34 v1 v2 s1 σ) := by
  unfold m_X12_advise_34
  refine a_callI hX hR ml_X12_101 (ci_X12_goesWell _ _ _) s_94 rfl rfl rfl (by decide) (Nat.le_of_ble_eq_true rfl) rfl dX12_advise_34 rfl (fun x1 => ?_)
  refine a_if_ne hX dX12_advise_37 rfl rfl ?_ ?_
  · refine a_al0 hX dX12_advise_42 rfl ?_
    refine a_getR hX fl_X12_29 s_94 rfl dX12_advise_43 rfl ?_
    refine a_ic 2 hX dX12_advise_46 (by decide) rfl ?_
    refine a_al0 hX dX12_advise_47 rfl ?_
    refine a_getI hX fl_X12_128 s_94 rfl dX12_advise_48 rfl ?_
    refine a_imul hX dX12_advise_51 rfl ?_
    refine a_il1 hX dX12_advise_52 rfl ?_
    refine a_ast hX s_101 dX12_advise_53 rfl (fun m2 => ?_)
    refine a_al0 hX dX12_advise_54 rfl ?_
    refine a_getR hX fl_X12_29 s_94 rfl dX12_advise_55 rfl ?_
    refine a_ic 2 hX dX12_advise_58 (by decide) rfl ?_
    refine a_al0 hX dX12_advise_59 rfl ?_
    refine a_getI hX fl_X12_128 s_94 rfl dX12_advise_60 rfl ?_
    refine a_imul hX dX12_advise_63 rfl ?_
    refine a_ic 1 hX dX12_advise_64 (by decide) rfl ?_
    refine a_iadd hX dX12_advise_65 rfl ?_
    refine a_il2 hX dX12_advise_66 rfl ?_
    refine a_ast hX s_101 dX12_advise_67 rfl (fun m3 => ?_)
    refine a_al0 hX dX12_advise_68 rfl ?_
    refine a_dup hX dX12_advise_69 rfl rfl ?_
    refine a_getI hX fl_X12_128 s_94 rfl dX12_advise_70 rfl ?_
    refine a_ic 1 hX dX12_advise_73 (by decide) rfl ?_
    refine a_iadd hX dX12_advise_74 rfl ?_
    refine a_putI hX fp_X12_128 s_94 rfl dX12_advise_75 rfl ?_
    refine a_nameM (fun m4 => ?_)
    refine a_al0 hX dX12_advise_78 rfl ?_
    refine a_ic 0 hX dX12_advise_79 (by decide) rfl ?_
    refine a_putZ hX fp_X12_104 (by decide) s_94 rfl dX12_advise_80 rfl ?_
    refine a_nameM (fun m5 => ?_)
    refine a_al0 hX dX12_advise_83 rfl ?_
    refine a_getI hX fl_X12_128 s_94 rfl dX12_advise_84 rfl ?_
    exact a_iret hX hQ hr dX12_advise_87
  · refine a_ic 0 hX dX12_advise_40 (by decide) rfl ?_
    exact a_iret hX hQ hr dX12_advise_41

set_option maxRecDepth 100000 in
set_option maxHeartbeats 2000000 in
theorem a_X12_advise_0 {X : AX} {r0 : Int32 × Mem} (hX : CX X cX12_advise 3 RX12) (hR : (aR X).frames = 2 ∧ (aR X).locals = 43 ∧ aCe X ≤ (aR X).cells ∧ aSl X ≤ (aR X).slots) (hQ : QI X r0) (hr : (aMeth X).sig.returnType = (some .int)) (v1 v2 : Int32) (σ : Mem) : AWo X r0 0 [some (.ref 94), some (.int v1), some (.int v2)] [] σ (m_X12_advise v1 v2 σ) := by
  unfold m_X12_advise
  refine a_al0 hX dX12_advise_0 rfl ?_
  refine a_il1 hX dX12_advise_1 rfl ?_
  refine a_callSI hX hR ml_X12_93 (ci_X12_isPackage _ _ _) rfl rfl (by decide) (Nat.le_of_ble_eq_true rfl) rfl dX12_advise_2 rfl (fun x1 => ?_)
  refine a_if_eq hX dX12_advise_5 rfl rfl ?_ ?_
  · refine a_ic 1 hX dX12_advise_16 (by decide) rfl ?_
    refine a_goto hX dX12_advise_17 rfl ?_
    exact a_sub (a_X12_advise_34 hX hR hQ hr v1 v2 1 x1.2) (ls_s (ls_s (ls_s ls_0)))
  · refine a_al0 hX dX12_advise_8 rfl ?_
    refine a_il2 hX dX12_advise_9 rfl ?_
    refine a_callI hX hR ml_X12_122 (ci_X12_isRange _ _ _) s_94 rfl rfl rfl (by decide) (Nat.le_of_ble_eq_true rfl) rfl dX12_advise_10 rfl (fun x2 => ?_)
    refine a_if_ne hX dX12_advise_13 rfl rfl ?_ ?_
    · refine a_al0 hX dX12_advise_20 rfl ?_
      refine a_getI hX fl_X12_128 s_94 rfl dX12_advise_21 rfl ?_
      refine a_bi 8 hX dX12_advise_24 (by decide) rfl ?_
      refine a_icmp_ne hX dX12_advise_26 rfl rfl ?_ ?_
      · refine a_ic 0 hX dX12_advise_33 (by decide) rfl ?_
        exact a_sub (a_X12_advise_34 hX hR hQ hr v1 v2 0 x2.2) (ls_s (ls_s (ls_s ls_0)))
      · refine a_ic 2 hX dX12_advise_29 (by decide) rfl ?_
        refine a_goto hX dX12_advise_30 rfl ?_
        exact a_sub (a_X12_advise_34 hX hR hQ hr v1 v2 2 x2.2) (ls_s (ls_s (ls_s ls_0)))
    · refine a_ic 1 hX dX12_advise_16 (by decide) rfl ?_
      refine a_goto hX dX12_advise_17 rfl ?_
      exact a_sub (a_X12_advise_34 hX hR hQ hr v1 v2 1 x2.2) (ls_s (ls_s (ls_s ls_0)))

set_option maxRecDepth 100000 in
theorem ci_X12_advise (l : Launch) (v1 v2 : Int32) (σ : Mem) : CI l yX12_advise cX12_advise 3 (some .int) 2 43 [.ref 94, .int v1, .int v2] σ (m_X12_advise v1 v2 σ) :=
  ci_of (by decide) (by simp [Value.category]) (by simp) (fun X r hl hX hR hQ hr => a_X12_advise_0 hX hR hQ hr v1 v2 σ)

set_option maxRecDepth 100000 in
set_option maxHeartbeats 2000000 in
theorem a_X12_hinders_211 {X : AX} {r0 : Int32 × Mem} (hX : CX X cX12_hinders 7 RX12) (hR : (aR X).frames = 1 ∧ (aR X).locals = 21 ∧ aCe X ≤ (aR X).cells ∧ aSl X ≤ (aR X).slots) (hQ : QI X r0) (hr : (aMeth X).sig.returnType = (some .int)) (v3 v4 v5 s0 : Int32) (σ : Mem) : AWo X r0 211 [some (.ref 94), none, none, some (.int v3), some (.int v4), some (.int v5), none] [.int s0] σ (m_X12_hinders_211 v3 v4 v5 s0 σ) := by
  unfold m_X12_hinders_211
  refine a_is6 hX dX12_hinders_211 rfl ?_
  refine a_il3 hX dX12_hinders_213 rfl ?_
  refine a_if_eq hX dX12_hinders_214 rfl rfl ?_ ?_
  · refine a_il5 hX dX12_hinders_221 rfl ?_
    refine a_if_eq hX dX12_hinders_223 rfl rfl ?_ ?_
    · refine a_il6 hX dX12_hinders_230 rfl ?_
      refine a_if_eq hX dX12_hinders_232 rfl rfl ?_ ?_
      · refine a_il4 hX dX12_hinders_239 rfl ?_
        refine a_if_eq hX dX12_hinders_241 rfl rfl ?_ ?_
        · refine a_ic 0 hX dX12_hinders_248 (by decide) rfl ?_
          exact a_iret hX hQ hr dX12_hinders_249
        · refine a_ic 4 hX dX12_hinders_244 (by decide) rfl ?_
          refine a_goto hX dX12_hinders_245 rfl ?_
          exact a_iret hX hQ hr dX12_hinders_249
      · refine a_ic 3 hX dX12_hinders_235 (by decide) rfl ?_
        refine a_goto hX dX12_hinders_236 rfl ?_
        exact a_iret hX hQ hr dX12_hinders_249
    · refine a_ic 2 hX dX12_hinders_226 (by decide) rfl ?_
      refine a_goto hX dX12_hinders_227 rfl ?_
      exact a_iret hX hQ hr dX12_hinders_249
  · refine a_ic 1 hX dX12_hinders_217 (by decide) rfl ?_
    refine a_goto hX dX12_hinders_218 rfl ?_
    exact a_iret hX hQ hr dX12_hinders_249

set_option maxRecDepth 100000 in
set_option maxHeartbeats 2000000 in
theorem a_X12_hinders_185 {X : AX} {r0 : Int32 × Mem} (hX : CX X cX12_hinders 7 RX12) (hR : (aR X).frames = 1 ∧ (aR X).locals = 21 ∧ aCe X ≤ (aR X).cells ∧ aSl X ≤ (aR X).slots) (hQ : QI X r0) (hr : (aMeth X).sig.returnType = (some .int)) (v2 v3 v4 s0 : Int32) (σ : Mem) : AWo X r0 185 [some (.ref 94), none, some (.int v2), some (.int v3), some (.int v4), none, none] [.int s0] σ (m_X12_hinders_185 v2 v3 v4 s0 σ) := by
  unfold m_X12_hinders_185
  refine a_is5 hX dX12_hinders_185 rfl ?_
  refine a_al0 hX dX12_hinders_187 rfl ?_
  refine a_getR hX fl_X12_7 s_94 rfl dX12_hinders_188 rfl ?_
  refine a_il2 hX dX12_hinders_191 rfl ?_
  refine a_bi 7 hX dX12_hinders_192 (by decide) rfl ?_
  refine a_iadd hX dX12_hinders_194 rfl ?_
  refine a_ald hX s_95 dX12_hinders_195 rfl (fun x1 => ?_)
  refine a_al0 hX dX12_hinders_196 rfl ?_
  refine a_getI hX fl_X12_131 s_94 rfl dX12_hinders_197 rfl ?_
  refine a_ishr hX dX12_hinders_200 rfl ?_
  refine a_ic 1 hX dX12_hinders_201 (by decide) rfl ?_
  refine a_iand hX dX12_hinders_202 rfl ?_
  refine a_if_ne hX dX12_hinders_203 rfl rfl ?_ ?_
  · refine a_ic 0 hX dX12_hinders_210 (by decide) rfl ?_
    exact a_sub (a_X12_hinders_211 hX hR hQ hr v3 v4 s0 0 (σ)) (ls_s (ls_n (ls_n (ls_s (ls_s (ls_s (ls_n ls_0)))))))
  · refine a_ic 1 hX dX12_hinders_206 (by decide) rfl ?_
    refine a_goto hX dX12_hinders_207 rfl ?_
    exact a_sub (a_X12_hinders_211 hX hR hQ hr v3 v4 s0 1 (σ)) (ls_s (ls_n (ls_n (ls_s (ls_s (ls_s (ls_n ls_0)))))))

set_option maxRecDepth 100000 in
set_option maxHeartbeats 2000000 in
theorem a_X12_hinders_184 {X : AX} {r0 : Int32 × Mem} (hX : CX X cX12_hinders 7 RX12) (hR : (aR X).frames = 1 ∧ (aR X).locals = 21 ∧ aCe X ≤ (aR X).cells ∧ aSl X ≤ (aR X).slots) (hQ : QI X r0) (hr : (aMeth X).sig.returnType = (some .int)) (v2 v3 v4 : Int32) (σ : Mem) : AWo X r0 184 [some (.ref 94), none, some (.int v2), some (.int v3), some (.int v4), none, none] [] σ (m_X12_hinders_184 v2 v3 v4 σ) := by
  unfold m_X12_hinders_184
  refine a_ic 0 hX dX12_hinders_184 (by decide) rfl ?_
  exact a_sub (a_X12_hinders_185 hX hR hQ hr v2 v3 v4 0 (σ)) (ls_s (ls_n (ls_s (ls_s (ls_s (ls_n (ls_n ls_0)))))))

set_option maxRecDepth 100000 in
set_option maxHeartbeats 2000000 in
theorem a_X12_hinders_144 {X : AX} {r0 : Int32 × Mem} (hX : CX X cX12_hinders 7 RX12) (hR : (aR X).frames = 1 ∧ (aR X).locals = 21 ∧ aCe X ≤ (aR X).cells ∧ aSl X ≤ (aR X).slots) (hQ : QI X r0) (hr : (aMeth X).sig.returnType = (some .int)) (f83 : Int32 → Int32 → Int32 → Int32 → Int32 → Mem → Option (Int32 × Mem)) (hf83 : ∀ (v1 v2 v3 v4 v5 : Int32) (σ : Mem), AWo X r0 83 [some (.ref 94), some (.int v1), some (.int v2), some (.int v3), some (.int v4), some (.int v5), none] [] σ (f83 v1 v2 v3 v4 v5 σ)) (v1 v2 v3 v5 s0 : Int32) (σ : Mem) : AWo X r0 144 [some (.ref 94), some (.int v1), some (.int v2), some (.int v3), none, some (.int v5), none] [.int s0] σ (m_X12_hinders_144 f83 v1 v2 v3 v5 s0 σ) := by
  unfold m_X12_hinders_144
  refine a_is4 hX dX12_hinders_144 rfl ?_
  refine a_inc5 1 hX dX12_hinders_146 (by decide) rfl ?_
  refine a_goto hX dX12_hinders_149 rfl ?_
  exact a_sub (hf83 v1 v2 v3 s0 (v5 + 1) (σ)) (ls_s (ls_s (ls_s (ls_s (ls_s (ls_s (ls_n ls_0)))))))

set_option maxRecDepth 100000 in
set_option maxHeartbeats 2000000 in
theorem a_X12_hinders_143 {X : AX} {r0 : Int32 × Mem} (hX : CX X cX12_hinders 7 RX12) (hR : (aR X).frames = 1 ∧ (aR X).locals = 21 ∧ aCe X ≤ (aR X).cells ∧ aSl X ≤ (aR X).slots) (hQ : QI X r0) (hr : (aMeth X).sig.returnType = (some .int)) (f83 : Int32 → Int32 → Int32 → Int32 → Int32 → Mem → Option (Int32 × Mem)) (hf83 : ∀ (v1 v2 v3 v4 v5 : Int32) (σ : Mem), AWo X r0 83 [some (.ref 94), some (.int v1), some (.int v2), some (.int v3), some (.int v4), some (.int v5), none] [] σ (f83 v1 v2 v3 v4 v5 σ)) (v1 v2 v3 v5 : Int32) (σ : Mem) : AWo X r0 143 [some (.ref 94), some (.int v1), some (.int v2), some (.int v3), none, some (.int v5), none] [] σ (m_X12_hinders_143 f83 v1 v2 v3 v5 σ) := by
  unfold m_X12_hinders_143
  refine a_ic 0 hX dX12_hinders_143 (by decide) rfl ?_
  exact a_sub (a_X12_hinders_144 hX hR hQ hr f83 hf83 v1 v2 v3 v5 0 (σ)) (ls_s (ls_s (ls_s (ls_s (ls_n (ls_s (ls_n ls_0)))))))

set_option maxRecDepth 100000 in
set_option maxHeartbeats 2000000 in
theorem a_X12_hinders_83 {X : AX} {r0 : Int32 × Mem} (hX : CX X cX12_hinders 7 RX12) (hR : (aR X).frames = 1 ∧ (aR X).locals = 21 ∧ aCe X ≤ (aR X).cells ∧ aSl X ≤ (aR X).slots) (hQ : QI X r0) (hr : (aMeth X).sig.returnType = (some .int)) : ∀ (fuel : Nat) (v1 v2 v3 v4 v5 : Int32) (σ : Mem), AWo X r0 83 [some (.ref 94), some (.int v1), some (.int v2), some (.int v3), some (.int v4), some (.int v5), none] [] σ (m_X12_hinders_83 fuel v1 v2 v3 v4 v5 σ) := by
  intro fuel
  induction fuel with
  | zero => intro v1 v2 v3 v4 v5 σ; exact a_none
  | succ fuel ih =>
    intro v1 v2 v3 v4 v5 σ
    show AWo X r0 83 [some (.ref 94), some (.int v1), some (.int v2), some (.int v3), some (.int v4), some (.int v5), none] [] σ (m_X12_hinders_83 (fuel + 1) v1 v2 v3 v4 v5 σ)
    unfold m_X12_hinders_83
    refine a_il5 hX dX12_hinders_83 rfl ?_
    refine a_al0 hX dX12_hinders_85 rfl ?_
    refine a_getI hX fl_X12_128 s_94 rfl dX12_hinders_86 rfl ?_
    refine a_icmp_ge hX dX12_hinders_89 rfl rfl ?_ ?_
    · refine a_al0 hX dX12_hinders_152 rfl ?_
      refine a_getR hX fl_X12_7 s_94 rfl dX12_hinders_153 rfl ?_
      refine a_il2 hX dX12_hinders_156 rfl ?_
      refine a_bi 6 hX dX12_hinders_157 (by decide) rfl ?_
      refine a_iadd hX dX12_hinders_159 rfl ?_
      refine a_ald hX s_95 dX12_hinders_160 rfl (fun x1 => ?_)
      refine a_ic 1 hX dX12_hinders_161 (by decide) rfl ?_
      refine a_icmp_ne hX dX12_hinders_162 rfl rfl ?_ ?_
      · exact a_sub (a_X12_hinders_184 hX hR hQ hr v2 v3 v4 (σ)) (ls_s (ls_n (ls_s (ls_s (ls_s (ls_n (ls_n ls_0)))))))
      · refine a_al0 hX dX12_hinders_165 rfl ?_
        refine a_getR hX fl_X12_35 s_94 rfl dX12_hinders_166 rfl ?_
        refine a_al0 hX dX12_hinders_169 rfl ?_
        refine a_getR hX fl_X12_7 s_94 rfl dX12_hinders_170 rfl ?_
        refine a_il2 hX dX12_hinders_173 rfl ?_
        refine a_ald hX s_95 dX12_hinders_174 rfl (fun x2 => ?_)
        refine a_ald hX s_103 dX12_hinders_175 rfl (fun x3 => ?_)
        refine a_il1 hX dX12_hinders_176 rfl ?_
        refine a_icmp_eq hX dX12_hinders_177 rfl rfl ?_ ?_
        · exact a_sub (a_X12_hinders_184 hX hR hQ hr v2 v3 v4 (σ)) (ls_s (ls_n (ls_s (ls_s (ls_s (ls_n (ls_n ls_0)))))))
        · refine a_ic 1 hX dX12_hinders_180 (by decide) rfl ?_
          refine a_goto hX dX12_hinders_181 rfl ?_
          exact a_sub (a_X12_hinders_185 hX hR hQ hr v2 v3 v4 1 (σ)) (ls_s (ls_n (ls_s (ls_s (ls_s (ls_n (ls_n ls_0)))))))
    · refine a_il4 hX dX12_hinders_92 rfl ?_
      refine a_if_ne hX dX12_hinders_94 rfl rfl ?_ ?_
      · refine a_ic 1 hX dX12_hinders_139 (by decide) rfl ?_
        refine a_goto hX dX12_hinders_140 rfl ?_
        exact a_sub (a_X12_hinders_144 hX hR hQ hr (m_X12_hinders_83 fuel) ih v1 v2 v3 v5 1 (σ)) (ls_s (ls_s (ls_s (ls_s (ls_n (ls_s (ls_n ls_0)))))))
      · refine a_al0 hX dX12_hinders_97 rfl ?_
        refine a_getR hX fl_X12_29 s_94 rfl dX12_hinders_98 rfl ?_
        refine a_ic 2 hX dX12_hinders_101 (by decide) rfl ?_
        refine a_il5 hX dX12_hinders_102 rfl ?_
        refine a_imul hX dX12_hinders_104 rfl ?_
        refine a_ald hX s_101 dX12_hinders_105 rfl (fun x4 => ?_)
        refine a_al0 hX dX12_hinders_106 rfl ?_
        refine a_getR hX fl_X12_7 s_94 rfl dX12_hinders_107 rfl ?_
        refine a_il2 hX dX12_hinders_110 rfl ?_
        refine a_ald hX s_95 dX12_hinders_111 rfl (fun x5 => ?_)
        refine a_icmp_ne hX dX12_hinders_112 rfl rfl ?_ ?_
        · exact a_sub (a_X12_hinders_143 hX hR hQ hr (m_X12_hinders_83 fuel) ih v1 v2 v3 v5 (σ)) (ls_s (ls_s (ls_s (ls_s (ls_n (ls_s (ls_n ls_0)))))))
        · refine a_al0 hX dX12_hinders_115 rfl ?_
          refine a_getR hX fl_X12_22 s_94 rfl dX12_hinders_116 rfl ?_
          refine a_bi 24 hX dX12_hinders_119 (by decide) rfl ?_
          refine a_al0 hX dX12_hinders_121 rfl ?_
          refine a_getR hX fl_X12_29 s_94 rfl dX12_hinders_122 rfl ?_
          refine a_ic 2 hX dX12_hinders_125 (by decide) rfl ?_
          refine a_il5 hX dX12_hinders_126 rfl ?_
          refine a_imul hX dX12_hinders_128 rfl ?_
          refine a_ic 1 hX dX12_hinders_129 (by decide) rfl ?_
          refine a_iadd hX dX12_hinders_130 rfl ?_
          refine a_ald hX s_101 dX12_hinders_131 rfl (fun x6 => ?_)
          refine a_imul hX dX12_hinders_132 rfl ?_
          refine a_il1 hX dX12_hinders_133 rfl ?_
          refine a_iadd hX dX12_hinders_134 rfl ?_
          refine a_zld hX s_99 dX12_hinders_135 rfl (fun x7 => ?_)
          refine a_if_eq hX dX12_hinders_136 rfl rfl ?_ ?_
          · exact a_sub (a_X12_hinders_143 hX hR hQ hr (m_X12_hinders_83 fuel) ih v1 v2 v3 v5 (σ)) (ls_s (ls_s (ls_s (ls_s (ls_n (ls_s (ls_n ls_0)))))))
          · refine a_ic 1 hX dX12_hinders_139 (by decide) rfl ?_
            refine a_goto hX dX12_hinders_140 rfl ?_
            exact a_sub (a_X12_hinders_144 hX hR hQ hr (m_X12_hinders_83 fuel) ih v1 v2 v3 v5 1 (σ)) (ls_s (ls_s (ls_s (ls_s (ls_n (ls_s (ls_n ls_0)))))))

set_option maxRecDepth 100000 in
set_option maxHeartbeats 2000000 in
theorem a_X12_hinders_70 {X : AX} {r0 : Int32 × Mem} (hX : CX X cX12_hinders 7 RX12) (hR : (aR X).frames = 1 ∧ (aR X).locals = 21 ∧ aCe X ≤ (aR X).cells ∧ aSl X ≤ (aR X).slots) (hQ : QI X r0) (hr : (aMeth X).sig.returnType = (some .int)) (f10 : Int32 → Int32 → Int32 → Int32 → Mem → Option (Int32 × Mem)) (hf10 : ∀ (v1 v2 v3 v4 : Int32) (σ : Mem), AWo X r0 10 [some (.ref 94), some (.int v1), some (.int v2), some (.int v3), some (.int v4), none, none] [] σ (f10 v1 v2 v3 v4 σ)) (v1 v2 v4 s0 : Int32) (σ : Mem) : AWo X r0 70 [some (.ref 94), some (.int v1), some (.int v2), none, some (.int v4), none, none] [.int s0] σ (m_X12_hinders_70 f10 v1 v2 v4 s0 σ) := by
  unfold m_X12_hinders_70
  refine a_is3 hX dX12_hinders_70 rfl ?_
  refine a_inc4 1 hX dX12_hinders_71 (by decide) rfl ?_
  refine a_goto hX dX12_hinders_74 rfl ?_
  exact a_sub (hf10 v1 v2 s0 (v4 + 1) (σ)) (ls_s (ls_s (ls_s (ls_s (ls_s (ls_n (ls_n ls_0)))))))

set_option maxRecDepth 100000 in
set_option maxHeartbeats 2000000 in
theorem a_X12_hinders_69 {X : AX} {r0 : Int32 × Mem} (hX : CX X cX12_hinders 7 RX12) (hR : (aR X).frames = 1 ∧ (aR X).locals = 21 ∧ aCe X ≤ (aR X).cells ∧ aSl X ≤ (aR X).slots) (hQ : QI X r0) (hr : (aMeth X).sig.returnType = (some .int)) (f10 : Int32 → Int32 → Int32 → Int32 → Mem → Option (Int32 × Mem)) (hf10 : ∀ (v1 v2 v3 v4 : Int32) (σ : Mem), AWo X r0 10 [some (.ref 94), some (.int v1), some (.int v2), some (.int v3), some (.int v4), none, none] [] σ (f10 v1 v2 v3 v4 σ)) (v1 v2 v4 : Int32) (σ : Mem) : AWo X r0 69 [some (.ref 94), some (.int v1), some (.int v2), none, some (.int v4), none, none] [] σ (m_X12_hinders_69 f10 v1 v2 v4 σ) := by
  unfold m_X12_hinders_69
  refine a_ic 0 hX dX12_hinders_69 (by decide) rfl ?_
  exact a_sub (a_X12_hinders_70 hX hR hQ hr f10 hf10 v1 v2 v4 0 (σ)) (ls_s (ls_s (ls_s (ls_n (ls_s (ls_n (ls_n ls_0)))))))

set_option maxRecDepth 100000 in
set_option maxHeartbeats 2000000 in
theorem a_X12_hinders_10 {X : AX} {r0 : Int32 × Mem} (hX : CX X cX12_hinders 7 RX12) (hR : (aR X).frames = 1 ∧ (aR X).locals = 21 ∧ aCe X ≤ (aR X).cells ∧ aSl X ≤ (aR X).slots) (hQ : QI X r0) (hr : (aMeth X).sig.returnType = (some .int)) : ∀ (fuel : Nat) (v1 v2 v3 v4 : Int32) (σ : Mem), AWo X r0 10 [some (.ref 94), some (.int v1), some (.int v2), some (.int v3), some (.int v4), none, none] [] σ (m_X12_hinders_10 fuel v1 v2 v3 v4 σ) := by
  intro fuel
  induction fuel with
  | zero => intro v1 v2 v3 v4 σ; exact a_none
  | succ fuel ih =>
    intro v1 v2 v3 v4 σ
    show AWo X r0 10 [some (.ref 94), some (.int v1), some (.int v2), some (.int v3), some (.int v4), none, none] [] σ (m_X12_hinders_10 (fuel + 1) v1 v2 v3 v4 σ)
    unfold m_X12_hinders_10
    refine a_il4 hX dX12_hinders_10 rfl ?_
    refine a_al0 hX dX12_hinders_12 rfl ?_
    refine a_getI hX fl_X12_79 s_94 rfl dX12_hinders_13 rfl ?_
    refine a_icmp_ge hX dX12_hinders_16 rfl rfl ?_ ?_
    · refine a_ic 0 hX dX12_hinders_77 (by decide) rfl ?_
      refine a_is4 hX dX12_hinders_78 rfl ?_
      refine a_ic 0 hX dX12_hinders_80 (by decide) rfl ?_
      refine a_is5 hX dX12_hinders_81 rfl ?_
      exact a_sub (a_X12_hinders_83 hX hR hQ hr FU v1 v2 v3 0 0 (σ)) (ls_s (ls_s (ls_s (ls_s (ls_s (ls_s (ls_n ls_0)))))))
    · refine a_il3 hX dX12_hinders_19 rfl ?_
      refine a_if_ne hX dX12_hinders_20 rfl rfl ?_ ?_
      · refine a_ic 1 hX dX12_hinders_65 (by decide) rfl ?_
        refine a_goto hX dX12_hinders_66 rfl ?_
        exact a_sub (a_X12_hinders_70 hX hR hQ hr (m_X12_hinders_10 fuel) ih v1 v2 v4 1 (σ)) (ls_s (ls_s (ls_s (ls_n (ls_s (ls_n (ls_n ls_0)))))))
      · refine a_al0 hX dX12_hinders_23 rfl ?_
        refine a_getR hX fl_X12_7 s_94 rfl dX12_hinders_24 rfl ?_
        refine a_il2 hX dX12_hinders_27 rfl ?_
        refine a_ic 5 hX dX12_hinders_28 (by decide) rfl ?_
        refine a_iadd hX dX12_hinders_29 rfl ?_
        refine a_ald hX s_95 dX12_hinders_30 rfl (fun x1 => ?_)
        refine a_ic 1 hX dX12_hinders_31 (by decide) rfl ?_
        refine a_icmp_ne hX dX12_hinders_32 rfl rfl ?_ ?_
        · exact a_sub (a_X12_hinders_69 hX hR hQ hr (m_X12_hinders_10 fuel) ih v1 v2 v4 (σ)) (ls_s (ls_s (ls_s (ls_n (ls_s (ls_n (ls_n ls_0)))))))
        · refine a_al0 hX dX12_hinders_35 rfl ?_
          refine a_il4 hX dX12_hinders_36 rfl ?_
          refine a_callI hX hR ml_X12_97 (ci_X12_packageOf _ _ _) s_94 rfl rfl rfl (by decide) (Nat.le_of_ble_eq_true rfl) rfl dX12_hinders_38 rfl (fun x2 => ?_)
          refine a_al0 hX dX12_hinders_41 rfl ?_
          refine a_getR hX fl_X12_7 s_94 rfl dX12_hinders_42 rfl ?_
          refine a_il2 hX dX12_hinders_45 rfl ?_
          refine a_ald hX s_95 dX12_hinders_46 rfl (fun x3 => ?_)
          refine a_icmp_ne hX dX12_hinders_47 rfl rfl ?_ ?_
          · exact a_sub (a_X12_hinders_69 hX hR hQ hr (m_X12_hinders_10 fuel) ih v1 v2 v4 x2.2) (ls_s (ls_s (ls_s (ls_n (ls_s (ls_n (ls_n ls_0)))))))
          · refine a_al0 hX dX12_hinders_50 rfl ?_
            refine a_getR hX fl_X12_7 s_94 rfl dX12_hinders_51 rfl ?_
            refine a_bi 9 hX dX12_hinders_54 (by decide) rfl ?_
            refine a_il4 hX dX12_hinders_56 rfl ?_
            refine a_imul hX dX12_hinders_58 rfl ?_
            refine a_ic 5 hX dX12_hinders_59 (by decide) rfl ?_
            refine a_iadd hX dX12_hinders_60 rfl ?_
            refine a_ald hX s_95 dX12_hinders_61 rfl (fun x4 => ?_)
            refine a_if_ne hX dX12_hinders_62 rfl rfl ?_ ?_
            · exact a_sub (a_X12_hinders_69 hX hR hQ hr (m_X12_hinders_10 fuel) ih v1 v2 v4 x2.2) (ls_s (ls_s (ls_s (ls_n (ls_s (ls_n (ls_n ls_0)))))))
            · refine a_ic 1 hX dX12_hinders_65 (by decide) rfl ?_
              refine a_goto hX dX12_hinders_66 rfl ?_
              exact a_sub (a_X12_hinders_70 hX hR hQ hr (m_X12_hinders_10 fuel) ih v1 v2 v4 1 x2.2) (ls_s (ls_s (ls_s (ls_n (ls_s (ls_n (ls_n ls_0)))))))

set_option maxRecDepth 100000 in
set_option maxHeartbeats 2000000 in
theorem a_X12_hinders_0 {X : AX} {r0 : Int32 × Mem} (hX : CX X cX12_hinders 7 RX12) (hR : (aR X).frames = 1 ∧ (aR X).locals = 21 ∧ aCe X ≤ (aR X).cells ∧ aSl X ≤ (aR X).slots) (hQ : QI X r0) (hr : (aMeth X).sig.returnType = (some .int)) (v1 : Int32) (σ : Mem) : AWo X r0 0 [some (.ref 94), some (.int v1), none, none, none, none, none] [] σ (m_X12_hinders v1 σ) := by
  unfold m_X12_hinders
  refine a_bi 9 hX dX12_hinders_0 (by decide) rfl ?_
  refine a_il1 hX dX12_hinders_2 rfl ?_
  refine a_imul hX dX12_hinders_3 rfl ?_
  refine a_name (fun y1 => ?_)
  refine a_is2 hX dX12_hinders_4 rfl ?_
  refine a_ic 0 hX dX12_hinders_5 (by decide) rfl ?_
  refine a_is3 hX dX12_hinders_6 rfl ?_
  refine a_ic 0 hX dX12_hinders_7 (by decide) rfl ?_
  refine a_is4 hX dX12_hinders_8 rfl ?_
  exact a_sub (a_X12_hinders_10 hX hR hQ hr FU v1 y1 0 0 (σ)) (ls_s (ls_s (ls_s (ls_s (ls_s (ls_n (ls_n ls_0)))))))

set_option maxRecDepth 100000 in
theorem ci_X12_hinders (l : Launch) (v1 : Int32) (σ : Mem) : CI l yX12_hinders cX12_hinders 7 (some .int) 1 21 [.ref 94, .int v1] σ (m_X12_hinders v1 σ) :=
  ci_of (by decide) (by simp [Value.category]) (by simp) (fun X r hl hX hR hQ hr => a_X12_hinders_0 hX hR hQ hr v1 σ)

