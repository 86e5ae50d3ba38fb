set_option maxRecDepth 100000 in
set_option maxHeartbeats 2000000 in
theorem a_X11_publish_0 {X : AX} {r0 : (Nat × Int32) × Mem} (hX : CX X cX11_publish 10 RX11) (hR : (aR X).frames = 6 ∧ (aR X).locals = 82 ∧ aCe X ≤ (aR X).cells ∧ aSl X ≤ (aR X).slots) (hQ : QT X r0) (hr : (aMeth X).sig.returnType = (some .int)) (v1 v2 v3 v4 v5 v6 : Int32) (σ : Mem) : AWo X r0 0 [some (.ref 0), some (.int v1), some (.int v2), some (.int v3), some (.int v4), some (.int v5), some (.int v6), none, none, none] [] σ (m_X11_publish v1 v2 v3 v4 v5 v6 σ) := by
  unfold m_X11_publish
  refine a_il1 hX dX11_publish_0 rfl ?_
  refine a_callSI hX hR ml_X11_48 (ci_X11_isPackage _ _ _) rfl rfl (by decide) (Nat.le_of_ble_eq_true rfl) rfl dX11_publish_1 rfl (fun x1 => ?_)
  refine a_if_eq hX dX11_publish_4 rfl rfl ?_ ?_
  · exact a_throw hX hR hQ th_X11_56_58 (by decide) dX11_publish_16 dX11_publish_19 dX11_publish_20 dX11_publish_22 dX11_publish_25 (by decide) rfl
  · refine a_ic 1 hX dX11_publish_7 (by decide) rfl ?_
    refine a_il6 hX dX11_publish_8 rfl ?_
    refine a_callSI hX hR ml_X11_52 (ci_X11_isUpTo _ _ _ _) rfl rfl (by decide) (Nat.le_of_ble_eq_true rfl) rfl dX11_publish_10 rfl (fun x2 => ?_)
    refine a_if_ne hX dX11_publish_13 rfl rfl ?_ ?_
    · refine a_il2 hX dX11_publish_26 rfl ?_
      refine a_callSI hX hR ml_X11_63 (ci_X11_isDigit _ _ _) rfl rfl (by decide) (Nat.le_of_ble_eq_true rfl) rfl dX11_publish_27 rfl (fun x3 => ?_)
      refine a_if_eq hX dX11_publish_30 rfl rfl ?_ ?_
      · exact a_throw hX hR hQ th_X11_66_68 (by decide) dX11_publish_56 dX11_publish_59 dX11_publish_60 dX11_publish_62 dX11_publish_65 (by decide) rfl
      · refine a_il3 hX dX11_publish_33 rfl ?_
        refine a_callSI hX hR ml_X11_63 (ci_X11_isDigit _ _ _) rfl rfl (by decide) (Nat.le_of_ble_eq_true rfl) rfl dX11_publish_34 rfl (fun x4 => ?_)
        refine a_if_eq hX dX11_publish_37 rfl rfl ?_ ?_
        · exact a_throw hX hR hQ th_X11_66_68 (by decide) dX11_publish_56 dX11_publish_59 dX11_publish_60 dX11_publish_62 dX11_publish_65 (by decide) rfl
        · refine a_il4 hX dX11_publish_40 rfl ?_
          refine a_callSI hX hR ml_X11_63 (ci_X11_isDigit _ _ _) rfl rfl (by decide) (Nat.le_of_ble_eq_true rfl) rfl dX11_publish_42 rfl (fun x5 => ?_)
          refine a_if_eq hX dX11_publish_45 rfl rfl ?_ ?_
          · exact a_throw hX hR hQ th_X11_66_68 (by decide) dX11_publish_56 dX11_publish_59 dX11_publish_60 dX11_publish_62 dX11_publish_65 (by decide) rfl
          · refine a_il5 hX dX11_publish_48 rfl ?_
            refine a_callSI hX hR ml_X11_63 (ci_X11_isDigit _ _ _) rfl rfl (by decide) (Nat.le_of_ble_eq_true rfl) rfl dX11_publish_50 rfl (fun x6 => ?_)
            refine a_if_ne hX dX11_publish_53 rfl rfl ?_ ?_
            · refine a_il2 hX dX11_publish_66 rfl ?_
              refine a_il3 hX dX11_publish_67 rfl ?_
              refine a_il4 hX dX11_publish_68 rfl ?_
              refine a_il5 hX dX11_publish_70 rfl ?_
              refine a_callSI hX hR ml_X11_71 (ci_X11_rankOf _ _ _ _ _ _) rfl rfl (by decide) (Nat.le_of_ble_eq_true rfl) rfl dX11_publish_72 rfl (fun x7 => ?_)
              refine a_is7 hX dX11_publish_75 rfl ?_
              refine a_al0 hX dX11_publish_77 rfl ?_
              refine a_getR hX fl_X11_17 s_0 rfl dX11_publish_78 rfl ?_
              refine a_getR hX fl_X11_75 s_1 rfl dX11_publish_81 rfl ?_
              refine a_il1 hX dX11_publish_84 rfl ?_
              refine a_callI hX hR ml_X11_79 (ci_X9_isFull _ _ _) s_2 rfl rfl rfl (by decide) (Nat.le_of_ble_eq_true rfl) rfl dX11_publish_85 rfl (fun x8 => ?_)
              refine a_if_ne hX dX11_publish_88 rfl rfl ?_ ?_
              · exact a_throw hX hR hQ th_X11_87_89 (by decide) dX11_publish_107 dX11_publish_110 dX11_publish_111 dX11_publish_113 dX11_publish_116 (by decide) rfl
              · refine a_al0 hX dX11_publish_91 rfl ?_
                refine a_getR hX fl_X11_17 s_0 rfl dX11_publish_92 rfl ?_
                refine a_getR hX fl_X11_75 s_1 rfl dX11_publish_95 rfl ?_
                refine a_il1 hX dX11_publish_98 rfl ?_
                refine a_il7 hX dX11_publish_99 rfl ?_
                refine a_callI hX hR ml_X11_84 (ci_X9_hasRank _ _ _ _) s_2 rfl rfl rfl (by decide) (Nat.le_of_ble_eq_true rfl) rfl dX11_publish_101 rfl (fun x9 => ?_)
                refine a_if_eq hX dX11_publish_104 rfl rfl ?_ ?_
                · refine a_bi 7 hX dX11_publish_117 (by decide) rfl ?_
                  refine a_il2 hX dX11_publish_119 rfl ?_
                  refine a_imul hX dX11_publish_120 rfl ?_
                  refine a_ic 5 hX dX11_publish_121 (by decide) rfl ?_
                  refine a_il3 hX dX11_publish_122 rfl ?_
                  refine a_imul hX dX11_publish_123 rfl ?_
                  refine a_iadd hX dX11_publish_124 rfl ?_
                  refine a_ic 3 hX dX11_publish_125 (by decide) rfl ?_
                  refine a_il4 hX dX11_publish_126 rfl ?_
                  refine a_imul hX dX11_publish_128 rfl ?_
                  refine a_iadd hX dX11_publish_129 rfl ?_
                  refine a_il5 hX dX11_publish_130 rfl ?_
                  refine a_iadd hX dX11_publish_132 rfl ?_
                  refine a_ic 1 hX dX11_publish_133 (by decide) rfl ?_
                  refine a_iadd hX dX11_publish_134 rfl ?_
                  refine a_name (fun y10 => ?_)
                  refine a_is8 hX dX11_publish_135 rfl ?_
                  refine a_al0 hX dX11_publish_137 rfl ?_
                  refine a_getR hX fl_X11_17 s_0 rfl dX11_publish_138 rfl ?_
                  refine a_getR hX fl_X11_75 s_1 rfl dX11_publish_141 rfl ?_
                  refine a_il1 hX dX11_publish_144 rfl ?_
                  refine a_il7 hX dX11_publish_145 rfl ?_
                  refine a_il8 hX dX11_publish_147 rfl ?_
                  refine a_il6 hX dX11_publish_149 rfl ?_
                  refine a_callI hX hR ml_X11_92 (ci_X9_add _ _ _ _ _ _) s_2 rfl rfl rfl (by decide) (Nat.le_of_ble_eq_true rfl) rfl dX11_publish_151 rfl (fun x11 => ?_)
                  refine a_is9 hX dX11_publish_154 rfl ?_
                  refine a_al0 hX dX11_publish_156 rfl ?_
                  refine a_getR hX fl_X11_17 s_0 rfl dX11_publish_157 rfl ?_
                  refine a_getR hX fl_X11_95 s_1 rfl dX11_publish_160 rfl ?_
                  refine a_il9 hX dX11_publish_163 rfl ?_
                  refine a_il7 hX dX11_publish_165 rfl ?_
                  refine a_callV hX hR ml_X11_99 (ci_X6_take _ _ _ _) s_17 rfl rfl rfl (by decide) (Nat.le_of_ble_eq_true rfl) rfl dX11_publish_167 rfl (fun x12 => ?_)
                  refine a_il9 hX dX11_publish_170 rfl ?_
                  exact a_tiret hX hQ hr dX11_publish_172
                · exact a_throw hX hR hQ th_X11_87_89 (by decide) dX11_publish_107 dX11_publish_110 dX11_publish_111 dX11_publish_113 dX11_publish_116 (by decide) rfl
            · exact a_throw hX hR hQ th_X11_66_68 (by decide) dX11_publish_56 dX11_publish_59 dX11_publish_60 dX11_publish_62 dX11_publish_65 (by decide) rfl
    · exact a_throw hX hR hQ th_X11_56_58 (by decide) dX11_publish_16 dX11_publish_19 dX11_publish_20 dX11_publish_22 dX11_publish_25 (by decide) rfl

set_option maxRecDepth 100000 in
theorem ci_X11_publish (l : Launch) (hlt : l.stackTraces = false) (v1 v2 v3 v4 v5 v6 : Int32) (σ : Mem) : CT l yX11_publish cX11_publish 10 (some .int) 6 82 [.ref 0, .int v1, .int v2, .int v3, .int v4, .int v5, .int v6] σ (m_X11_publish v1 v2 v3 v4 v5 v6 σ) :=
  ct_of (by decide) (by simp [Value.category]) (by simp) hlt (fun X r hl hX hR hQ hr => a_X11_publish_0 hX hR hQ hr v1 v2 v3 v4 v5 v6 σ)

set_option maxRecDepth 100000 in
set_option maxHeartbeats 2000000 in
theorem a_X11_compare_0 {X : AX} {r0 : (Nat × Int32) × Mem} (hX : CX X cX11_compare 3 RX11) (hR : (aR X).frames = 6 ∧ (aR X).locals = 82 ∧ aCe X ≤ (aR X).cells ∧ aSl X ≤ (aR X).slots) (hQ : QT X r0) (hr : (aMeth X).sig.returnType = (some .int)) (v1 v2 : Int32) (σ : Mem) : AWo X r0 0 [some (.ref 0), some (.int v1), some (.int v2)] [] σ (m_X11_compare v1 v2 σ) := by
  unfold m_X11_compare
  refine a_al0 hX dX11_compare_0 rfl ?_
  refine a_il1 hX dX11_compare_1 rfl ?_
  refine a_callI hX hR ml_X11_105 (ci_X11_isVersion _ _ _) s_0 rfl rfl rfl (by decide) (Nat.le_of_ble_eq_true rfl) rfl dX11_compare_2 rfl (fun x1 => ?_)
  refine a_if_eq hX dX11_compare_5 rfl rfl ?_ ?_
  · exact a_throw hX hR hQ th_X11_56_108 (by decide) dX11_compare_16 dX11_compare_19 dX11_compare_20 dX11_compare_22 dX11_compare_25 (by decide) rfl
  · refine a_al0 hX dX11_compare_8 rfl ?_
    refine a_il2 hX dX11_compare_9 rfl ?_
    refine a_callI hX hR ml_X11_105 (ci_X11_isVersion _ _ _) s_0 rfl rfl rfl (by decide) (Nat.le_of_ble_eq_true rfl) rfl dX11_compare_10 rfl (fun x2 => ?_)
    refine a_if_ne hX dX11_compare_13 rfl rfl ?_ ?_
    · refine a_al0 hX dX11_compare_26 rfl ?_
      refine a_getR hX fl_X11_17 s_0 rfl dX11_compare_27 rfl ?_
      refine a_getR hX fl_X11_75 s_1 rfl dX11_compare_30 rfl ?_
      refine a_getR hX fl_X11_110 s_2 rfl dX11_compare_33 rfl ?_
      refine a_il1 hX dX11_compare_36 rfl ?_
      refine a_callI hX hR ml_X11_114 (ci_X7_get _ 3 4 24 s_3 s_4 _ _) s_3 rfl rfl rfl (by decide) (Nat.le_of_ble_eq_true rfl) rfl dX11_compare_37 rfl (fun x3 => ?_)
      refine a_al0 hX dX11_compare_40 rfl ?_
      refine a_getR hX fl_X11_17 s_0 rfl dX11_compare_41 rfl ?_
      refine a_getR hX fl_X11_75 s_1 rfl dX11_compare_44 rfl ?_
      refine a_getR hX fl_X11_110 s_2 rfl dX11_compare_47 rfl ?_
      refine a_il2 hX dX11_compare_50 rfl ?_
      refine a_callI hX hR ml_X11_114 (ci_X7_get _ 3 4 24 s_3 s_4 _ _) s_3 rfl rfl rfl (by decide) (Nat.le_of_ble_eq_true rfl) rfl dX11_compare_51 rfl (fun x4 => ?_)
      refine a_icmp_eq hX dX11_compare_54 rfl rfl ?_ ?_
      · refine a_al0 hX dX11_compare_67 rfl ?_
        refine a_getR hX fl_X11_17 s_0 rfl dX11_compare_68 rfl ?_
        refine a_getR hX fl_X11_75 s_1 rfl dX11_compare_71 rfl ?_
        refine a_getR hX fl_X11_122 s_2 rfl dX11_compare_74 rfl ?_
        refine a_il1 hX dX11_compare_77 rfl ?_
        refine a_callI hX hR ml_X11_114 (ci_X7_get _ 5 6 24 s_5 s_6 _ _) s_5 rfl rfl rfl (by decide) (Nat.le_of_ble_eq_true rfl) rfl dX11_compare_78 rfl (fun x5 => ?_)
        refine a_al0 hX dX11_compare_81 rfl ?_
        refine a_getR hX fl_X11_17 s_0 rfl dX11_compare_82 rfl ?_
        refine a_getR hX fl_X11_75 s_1 rfl dX11_compare_85 rfl ?_
        refine a_getR hX fl_X11_122 s_2 rfl dX11_compare_88 rfl ?_
        refine a_il2 hX dX11_compare_91 rfl ?_
        refine a_callI hX hR ml_X11_114 (ci_X7_get _ 5 6 24 s_5 s_6 _ _) s_5 rfl rfl rfl (by decide) (Nat.le_of_ble_eq_true rfl) rfl dX11_compare_92 rfl (fun x6 => ?_)
        refine a_callSI hX hR ml_X11_125 (ci_J6_compare_7cf53 _ _ _ _) rfl rfl (by decide) (Nat.le_of_ble_eq_true rfl) rfl dX11_compare_95 rfl (fun x7 => ?_)
        exact a_tiret hX hQ hr dX11_compare_98
      · exact a_throw hX hR hQ th_X11_66_120 (by decide) dX11_compare_57 dX11_compare_60 dX11_compare_61 dX11_compare_63 dX11_compare_66 (by decide) rfl
    · exact a_throw hX hR hQ th_X11_56_108 (by decide) dX11_compare_16 dX11_compare_19 dX11_compare_20 dX11_compare_22 dX11_compare_25 (by decide) rfl

set_option maxRecDepth 100000 in
theorem ci_X11_compare (l : Launch) (hlt : l.stackTraces = false) (v1 v2 : Int32) (σ : Mem) : CT l yX11_compare cX11_compare 3 (some .int) 6 82 [.ref 0, .int v1, .int v2] σ (m_X11_compare v1 v2 σ) :=
  ct_of (by decide) (by simp [Value.category]) (by simp) hlt (fun X r hl hX hR hQ hr => a_X11_compare_0 hX hR hQ hr v1 v2 σ)

set_option maxRecDepth 100000 in
set_option maxHeartbeats 2000000 in
theorem a_X11_yank_0 {X : AX} {r0 : (Nat × Int32) × Mem} (hX : CX X cX11_yank 2 RX11) (hR : (aR X).frames = 6 ∧ (aR X).locals = 82 ∧ aCe X ≤ (aR X).cells ∧ aSl X ≤ (aR X).slots) (hQ : QT X r0) (hr : (aMeth X).sig.returnType = (some .boolean)) (v1 : Int32) (σ : Mem) : AWo X r0 0 [some (.ref 0), some (.int v1)] [] σ (m_X11_yank v1 σ) := by
  unfold m_X11_yank
  refine a_al0 hX dX11_yank_0 rfl ?_
  refine a_il1 hX dX11_yank_1 rfl ?_
  refine a_callI hX hR ml_X11_105 (ci_X11_isVersion _ _ _) s_0 rfl rfl rfl (by decide) (Nat.le_of_ble_eq_true rfl) rfl dX11_yank_2 rfl (fun x1 => ?_)
  refine a_if_ne hX dX11_yank_5 rfl rfl ?_ ?_
  · refine a_al0 hX dX11_yank_18 rfl ?_
    refine a_getR hX fl_X11_17 s_0 rfl dX11_yank_19 rfl ?_
    refine a_getR hX fl_X11_75 s_1 rfl dX11_yank_22 rfl ?_
    refine a_il1 hX dX11_yank_25 rfl ?_
    refine a_callI hX hR ml_X11_131 (ci_X9_toggleYanked _ _ _) s_2 rfl rfl rfl (by decide) (Nat.le_of_ble_eq_true rfl) rfl dX11_yank_26 rfl (fun x2 => ?_)
    exact a_tzret hX hQ hr dX11_yank_29
  · exact a_throw hX hR hQ th_X11_56_108 (by decide) dX11_yank_8 dX11_yank_11 dX11_yank_12 dX11_yank_14 dX11_yank_17 (by decide) rfl

set_option maxRecDepth 100000 in
theorem ci_X11_yank (l : Launch) (hlt : l.stackTraces = false) (v1 : Int32) (σ : Mem) : CT l yX11_yank cX11_yank 2 (some .boolean) 6 82 [.ref 0, .int v1] σ (m_X11_yank v1 σ) :=
  ct_of (by decide) (by simp [Value.category]) (by simp) hlt (fun X r hl hX hR hQ hr => a_X11_yank_0 hX hR hQ hr v1 σ)

set_option maxRecDepth 100000 in
set_option maxHeartbeats 2000000 in
theorem a_X11_setPlatforms_0 {X : AX} {r0 : (Nat × Int32) × Mem} (hX : CX X cX11_setPlatforms 3 RX11) (hR : (aR X).frames = 6 ∧ (aR X).locals = 82 ∧ aCe X ≤ (aR X).cells ∧ aSl X ≤ (aR X).slots) (hQ : QT X r0) (hr : (aMeth X).sig.returnType = (some .int)) (v1 v2 : Int32) (σ : Mem) : AWo X r0 0 [some (.ref 0), some (.int v1), some (.int v2)] [] σ (m_X11_setPlatforms v1 v2 σ) := by
  unfold m_X11_setPlatforms
  refine a_al0 hX dX11_setPlatforms_0 rfl ?_
  refine a_il1 hX dX11_setPlatforms_1 rfl ?_
  refine a_callI hX hR ml_X11_105 (ci_X11_isVersion _ _ _) s_0 rfl rfl rfl (by decide) (Nat.le_of_ble_eq_true rfl) rfl dX11_setPlatforms_2 rfl (fun x1 => ?_)
  refine a_if_ne hX dX11_setPlatforms_5 rfl rfl ?_ ?_
  · refine a_bi 7 hX dX11_setPlatforms_18 (by decide) rfl ?_
    refine a_il2 hX dX11_setPlatforms_20 rfl ?_
    refine a_callSI hX hR ml_X11_52 (ci_X11_isUpTo _ _ _ _) rfl rfl (by decide) (Nat.le_of_ble_eq_true rfl) rfl dX11_setPlatforms_21 rfl (fun x2 => ?_)
    refine a_if_ne hX dX11_setPlatforms_24 rfl rfl ?_ ?_
    · refine a_al0 hX dX11_setPlatforms_37 rfl ?_
      refine a_getR hX fl_X11_17 s_0 rfl dX11_setPlatforms_38 rfl ?_
      refine a_getR hX fl_X11_75 s_1 rfl dX11_setPlatforms_41 rfl ?_
      refine a_getR hX fl_X11_136 s_2 rfl dX11_setPlatforms_44 rfl ?_
      refine a_il1 hX dX11_setPlatforms_47 rfl ?_
      refine a_il2 hX dX11_setPlatforms_48 rfl ?_
      refine a_callI hX hR ml_X11_139 (ci_X7_exchange _ 9 10 24 s_9 s_10 _ _ _) s_9 rfl rfl rfl (by decide) (Nat.le_of_ble_eq_true rfl) rfl dX11_setPlatforms_49 rfl (fun x3 => ?_)
      exact a_tiret hX hQ hr dX11_setPlatforms_52
    · exact a_throw hX hR hQ th_X11_66_134 (by decide) dX11_setPlatforms_27 dX11_setPlatforms_30 dX11_setPlatforms_31 dX11_setPlatforms_33 dX11_setPlatforms_36 (by decide) rfl
  · exact a_throw hX hR hQ th_X11_56_108 (by decide) dX11_setPlatforms_8 dX11_setPlatforms_11 dX11_setPlatforms_12 dX11_setPlatforms_14 dX11_setPlatforms_17 (by decide) rfl

set_option maxRecDepth 100000 in
theorem ci_X11_setPlatforms (l : Launch) (hlt : l.stackTraces = false) (v1 v2 : Int32) (σ : Mem) : CT l yX11_setPlatforms cX11_setPlatforms 3 (some .int) 6 82 [.ref 0, .int v1, .int v2] σ (m_X11_setPlatforms v1 v2 σ) :=
  ct_of (by decide) (by simp [Value.category]) (by simp) hlt (fun X r hl hX hR hQ hr => a_X11_setPlatforms_0 hX hR hQ hr v1 v2 σ)

set_option maxRecDepth 100000 in
set_option maxHeartbeats 2000000 in
theorem a_X11_bring_0 {X : AX} {r0 : (Nat × Int32) × Mem} (hX : CX X cX11_bring 4 RX11) (hR : (aR X).frames = 6 ∧ (aR X).locals = 82 ∧ aCe X ≤ (aR X).cells ∧ aSl X ≤ (aR X).slots) (hQ : QT X r0) (hr : (aMeth X).sig.returnType = (some .boolean)) (v1 v2 v3 : Int32) (σ : Mem) : AWo X r0 0 [some (.ref 0), some (.int v1), some (.int v2), some (.int v3)] [] σ (m_X11_bring v1 v2 v3 σ) := by
  unfold m_X11_bring
  refine a_al0 hX dX11_bring_0 rfl ?_
  refine a_il1 hX dX11_bring_1 rfl ?_
  refine a_callI hX hR ml_X11_105 (ci_X11_isVersion _ _ _) s_0 rfl rfl rfl (by decide) (Nat.le_of_ble_eq_true rfl) rfl dX11_bring_2 rfl (fun x1 => ?_)
  refine a_if_eq hX dX11_bring_5 rfl rfl ?_ ?_
  · exact a_throw hX hR hQ th_X11_56_142 (by decide) dX11_bring_24 dX11_bring_27 dX11_bring_28 dX11_bring_30 dX11_bring_33 (by decide) rfl
  · refine a_ic 2 hX dX11_bring_8 (by decide) rfl ?_
    refine a_il2 hX dX11_bring_9 rfl ?_
    refine a_callSI hX hR ml_X11_52 (ci_X11_isUpTo _ _ _ _) rfl rfl (by decide) (Nat.le_of_ble_eq_true rfl) rfl dX11_bring_10 rfl (fun x2 => ?_)
    refine a_if_eq hX dX11_bring_13 rfl rfl ?_ ?_
    · exact a_throw hX hR hQ th_X11_56_142 (by decide) dX11_bring_24 dX11_bring_27 dX11_bring_28 dX11_bring_30 dX11_bring_33 (by decide) rfl
    · refine a_ic 2 hX dX11_bring_16 (by decide) rfl ?_
      refine a_il3 hX dX11_bring_17 rfl ?_
      refine a_callSI hX hR ml_X11_52 (ci_X11_isUpTo _ _ _ _) rfl rfl (by decide) (Nat.le_of_ble_eq_true rfl) rfl dX11_bring_18 rfl (fun x3 => ?_)
      refine a_if_ne hX dX11_bring_21 rfl rfl ?_ ?_
      · refine a_al0 hX dX11_bring_34 rfl ?_
        refine a_getR hX fl_X11_17 s_0 rfl dX11_bring_35 rfl ?_
        refine a_getR hX fl_X11_75 s_1 rfl dX11_bring_38 rfl ?_
        refine a_getR hX fl_X11_144 s_2 rfl dX11_bring_41 rfl ?_
        refine a_il1 hX dX11_bring_44 rfl ?_
        refine a_ic 3 hX dX11_bring_45 (by decide) rfl ?_
        refine a_imul hX dX11_bring_46 rfl ?_
        refine a_il2 hX dX11_bring_47 rfl ?_
        refine a_iadd hX dX11_bring_48 rfl ?_
        refine a_ic 1 hX dX11_bring_49 (by decide) rfl ?_
        refine a_il3 hX dX11_bring_50 rfl ?_
        refine a_ishl hX dX11_bring_51 rfl ?_
        refine a_callI hX hR ml_X11_147 (ci_X7_merge _ 11 12 72 s_11 s_12 _ _ _) s_11 rfl rfl rfl (by decide) (Nat.le_of_ble_eq_true rfl) rfl dX11_bring_52 rfl (fun x4 => ?_)
        exact a_tzret hX hQ hr dX11_bring_55
      · exact a_throw hX hR hQ th_X11_56_142 (by decide) dX11_bring_24 dX11_bring_27 dX11_bring_28 dX11_bring_30 dX11_bring_33 (by decide) rfl

set_option maxRecDepth 100000 in
theorem ci_X11_bring (l : Launch) (hlt : l.stackTraces = false) (v1 v2 v3 : Int32) (σ : Mem) : CT l yX11_bring cX11_bring 4 (some .boolean) 6 82 [.ref 0, .int v1, .int v2, .int v3] σ (m_X11_bring v1 v2 v3 σ) :=
  ct_of (by decide) (by simp [Value.category]) (by simp) hlt (fun X r hl hX hR hQ hr => a_X11_bring_0 hX hR hQ hr v1 v2 v3 σ)

set_option maxRecDepth 100000 in
set_option maxHeartbeats 2000000 in
theorem a_X11_range_202 {X : AX} {r0 : (Nat × Int32) × Mem} (hX : CX X cX11_range 9 RX11) (hR : (aR X).frames = 6 ∧ (aR X).locals = 82 ∧ aCe X ≤ (aR X).cells ∧ aSl X ≤ (aR X).slots) (hQ : QT X r0) (hr : (aMeth X).sig.returnType = (some .int)) (s1 s2 s3 : Int32) (σ : Mem) : AWo X r0 202 [some (.ref 0), none, none, none, none, none, none, none, none] [.int s3, .int s2, .int s1, .ref 17] σ (m_X11_range_202 s1 s2 s3 σ) := by
  unfold m_X11_range_202
  refine a_al0 hX dX11_range_202 rfl ?_
  refine a_getR hX fl_X11_17 s_0 rfl dX11_range_203 rfl ?_
  refine a_getR hX fl_X11_75 s_1 rfl dX11_range_206 rfl ?_
  refine a_callI hX hR ml_X11_169 (ci_X6_add _ _ _ _ _) s_17 rfl rfl rfl (by decide) (Nat.le_of_ble_eq_true rfl) rfl dX11_range_209 rfl (fun x1 => ?_)
  exact a_tiret hX hQ hr dX11_range_212

set_option maxRecDepth 100000 in
set_option maxHeartbeats 2000000 in
theorem a_X11_range_163 {X : AX} {r0 : (Nat × Int32) × Mem} (hX : CX X cX11_range 9 RX11) (hR : (aR X).frames = 6 ∧ (aR X).locals = 82 ∧ aCe X ≤ (aR X).cells ∧ aSl X ≤ (aR X).slots) (hQ : QT X r0) (hr : (aMeth X).sig.returnType = (some .int)) (v1 v2 v3 v4 v5 v6 s0 : Int32) (σ : Mem) : AWo X r0 163 [some (.ref 0), some (.int v1), some (.int v2), some (.int v3), some (.int v4), some (.int v5), some (.int v6), none, none] [.int s0] σ (m_X11_range_163 v1 v2 v3 v4 v5 v6 s0 σ) := by
  unfold m_X11_range_163
  refine a_is7 hX dX11_range_163 rfl ?_
  refine a_il1 hX dX11_range_165 rfl ?_
  refine a_il2 hX dX11_range_166 rfl ?_
  refine a_il3 hX dX11_range_167 rfl ?_
  refine a_il4 hX dX11_range_168 rfl ?_
  refine a_il6 hX dX11_range_170 rfl ?_
  refine a_callSI hX hR ml_X11_162 (ci_X11_endOf _ _ _ _ _ _ _) rfl rfl (by decide) (Nat.le_of_ble_eq_true rfl) rfl dX11_range_172 rfl (fun x1 => ?_)
  refine a_is8 hX dX11_range_175 rfl ?_
  refine a_al0 hX dX11_range_177 rfl ?_
  refine a_getR hX fl_X11_17 s_0 rfl dX11_range_178 rfl ?_
  refine a_getR hX fl_X11_95 s_1 rfl dX11_range_181 rfl ?_
  refine a_il7 hX dX11_range_184 rfl ?_
  refine a_il8 hX dX11_range_186 rfl ?_
  refine a_il5 hX dX11_range_188 rfl ?_
  refine a_if_ne hX dX11_range_190 rfl rfl ?_ ?_
  · refine a_il6 hX dX11_range_197 rfl ?_
    refine a_callSI hX hR ml_X11_166 (ci_X11_triple _ _ _) rfl rfl (by decide) (Nat.le_of_ble_eq_true rfl) rfl dX11_range_199 rfl (fun x2 => ?_)
    exact a_sub (a_X11_range_202 hX hR hQ hr s0 x1.1 x2.1 x2.2) (ls_s (ls_n (ls_n (ls_n (ls_n (ls_n (ls_n (ls_n (ls_n ls_0)))))))))
  · refine a_ic (-1) hX dX11_range_193 (by decide) rfl ?_
    refine a_goto hX dX11_range_194 rfl ?_
    exact a_sub (a_X11_range_202 hX hR hQ hr s0 x1.1 (-1) x1.2) (ls_s (ls_n (ls_n (ls_n (ls_n (ls_n (ls_n (ls_n (ls_n ls_0)))))))))

set_option maxRecDepth 100000 in
set_option maxHeartbeats 2000000 in
theorem a_X11_range_95 {X : AX} {r0 : (Nat × Int32) × Mem} (hX : CX X cX11_range 9 RX11) (hR : (aR X).frames = 6 ∧ (aR X).locals = 82 ∧ aCe X ≤ (aR X).cells ∧ aSl X ≤ (aR X).slots) (hQ : QT X r0) (hr : (aMeth X).sig.returnType = (some .int)) (v1 v2 v3 v4 v5 s0 : Int32) (σ : Mem) : AWo X r0 95 [some (.ref 0), some (.int v1), some (.int v2), some (.int v3), some (.int v4), some (.int v5), none, none, none] [.int s0] σ (m_X11_range_95 v1 v2 v3 v4 v5 s0 σ) := by
  unfold m_X11_range_95
  refine a_il5 hX dX11_range_95 rfl ?_
  refine a_callSI hX hR ml_X11_52 (ci_X11_isUpTo _ _ _ _) rfl rfl (by decide) (Nat.le_of_ble_eq_true rfl) rfl dX11_range_97 rfl (fun x1 => ?_)
  refine a_if_ne hX dX11_range_100 rfl rfl ?_ ?_
  · refine a_al0 hX dX11_range_113 rfl ?_
    refine a_getR hX fl_X11_17 s_0 rfl dX11_range_114 rfl ?_
    refine a_getR hX fl_X11_95 s_1 rfl dX11_range_117 rfl ?_
    refine a_callI hX hR ml_X11_157 (ci_X6_isFull _ _) s_17 rfl rfl rfl (by decide) (Nat.le_of_ble_eq_true rfl) rfl dX11_range_120 rfl (fun x2 => ?_)
    refine a_if_eq hX dX11_range_123 rfl rfl ?_ ?_
    · refine a_il2 hX dX11_range_136 rfl ?_
      refine a_il3 hX dX11_range_137 rfl ?_
      refine a_il4 hX dX11_range_138 rfl ?_
      refine a_il5 hX dX11_range_140 rfl ?_
      refine a_callSI hX hR ml_X11_71 (ci_X11_rankOf _ _ _ _ _ _) rfl rfl (by decide) (Nat.le_of_ble_eq_true rfl) rfl dX11_range_142 rfl (fun x3 => ?_)
      refine a_is6 hX dX11_range_145 rfl ?_
      refine a_il1 hX dX11_range_147 rfl ?_
      refine a_ic 2 hX dX11_range_148 (by decide) rfl ?_
      refine a_icmp_eq hX dX11_range_149 rfl rfl ?_ ?_
      · refine a_ic 0 hX dX11_range_157 (by decide) rfl ?_
        refine a_goto hX dX11_range_158 rfl ?_
        exact a_sub (a_X11_range_163 hX hR hQ hr v1 v2 v3 v4 v5 x3.1 0 x3.2) (ls_s (ls_s (ls_s (ls_s (ls_s (ls_s (ls_s (ls_n (ls_n ls_0)))))))))
      · refine a_il1 hX dX11_range_152 rfl ?_
        refine a_ic 3 hX dX11_range_153 (by decide) rfl ?_
        refine a_icmp_ne hX dX11_range_154 rfl rfl ?_ ?_
        · refine a_il6 hX dX11_range_161 rfl ?_
          exact a_sub (a_X11_range_163 hX hR hQ hr v1 v2 v3 v4 v5 x3.1 x3.1 x3.2) (ls_s (ls_s (ls_s (ls_s (ls_s (ls_s (ls_s (ls_n (ls_n ls_0)))))))))
        · refine a_ic 0 hX dX11_range_157 (by decide) rfl ?_
          refine a_goto hX dX11_range_158 rfl ?_
          exact a_sub (a_X11_range_163 hX hR hQ hr v1 v2 v3 v4 v5 x3.1 0 x3.2) (ls_s (ls_s (ls_s (ls_s (ls_s (ls_s (ls_s (ls_n (ls_n ls_0)))))))))
    · exact a_throw hX hR hQ th_X11_87_160 (by decide) dX11_range_126 dX11_range_129 dX11_range_130 dX11_range_132 dX11_range_135 (by decide) rfl
  · exact a_throw hX hR hQ th_X11_66_155 (by decide) dX11_range_103 dX11_range_106 dX11_range_107 dX11_range_109 dX11_range_112 (by decide) rfl

set_option maxRecDepth 100000 in
set_option maxHeartbeats 2000000 in
theorem a_X11_range_74 {X : AX} {r0 : (Nat × Int32) × Mem} (hX : CX X cX11_range 9 RX11) (hR : (aR X).frames = 6 ∧ (aR X).locals = 82 ∧ aCe X ≤ (aR X).cells ∧ aSl X ≤ (aR X).slots) (hQ : QT X r0) (hr : (aMeth X).sig.returnType = (some .int)) (v1 v2 v3 v4 v5 s0 : Int32) (σ : Mem) : AWo X r0 74 [some (.ref 0), some (.int v1), some (.int v2), some (.int v3), some (.int v4), some (.int v5), none, none, none] [.int s0] σ (m_X11_range_74 v1 v2 v3 v4 v5 s0 σ) := by
  unfold m_X11_range_74
  refine a_il4 hX dX11_range_74 rfl ?_
  refine a_callSI hX hR ml_X11_52 (ci_X11_isUpTo _ _ _ _) rfl rfl (by decide) (Nat.le_of_ble_eq_true rfl) rfl dX11_range_76 rfl (fun x1 => ?_)
  refine a_if_eq hX dX11_range_79 rfl rfl ?_ ?_
  · exact a_throw hX hR hQ th_X11_66_155 (by decide) dX11_range_103 dX11_range_106 dX11_range_107 dX11_range_109 dX11_range_112 (by decide) rfl
  · refine a_il1 hX dX11_range_82 rfl ?_
    refine a_callSI hX hR ml_X11_152 (ci_X11_hasWholeVersion _ _ _) rfl rfl (by decide) (Nat.le_of_ble_eq_true rfl) rfl dX11_range_83 rfl (fun x2 => ?_)
    refine a_if_eq hX dX11_range_86 rfl rfl ?_ ?_
    · refine a_ic 0 hX dX11_range_94 (by decide) rfl ?_
      exact a_sub (a_X11_range_95 hX hR hQ hr v1 v2 v3 v4 v5 0 x2.2) (ls_s (ls_s (ls_s (ls_s (ls_s (ls_s (ls_n (ls_n (ls_n ls_0)))))))))
    · refine a_bi 9 hX dX11_range_89 (by decide) rfl ?_
      refine a_goto hX dX11_range_91 rfl ?_
      exact a_sub (a_X11_range_95 hX hR hQ hr v1 v2 v3 v4 v5 9 x2.2) (ls_s (ls_s (ls_s (ls_s (ls_s (ls_s (ls_n (ls_n (ls_n ls_0)))))))))

set_option maxRecDepth 100000 in
set_option maxHeartbeats 2000000 in
theorem a_X11_range_54 {X : AX} {r0 : (Nat × Int32) × Mem} (hX : CX X cX11_range 9 RX11) (hR : (aR X).frames = 6 ∧ (aR X).locals = 82 ∧ aCe X ≤ (aR X).cells ∧ aSl X ≤ (aR X).slots) (hQ : QT X r0) (hr : (aMeth X).sig.returnType = (some .int)) (v1 v2 v3 v4 v5 s0 : Int32) (σ : Mem) : AWo X r0 54 [some (.ref 0), some (.int v1), some (.int v2), some (.int v3), some (.int v4), some (.int v5), none, none, none] [.int s0] σ (m_X11_range_54 v1 v2 v3 v4 v5 s0 σ) := by
  unfold m_X11_range_54
  refine a_il3 hX dX11_range_54 rfl ?_
  refine a_callSI hX hR ml_X11_52 (ci_X11_isUpTo _ _ _ _) rfl rfl (by decide) (Nat.le_of_ble_eq_true rfl) rfl dX11_range_55 rfl (fun x1 => ?_)
  refine a_if_eq hX dX11_range_58 rfl rfl ?_ ?_
  · exact a_throw hX hR hQ th_X11_66_155 (by decide) dX11_range_103 dX11_range_106 dX11_range_107 dX11_range_109 dX11_range_112 (by decide) rfl
  · refine a_il1 hX dX11_range_61 rfl ?_
    refine a_callSI hX hR ml_X11_152 (ci_X11_hasWholeVersion _ _ _) rfl rfl (by decide) (Nat.le_of_ble_eq_true rfl) rfl dX11_range_62 rfl (fun x2 => ?_)
    refine a_if_eq hX dX11_range_65 rfl rfl ?_ ?_
    · refine a_ic 0 hX dX11_range_73 (by decide) rfl ?_
      exact a_sub (a_X11_range_74 hX hR hQ hr v1 v2 v3 v4 v5 0 x2.2) (ls_s (ls_s (ls_s (ls_s (ls_s (ls_s (ls_n (ls_n (ls_n ls_0)))))))))
    · refine a_bi 9 hX dX11_range_68 (by decide) rfl ?_
      refine a_goto hX dX11_range_70 rfl ?_
      exact a_sub (a_X11_range_74 hX hR hQ hr v1 v2 v3 v4 v5 9 x2.2) (ls_s (ls_s (ls_s (ls_s (ls_s (ls_s (ls_n (ls_n (ls_n ls_0)))))))))

set_option maxRecDepth 100000 in
set_option maxHeartbeats 2000000 in
theorem a_X11_range_30 {X : AX} {r0 : (Nat × Int32) × Mem} (hX : CX X cX11_range 9 RX11) (hR : (aR X).frames = 6 ∧ (aR X).locals = 82 ∧ aCe X ≤ (aR X).cells ∧ aSl X ≤ (aR X).slots) (hQ : QT X r0) (hr : (aMeth X).sig.returnType = (some .int)) (v1 v2 v3 v4 v5 s0 : Int32) (σ : Mem) : AWo X r0 30 [some (.ref 0), some (.int v1), some (.int v2), some (.int v3), some (.int v4), some (.int v5), none, none, none] [.int s0] σ (m_X11_range_30 v1 v2 v3 v4 v5 s0 σ) := by
  unfold m_X11_range_30
  refine a_il2 hX dX11_range_30 rfl ?_
  refine a_callSI hX hR ml_X11_52 (ci_X11_isUpTo _ _ _ _) rfl rfl (by decide) (Nat.le_of_ble_eq_true rfl) rfl dX11_range_31 rfl (fun x1 => ?_)
  refine a_if_eq hX dX11_range_34 rfl rfl ?_ ?_
  · exact a_throw hX hR hQ th_X11_66_155 (by decide) dX11_range_103 dX11_range_106 dX11_range_107 dX11_range_109 dX11_range_112 (by decide) rfl
  · refine a_il1 hX dX11_range_37 rfl ?_
    refine a_ic 3 hX dX11_range_38 (by decide) rfl ?_
    refine a_icmp_eq hX dX11_range_39 rfl rfl ?_ ?_
    · refine a_ic 0 hX dX11_range_48 (by decide) rfl ?_
      refine a_goto hX dX11_range_49 rfl ?_
      exact a_sub (a_X11_range_54 hX hR hQ hr v1 v2 v3 v4 v5 0 x1.2) (ls_s (ls_s (ls_s (ls_s (ls_s (ls_s (ls_n (ls_n (ls_n ls_0)))))))))
    · refine a_il1 hX dX11_range_42 rfl ?_
      refine a_bi 6 hX dX11_range_43 (by decide) rfl ?_
      refine a_icmp_ne hX dX11_range_45 rfl rfl ?_ ?_
      · refine a_bi 9 hX dX11_range_52 (by decide) rfl ?_
        exact a_sub (a_X11_range_54 hX hR hQ hr v1 v2 v3 v4 v5 9 x1.2) (ls_s (ls_s (ls_s (ls_s (ls_s (ls_s (ls_n (ls_n (ls_n ls_0)))))))))
      · refine a_ic 0 hX dX11_range_48 (by decide) rfl ?_
        refine a_goto hX dX11_range_49 rfl ?_
        exact a_sub (a_X11_range_54 hX hR hQ hr v1 v2 v3 v4 v5 0 x1.2) (ls_s (ls_s (ls_s (ls_s (ls_s (ls_s (ls_n (ls_n (ls_n ls_0)))))))))

set_option maxRecDepth 100000 in
set_option maxHeartbeats 2000000 in
theorem a_X11_range_0 {X : AX} {r0 : (Nat × Int32) × Mem} (hX : CX X cX11_range 9 RX11) (hR : (aR X).frames = 6 ∧ (aR X).locals = 82 ∧ aCe X ≤ (aR X).cells ∧ aSl X ≤ (aR X).slots) (hQ : QT X r0) (hr : (aMeth X).sig.returnType = (some .int)) (v1 v2 v3 v4 v5 : Int32) (σ : Mem) : AWo X r0 0 [some (.ref 0), some (.int v1), some (.int v2), some (.int v3), some (.int v4), some (.int v5), none, none, none] [] σ (m_X11_range v1 v2 v3 v4 v5 σ) := by
  unfold m_X11_range
  refine a_bi 7 hX dX11_range_0 (by decide) rfl ?_
  refine a_il1 hX dX11_range_2 rfl ?_
  refine a_callSI hX hR ml_X11_52 (ci_X11_isUpTo _ _ _ _) rfl rfl (by decide) (Nat.le_of_ble_eq_true rfl) rfl dX11_range_3 rfl (fun x1 => ?_)
  refine a_if_ne hX dX11_range_6 rfl rfl ?_ ?_
  · refine a_il1 hX dX11_range_19 rfl ?_
    refine a_ic 3 hX dX11_range_20 (by decide) rfl ?_
    refine a_icmp_ne hX dX11_range_21 rfl rfl ?_ ?_
    · refine a_bi 9 hX dX11_range_28 (by decide) rfl ?_
      exact a_sub (a_X11_range_30 hX hR hQ hr v1 v2 v3 v4 v5 9 x1.2) (ls_s (ls_s (ls_s (ls_s (ls_s (ls_s (ls_n (ls_n (ls_n ls_0)))))))))
    · refine a_ic 0 hX dX11_range_24 (by decide) rfl ?_
      refine a_goto hX dX11_range_25 rfl ?_
      exact a_sub (a_X11_range_30 hX hR hQ hr v1 v2 v3 v4 v5 0 x1.2) (ls_s (ls_s (ls_s (ls_s (ls_s (ls_s (ls_n (ls_n (ls_n ls_0)))))))))
  · exact a_throw hX hR hQ th_X11_56_150 (by decide) dX11_range_9 dX11_range_12 dX11_range_13 dX11_range_15 dX11_range_18 (by decide) rfl

set_option maxRecDepth 100000 in
theorem ci_X11_range (l : Launch) (hlt : l.stackTraces = false) (v1 v2 v3 v4 v5 : Int32) (σ : Mem) : CT l yX11_range cX11_range 9 (some .int) 6 82 [.ref 0, .int v1, .int v2, .int v3, .int v4, .int v5] σ (m_X11_range v1 v2 v3 v4 v5 σ) :=
  ct_of (by decide) (by simp [Value.category]) (by simp) hlt (fun X r hl hX hR hQ hr => a_X11_range_0 hX hR hQ hr v1 v2 v3 v4 v5 σ)

set_option maxRecDepth 100000 in
set_option maxHeartbeats 2000000 in
theorem a_X11_join_12 {X : AX} {r0 : (Nat × Int32) × Mem} (hX : CX X cX11_join 4 RX11) (hR : (aR X).frames = 6 ∧ (aR X).locals = 82 ∧ aCe X ≤ (aR X).cells ∧ aSl X ≤ (aR X).slots) (hQ : QT X r0) (hr : (aMeth X).sig.returnType = (some .int)) (v1 v2 v3 : Int32) (σ : Mem) : AWo X r0 12 [some (.ref 0), some (.int v1), some (.int v2), some (.int v3)] [] σ (m_X11_join_12 v1 v2 v3 σ) := by
  unfold m_X11_join_12
  refine a_al0 hX dX11_join_12 rfl ?_
  refine a_il2 hX dX11_join_13 rfl ?_
  refine a_callI hX hR ml_X11_172 (ci_X11_isRange _ _ _) s_0 rfl rfl rfl (by decide) (Nat.le_of_ble_eq_true rfl) rfl dX11_join_14 rfl (fun x1 => ?_)
  refine a_if_eq hX dX11_join_17 rfl rfl ?_ ?_
  · exact a_throw hX hR hQ th_X11_56_175 (by decide) dX11_join_28 dX11_join_31 dX11_join_32 dX11_join_34 dX11_join_37 (by decide) rfl
  · refine a_al0 hX dX11_join_20 rfl ?_
    refine a_il3 hX dX11_join_21 rfl ?_
    refine a_callI hX hR ml_X11_172 (ci_X11_isRange _ _ _) s_0 rfl rfl rfl (by decide) (Nat.le_of_ble_eq_true rfl) rfl dX11_join_22 rfl (fun x2 => ?_)
    refine a_if_ne hX dX11_join_25 rfl rfl ?_ ?_
    · refine a_al0 hX dX11_join_38 rfl ?_
      refine a_getR hX fl_X11_17 s_0 rfl dX11_join_39 rfl ?_
      refine a_getR hX fl_X11_95 s_1 rfl dX11_join_42 rfl ?_
      refine a_callI hX hR ml_X11_157 (ci_X6_isFull _ _) s_17 rfl rfl rfl (by decide) (Nat.le_of_ble_eq_true rfl) rfl dX11_join_45 rfl (fun x3 => ?_)
      refine a_if_eq hX dX11_join_48 rfl rfl ?_ ?_
      · refine a_al0 hX dX11_join_61 rfl ?_
        refine a_getR hX fl_X11_17 s_0 rfl dX11_join_62 rfl ?_
        refine a_getR hX fl_X11_95 s_1 rfl dX11_join_65 rfl ?_
        refine a_il1 hX dX11_join_68 rfl ?_
        refine a_il2 hX dX11_join_69 rfl ?_
        refine a_il3 hX dX11_join_70 rfl ?_
        refine a_callI hX hR ml_X11_177 (ci_X6_addJoined _ _ _ _ _) s_17 rfl rfl rfl (by decide) (Nat.le_of_ble_eq_true rfl) rfl dX11_join_71 rfl (fun x4 => ?_)
        exact a_tiret hX hQ hr dX11_join_74
      · exact a_throw hX hR hQ th_X11_87_160 (by decide) dX11_join_51 dX11_join_54 dX11_join_55 dX11_join_57 dX11_join_60 (by decide) rfl
    · exact a_throw hX hR hQ th_X11_56_175 (by decide) dX11_join_28 dX11_join_31 dX11_join_32 dX11_join_34 dX11_join_37 (by decide) rfl

set_option maxRecDepth 100000 in
set_option maxHeartbeats 2000000 in
theorem a_X11_join_0 {X : AX} {r0 : (Nat × Int32) × Mem} (hX : CX X cX11_join 4 RX11) (hR : (aR X).frames = 6 ∧ (aR X).locals = 82 ∧ aCe X ≤ (aR X).cells ∧ aSl X ≤ (aR X).slots) (hQ : QT X r0) (hr : (aMeth X).sig.returnType = (some .int)) (v1 v2 v3 : Int32) (σ : Mem) : AWo X r0 0 [some (.ref 0), some (.int v1), some (.int v2), some (.int v3)] [] σ (m_X11_join v1 v2 v3 σ) := by
  unfold m_X11_join
  refine a_il1 hX dX11_join_0 rfl ?_
  refine a_bi 8 hX dX11_join_1 (by decide) rfl ?_
  refine a_icmp_eq hX dX11_join_3 rfl rfl ?_ ?_
  · exact a_sub (a_X11_join_12 hX hR hQ hr v1 v2 v3 (σ)) (ls_s (ls_s (ls_s (ls_s ls_0))))
  · refine a_il1 hX dX11_join_6 rfl ?_
    refine a_bi 9 hX dX11_join_7 (by decide) rfl ?_
    refine a_icmp_ne hX dX11_join_9 rfl rfl ?_ ?_
    · exact a_throw hX hR hQ th_X11_56_175 (by decide) dX11_join_28 dX11_join_31 dX11_join_32 dX11_join_34 dX11_join_37 (by decide) rfl
    · exact a_sub (a_X11_join_12 hX hR hQ hr v1 v2 v3 (σ)) (ls_s (ls_s (ls_s (ls_s ls_0))))

set_option maxRecDepth 100000 in
theorem ci_X11_join (l : Launch) (hlt : l.stackTraces = false) (v1 v2 v3 : Int32) (σ : Mem) : CT l yX11_join cX11_join 4 (some .int) 6 82 [.ref 0, .int v1, .int v2, .int v3] σ (m_X11_join v1 v2 v3 σ) :=
  ct_of (by decide) (by simp [Value.category]) (by simp) hlt (fun X r hl hX hR hQ hr => a_X11_join_0 hX hR hQ hr v1 v2 v3 σ)

set_option maxRecDepth 100000 in
set_option maxHeartbeats 2000000 in
theorem a_X11_has_0 {X : AX} {r0 : (Nat × Int32) × Mem} (hX : CX X cX11_has 3 RX11) (hR : (aR X).frames = 6 ∧ (aR X).locals = 82 ∧ aCe X ≤ (aR X).cells ∧ aSl X ≤ (aR X).slots) (hQ : QT X r0) (hr : (aMeth X).sig.returnType = (some .boolean)) (v1 v2 : Int32) (σ : Mem) : AWo X r0 0 [some (.ref 0), some (.int v1), some (.int v2)] [] σ (m_X11_has v1 v2 σ) := by
  unfold m_X11_has
  refine a_al0 hX dX11_has_0 rfl ?_
  refine a_il1 hX dX11_has_1 rfl ?_
  refine a_callI hX hR ml_X11_172 (ci_X11_isRange _ _ _) s_0 rfl rfl rfl (by decide) (Nat.le_of_ble_eq_true rfl) rfl dX11_has_2 rfl (fun x1 => ?_)
  refine a_if_eq hX dX11_has_5 rfl rfl ?_ ?_
  · exact a_throw hX hR hQ th_X11_56_181 (by decide) dX11_has_16 dX11_has_19 dX11_has_20 dX11_has_22 dX11_has_25 (by decide) rfl
  · refine a_al0 hX dX11_has_8 rfl ?_
    refine a_il2 hX dX11_has_9 rfl ?_
    refine a_callI hX hR ml_X11_105 (ci_X11_isVersion _ _ _) s_0 rfl rfl rfl (by decide) (Nat.le_of_ble_eq_true rfl) rfl dX11_has_10 rfl (fun x2 => ?_)
    refine a_if_ne hX dX11_has_13 rfl rfl ?_ ?_
    · refine a_al0 hX dX11_has_26 rfl ?_
      refine a_getR hX fl_X11_17 s_0 rfl dX11_has_27 rfl ?_
      refine a_getR hX fl_X11_95 s_1 rfl dX11_has_30 rfl ?_
      refine a_il1 hX dX11_has_33 rfl ?_
      refine a_il2 hX dX11_has_34 rfl ?_
      refine a_callI hX hR ml_X11_183 (ci_X6_holds _ _ _ _) s_17 rfl rfl rfl (by decide) (Nat.le_of_ble_eq_true rfl) rfl dX11_has_35 rfl (fun x3 => ?_)
      exact a_tzret hX hQ hr dX11_has_38
    · exact a_throw hX hR hQ th_X11_56_181 (by decide) dX11_has_16 dX11_has_19 dX11_has_20 dX11_has_22 dX11_has_25 (by decide) rfl

set_option maxRecDepth 100000 in
theorem ci_X11_has (l : Launch) (hlt : l.stackTraces = false) (v1 v2 : Int32) (σ : Mem) : CT l yX11_has cX11_has 3 (some .boolean) 6 82 [.ref 0, .int v1, .int v2] σ (m_X11_has v1 v2 σ) :=
  ct_of (by decide) (by simp [Value.category]) (by simp) hlt (fun X r hl hX hR hQ hr => a_X11_has_0 hX hR hQ hr v1 v2 σ)

set_option maxRecDepth 100000 in
set_option maxHeartbeats 2000000 in
theorem a_X11_need_57 {X : AX} {r0 : (Nat × Int32) × Mem} (hX : CX X cX11_need 8 RX11) (hR : (aR X).frames = 6 ∧ (aR X).locals = 82 ∧ aCe X ≤ (aR X).cells ∧ aSl X ≤ (aR X).slots) (hQ : QT X r0) (hr : (aMeth X).sig.returnType = (some .int)) (v1 v2 v3 v4 v5 v6 v7 : Int32) (σ : Mem) : AWo X r0 57 [some (.ref 0), some (.int v1), some (.int v2), some (.int v3), some (.int v4), some (.int v5), some (.int v6), some (.int v7)] [] σ (m_X11_need_57 v1 v2 v3 v4 v5 v6 v7 σ) := by
  unfold m_X11_need_57
  refine a_bi 7 hX dX11_need_57 (by decide) rfl ?_
  refine a_il6 hX dX11_need_59 rfl ?_
  refine a_callSI hX hR ml_X11_52 (ci_X11_isUpTo _ _ _ _) rfl rfl (by decide) (Nat.le_of_ble_eq_true rfl) rfl dX11_need_61 rfl (fun x1 => ?_)
  refine a_if_eq hX dX11_need_64 rfl rfl ?_ ?_
  · exact a_throw hX hR hQ th_X11_66_188 (by decide) dX11_need_77 dX11_need_80 dX11_need_81 dX11_need_83 dX11_need_86 (by decide) rfl
  · refine a_bi 7 hX dX11_need_67 (by decide) rfl ?_
    refine a_il7 hX dX11_need_69 rfl ?_
    refine a_callSI hX hR ml_X11_52 (ci_X11_isUpTo _ _ _ _) rfl rfl (by decide) (Nat.le_of_ble_eq_true rfl) rfl dX11_need_71 rfl (fun x2 => ?_)
    refine a_if_ne hX dX11_need_74 rfl rfl ?_ ?_
    · refine a_al0 hX dX11_need_87 rfl ?_
      refine a_getR hX fl_X11_17 s_0 rfl dX11_need_88 rfl ?_
      refine a_getR hX fl_X11_190 s_1 rfl dX11_need_91 rfl ?_
      refine a_il1 hX dX11_need_94 rfl ?_
      refine a_callI hX hR ml_X11_194 (ci_X4_isFull _ _ _) s_32 rfl rfl rfl (by decide) (Nat.le_of_ble_eq_true rfl) rfl dX11_need_95 rfl (fun x3 => ?_)
      refine a_if_eq hX dX11_need_98 rfl rfl ?_ ?_
      · refine a_al0 hX dX11_need_111 rfl ?_
        refine a_getR hX fl_X11_17 s_0 rfl dX11_need_112 rfl ?_
        refine a_getR hX fl_X11_190 s_1 rfl dX11_need_115 rfl ?_
        refine a_il1 hX dX11_need_118 rfl ?_
        refine a_il2 hX dX11_need_119 rfl ?_
        refine a_il3 hX dX11_need_120 rfl ?_
        refine a_il4 hX dX11_need_121 rfl ?_
        refine a_il5 hX dX11_need_123 rfl ?_
        refine a_il6 hX dX11_need_125 rfl ?_
        refine a_il7 hX dX11_need_127 rfl ?_
        refine a_callI hX hR ml_X11_199 (ci_X4_add _ _ _ _ _ _ _ _ _) s_32 rfl rfl rfl (by decide) (Nat.le_of_ble_eq_true rfl) rfl dX11_need_129 rfl (fun x4 => ?_)
        exact a_tiret hX hQ hr dX11_need_132
      · exact a_throw hX hR hQ th_X11_87_197 (by decide) dX11_need_101 dX11_need_104 dX11_need_105 dX11_need_107 dX11_need_110 (by decide) rfl
    · exact a_throw hX hR hQ th_X11_66_188 (by decide) dX11_need_77 dX11_need_80 dX11_need_81 dX11_need_83 dX11_need_86 (by decide) rfl

set_option maxRecDepth 100000 in
set_option maxHeartbeats 2000000 in
theorem a_X11_need_0 {X : AX} {r0 : (Nat × Int32) × Mem} (hX : CX X cX11_need 8 RX11) (hR : (aR X).frames = 6 ∧ (aR X).locals = 82 ∧ aCe X ≤ (aR X).cells ∧ aSl X ≤ (aR X).slots) (hQ : QT X r0) (hr : (aMeth X).sig.returnType = (some .int)) (v1 v2 v3 v4 v5 v6 v7 : Int32) (σ : Mem) : AWo X r0 0 [some (.ref 0), some (.int v1), some (.int v2), some (.int v3), some (.int v4), some (.int v5), some (.int v6), some (.int v7)] [] σ (m_X11_need v1 v2 v3 v4 v5 v6 v7 σ) := by
  unfold m_X11_need
  refine a_al0 hX dX11_need_0 rfl ?_
  refine a_il1 hX dX11_need_1 rfl ?_
  refine a_callI hX hR ml_X11_105 (ci_X11_isVersion _ _ _) s_0 rfl rfl rfl (by decide) (Nat.le_of_ble_eq_true rfl) rfl dX11_need_2 rfl (fun x1 => ?_)
  refine a_if_eq hX dX11_need_5 rfl rfl ?_ ?_
  · exact a_throw hX hR hQ th_X11_56_186 (by decide) dX11_need_47 dX11_need_50 dX11_need_51 dX11_need_53 dX11_need_56 (by decide) rfl
  · refine a_il2 hX dX11_need_8 rfl ?_
    refine a_callSI hX hR ml_X11_48 (ci_X11_isPackage _ _ _) rfl rfl (by decide) (Nat.le_of_ble_eq_true rfl) rfl dX11_need_9 rfl (fun x2 => ?_)
    refine a_if_eq hX dX11_need_12 rfl rfl ?_ ?_
    · exact a_throw hX hR hQ th_X11_56_186 (by decide) dX11_need_47 dX11_need_50 dX11_need_51 dX11_need_53 dX11_need_56 (by decide) rfl
    · refine a_al0 hX dX11_need_15 rfl ?_
      refine a_il3 hX dX11_need_16 rfl ?_
      refine a_callI hX hR ml_X11_172 (ci_X11_isRange _ _ _) s_0 rfl rfl rfl (by decide) (Nat.le_of_ble_eq_true rfl) rfl dX11_need_17 rfl (fun x3 => ?_)
      refine a_if_eq hX dX11_need_20 rfl rfl ?_ ?_
      · exact a_throw hX hR hQ th_X11_56_186 (by decide) dX11_need_47 dX11_need_50 dX11_need_51 dX11_need_53 dX11_need_56 (by decide) rfl
      · refine a_ic 2 hX dX11_need_23 (by decide) rfl ?_
        refine a_il4 hX dX11_need_24 rfl ?_
        refine a_callSI hX hR ml_X11_52 (ci_X11_isUpTo _ _ _ _) rfl rfl (by decide) (Nat.le_of_ble_eq_true rfl) rfl dX11_need_26 rfl (fun x4 => ?_)
        refine a_if_eq hX dX11_need_29 rfl rfl ?_ ?_
        · exact a_throw hX hR hQ th_X11_56_186 (by decide) dX11_need_47 dX11_need_50 dX11_need_51 dX11_need_53 dX11_need_56 (by decide) rfl
        · refine a_il5 hX dX11_need_32 rfl ?_
          refine a_ic (-1) hX dX11_need_34 (by decide) rfl ?_
          refine a_icmp_eq hX dX11_need_35 rfl rfl ?_ ?_
          · exact a_sub (a_X11_need_57 hX hR hQ hr v1 v2 v3 v4 v5 v6 v7 x4.2) (ls_s (ls_s (ls_s (ls_s (ls_s (ls_s (ls_s (ls_s ls_0))))))))
          · refine a_ic 2 hX dX11_need_38 (by decide) rfl ?_
            refine a_il5 hX dX11_need_39 rfl ?_
            refine a_callSI hX hR ml_X11_52 (ci_X11_isUpTo _ _ _ _) rfl rfl (by decide) (Nat.le_of_ble_eq_true rfl) rfl dX11_need_41 rfl (fun x5 => ?_)
            refine a_if_ne hX dX11_need_44 rfl rfl ?_ ?_
            · exact a_sub (a_X11_need_57 hX hR hQ hr v1 v2 v3 v4 v5 v6 v7 x5.2) (ls_s (ls_s (ls_s (ls_s (ls_s (ls_s (ls_s (ls_s ls_0))))))))
            · exact a_throw hX hR hQ th_X11_56_186 (by decide) dX11_need_47 dX11_need_50 dX11_need_51 dX11_need_53 dX11_need_56 (by decide) rfl

set_option maxRecDepth 100000 in
theorem ci_X11_need (l : Launch) (hlt : l.stackTraces = false) (v1 v2 v3 v4 v5 v6 v7 : Int32) (σ : Mem) : CT l yX11_need cX11_need 8 (some .int) 6 82 [.ref 0, .int v1, .int v2, .int v3, .int v4, .int v5, .int v6, .int v7] σ (m_X11_need v1 v2 v3 v4 v5 v6 v7 σ) :=
  ct_of (by decide) (by simp [Value.category]) (by simp) hlt (fun X r hl hX hR hQ hr => a_X11_need_0 hX hR hQ hr v1 v2 v3 v4 v5 v6 v7 σ)

set_option maxRecDepth 100000 in
set_option maxHeartbeats 2000000 in
theorem a_X11_demand_0 {X : AX} {r0 : (Nat × Int32) × Mem} (hX : CX X cX11_demand 5 RX11) (hR : (aR X).frames = 6 ∧ (aR X).locals = 82 ∧ aCe X ≤ (aR X).cells ∧ aSl X ≤ (aR X).slots) (hQ : QT X r0) (hr : (aMeth X).sig.returnType = (some .int)) (v1 v2 v3 v4 : Int32) (σ : Mem) : AWo X r0 0 [some (.ref 0), some (.int v1), some (.int v2), some (.int v3), some (.int v4)] [] σ (m_X11_demand v1 v2 v3 v4 σ) := by
  unfold m_X11_demand
  refine a_ic 2 hX dX11_demand_0 (by decide) rfl ?_
  refine a_il1 hX dX11_demand_1 rfl ?_
  refine a_callSI hX hR ml_X11_52 (ci_X11_isUpTo _ _ _ _) rfl rfl (by decide) (Nat.le_of_ble_eq_true rfl) rfl dX11_demand_2 rfl (fun x1 => ?_)
  refine a_if_eq hX dX11_demand_5 rfl rfl ?_ ?_
  · exact a_throw hX hR hQ th_X11_56_202 (by decide) dX11_demand_23 dX11_demand_26 dX11_demand_27 dX11_demand_29 dX11_demand_32 (by decide) rfl
  · refine a_il2 hX dX11_demand_8 rfl ?_
    refine a_callSI hX hR ml_X11_48 (ci_X11_isPackage _ _ _) rfl rfl (by decide) (Nat.le_of_ble_eq_true rfl) rfl dX11_demand_9 rfl (fun x2 => ?_)
    refine a_if_eq hX dX11_demand_12 rfl rfl ?_ ?_
    · exact a_throw hX hR hQ th_X11_56_202 (by decide) dX11_demand_23 dX11_demand_26 dX11_demand_27 dX11_demand_29 dX11_demand_32 (by decide) rfl
    · refine a_al0 hX dX11_demand_15 rfl ?_
      refine a_il3 hX dX11_demand_16 rfl ?_
      refine a_callI hX hR ml_X11_172 (ci_X11_isRange _ _ _) s_0 rfl rfl rfl (by decide) (Nat.le_of_ble_eq_true rfl) rfl dX11_demand_17 rfl (fun x3 => ?_)
      refine a_if_ne hX dX11_demand_20 rfl rfl ?_ ?_
      · refine a_bi 7 hX dX11_demand_33 (by decide) rfl ?_
        refine a_il4 hX dX11_demand_35 rfl ?_
        refine a_callSI hX hR ml_X11_52 (ci_X11_isUpTo _ _ _ _) rfl rfl (by decide) (Nat.le_of_ble_eq_true rfl) rfl dX11_demand_37 rfl (fun x4 => ?_)
        refine a_if_ne hX dX11_demand_40 rfl rfl ?_ ?_
        · refine a_al0 hX dX11_demand_53 rfl ?_
          refine a_getR hX fl_X11_17 s_0 rfl dX11_demand_54 rfl ?_
          refine a_getR hX fl_X11_206 s_1 rfl dX11_demand_57 rfl ?_
          refine a_callI hX hR ml_X11_210 (ci_X2_isFull _ _) s_47 rfl rfl rfl (by decide) (Nat.le_of_ble_eq_true rfl) rfl dX11_demand_60 rfl (fun x5 => ?_)
          refine a_if_eq hX dX11_demand_63 rfl rfl ?_ ?_
          · refine a_al0 hX dX11_demand_76 rfl ?_
            refine a_getR hX fl_X11_17 s_0 rfl dX11_demand_77 rfl ?_
            refine a_getR hX fl_X11_206 s_1 rfl dX11_demand_80 rfl ?_
            refine a_il1 hX dX11_demand_83 rfl ?_
            refine a_il2 hX dX11_demand_84 rfl ?_
            refine a_il3 hX dX11_demand_85 rfl ?_
            refine a_il4 hX dX11_demand_86 rfl ?_
            refine a_callI hX hR ml_X11_215 (ci_X2_add _ _ _ _ _ _) s_47 rfl rfl rfl (by decide) (Nat.le_of_ble_eq_true rfl) rfl dX11_demand_88 rfl (fun x6 => ?_)
            exact a_tiret hX hQ hr dX11_demand_91
          · exact a_throw hX hR hQ th_X11_87_213 (by decide) dX11_demand_66 dX11_demand_69 dX11_demand_70 dX11_demand_72 dX11_demand_75 (by decide) rfl
        · exact a_throw hX hR hQ th_X11_66_204 (by decide) dX11_demand_43 dX11_demand_46 dX11_demand_47 dX11_demand_49 dX11_demand_52 (by decide) rfl
      · exact a_throw hX hR hQ th_X11_56_202 (by decide) dX11_demand_23 dX11_demand_26 dX11_demand_27 dX11_demand_29 dX11_demand_32 (by decide) rfl

set_option maxRecDepth 100000 in
theorem ci_X11_demand (l : Launch) (hlt : l.stackTraces = false) (v1 v2 v3 v4 : Int32) (σ : Mem) : CT l yX11_demand cX11_demand 5 (some .int) 6 82 [.ref 0, .int v1, .int v2, .int v3, .int v4] σ (m_X11_demand v1 v2 v3 v4 σ) :=
  ct_of (by decide) (by simp [Value.category]) (by simp) hlt (fun X r hl hX hR hQ hr => a_X11_demand_0 hX hR hQ hr v1 v2 v3 v4 σ)

set_option maxRecDepth 100000 in
set_option maxHeartbeats 2000000 in
theorem a_X11_advise_0 {X : AX} {r0 : (Nat × Int32) × Mem} (hX : CX X cX11_advise 3 RX11) (hR : (aR X).frames = 6 ∧ (aR X).locals = 82 ∧ aCe X ≤ (aR X).cells ∧ aSl X ≤ (aR X).slots) (hQ : QT X r0) (hr : (aMeth X).sig.returnType = (some .int)) (v1 v2 : Int32) (σ : Mem) : AWo X r0 0 [some (.ref 0), some (.int v1), some (.int v2)] [] σ (m_X11_advise v1 v2 σ) := by
  unfold m_X11_advise
  refine a_il1 hX dX11_advise_0 rfl ?_
  refine a_callSI hX hR ml_X11_48 (ci_X11_isPackage _ _ _) rfl rfl (by decide) (Nat.le_of_ble_eq_true rfl) rfl dX11_advise_1 rfl (fun x1 => ?_)
  refine a_if_eq hX dX11_advise_4 rfl rfl ?_ ?_
  · exact a_throw hX hR hQ th_X11_56_216 (by decide) dX11_advise_15 dX11_advise_18 dX11_advise_19 dX11_advise_21 dX11_advise_24 (by decide) rfl
  · refine a_al0 hX dX11_advise_7 rfl ?_
    refine a_il2 hX dX11_advise_8 rfl ?_
    refine a_callI hX hR ml_X11_172 (ci_X11_isRange _ _ _) s_0 rfl rfl rfl (by decide) (Nat.le_of_ble_eq_true rfl) rfl dX11_advise_9 rfl (fun x2 => ?_)
    refine a_if_ne hX dX11_advise_12 rfl rfl ?_ ?_
    · refine a_al0 hX dX11_advise_25 rfl ?_
      refine a_getR hX fl_X11_17 s_0 rfl dX11_advise_26 rfl ?_
      refine a_getI hX fl_X11_218 s_1 rfl dX11_advise_29 rfl ?_
      refine a_bi 8 hX dX11_advise_32 (by decide) rfl ?_
      refine a_icmp_lt hX dX11_advise_34 rfl rfl ?_ ?_
      · refine a_al0 hX dX11_advise_47 rfl ?_
        refine a_getR hX fl_X11_17 s_0 rfl dX11_advise_48 rfl ?_
        refine a_il1 hX dX11_advise_51 rfl ?_
        refine a_il2 hX dX11_advise_52 rfl ?_
        refine a_callI hX hR ml_X11_224 (ci_X10_warn _ _ _ _) s_1 rfl rfl rfl (by decide) (Nat.le_of_ble_eq_true rfl) rfl dX11_advise_53 rfl (fun x3 => ?_)
        exact a_tiret hX hQ hr dX11_advise_56
      · exact a_throw hX hR hQ th_X11_87_222 (by decide) dX11_advise_37 dX11_advise_40 dX11_advise_41 dX11_advise_43 dX11_advise_46 (by decide) rfl
    · exact a_throw hX hR hQ th_X11_56_216 (by decide) dX11_advise_15 dX11_advise_18 dX11_advise_19 dX11_advise_21 dX11_advise_24 (by decide) rfl

set_option maxRecDepth 100000 in
theorem ci_X11_advise (l : Launch) (hlt : l.stackTraces = false) (v1 v2 : Int32) (σ : Mem) : CT l yX11_advise cX11_advise 3 (some .int) 6 82 [.ref 0, .int v1, .int v2] σ (m_X11_advise v1 v2 σ) :=
  ct_of (by decide) (by simp [Value.category]) (by simp) hlt (fun X r hl hX hR hQ hr => a_X11_advise_0 hX hR hQ hr v1 v2 σ)

set_option maxRecDepth 100000 in
set_option maxHeartbeats 2000000 in
theorem a_X11_mending_0 {X : AX} {r0 : (Nat × Int32) × Mem} (hX : CX X cX11_mending 2 RX11) (hR : (aR X).frames = 6 ∧ (aR X).locals = 92 ∧ aCe X ≤ (aR X).cells ∧ aSl X ≤ (aR X).slots) (hQ : QT X r0) (hr : (aMeth X).sig.returnType = (some .int)) (v1 : Int32) (σ : Mem) : AWo X r0 0 [some (.ref 0), some (.int v1)] [] σ (m_X11_mending v1 σ) := by
  unfold m_X11_mending
  refine a_al0 hX dX11_mending_0 rfl ?_
  refine a_il1 hX dX11_mending_1 rfl ?_
  refine a_callI hX hR ml_X11_105 (ci_X11_isVersion _ _ _) s_0 rfl rfl rfl (by decide) (Nat.le_of_ble_eq_true rfl) rfl dX11_mending_2 rfl (fun x1 => ?_)
  refine a_if_ne hX dX11_mending_5 rfl rfl ?_ ?_
  · refine a_al0 hX dX11_mending_18 rfl ?_
    refine a_getR hX fl_X11_17 s_0 rfl dX11_mending_19 rfl ?_
    refine a_il1 hX dX11_mending_22 rfl ?_
    refine a_callI hX hR ml_X11_227 (ci_X10_nextUsable _ _ _) s_1 rfl rfl rfl (by decide) (Nat.le_of_ble_eq_true rfl) rfl dX11_mending_23 rfl (fun x2 => ?_)
    exact a_tiret hX hQ hr dX11_mending_26
  · exact a_throw hX hR hQ th_X11_56_108 (by decide) dX11_mending_8 dX11_mending_11 dX11_mending_12 dX11_mending_14 dX11_mending_17 (by decide) rfl

set_option maxRecDepth 100000 in
theorem ci_X11_mending (l : Launch) (hlt : l.stackTraces = false) (v1 : Int32) (σ : Mem) : CT l yX11_mending cX11_mending 2 (some .int) 6 92 [.ref 0, .int v1] σ (m_X11_mending v1 σ) :=
  ct_of (by decide) (by simp [Value.category]) (by simp) hlt (fun X r hl hX hR hQ hr => a_X11_mending_0 hX hR hQ hr v1 σ)

set_option maxRecDepth 100000 in
set_option maxHeartbeats 2000000 in
theorem a_X11_replace_29 {X : AX} {r0 : (Nat × Int32) × Mem} (hX : CX X cX11_replace 3 RX11) (hR : (aR X).frames = 6 ∧ (aR X).locals = 82 ∧ aCe X ≤ (aR X).cells ∧ aSl X ≤ (aR X).slots) (hQ : QT X r0) (hr : (aMeth X).sig.returnType = (some .int)) (v1 v2 : Int32) (σ : Mem) : AWo X r0 29 [some (.ref 0), some (.int v1), some (.int v2)] [] σ (m_X11_replace_29 v1 v2 σ) := by
  unfold m_X11_replace_29
  refine a_al0 hX dX11_replace_29 rfl ?_
  refine a_getR hX fl_X11_17 s_0 rfl dX11_replace_30 rfl ?_
  refine a_il2 hX dX11_replace_33 rfl ?_
  refine a_il1 hX dX11_replace_34 rfl ?_
  refine a_callI hX hR ml_X11_232 (ci_X10_leadsTo _ _ _ _) s_1 rfl rfl rfl (by decide) (Nat.le_of_ble_eq_true rfl) rfl dX11_replace_35 rfl (fun x1 => ?_)
  refine a_if_eq hX dX11_replace_38 rfl rfl ?_ ?_
  · refine a_al0 hX dX11_replace_51 rfl ?_
    refine a_getR hX fl_X11_17 s_0 rfl dX11_replace_52 rfl ?_
    refine a_il1 hX dX11_replace_55 rfl ?_
    refine a_il2 hX dX11_replace_56 rfl ?_
    refine a_callI hX hR ml_X11_237 (ci_X10_redirect _ _ _ _) s_1 rfl rfl rfl (by decide) (Nat.le_of_ble_eq_true rfl) rfl dX11_replace_57 rfl (fun x2 => ?_)
    exact a_tiret hX hQ hr dX11_replace_60
  · exact a_throw hX hR hQ th_X11_87_235 (by decide) dX11_replace_41 dX11_replace_44 dX11_replace_45 dX11_replace_47 dX11_replace_50 (by decide) rfl

set_option maxRecDepth 100000 in
set_option maxHeartbeats 2000000 in
theorem a_X11_replace_0 {X : AX} {r0 : (Nat × Int32) × Mem} (hX : CX X cX11_replace 3 RX11) (hR : (aR X).frames = 6 ∧ (aR X).locals = 82 ∧ aCe X ≤ (aR X).cells ∧ aSl X ≤ (aR X).slots) (hQ : QT X r0) (hr : (aMeth X).sig.returnType = (some .int)) (v1 v2 : Int32) (σ : Mem) : AWo X r0 0 [some (.ref 0), some (.int v1), some (.int v2)] [] σ (m_X11_replace v1 v2 σ) := by
  unfold m_X11_replace
  refine a_il1 hX dX11_replace_0 rfl ?_
  refine a_callSI hX hR ml_X11_48 (ci_X11_isPackage _ _ _) rfl rfl (by decide) (Nat.le_of_ble_eq_true rfl) rfl dX11_replace_1 rfl (fun x1 => ?_)
  refine a_if_eq hX dX11_replace_4 rfl rfl ?_ ?_
  · exact a_throw hX hR hQ th_X11_56_230 (by decide) dX11_replace_19 dX11_replace_22 dX11_replace_23 dX11_replace_25 dX11_replace_28 (by decide) rfl
  · refine a_il2 hX dX11_replace_7 rfl ?_
    refine a_ic (-1) hX dX11_replace_8 (by decide) rfl ?_
    refine a_icmp_eq hX dX11_replace_9 rfl rfl ?_ ?_
    · exact a_sub (a_X11_replace_29 hX hR hQ hr v1 v2 x1.2) (ls_s (ls_s (ls_s ls_0)))
    · refine a_il2 hX dX11_replace_12 rfl ?_
      refine a_callSI hX hR ml_X11_48 (ci_X11_isPackage _ _ _) rfl rfl (by decide) (Nat.le_of_ble_eq_true rfl) rfl dX11_replace_13 rfl (fun x2 => ?_)
      refine a_if_ne hX dX11_replace_16 rfl rfl ?_ ?_
      · exact a_sub (a_X11_replace_29 hX hR hQ hr v1 v2 x2.2) (ls_s (ls_s (ls_s ls_0)))
      · exact a_throw hX hR hQ th_X11_56_230 (by decide) dX11_replace_19 dX11_replace_22 dX11_replace_23 dX11_replace_25 dX11_replace_28 (by decide) rfl

set_option maxRecDepth 100000 in
theorem ci_X11_replace (l : Launch) (hlt : l.stackTraces = false) (v1 v2 : Int32) (σ : Mem) : CT l yX11_replace cX11_replace 3 (some .int) 6 82 [.ref 0, .int v1, .int v2] σ (m_X11_replace v1 v2 σ) :=
  ct_of (by decide) (by simp [Value.category]) (by simp) hlt (fun X r hl hX hR hQ hr => a_X11_replace_0 hX hR hQ hr v1 v2 σ)

set_option maxRecDepth 100000 in
set_option maxHeartbeats 2000000 in
theorem a_X11_setPlatform_0 {X : AX} {r0 : (Nat × Int32) × Mem} (hX : CX X cX11_setPlatform 3 RX11) (hR : (aR X).frames = 6 ∧ (aR X).locals = 82 ∧ aCe X ≤ (aR X).cells ∧ aSl X ≤ (aR X).slots) (hQ : QT X r0) (hr : (aMeth X).sig.returnType = (some .int)) (v1 : Int32) (σ : Mem) : AWo X r0 0 [some (.ref 0), some (.int v1), none] [] σ (m_X11_setPlatform v1 σ) := by
  unfold m_X11_setPlatform
  refine a_ic 2 hX dX11_setPlatform_0 (by decide) rfl ?_
  refine a_il1 hX dX11_setPlatform_1 rfl ?_
  refine a_callSI hX hR ml_X11_52 (ci_X11_isUpTo _ _ _ _) rfl rfl (by decide) (Nat.le_of_ble_eq_true rfl) rfl dX11_setPlatform_2 rfl (fun x1 => ?_)
  refine a_if_ne hX dX11_setPlatform_5 rfl rfl ?_ ?_
  · refine a_al0 hX dX11_setPlatform_18 rfl ?_
    refine a_getR hX fl_X11_17 s_0 rfl dX11_setPlatform_19 rfl ?_
    refine a_getI hX fl_X11_242 s_1 rfl dX11_setPlatform_22 rfl ?_
    refine a_name (fun y2 => ?_)
    refine a_is2 hX dX11_setPlatform_25 rfl ?_
    refine a_al0 hX dX11_setPlatform_26 rfl ?_
    refine a_getR hX fl_X11_17 s_0 rfl dX11_setPlatform_27 rfl ?_
    refine a_il1 hX dX11_setPlatform_30 rfl ?_
    refine a_putI hX fp_X11_242 s_1 rfl dX11_setPlatform_31 rfl ?_
    refine a_nameM (fun m3 => ?_)
    refine a_il2 hX dX11_setPlatform_34 rfl ?_
    exact a_tiret hX hQ hr dX11_setPlatform_35
  · exact a_throw hX hR hQ th_X11_56_240 (by decide) dX11_setPlatform_8 dX11_setPlatform_11 dX11_setPlatform_12 dX11_setPlatform_14 dX11_setPlatform_17 (by decide) rfl

set_option maxRecDepth 100000 in
theorem ci_X11_setPlatform (l : Launch) (hlt : l.stackTraces = false) (v1 : Int32) (σ : Mem) : CT l yX11_setPlatform cX11_setPlatform 3 (some .int) 6 82 [.ref 0, .int v1] σ (m_X11_setPlatform v1 σ) :=
  ct_of (by decide) (by simp [Value.category]) (by simp) hlt (fun X r hl hX hR hQ hr => a_X11_setPlatform_0 hX hR hQ hr v1 σ)

set_option maxRecDepth 100000 in
set_option maxHeartbeats 2000000 in
theorem a_X11_solve_0 {X : AX} {r0 : (Nat × Int32) × Mem} (hX : CX X cX11_solve 3 RX11) (hR : (aR X).frames = 6 ∧ (aR X).locals = 142 ∧ aCe X ≤ (aR X).cells ∧ aSl X ≤ (aR X).slots) (hQ : QT X r0) (hr : (aMeth X).sig.returnType = (some .int)) (v1 v2 : Int32) (σ : Mem) : AWo X r0 0 [some (.ref 0), some (.int v1), some (.int v2)] [] σ (m_X11_solve v1 v2 σ) := by
  unfold m_X11_solve
  refine a_bi 7 hX dX11_solve_0 (by decide) rfl ?_
  refine a_il1 hX dX11_solve_2 rfl ?_
  refine a_callSI hX hR ml_X11_52 (ci_X11_isUpTo _ _ _ _) rfl rfl (by decide) (Nat.le_of_ble_eq_true rfl) rfl dX11_solve_3 rfl (fun x1 => ?_)
  refine a_if_eq hX dX11_solve_6 rfl rfl ?_ ?_
  · exact a_throw hX hR hQ th_X11_66_245 (by decide) dX11_solve_18 dX11_solve_21 dX11_solve_22 dX11_solve_24 dX11_solve_27 (by decide) rfl
  · refine a_bi 63 hX dX11_solve_9 (by decide) rfl ?_
    refine a_il2 hX dX11_solve_11 rfl ?_
    refine a_callSI hX hR ml_X11_52 (ci_X11_isUpTo _ _ _ _) rfl rfl (by decide) (Nat.le_of_ble_eq_true rfl) rfl dX11_solve_12 rfl (fun x2 => ?_)
    refine a_if_ne hX dX11_solve_15 rfl rfl ?_ ?_
    · refine a_al0 hX dX11_solve_28 rfl ?_
      refine a_getR hX fl_X11_21 s_0 rfl dX11_solve_29 rfl ?_
      refine a_il1 hX dX11_solve_32 rfl ?_
      refine a_putI hX fp_X11_247 s_66 rfl dX11_solve_33 rfl ?_
      refine a_nameM (fun m3 => ?_)
      refine a_al0 hX dX11_solve_36 rfl ?_
      refine a_getR hX fl_X11_21 s_0 rfl dX11_solve_37 rfl ?_
      refine a_il2 hX dX11_solve_40 rfl ?_
      refine a_putI hX fp_X11_250 s_66 rfl dX11_solve_41 rfl ?_
      refine a_nameM (fun m4 => ?_)
      refine a_al0 hX dX11_solve_44 rfl ?_
      refine a_getR hX fl_X11_30 s_0 rfl dX11_solve_45 rfl ?_
      refine a_callI hX hR ml_X11_253 (ci_X8_findBest _ _) s_67 rfl rfl rfl (by decide) (Nat.le_of_ble_eq_true rfl) rfl dX11_solve_48 rfl (fun x5 => ?_)
      refine a_if_eq hX dX11_solve_51 rfl rfl ?_ ?_
      · refine a_ic (-1) hX dX11_solve_71 (by decide) rfl ?_
        exact a_tiret hX hQ hr dX11_solve_72
      · refine a_bi 6 hX dX11_solve_54 (by decide) rfl ?_
        refine a_al0 hX dX11_solve_56 rfl ?_
        refine a_getR hX fl_X11_30 s_0 rfl dX11_solve_57 rfl ?_
        refine a_getR hX fl_X11_256 s_67 rfl dX11_solve_60 rfl ?_
        refine a_ic (-1) hX dX11_solve_63 (by decide) rfl ?_
        refine a_callI hX hR ml_X11_259 (ci_X7_count _ 68 69 6 s_68 s_69 _ _) s_68 rfl rfl rfl (by decide) (Nat.le_of_ble_eq_true rfl) rfl dX11_solve_64 rfl (fun x6 => ?_)
        refine a_isub hX dX11_solve_67 rfl ?_
        refine a_goto hX dX11_solve_68 rfl ?_
        exact a_tiret hX hQ hr dX11_solve_72
    · exact a_throw hX hR hQ th_X11_66_245 (by decide) dX11_solve_18 dX11_solve_21 dX11_solve_22 dX11_solve_24 dX11_solve_27 (by decide) rfl

set_option maxRecDepth 100000 in
theorem ci_X11_solve (l : Launch) (hlt : l.stackTraces = false) (v1 v2 : Int32) (σ : Mem) : CT l yX11_solve cX11_solve 3 (some .int) 6 142 [.ref 0, .int v1, .int v2] σ (m_X11_solve v1 v2 σ) :=
  ct_of (by decide) (by simp [Value.category]) (by simp) hlt (fun X r hl hX hR hQ hr => a_X11_solve_0 hX hR hQ hr v1 v2 σ)

set_option maxRecDepth 100000 in
set_option maxHeartbeats 2000000 in
theorem a_X11_chosen_0 {X : AX} {r0 : (Nat × Int32) × Mem} (hX : CX X cX11_chosen 2 RX11) (hR : (aR X).frames = 6 ∧ (aR X).locals = 142 ∧ aCe X ≤ (aR X).cells ∧ aSl X ≤ (aR X).slots) (hQ : QT X r0) (hr : (aMeth X).sig.returnType = (some .int)) (v1 : Int32) (σ : Mem) : AWo X r0 0 [some (.ref 0), some (.int v1)] [] σ (m_X11_chosen v1 σ) := by
  unfold m_X11_chosen
  refine a_il1 hX dX11_chosen_0 rfl ?_
  refine a_callSI hX hR ml_X11_48 (ci_X11_isPackage _ _ _) rfl rfl (by decide) (Nat.le_of_ble_eq_true rfl) rfl dX11_chosen_1 rfl (fun x1 => ?_)
  refine a_if_ne hX dX11_chosen_4 rfl rfl ?_ ?_
  · refine a_al0 hX dX11_chosen_17 rfl ?_
    refine a_getR hX fl_X11_30 s_0 rfl dX11_chosen_18 rfl ?_
    refine a_callI hX hR ml_X11_253 (ci_X8_findBest _ _) s_67 rfl rfl rfl (by decide) (Nat.le_of_ble_eq_true rfl) rfl dX11_chosen_21 rfl (fun x2 => ?_)
    refine a_if_eq hX dX11_chosen_24 rfl rfl ?_ ?_
    · refine a_ic (-1) hX dX11_chosen_41 (by decide) rfl ?_
      exact a_tiret hX hQ hr dX11_chosen_42
    · refine a_al0 hX dX11_chosen_27 rfl ?_
      refine a_getR hX fl_X11_30 s_0 rfl dX11_chosen_28 rfl ?_
      refine a_getR hX fl_X11_256 s_67 rfl dX11_chosen_31 rfl ?_
      refine a_il1 hX dX11_chosen_34 rfl ?_
      refine a_callI hX hR ml_X11_114 (ci_X7_get _ 68 69 6 s_68 s_69 _ _) s_68 rfl rfl rfl (by decide) (Nat.le_of_ble_eq_true rfl) rfl dX11_chosen_35 rfl (fun x3 => ?_)
      refine a_goto hX dX11_chosen_38 rfl ?_
      exact a_tiret hX hQ hr dX11_chosen_42
  · exact a_throw hX hR hQ th_X11_56_230 (by decide) dX11_chosen_7 dX11_chosen_10 dX11_chosen_11 dX11_chosen_13 dX11_chosen_16 (by decide) rfl

set_option maxRecDepth 100000 in
theorem ci_X11_chosen (l : Launch) (hlt : l.stackTraces = false) (v1 : Int32) (σ : Mem) : CT l yX11_chosen cX11_chosen 2 (some .int) 6 142 [.ref 0, .int v1] σ (m_X11_chosen v1 σ) :=
  ct_of (by decide) (by simp [Value.category]) (by simp) hlt (fun X r hl hX hR hQ hr => a_X11_chosen_0 hX hR hQ hr v1 σ)

set_option maxRecDepth 100000 in
set_option maxHeartbeats 2000000 in
theorem a_X11_chosenAnew_0 {X : AX} {r0 : (Nat × Int32) × Mem} (hX : CX X cX11_chosenAnew 2 RX11) (hR : (aR X).frames = 6 ∧ (aR X).locals = 140 ∧ aCe X ≤ (aR X).cells ∧ aSl X ≤ (aR X).slots) (hQ : QT X r0) (hr : (aMeth X).sig.returnType = (some .int)) (v1 : Int32) (σ : Mem) : AWo X r0 0 [some (.ref 0), some (.int v1)] [] σ (m_X11_chosenAnew v1 σ) := by
  unfold m_X11_chosenAnew
  refine a_il1 hX dX11_chosenAnew_0 rfl ?_
  refine a_callSI hX hR ml_X11_48 (ci_X11_isPackage _ _ _) rfl rfl (by decide) (Nat.le_of_ble_eq_true rfl) rfl dX11_chosenAnew_1 rfl (fun x1 => ?_)
  refine a_if_ne hX dX11_chosenAnew_4 rfl rfl ?_ ?_
  · refine a_al0 hX dX11_chosenAnew_17 rfl ?_
    refine a_getR hX fl_X11_37 s_0 rfl dX11_chosenAnew_18 rfl ?_
    refine a_callI hX hR ml_X11_262 (ci_X0_findBest _ _) s_81 rfl rfl rfl (by decide) (Nat.le_of_ble_eq_true rfl) rfl dX11_chosenAnew_21 rfl (fun x2 => ?_)
    refine a_if_eq hX dX11_chosenAnew_24 rfl rfl ?_ ?_
    · refine a_ic (-1) hX dX11_chosenAnew_41 (by decide) rfl ?_
      exact a_tiret hX hQ hr dX11_chosenAnew_42
    · refine a_al0 hX dX11_chosenAnew_27 rfl ?_
      refine a_getR hX fl_X11_37 s_0 rfl dX11_chosenAnew_28 rfl ?_
      refine a_getR hX fl_X11_263 s_81 rfl dX11_chosenAnew_31 rfl ?_
      refine a_il1 hX dX11_chosenAnew_34 rfl ?_
      refine a_callI hX hR ml_X11_114 (ci_X7_get _ 82 83 6 s_82 s_83 _ _) s_82 rfl rfl rfl (by decide) (Nat.le_of_ble_eq_true rfl) rfl dX11_chosenAnew_35 rfl (fun x3 => ?_)
      refine a_goto hX dX11_chosenAnew_38 rfl ?_
      exact a_tiret hX hQ hr dX11_chosenAnew_42
  · exact a_throw hX hR hQ th_X11_56_230 (by decide) dX11_chosenAnew_7 dX11_chosenAnew_10 dX11_chosenAnew_11 dX11_chosenAnew_13 dX11_chosenAnew_16 (by decide) rfl

set_option maxRecDepth 100000 in
theorem ci_X11_chosenAnew (l : Launch) (hlt : l.stackTraces = false) (v1 : Int32) (σ : Mem) : CT l yX11_chosenAnew cX11_chosenAnew 2 (some .int) 6 140 [.ref 0, .int v1] σ (m_X11_chosenAnew v1 σ) :=
  ct_of (by decide) (by simp [Value.category]) (by simp) hlt (fun X r hl hX hR hQ hr => a_X11_chosenAnew_0 hX hR hQ hr v1 σ)

set_option maxRecDepth 100000 in
set_option maxHeartbeats 2000000 in
theorem a_X11_features_0 {X : AX} {r0 : (Nat × Int32) × Mem} (hX : CX X cX11_features 2 RX11) (hR : (aR X).frames = 6 ∧ (aR X).locals = 142 ∧ aCe X ≤ (aR X).cells ∧ aSl X ≤ (aR X).slots) (hQ : QT X r0) (hr : (aMeth X).sig.returnType = (some .int)) (v1 : Int32) (σ : Mem) : AWo X r0 0 [some (.ref 0), some (.int v1)] [] σ (m_X11_features v1 σ) := by
  unfold m_X11_features
  refine a_il1 hX dX11_features_0 rfl ?_
  refine a_callSI hX hR ml_X11_48 (ci_X11_isPackage _ _ _) rfl rfl (by decide) (Nat.le_of_ble_eq_true rfl) rfl dX11_features_1 rfl (fun x1 => ?_)
  refine a_if_ne hX dX11_features_4 rfl rfl ?_ ?_
  · refine a_al0 hX dX11_features_17 rfl ?_
    refine a_getR hX fl_X11_30 s_0 rfl dX11_features_18 rfl ?_
    refine a_callI hX hR ml_X11_253 (ci_X8_findBest _ _) s_67 rfl rfl rfl (by decide) (Nat.le_of_ble_eq_true rfl) rfl dX11_features_21 rfl (fun x2 => ?_)
    refine a_if_eq hX dX11_features_24 rfl rfl ?_ ?_
    · refine a_ic 0 hX dX11_features_42 (by decide) rfl ?_
      exact a_tiret hX hQ hr dX11_features_43
    · refine a_al0 hX dX11_features_27 rfl ?_
      refine a_getR hX fl_X11_30 s_0 rfl dX11_features_28 rfl ?_
      refine a_getR hX fl_X11_256 s_67 rfl dX11_features_31 rfl ?_
      refine a_il1 hX dX11_features_34 rfl ?_
      refine a_callI hX hR ml_X11_114 (ci_X7_get _ 68 69 6 s_68 s_69 _ _) s_68 rfl rfl rfl (by decide) (Nat.le_of_ble_eq_true rfl) rfl dX11_features_35 rfl (fun x3 => ?_)
      refine a_ic (-1) hX dX11_features_38 (by decide) rfl ?_
      refine a_icmp_ne hX dX11_features_39 rfl rfl ?_ ?_
      · refine a_al0 hX dX11_features_44 rfl ?_
        refine a_getR hX fl_X11_30 s_0 rfl dX11_features_45 rfl ?_
        refine a_il1 hX dX11_features_48 rfl ?_
        refine a_callI hX hR ml_X11_264 (ci_X8_bestFeatures _ _ _) s_67 rfl rfl rfl (by decide) (Nat.le_of_ble_eq_true rfl) rfl dX11_features_49 rfl (fun x4 => ?_)
        exact a_tiret hX hQ hr dX11_features_52
      · refine a_ic 0 hX dX11_features_42 (by decide) rfl ?_
        exact a_tiret hX hQ hr dX11_features_43
  · exact a_throw hX hR hQ th_X11_56_230 (by decide) dX11_features_7 dX11_features_10 dX11_features_11 dX11_features_13 dX11_features_16 (by decide) rfl

set_option maxRecDepth 100000 in
theorem ci_X11_features (l : Launch) (hlt : l.stackTraces = false) (v1 : Int32) (σ : Mem) : CT l yX11_features cX11_features 2 (some .int) 6 142 [.ref 0, .int v1] σ (m_X11_features v1 σ) :=
  ct_of (by decide) (by simp [Value.category]) (by simp) hlt (fun X r hl hX hR hQ hr => a_X11_features_0 hX hR hQ hr v1 σ)

set_option maxRecDepth 100000 in
set_option maxHeartbeats 2000000 in
theorem a_X11_against_0 {X : AX} {r0 : (Nat × Int32) × Mem} (hX : CX X cX11_against 4 RX11) (hR : (aR X).frames = 6 ∧ (aR X).locals = 142 ∧ aCe X ≤ (aR X).cells ∧ aSl X ≤ (aR X).slots) (hQ : QT X r0) (hr : (aMeth X).sig.returnType = (some .int)) (v1 : Int32) (σ : Mem) : AWo X r0 0 [some (.ref 0), some (.int v1), none, none] [] σ (m_X11_against v1 σ) := by
  unfold m_X11_against
  refine a_al0 hX dX11_against_0 rfl ?_
  refine a_il1 hX dX11_against_1 rfl ?_
  refine a_callI hX hR ml_X11_105 (ci_X11_isVersion _ _ _) s_0 rfl rfl rfl (by decide) (Nat.le_of_ble_eq_true rfl) rfl dX11_against_2 rfl (fun x1 => ?_)
  refine a_if_ne hX dX11_against_5 rfl rfl ?_ ?_
  · refine a_al0 hX dX11_against_18 rfl ?_
    refine a_getR hX fl_X11_17 s_0 rfl dX11_against_19 rfl ?_
    refine a_il1 hX dX11_against_22 rfl ?_
    refine a_callI hX hR ml_X11_282 (ci_X10_flaw _ _ _) s_1 rfl rfl rfl (by decide) (Nat.le_of_ble_eq_true rfl) rfl dX11_against_23 rfl (fun x2 => ?_)
    refine a_is2 hX dX11_against_26 rfl ?_
    refine a_il2 hX dX11_against_27 rfl ?_
    refine a_if_eq hX dX11_against_28 rfl rfl ?_ ?_
    · refine a_al0 hX dX11_against_33 rfl ?_
      refine a_getR hX fl_X11_17 s_0 rfl dX11_against_34 rfl ?_
      refine a_al0 hX dX11_against_37 rfl ?_
      refine a_getR hX fl_X11_21 s_0 rfl dX11_against_38 rfl ?_
      refine a_callI hX hR ml_X11_267 (ci_X5_demands _ _) s_66 rfl rfl rfl (by decide) (Nat.le_of_ble_eq_true rfl) rfl dX11_against_41 rfl (fun x3 => ?_)
      refine a_il1 hX dX11_against_44 rfl ?_
      refine a_callI hX hR ml_X11_285 (ci_X10_refuses _ _ _ _) s_1 rfl rfl rfl (by decide) (Nat.le_of_ble_eq_true rfl) rfl dX11_against_45 rfl (fun x4 => ?_)
      refine a_if_eq hX dX11_against_48 rfl rfl ?_ ?_
      · refine a_al0 hX dX11_against_53 rfl ?_
        refine a_getR hX fl_X11_30 s_0 rfl dX11_against_54 rfl ?_
        refine a_al0 hX dX11_against_57 rfl ?_
        refine a_getR hX fl_X11_21 s_0 rfl dX11_against_58 rfl ?_
        refine a_callI hX hR ml_X11_267 (ci_X5_demands _ _) s_66 rfl rfl rfl (by decide) (Nat.le_of_ble_eq_true rfl) rfl dX11_against_61 rfl (fun x5 => ?_)
        refine a_il1 hX dX11_against_64 rfl ?_
        refine a_callV hX hR ml_X11_270 (ci_X8_begin _ _ _ _) s_67 rfl rfl rfl (by decide) (Nat.le_of_ble_eq_true rfl) rfl dX11_against_65 rfl (fun x6 => ?_)
        refine a_al0 hX dX11_against_68 rfl ?_
        refine a_getR hX fl_X11_30 s_0 rfl dX11_against_69 rfl ?_
        refine a_callI hX hR ml_X11_273 (ci_X8_next _ _) s_67 rfl rfl rfl (by decide) (Nat.le_of_ble_eq_true rfl) rfl dX11_against_72 rfl (fun x7 => ?_)
        refine a_if_ne hX dX11_against_75 rfl rfl ?_ ?_
        · refine a_al0 hX dX11_against_81 rfl ?_
          refine a_getR hX fl_X11_17 s_0 rfl dX11_against_82 rfl ?_
          refine a_getR hX fl_X11_75 s_1 rfl dX11_against_85 rfl ?_
          refine a_getR hX fl_X11_110 s_2 rfl dX11_against_88 rfl ?_
          refine a_il1 hX dX11_against_91 rfl ?_
          refine a_callI hX hR ml_X11_114 (ci_X7_get _ 3 4 24 s_3 s_4 _ _) s_3 rfl rfl rfl (by decide) (Nat.le_of_ble_eq_true rfl) rfl dX11_against_92 rfl (fun x8 => ?_)
          refine a_is3 hX dX11_against_95 rfl ?_
          refine a_al0 hX dX11_against_96 rfl ?_
          refine a_getR hX fl_X11_30 s_0 rfl dX11_against_97 rfl ?_
          refine a_callI hX hR ml_X11_253 (ci_X8_findBest _ _) s_67 rfl rfl rfl (by decide) (Nat.le_of_ble_eq_true rfl) rfl dX11_against_100 rfl (fun x9 => ?_)
          refine a_if_eq hX dX11_against_103 rfl rfl ?_ ?_
          · refine a_bi 7 hX dX11_against_125 (by decide) rfl ?_
            exact a_tiret hX hQ hr dX11_against_127
          · refine a_al0 hX dX11_against_106 rfl ?_
            refine a_getR hX fl_X11_30 s_0 rfl dX11_against_107 rfl ?_
            refine a_getR hX fl_X11_256 s_67 rfl dX11_against_110 rfl ?_
            refine a_il3 hX dX11_against_113 rfl ?_
            refine a_callI hX hR ml_X11_114 (ci_X7_get _ 68 69 6 s_68 s_69 _ _) s_68 rfl rfl rfl (by decide) (Nat.le_of_ble_eq_true rfl) rfl dX11_against_114 rfl (fun x10 => ?_)
            refine a_il1 hX dX11_against_117 rfl ?_
            refine a_icmp_ne hX dX11_against_118 rfl rfl ?_ ?_
            · refine a_bi 7 hX dX11_against_125 (by decide) rfl ?_
              exact a_tiret hX hQ hr dX11_against_127
            · refine a_ic 0 hX dX11_against_121 (by decide) rfl ?_
              refine a_goto hX dX11_against_122 rfl ?_
              exact a_tiret hX hQ hr dX11_against_127
        · refine a_bi 6 hX dX11_against_78 (by decide) rfl ?_
          exact a_tiret hX hQ hr dX11_against_80
      · refine a_ic 5 hX dX11_against_51 (by decide) rfl ?_
        exact a_tiret hX hQ hr dX11_against_52
    · refine a_il2 hX dX11_against_31 rfl ?_
      exact a_tiret hX hQ hr dX11_against_32
  · exact a_throw hX hR hQ th_X11_56_108 (by decide) dX11_against_8 dX11_against_11 dX11_against_12 dX11_against_14 dX11_against_17 (by decide) rfl

set_option maxRecDepth 100000 in
theorem ci_X11_against (l : Launch) (hlt : l.stackTraces = false) (v1 : Int32) (σ : Mem) : CT l yX11_against cX11_against 4 (some .int) 6 142 [.ref 0, .int v1] σ (m_X11_against v1 σ) :=
  ct_of (by decide) (by simp [Value.category]) (by simp) hlt (fun X r hl hX hR hQ hr => a_X11_against_0 hX hR hQ hr v1 σ)

set_option maxRecDepth 100000 in
set_option maxHeartbeats 2000000 in
theorem a_X11_lock_25 {X : AX} {r0 : (Nat × Int32) × Mem} (hX : CX X cX11_lock 4 RX11) (hR : (aR X).frames = 6 ∧ (aR X).locals = 142 ∧ aCe X ≤ (aR X).cells ∧ aSl X ≤ (aR X).slots) (hQ : QT X r0) (hr : (aMeth X).sig.returnType = (some .int)) : ∀ (fuel : Nat) (v1 v2 : Int32) (σ : Mem), AWo X r0 25 [some (.ref 0), some (.int v1), some (.int v2), none] [] σ (m_X11_lock_25 fuel v1 v2 σ) := by
  intro fuel
  induction fuel with
  | zero => intro v1 v2 σ; exact a_none
  | succ fuel ih =>
    intro v1 v2 σ
    show AWo X r0 25 [some (.ref 0), some (.int v1), some (.int v2), none] [] σ (m_X11_lock_25 (fuel + 1) v1 v2 σ)
    unfold m_X11_lock_25
    refine a_il2 hX dX11_lock_25 rfl ?_
    refine a_bi 6 hX dX11_lock_26 (by decide) rfl ?_
    refine a_icmp_ge hX dX11_lock_28 rfl rfl ?_ ?_
    · refine a_il1 hX dX11_lock_68 rfl ?_
      exact a_tiret hX hQ hr dX11_lock_69
    · refine a_al0 hX dX11_lock_31 rfl ?_
      refine a_getR hX fl_X11_30 s_0 rfl dX11_lock_32 rfl ?_
      refine a_getR hX fl_X11_256 s_67 rfl dX11_lock_35 rfl ?_
      refine a_il2 hX dX11_lock_38 rfl ?_
      refine a_callI hX hR ml_X11_114 (ci_X7_get _ 68 69 6 s_68 s_69 _ _) s_68 rfl rfl rfl (by decide) (Nat.le_of_ble_eq_true rfl) rfl dX11_lock_39 rfl (fun x1 => ?_)
      refine a_is3 hX dX11_lock_42 rfl ?_
      refine a_al0 hX dX11_lock_43 rfl ?_
      refine a_getR hX fl_X11_17 s_0 rfl dX11_lock_44 rfl ?_
      refine a_getR hX fl_X11_290 s_1 rfl dX11_lock_47 rfl ?_
      refine a_il2 hX dX11_lock_50 rfl ?_
      refine a_il3 hX dX11_lock_51 rfl ?_
      refine a_callI hX hR ml_X11_139 (ci_X7_exchange _ 56 57 6 s_56 s_57 _ _ _) s_56 rfl rfl rfl (by decide) (Nat.le_of_ble_eq_true rfl) rfl dX11_lock_52 rfl (fun x2 => ?_)
      refine a_il3 hX dX11_lock_55 rfl ?_
      refine a_icmp_eq hX dX11_lock_56 rfl rfl ?_ ?_
      · refine a_inc2 1 hX dX11_lock_62 (by decide) rfl ?_
        refine a_goto hX dX11_lock_65 rfl ?_
        exact a_sub (ih v1 (v2 + 1) x2.2) (ls_s (ls_s (ls_s (ls_n ls_0))))
      · refine a_inc1 1 hX dX11_lock_59 (by decide) rfl ?_
        refine a_inc2 1 hX dX11_lock_62 (by decide) rfl ?_
        refine a_goto hX dX11_lock_65 rfl ?_
        exact a_sub (ih (v1 + 1) (v2 + 1) x2.2) (ls_s (ls_s (ls_s (ls_n ls_0))))

set_option maxRecDepth 100000 in
set_option maxHeartbeats 2000000 in
theorem a_X11_lock_0 {X : AX} {r0 : (Nat × Int32) × Mem} (hX : CX X cX11_lock 4 RX11) (hR : (aR X).frames = 6 ∧ (aR X).locals = 142 ∧ aCe X ≤ (aR X).cells ∧ aSl X ≤ (aR X).slots) (hQ : QT X r0) (hr : (aMeth X).sig.returnType = (some .int)) (σ : Mem) : AWo X r0 0 [some (.ref 0), none, none, none] [] σ (m_X11_lock  σ) := by
  unfold m_X11_lock
  refine a_al0 hX dX11_lock_0 rfl ?_
  refine a_getR hX fl_X11_30 s_0 rfl dX11_lock_1 rfl ?_
  refine a_callI hX hR ml_X11_253 (ci_X8_findBest _ _) s_67 rfl rfl rfl (by decide) (Nat.le_of_ble_eq_true rfl) rfl dX11_lock_4 rfl (fun x1 => ?_)
  refine a_if_ne hX dX11_lock_7 rfl rfl ?_ ?_
  · refine a_ic 0 hX dX11_lock_21 (by decide) rfl ?_
    refine a_is1 hX dX11_lock_22 rfl ?_
    refine a_ic 0 hX dX11_lock_23 (by decide) rfl ?_
    refine a_is2 hX dX11_lock_24 rfl ?_
    exact a_sub (a_X11_lock_25 hX hR hQ hr FU 0 0 x1.2) (ls_s (ls_s (ls_s (ls_n ls_0))))
  · exact a_throwW hX hR hQ th_X11_87_288 (by decide) dX11_lock_10 dX11_lock_13 dX11_lock_14 dX11_lock_17 dX11_lock_20 (by decide) rfl

set_option maxRecDepth 100000 in
theorem ci_X11_lock (l : Launch) (hlt : l.stackTraces = false) (σ : Mem) : CT l yX11_lock cX11_lock 4 (some .int) 6 142 [.ref 0] σ (m_X11_lock  σ) :=
  ct_of (by decide) (by simp [Value.category]) (by simp) hlt (fun X r hl hX hR hQ hr => a_X11_lock_0 hX hR hQ hr σ)

set_option maxRecDepth 100000 in
set_option maxHeartbeats 2000000 in
theorem a_X11_unlock_0 {X : AX} {r0 : (Nat × Int32) × Mem} (hX : CX X cX11_unlock 2 RX11) (hR : (aR X).frames = 6 ∧ (aR X).locals = 82 ∧ aCe X ≤ (aR X).cells ∧ aSl X ≤ (aR X).slots) (hQ : QT X r0) (hr : (aMeth X).sig.returnType = (some .int)) (v1 : Int32) (σ : Mem) : AWo X r0 0 [some (.ref 0), some (.int v1)] [] σ (m_X11_unlock v1 σ) := by
  unfold m_X11_unlock
  refine a_il1 hX dX11_unlock_0 rfl ?_
  refine a_callSI hX hR ml_X11_48 (ci_X11_isPackage _ _ _) rfl rfl (by decide) (Nat.le_of_ble_eq_true rfl) rfl dX11_unlock_1 rfl (fun x1 => ?_)
  refine a_if_ne hX dX11_unlock_4 rfl rfl ?_ ?_
  · refine a_al0 hX dX11_unlock_17 rfl ?_
    refine a_getR hX fl_X11_17 s_0 rfl dX11_unlock_18 rfl ?_
    refine a_getR hX fl_X11_290 s_1 rfl dX11_unlock_21 rfl ?_
    refine a_il1 hX dX11_unlock_24 rfl ?_
    refine a_ic (-1) hX dX11_unlock_25 (by decide) rfl ?_
    refine a_callI hX hR ml_X11_139 (ci_X7_exchange _ 56 57 6 s_56 s_57 _ _ _) s_56 rfl rfl rfl (by decide) (Nat.le_of_ble_eq_true rfl) rfl dX11_unlock_26 rfl (fun x2 => ?_)
    exact a_tiret hX hQ hr dX11_unlock_29
  · exact a_throw hX hR hQ th_X11_56_230 (by decide) dX11_unlock_7 dX11_unlock_10 dX11_unlock_11 dX11_unlock_13 dX11_unlock_16 (by decide) rfl

set_option maxRecDepth 100000 in
theorem ci_X11_unlock (l : Launch) (hlt : l.stackTraces = false) (v1 : Int32) (σ : Mem) : CT l yX11_unlock cX11_unlock 2 (some .int) 6 82 [.ref 0, .int v1] σ (m_X11_unlock v1 σ) :=
  ct_of (by decide) (by simp [Value.category]) (by simp) hlt (fun X r hl hX hR hQ hr => a_X11_unlock_0 hX hR hQ hr v1 σ)

set_option maxRecDepth 100000 in
set_option maxHeartbeats 2000000 in
theorem a_X11_install_47 {X : AX} {r0 : (Nat × Int32) × Mem} (hX : CX X cX11_install 6 RX11) (hR : (aR X).frames = 6 ∧ (aR X).locals = 142 ∧ aCe X ≤ (aR X).cells ∧ aSl X ≤ (aR X).slots) (hQ : QT X r0) (hr : (aMeth X).sig.returnType = (some .int)) : ∀ (fuel : Nat) (v1 v2 v3 : Int32) (σ : Mem), AWo X r0 47 [some (.ref 0), some (.int v1), some (.int v2), some (.int v3), none, none] [] σ (m_X11_install_47 fuel v1 v2 v3 σ) := by
  intro fuel
  induction fuel with
  | zero => intro v1 v2 v3 σ; exact a_none
  | succ fuel ih =>
    intro v1 v2 v3 σ
    show AWo X r0 47 [some (.ref 0), some (.int v1), some (.int v2), some (.int v3), none, none] [] σ (m_X11_install_47 (fuel + 1) v1 v2 v3 σ)
    unfold m_X11_install_47
    refine a_il3 hX dX11_install_47 rfl ?_
    refine a_bi 6 hX dX11_install_48 (by decide) rfl ?_
    refine a_icmp_ge hX dX11_install_50 rfl rfl ?_ ?_
    · refine a_il2 hX dX11_install_124 rfl ?_
      exact a_tiret hX hQ hr dX11_install_125
    · refine a_il2 hX dX11_install_53 rfl ?_
      refine a_il1 hX dX11_install_54 rfl ?_
      refine a_icmp_ge hX dX11_install_55 rfl rfl ?_ ?_
      · refine a_il2 hX dX11_install_124 rfl ?_
        exact a_tiret hX hQ hr dX11_install_125
      · refine a_al0 hX dX11_install_58 rfl ?_
        refine a_getR hX fl_X11_30 s_0 rfl dX11_install_59 rfl ?_
        refine a_getR hX fl_X11_256 s_67 rfl dX11_install_62 rfl ?_
        refine a_il3 hX dX11_install_65 rfl ?_
        refine a_callI hX hR ml_X11_114 (ci_X7_get _ 68 69 6 s_68 s_69 _ _) s_68 rfl rfl rfl (by decide) (Nat.le_of_ble_eq_true rfl) rfl dX11_install_66 rfl (fun x1 => ?_)
        refine a_is4 hX dX11_install_69 rfl ?_
        refine a_al0 hX dX11_install_71 rfl ?_
        refine a_getR hX fl_X11_17 s_0 rfl dX11_install_72 rfl ?_
        refine a_getR hX fl_X11_75 s_1 rfl dX11_install_75 rfl ?_
        refine a_getR hX fl_X11_295 s_2 rfl dX11_install_78 rfl ?_
        refine a_il4 hX dX11_install_81 rfl ?_
        refine a_callI hX hR ml_X11_114 (ci_X7_get _ 7 8 24 s_7 s_8 _ _) s_7 rfl rfl rfl (by decide) (Nat.le_of_ble_eq_true rfl) rfl dX11_install_83 rfl (fun x2 => ?_)
        refine a_is5 hX dX11_install_86 rfl ?_
        refine a_al0 hX dX11_install_88 rfl ?_
        refine a_getR hX fl_X11_44 s_0 rfl dX11_install_89 rfl ?_
        refine a_il3 hX dX11_install_92 rfl ?_
        refine a_il4 hX dX11_install_93 rfl ?_
        refine a_il5 hX dX11_install_95 rfl ?_
        refine a_callI hX hR ml_X11_298 (ci_X3_differs _ _ _ _ _) s_89 rfl rfl rfl (by decide) (Nat.le_of_ble_eq_true rfl) rfl dX11_install_97 rfl (fun x3 => ?_)
        refine a_if_eq hX dX11_install_100 rfl rfl ?_ ?_
        · refine a_inc3 1 hX dX11_install_118 (by decide) rfl ?_
          refine a_goto hX dX11_install_121 rfl ?_
          exact a_sub (ih v1 v2 (v3 + 1) x3.2) (ls_s (ls_s (ls_s (ls_s (ls_n (ls_n ls_0))))))
        · refine a_al0 hX dX11_install_103 rfl ?_
          refine a_getR hX fl_X11_44 s_0 rfl dX11_install_104 rfl ?_
          refine a_il3 hX dX11_install_107 rfl ?_
          refine a_il4 hX dX11_install_108 rfl ?_
          refine a_il5 hX dX11_install_110 rfl ?_
          refine a_callV hX hR ml_X11_302 (ci_X3_put _ _ _ _ _) s_89 rfl rfl rfl (by decide) (Nat.le_of_ble_eq_true rfl) rfl dX11_install_112 rfl (fun x4 => ?_)
          refine a_inc2 1 hX dX11_install_115 (by decide) rfl ?_
          refine a_inc3 1 hX dX11_install_118 (by decide) rfl ?_
          refine a_goto hX dX11_install_121 rfl ?_
          exact a_sub (ih v1 (v2 + 1) (v3 + 1) x4.2) (ls_s (ls_s (ls_s (ls_s (ls_n (ls_n ls_0))))))

set_option maxRecDepth 100000 in
set_option maxHeartbeats 2000000 in
theorem a_X11_install_0 {X : AX} {r0 : (Nat × Int32) × Mem} (hX : CX X cX11_install 6 RX11) (hR : (aR X).frames = 6 ∧ (aR X).locals = 142 ∧ aCe X ≤ (aR X).cells ∧ aSl X ≤ (aR X).slots) (hQ : QT X r0) (hr : (aMeth X).sig.returnType = (some .int)) (v1 : Int32) (σ : Mem) : AWo X r0 0 [some (.ref 0), some (.int v1), none, none, none, none] [] σ (m_X11_install v1 σ) := by
  unfold m_X11_install
  refine a_il1 hX dX11_install_0 rfl ?_
  refine a_ic 1 hX dX11_install_1 (by decide) rfl ?_
  refine a_icmp_lt hX dX11_install_2 rfl rfl ?_ ?_
  · exact a_throwW hX hR hQ th_X11_66_293 (by decide) dX11_install_11 dX11_install_14 dX11_install_15 dX11_install_18 dX11_install_21 (by decide) rfl
  · refine a_il1 hX dX11_install_5 rfl ?_
    refine a_bi 10 hX dX11_install_6 (by decide) rfl ?_
    refine a_icmp_le hX dX11_install_8 rfl rfl ?_ ?_
    · refine a_al0 hX dX11_install_22 rfl ?_
      refine a_getR hX fl_X11_30 s_0 rfl dX11_install_23 rfl ?_
      refine a_callI hX hR ml_X11_253 (ci_X8_findBest _ _) s_67 rfl rfl rfl (by decide) (Nat.le_of_ble_eq_true rfl) rfl dX11_install_26 rfl (fun x1 => ?_)
      refine a_if_ne hX dX11_install_29 rfl rfl ?_ ?_
      · refine a_ic 0 hX dX11_install_43 (by decide) rfl ?_
        refine a_is2 hX dX11_install_44 rfl ?_
        refine a_ic 0 hX dX11_install_45 (by decide) rfl ?_
        refine a_is3 hX dX11_install_46 rfl ?_
        exact a_sub (a_X11_install_47 hX hR hQ hr FU v1 0 0 x1.2) (ls_s (ls_s (ls_s (ls_s (ls_n (ls_n ls_0))))))
      · exact a_throwW hX hR hQ th_X11_87_288 (by decide) dX11_install_32 dX11_install_35 dX11_install_36 dX11_install_39 dX11_install_42 (by decide) rfl
    · exact a_throwW hX hR hQ th_X11_66_293 (by decide) dX11_install_11 dX11_install_14 dX11_install_15 dX11_install_18 dX11_install_21 (by decide) rfl

set_option maxRecDepth 100000 in
theorem ci_X11_install (l : Launch) (hlt : l.stackTraces = false) (v1 : Int32) (σ : Mem) : CT l yX11_install cX11_install 6 (some .int) 6 142 [.ref 0, .int v1] σ (m_X11_install v1 σ) :=
  ct_of (by decide) (by simp [Value.category]) (by simp) hlt (fun X r hl hX hR hQ hr => a_X11_install_0 hX hR hQ hr v1 σ)

