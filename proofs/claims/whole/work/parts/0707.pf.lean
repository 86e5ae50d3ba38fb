set_option maxRecDepth 100000 in
set_option maxHeartbeats 2000000 in
theorem a_X12_find_128 {X : AX} {r0 : Int32 × Mem} (hX : CX X cX12_find 3 RX12) (hR : (aR X).frames = 4 ∧ (aR X).locals = 95 ∧ aCe X ≤ (aR X).cells ∧ aSl X ≤ (aR X).slots) (hQ : QV X r0) (hr : (aMeth X).sig.returnType = none) (f40 : Int32 → Mem → Option (Int32 × Mem)) (hf40 : ∀ (v1 : Int32) (σ : Mem), AWo X r0 40 [some (.ref 94), some (.int v1), none] [] σ (f40 v1 σ)) (σ : Mem) : AWo X r0 128 [some (.ref 94), none, none] [] σ (m_X12_find_128 f40  σ) := by
  unfold m_X12_find_128
  refine a_al0 hX dX12_find_128 rfl ?_
  refine a_ic 0 hX dX12_find_129 (by decide) rfl ?_
  refine a_callI hX hR ml_X12_199 (ci_X12_goOn _ _ _) s_94 rfl rfl rfl (by decide) (Nat.le_of_ble_eq_true rfl) rfl dX12_find_130 rfl (fun x1 => ?_)
  refine a_is1 hX dX12_find_133 rfl ?_
  refine a_goto hX dX12_find_134 rfl ?_
  exact a_sub (hf40 x1.1 x1.2) (ls_s (ls_s (ls_n ls_0)))

set_option maxRecDepth 100000 in
set_option maxHeartbeats 2000000 in
theorem a_X12_find_118 {X : AX} {r0 : Int32 × Mem} (hX : CX X cX12_find 3 RX12) (hR : (aR X).frames = 4 ∧ (aR X).locals = 95 ∧ aCe X ≤ (aR X).cells ∧ aSl X ≤ (aR X).slots) (hQ : QV X r0) (hr : (aMeth X).sig.returnType = none) (f40 : Int32 → Mem → Option (Int32 × Mem)) (hf40 : ∀ (v1 : Int32) (σ : Mem), AWo X r0 40 [some (.ref 94), some (.int v1), none] [] σ (f40 v1 σ)) (σ : Mem) : AWo X r0 118 [some (.ref 94), none, none] [] σ (m_X12_find_118 f40  σ) := by
  unfold m_X12_find_118
  refine a_al0 hX dX12_find_118 rfl ?_
  refine a_dup hX dX12_find_119 rfl rfl ?_
  refine a_getI hX fl_X12_181 s_94 rfl dX12_find_120 rfl ?_
  refine a_ic 1 hX dX12_find_123 (by decide) rfl ?_
  refine a_iadd hX dX12_find_124 rfl ?_
  refine a_putI hX fp_X12_181 s_94 rfl dX12_find_125 rfl ?_
  refine a_nameM (fun m1 => ?_)
  exact a_sub (a_X12_find_128 hX hR hQ hr f40 hf40 m1) (ls_s (ls_n (ls_n ls_0)))

set_option maxRecDepth 100000 in
set_option maxHeartbeats 2000000 in
theorem a_X12_find_111 {X : AX} {r0 : Int32 × Mem} (hX : CX X cX12_find 3 RX12) (hR : (aR X).frames = 4 ∧ (aR X).locals = 95 ∧ aCe X ≤ (aR X).cells ∧ aSl X ≤ (aR X).slots) (hQ : QV X r0) (hr : (aMeth X).sig.returnType = none) (f40 : Int32 → Mem → Option (Int32 × Mem)) (hf40 : ∀ (v1 : Int32) (σ : Mem), AWo X r0 40 [some (.ref 94), some (.int v1), none] [] σ (f40 v1 σ)) (f68 : Int32 → Mem → Option (Int32 × Mem)) (hf68 : ∀ (v2 : Int32) (σ : Mem), AWo X r0 68 [some (.ref 94), none, some (.int v2)] [] σ (f68 v2 σ)) (v2 s1 s2 : Int32) (σ : Mem) : AWo X r0 111 [some (.ref 94), none, some (.int v2)] [.int s2, .int s1, .ref 113] σ (m_X12_find_111 f40 f68 v2 s1 s2 σ) := by
  unfold m_X12_find_111
  refine a_ast hX s_113 dX12_find_111 rfl (fun m1 => ?_)
  refine a_inc2 1 hX dX12_find_112 (by decide) rfl ?_
  refine a_goto hX dX12_find_115 rfl ?_
  exact a_sub (hf68 (v2 + 1) m1) (ls_s (ls_n (ls_s ls_0)))

set_option maxRecDepth 100000 in
set_option maxHeartbeats 2000000 in
theorem a_X12_find_68 {X : AX} {r0 : Int32 × Mem} (hX : CX X cX12_find 3 RX12) (hR : (aR X).frames = 4 ∧ (aR X).locals = 95 ∧ aCe X ≤ (aR X).cells ∧ aSl X ≤ (aR X).slots) (hQ : QV X r0) (hr : (aMeth X).sig.returnType = none) (f40 : Int32 → Mem → Option (Int32 × Mem)) (hf40 : ∀ (v1 : Int32) (σ : Mem), AWo X r0 40 [some (.ref 94), some (.int v1), none] [] σ (f40 v1 σ)) : ∀ (fuel : Nat) (v2 : Int32) (σ : Mem), AWo X r0 68 [some (.ref 94), none, some (.int v2)] [] σ (m_X12_find_68 f40 fuel v2 σ) := by
  intro fuel
  induction fuel with
  | zero => intro v2 σ; exact a_none
  | succ fuel ih =>
    intro v2 σ
    show AWo X r0 68 [some (.ref 94), none, some (.int v2)] [] σ (m_X12_find_68 f40 (fuel + 1) v2 σ)
    unfold m_X12_find_68
    refine a_il2 hX dX12_find_68 rfl ?_
    refine a_bi 6 hX dX12_find_69 (by decide) rfl ?_
    refine a_icmp_ge hX dX12_find_71 rfl rfl ?_ ?_
    · exact a_sub (a_X12_find_118 hX hR hQ hr f40 hf40 (σ)) (ls_s (ls_n (ls_n ls_0)))
    · refine a_al0 hX dX12_find_74 rfl ?_
      refine a_getR hX fl_X12_66 s_94 rfl dX12_find_75 rfl ?_
      refine a_il2 hX dX12_find_78 rfl ?_
      refine a_al0 hX dX12_find_79 rfl ?_
      refine a_getR hX fl_X12_44 s_94 rfl dX12_find_80 rfl ?_
      refine a_il2 hX dX12_find_83 rfl ?_
      refine a_ald hX s_106 dX12_find_84 rfl (fun x1 => ?_)
      refine a_ast hX s_112 dX12_find_85 rfl (fun m2 => ?_)
      refine a_al0 hX dX12_find_86 rfl ?_
      refine a_getR hX fl_X12_69 s_94 rfl dX12_find_87 rfl ?_
      refine a_il2 hX dX12_find_90 rfl ?_
      refine a_al0 hX dX12_find_91 rfl ?_
      refine a_getR hX fl_X12_44 s_94 rfl dX12_find_92 rfl ?_
      refine a_il2 hX dX12_find_95 rfl ?_
      refine a_ald hX s_106 dX12_find_96 rfl (fun x3 => ?_)
      refine a_ic (-1) hX dX12_find_97 (by decide) rfl ?_
      refine a_icmp_ne hX dX12_find_98 rfl rfl ?_ ?_
      · refine a_al0 hX dX12_find_105 rfl ?_
        refine a_getR hX fl_X12_47 s_94 rfl dX12_find_106 rfl ?_
        refine a_il2 hX dX12_find_109 rfl ?_
        refine a_ald hX s_107 dX12_find_110 rfl (fun x4 => ?_)
        exact a_sub (a_X12_find_111 hX hR hQ hr f40 hf40 (m_X12_find_68 f40 fuel) ih v2 v2 x4 m2) (ls_s (ls_n (ls_s ls_0)))
      · refine a_ic 0 hX dX12_find_101 (by decide) rfl ?_
        refine a_goto hX dX12_find_102 rfl ?_
        exact a_sub (a_X12_find_111 hX hR hQ hr f40 hf40 (m_X12_find_68 f40 fuel) ih v2 v2 0 m2) (ls_s (ls_n (ls_s ls_0)))

set_option maxRecDepth 100000 in
set_option maxHeartbeats 2000000 in
theorem a_X12_find_40 {X : AX} {r0 : Int32 × Mem} (hX : CX X cX12_find 3 RX12) (hR : (aR X).frames = 4 ∧ (aR X).locals = 95 ∧ aCe X ≤ (aR X).cells ∧ aSl X ≤ (aR X).slots) (hQ : QV X r0) (hr : (aMeth X).sig.returnType = none) : ∀ (fuel : Nat) (v1 : Int32) (σ : Mem), AWo X r0 40 [some (.ref 94), some (.int v1), none] [] σ (m_X12_find_40 fuel v1 σ) := by
  intro fuel
  induction fuel with
  | zero => intro v1 σ; exact a_none
  | succ fuel ih =>
    intro v1 σ
    show AWo X r0 40 [some (.ref 94), some (.int v1), none] [] σ (m_X12_find_40 (fuel + 1) v1 σ)
    unfold m_X12_find_40
    refine a_il1 hX dX12_find_40 rfl ?_
    refine a_if_eq hX dX12_find_41 rfl rfl ?_ ?_
    · refine a_al0 hX dX12_find_137 rfl ?_
      refine a_ic 1 hX dX12_find_138 (by decide) rfl ?_
      refine a_putZ hX fp_X12_104 (by decide) s_94 rfl dX12_find_139 rfl ?_
      refine a_nameM (fun m1 => ?_)
      exact a_vret hX hQ hr dX12_find_142
    · refine a_al0 hX dX12_find_44 rfl ?_
      refine a_callI hX hR ml_X12_203 (ci_X12_isSolution _ _) s_94 rfl rfl rfl (by decide) (Nat.le_of_ble_eq_true rfl) rfl dX12_find_45 rfl (fun x2 => ?_)
      refine a_if_eq hX dX12_find_48 rfl rfl ?_ ?_
      · exact a_sub (a_X12_find_128 hX hR hQ hr (m_X12_find_40 fuel) ih x2.2) (ls_s (ls_n (ls_n ls_0)))
      · refine a_al0 hX dX12_find_51 rfl ?_
        refine a_callI hX hR ml_X12_206 (ci_X12_goesAhead _ _) s_94 rfl rfl rfl (by decide) (Nat.le_of_ble_eq_true rfl) rfl dX12_find_52 rfl (fun x3 => ?_)
        refine a_if_eq hX dX12_find_55 rfl rfl ?_ ?_
        · exact a_sub (a_X12_find_118 hX hR hQ hr (m_X12_find_40 fuel) ih x3.2) (ls_s (ls_n (ls_n ls_0)))
        · refine a_al0 hX dX12_find_58 rfl ?_
          refine a_al0 hX dX12_find_59 rfl ?_
          refine a_callI hX hR ml_X12_178 (ci_X12_changes _ _) s_94 rfl rfl rfl (by decide) (Nat.le_of_ble_eq_true rfl) rfl dX12_find_60 rfl (fun x4 => ?_)
          refine a_putI hX fp_X12_184 s_94 rfl dX12_find_63 rfl ?_
          refine a_nameM (fun m5 => ?_)
          refine a_ic 0 hX dX12_find_66 (by decide) rfl ?_
          refine a_is2 hX dX12_find_67 rfl ?_
          exact a_sub (a_X12_find_68 hX hR hQ hr (m_X12_find_40 fuel) ih FU 0 m5) (ls_s (ls_n (ls_s ls_0)))

set_option maxRecDepth 100000 in
set_option maxHeartbeats 2000000 in
theorem a_X12_find_0 {X : AX} {r0 : Int32 × Mem} (hX : CX X cX12_find 3 RX12) (hR : (aR X).frames = 4 ∧ (aR X).locals = 95 ∧ aCe X ≤ (aR X).cells ∧ aSl X ≤ (aR X).slots) (hQ : QV X r0) (hr : (aMeth X).sig.returnType = none) (σ : Mem) : AWo X r0 0 [some (.ref 94), none, none] [] σ (m_X12_find  σ) := by
  unfold m_X12_find
  refine a_al0 hX dX12_find_0 rfl ?_
  refine a_getI hX fl_X12_104 s_94 rfl dX12_find_1 rfl ?_
  refine a_if_eq hX dX12_find_4 rfl rfl ?_ ?_
  · refine a_al0 hX dX12_find_8 rfl ?_
    refine a_al0 hX dX12_find_9 rfl ?_
    refine a_al0 hX dX12_find_10 rfl ?_
    refine a_getI hX fl_X12_190 s_94 rfl dX12_find_11 rfl ?_
    refine a_callI hX hR ml_X12_193 (ci_X12_demandsOf _ _ _) s_94 rfl rfl rfl (by decide) (Nat.le_of_ble_eq_true rfl) rfl dX12_find_14 rfl (fun x1 => ?_)
    refine a_putI hX fp_X12_137 s_94 rfl dX12_find_17 rfl ?_
    refine a_nameM (fun m2 => ?_)
    refine a_al0 hX dX12_find_20 rfl ?_
    refine a_ic (-1) hX dX12_find_21 (by decide) rfl ?_
    refine a_putI hX fp_X12_62 s_94 rfl dX12_find_22 rfl ?_
    refine a_nameM (fun m3 => ?_)
    refine a_al0 hX dX12_find_25 rfl ?_
    refine a_ic 0 hX dX12_find_26 (by decide) rfl ?_
    refine a_putI hX fp_X12_181 s_94 rfl dX12_find_27 rfl ?_
    refine a_nameM (fun m4 => ?_)
    refine a_al0 hX dX12_find_30 rfl ?_
    refine a_callV hX hR ml_X12_196 (ci_X12_begin _ _) s_94 rfl rfl rfl (by decide) (Nat.le_of_ble_eq_true rfl) rfl dX12_find_31 rfl (fun x5 => ?_)
    refine a_al0 hX dX12_find_34 rfl ?_
    refine a_ic 1 hX dX12_find_35 (by decide) rfl ?_
    refine a_callI hX hR ml_X12_199 (ci_X12_goOn _ _ _) s_94 rfl rfl rfl (by decide) (Nat.le_of_ble_eq_true rfl) rfl dX12_find_36 rfl (fun x6 => ?_)
    refine a_is1 hX dX12_find_39 rfl ?_
    exact a_sub (a_X12_find_40 hX hR hQ hr FU x6.1 x6.2) (ls_s (ls_s (ls_n ls_0)))
  · exact a_vret hX hQ hr dX12_find_7

set_option maxRecDepth 100000 in
theorem ci_X12_find (l : Launch) (σ : Mem) : CV l yX12_find cX12_find 3 4 95 [.ref 94] σ (m_X12_find  σ) :=
  cv_of (by decide) (by simp [Value.category]) (by simp) (fun X r hl hX hR hQ hr => a_X12_find_0 hX hR hQ hr σ)

set_option maxRecDepth 100000 in
set_option maxHeartbeats 2000000 in
theorem a_X12_isSolvable_20 {X : AX} {r0 : Int32 × Mem} (hX : CX X cX12_isSolvable 4 RX12) (hR : (aR X).frames = 4 ∧ (aR X).locals = 95 ∧ aCe X ≤ (aR X).cells ∧ aSl X ≤ (aR X).slots) (hQ : QI X r0) (hr : (aMeth X).sig.returnType = (some .boolean)) : ∀ (fuel : Nat) (v3 : Int32) (σ : Mem), AWo X r0 20 [some (.ref 94), none, none, some (.int v3)] [] σ (m_X12_isSolvable_20 fuel v3 σ) := by
  intro fuel
  induction fuel with
  | zero => intro v3 σ; exact a_none
  | succ fuel ih =>
    intro v3 σ
    show AWo X r0 20 [some (.ref 94), none, none, some (.int v3)] [] σ (m_X12_isSolvable_20 (fuel + 1) v3 σ)
    unfold m_X12_isSolvable_20
    refine a_il3 hX dX12_isSolvable_20 rfl ?_
    refine a_if_eq hX dX12_isSolvable_21 rfl rfl ?_ ?_
    · refine a_ic 0 hX dX12_isSolvable_42 (by decide) rfl ?_
      exact a_zret0 (by decide) hX hQ hr dX12_isSolvable_43
    · refine a_al0 hX dX12_isSolvable_24 rfl ?_
      refine a_callI hX hR ml_X12_203 (ci_X12_isSolution _ _) s_94 rfl rfl rfl (by decide) (Nat.le_of_ble_eq_true rfl) rfl dX12_isSolvable_25 rfl (fun x1 => ?_)
      refine a_if_eq hX dX12_isSolvable_28 rfl rfl ?_ ?_
      · refine a_al0 hX dX12_isSolvable_33 rfl ?_
        refine a_ic 0 hX dX12_isSolvable_34 (by decide) rfl ?_
        refine a_callI hX hR ml_X12_199 (ci_X12_goOn _ _ _) s_94 rfl rfl rfl (by decide) (Nat.le_of_ble_eq_true rfl) rfl dX12_isSolvable_35 rfl (fun x2 => ?_)
        refine a_is3 hX dX12_isSolvable_38 rfl ?_
        refine a_goto hX dX12_isSolvable_39 rfl ?_
        exact a_sub (ih x2.1 x2.2) (ls_s (ls_n (ls_n (ls_s ls_0))))
      · refine a_ic 1 hX dX12_isSolvable_31 (by decide) rfl ?_
        exact a_zret0 (by decide) hX hQ hr dX12_isSolvable_32

set_option maxRecDepth 100000 in
set_option maxHeartbeats 2000000 in
theorem a_X12_isSolvable_0 {X : AX} {r0 : Int32 × Mem} (hX : CX X cX12_isSolvable 4 RX12) (hR : (aR X).frames = 4 ∧ (aR X).locals = 95 ∧ aCe X ≤ (aR X).cells ∧ aSl X ≤ (aR X).slots) (hQ : QI X r0) (hr : (aMeth X).sig.returnType = (some .boolean)) (v1 v2 : Int32) (σ : Mem) : AWo X r0 0 [some (.ref 94), some (.int v1), some (.int v2), none] [] σ (m_X12_isSolvable v1 v2 σ) := by
  unfold m_X12_isSolvable
  refine a_al0 hX dX12_isSolvable_0 rfl ?_
  refine a_il1 hX dX12_isSolvable_1 rfl ?_
  refine a_putI hX fp_X12_137 s_94 rfl dX12_isSolvable_2 rfl ?_
  refine a_nameM (fun m1 => ?_)
  refine a_al0 hX dX12_isSolvable_5 rfl ?_
  refine a_il2 hX dX12_isSolvable_6 rfl ?_
  refine a_putI hX fp_X12_62 s_94 rfl dX12_isSolvable_7 rfl ?_
  refine a_nameM (fun m2 => ?_)
  refine a_al0 hX dX12_isSolvable_10 rfl ?_
  refine a_callV hX hR ml_X12_196 (ci_X12_begin _ _) s_94 rfl rfl rfl (by decide) (Nat.le_of_ble_eq_true rfl) rfl dX12_isSolvable_11 rfl (fun x3 => ?_)
  refine a_al0 hX dX12_isSolvable_14 rfl ?_
  refine a_ic 1 hX dX12_isSolvable_15 (by decide) rfl ?_
  refine a_callI hX hR ml_X12_199 (ci_X12_goOn _ _ _) s_94 rfl rfl rfl (by decide) (Nat.le_of_ble_eq_true rfl) rfl dX12_isSolvable_16 rfl (fun x4 => ?_)
  refine a_is3 hX dX12_isSolvable_19 rfl ?_
  exact a_sub (a_X12_isSolvable_20 hX hR hQ hr FU x4.1 x4.2) (ls_s (ls_n (ls_n (ls_s ls_0))))

set_option maxRecDepth 100000 in
theorem ci_X12_isSolvable (l : Launch) (v1 v2 : Int32) (σ : Mem) : CI l yX12_isSolvable cX12_isSolvable 4 (some .boolean) 4 95 [.ref 94, .int v1, .int v2] σ (m_X12_isSolvable v1 v2 σ) :=
  ci_of (by decide) (by simp [Value.category]) (by simp) (fun X r hl hX hR hQ hr => a_X12_isSolvable_0 hX hR hQ hr v1 v2 σ)

set_option maxRecDepth 100000 in
set_option maxHeartbeats 2000000 in
theorem a_X12_solve_82 {X : AX} {r0 : Int32 × Mem} (hX : CX X cX12_solve 5 RX12) (hR : (aR X).frames = 5 ∧ (aR X).locals = 117 ∧ aCe X ≤ (aR X).cells ∧ aSl X ≤ (aR X).slots) (hQ : QI X r0) (hr : (aMeth X).sig.returnType = (some .int)) (f58 : Int32 → Int32 → Mem → Option (Int32 × Mem)) (hf58 : ∀ (v3 v4 : Int32) (σ : Mem), AWo X r0 58 [some (.ref 94), none, none, some (.int v3), some (.int v4)] [] σ (f58 v3 v4 σ)) (v4 s0 s1 : Int32) (σ : Mem) : AWo X r0 82 [some (.ref 94), none, none, none, some (.int v4)] [.int s1, .int s0] σ (m_X12_solve_82 f58 v4 s0 s1 σ) := by
  unfold m_X12_solve_82
  refine a_iadd hX dX12_solve_82 rfl ?_
  refine a_name (fun y1 => ?_)
  refine a_is3 hX dX12_solve_83 rfl ?_
  refine a_inc4 1 hX dX12_solve_84 (by decide) rfl ?_
  refine a_goto hX dX12_solve_87 rfl ?_
  exact a_sub (hf58 y1 (v4 + 1) (σ)) (ls_s (ls_n (ls_n (ls_s (ls_s ls_0)))))

set_option maxRecDepth 100000 in
set_option maxHeartbeats 2000000 in
theorem a_X12_solve_58 {X : AX} {r0 : Int32 × Mem} (hX : CX X cX12_solve 5 RX12) (hR : (aR X).frames = 5 ∧ (aR X).locals = 117 ∧ aCe X ≤ (aR X).cells ∧ aSl X ≤ (aR X).slots) (hQ : QI X r0) (hr : (aMeth X).sig.returnType = (some .int)) : ∀ (fuel : Nat) (v3 v4 : Int32) (σ : Mem), AWo X r0 58 [some (.ref 94), none, none, some (.int v3), some (.int v4)] [] σ (m_X12_solve_58 fuel v3 v4 σ) := by
  intro fuel
  induction fuel with
  | zero => intro v3 v4 σ; exact a_none
  | succ fuel ih =>
    intro v3 v4 σ
    show AWo X r0 58 [some (.ref 94), none, none, some (.int v3), some (.int v4)] [] σ (m_X12_solve_58 (fuel + 1) v3 v4 σ)
    unfold m_X12_solve_58
    refine a_il4 hX dX12_solve_58 rfl ?_
    refine a_bi 6 hX dX12_solve_60 (by decide) rfl ?_
    refine a_icmp_ge hX dX12_solve_62 rfl rfl ?_ ?_
    · refine a_al0 hX dX12_solve_90 rfl ?_
      refine a_getI hX fl_X12_181 s_94 rfl dX12_solve_91 rfl ?_
      refine a_if_ne hX dX12_solve_94 rfl rfl ?_ ?_
      · refine a_il3 hX dX12_solve_101 rfl ?_
        exact a_iret hX hQ hr dX12_solve_102
      · refine a_ic (-1) hX dX12_solve_97 (by decide) rfl ?_
        refine a_goto hX dX12_solve_98 rfl ?_
        exact a_iret hX hQ hr dX12_solve_102
    · refine a_il3 hX dX12_solve_65 rfl ?_
      refine a_al0 hX dX12_solve_66 rfl ?_
      refine a_getR hX fl_X12_66 s_94 rfl dX12_solve_67 rfl ?_
      refine a_il4 hX dX12_solve_70 rfl ?_
      refine a_ald hX s_112 dX12_solve_72 rfl (fun x1 => ?_)
      refine a_ic (-1) hX dX12_solve_73 (by decide) rfl ?_
      refine a_icmp_ne hX dX12_solve_74 rfl rfl ?_ ?_
      · refine a_ic 1 hX dX12_solve_81 (by decide) rfl ?_
        exact a_sub (a_X12_solve_82 hX hR hQ hr (m_X12_solve_58 fuel) ih v4 v3 1 (σ)) (ls_s (ls_n (ls_n (ls_n (ls_s ls_0)))))
      · refine a_ic 0 hX dX12_solve_77 (by decide) rfl ?_
        refine a_goto hX dX12_solve_78 rfl ?_
        exact a_sub (a_X12_solve_82 hX hR hQ hr (m_X12_solve_58 fuel) ih v4 v3 0 (σ)) (ls_s (ls_n (ls_n (ls_n (ls_s ls_0)))))

set_option maxRecDepth 100000 in
set_option maxHeartbeats 2000000 in
theorem a_X12_solve_26 {X : AX} {r0 : Int32 × Mem} (hX : CX X cX12_solve 5 RX12) (hR : (aR X).frames = 5 ∧ (aR X).locals = 117 ∧ aCe X ≤ (aR X).cells ∧ aSl X ≤ (aR X).slots) (hQ : QI X r0) (hr : (aMeth X).sig.returnType = (some .int)) (v1 v2 s1 : Int32) (σ : Mem) : AWo X r0 26 [some (.ref 94), some (.int v1), some (.int v2), none, none] [.int s1, .ref 94] σ (m_X12_solve_26 v1 v2 s1 σ) := by
  unfold m_X12_solve_26
  refine a_callI hX hR ml_X12_101 (ci_X12_goesWell _ _ _) s_94 rfl rfl rfl (by decide) (Nat.le_of_ble_eq_true rfl) rfl dX12_solve_26 rfl (fun x1 => ?_)
  refine a_if_ne hX dX12_solve_29 rfl rfl ?_ ?_
  · refine a_al0 hX dX12_solve_34 rfl ?_
    refine a_il1 hX dX12_solve_35 rfl ?_
    refine a_putI hX fp_X12_190 s_94 rfl dX12_solve_36 rfl ?_
    refine a_nameM (fun m2 => ?_)
    refine a_al0 hX dX12_solve_39 rfl ?_
    refine a_il2 hX dX12_solve_40 rfl ?_
    refine a_putI hX fp_X12_172 s_94 rfl dX12_solve_41 rfl ?_
    refine a_nameM (fun m3 => ?_)
    refine a_al0 hX dX12_solve_44 rfl ?_
    refine a_ic 0 hX dX12_solve_45 (by decide) rfl ?_
    refine a_putZ hX fp_X12_104 (by decide) s_94 rfl dX12_solve_46 rfl ?_
    refine a_nameM (fun m4 => ?_)
    refine a_al0 hX dX12_solve_49 rfl ?_
    refine a_callV hX hR ml_X12_209 (ci_X12_find _ _) s_94 rfl rfl rfl (by decide) (Nat.le_of_ble_eq_true rfl) rfl dX12_solve_50 rfl (fun x5 => ?_)
    refine a_ic 0 hX dX12_solve_53 (by decide) rfl ?_
    refine a_is3 hX dX12_solve_54 rfl ?_
    refine a_ic 0 hX dX12_solve_55 (by decide) rfl ?_
    refine a_is4 hX dX12_solve_56 rfl ?_
    exact a_sub (a_X12_solve_58 hX hR hQ hr FU 0 0 x5.2) (ls_s (ls_n (ls_n (ls_s (ls_s ls_0)))))
  · refine a_ic 0 hX dX12_solve_32 (by decide) rfl ?_
    exact a_iret hX hQ hr dX12_solve_33

set_option maxRecDepth 100000 in
set_option maxHeartbeats 2000000 in
theorem a_X12_solve_25 {X : AX} {r0 : Int32 × Mem} (hX : CX X cX12_solve 5 RX12) (hR : (aR X).frames = 5 ∧ (aR X).locals = 117 ∧ aCe X ≤ (aR X).cells ∧ aSl X ≤ (aR X).slots) (hQ : QI X r0) (hr : (aMeth X).sig.returnType = (some .int)) (v1 v2 : Int32) (σ : Mem) : AWo X r0 25 [some (.ref 94), some (.int v1), some (.int v2), none, none] [.ref 94] σ (m_X12_solve_25 v1 v2 σ) := by
  unfold m_X12_solve_25
  refine a_ic 1 hX dX12_solve_25 (by decide) rfl ?_
  exact a_sub (a_X12_solve_26 hX hR hQ hr v1 v2 1 (σ)) (ls_s (ls_s (ls_s (ls_n (ls_n ls_0)))))

set_option maxRecDepth 100000 in
set_option maxHeartbeats 2000000 in
theorem a_X12_solve_0 {X : AX} {r0 : Int32 × Mem} (hX : CX X cX12_solve 5 RX12) (hR : (aR X).frames = 5 ∧ (aR X).locals = 117 ∧ aCe X ≤ (aR X).cells ∧ aSl X ≤ (aR X).slots) (hQ : QI X r0) (hr : (aMeth X).sig.returnType = (some .int)) (v1 v2 : Int32) (σ : Mem) : AWo X r0 0 [some (.ref 94), some (.int v1), some (.int v2), none, none] [] σ (m_X12_solve v1 v2 σ) := by
  unfold m_X12_solve
  refine a_al0 hX dX12_solve_0 rfl ?_
  refine a_il1 hX dX12_solve_1 rfl ?_
  refine a_ic 0 hX dX12_solve_2 (by decide) rfl ?_
  refine a_bi 7 hX dX12_solve_3 (by decide) rfl ?_
  refine a_callSI hX hR ml_X12_75 (ci_X12_in _ _ _ _ _) rfl rfl (by decide) (Nat.le_of_ble_eq_true rfl) rfl dX12_solve_5 rfl (fun x1 => ?_)
  refine a_if_eq hX dX12_solve_8 rfl rfl ?_ ?_
  · exact a_sub (a_X12_solve_25 hX hR hQ hr v1 v2 x1.2) (ls_s (ls_s (ls_s (ls_n (ls_n ls_0)))))
  · refine a_il2 hX dX12_solve_11 rfl ?_
    refine a_ic 0 hX dX12_solve_12 (by decide) rfl ?_
    refine a_bi 63 hX dX12_solve_13 (by decide) rfl ?_
    refine a_callSI hX hR ml_X12_75 (ci_X12_in _ _ _ _ _) rfl rfl (by decide) (Nat.le_of_ble_eq_true rfl) rfl dX12_solve_15 rfl (fun x2 => ?_)
    refine a_if_eq hX dX12_solve_18 rfl rfl ?_ ?_
    · exact a_sub (a_X12_solve_25 hX hR hQ hr v1 v2 x2.2) (ls_s (ls_s (ls_s (ls_n (ls_n ls_0)))))
    · refine a_ic 0 hX dX12_solve_21 (by decide) rfl ?_
      refine a_goto hX dX12_solve_22 rfl ?_
      exact a_sub (a_X12_solve_26 hX hR hQ hr v1 v2 0 x2.2) (ls_s (ls_s (ls_s (ls_n (ls_n ls_0)))))

set_option maxRecDepth 100000 in
theorem ci_X12_solve (l : Launch) (v1 v2 : Int32) (σ : Mem) : CI l yX12_solve cX12_solve 5 (some .int) 5 117 [.ref 94, .int v1, .int v2] σ (m_X12_solve v1 v2 σ) :=
  ci_of (by decide) (by simp [Value.category]) (by simp) (fun X r hl hX hR hQ hr => a_X12_solve_0 hX hR hQ hr v1 v2 σ)

set_option maxRecDepth 100000 in
set_option maxHeartbeats 2000000 in
theorem a_X12_chosenOf_0 {X : AX} {r0 : Int32 × Mem} (hX : CX X cX12_chosenOf 2 RX12) (hR : (aR X).frames = 5 ∧ (aR X).locals = 117 ∧ aCe X ≤ (aR X).cells ∧ aSl X ≤ (aR X).slots) (hQ : QI X r0) (hr : (aMeth X).sig.returnType = (some .int)) (v1 : Int32) (σ : Mem) : AWo X r0 0 [some (.ref 94), some (.int v1)] [] σ (m_X12_chosenOf v1 σ) := by
  unfold m_X12_chosenOf
  refine a_al0 hX dX12_chosenOf_0 rfl ?_
  refine a_callV hX hR ml_X12_209 (ci_X12_find _ _) s_94 rfl rfl rfl (by decide) (Nat.le_of_ble_eq_true rfl) rfl dX12_chosenOf_1 rfl (fun x1 => ?_)
  refine a_al0 hX dX12_chosenOf_4 rfl ?_
  refine a_getI hX fl_X12_181 s_94 rfl dX12_chosenOf_5 rfl ?_
  refine a_if_ne hX dX12_chosenOf_8 rfl rfl ?_ ?_
  · refine a_al0 hX dX12_chosenOf_15 rfl ?_
    refine a_getR hX fl_X12_66 s_94 rfl dX12_chosenOf_16 rfl ?_
    refine a_il1 hX dX12_chosenOf_19 rfl ?_
    refine a_ald hX s_112 dX12_chosenOf_20 rfl (fun x2 => ?_)
    exact a_iret hX hQ hr dX12_chosenOf_21
  · refine a_ic (-1) hX dX12_chosenOf_11 (by decide) rfl ?_
    refine a_goto hX dX12_chosenOf_12 rfl ?_
    exact a_iret hX hQ hr dX12_chosenOf_21

set_option maxRecDepth 100000 in
theorem ci_X12_chosenOf (l : Launch) (v1 : Int32) (σ : Mem) : CI l yX12_chosenOf cX12_chosenOf 2 (some .int) 5 117 [.ref 94, .int v1] σ (m_X12_chosenOf v1 σ) :=
  ci_of (by decide) (by simp [Value.category]) (by simp) (fun X r hl hX hR hQ hr => a_X12_chosenOf_0 hX hR hQ hr v1 σ)

set_option maxRecDepth 100000 in
set_option maxHeartbeats 2000000 in
theorem a_X12_chosen_13 {X : AX} {r0 : Int32 × Mem} (hX : CX X cX12_chosen 2 RX12) (hR : (aR X).frames = 6 ∧ (aR X).locals = 138 ∧ aCe X ≤ (aR X).cells ∧ aSl X ≤ (aR X).slots) (hQ : QI X r0) (hr : (aMeth X).sig.returnType = (some .int)) (v1 s1 : Int32) (σ : Mem) : AWo X r0 13 [some (.ref 94), some (.int v1)] [.int s1, .ref 94] σ (m_X12_chosen_13 v1 s1 σ) := by
  unfold m_X12_chosen_13
  refine a_callI hX hR ml_X12_101 (ci_X12_goesWell _ _ _) s_94 rfl rfl rfl (by decide) (Nat.le_of_ble_eq_true rfl) rfl dX12_chosen_13 rfl (fun x1 => ?_)
  refine a_if_eq hX dX12_chosen_16 rfl rfl ?_ ?_
  · refine a_ic 0 hX dX12_chosen_27 (by decide) rfl ?_
    exact a_iret hX hQ hr dX12_chosen_28
  · refine a_al0 hX dX12_chosen_19 rfl ?_
    refine a_il1 hX dX12_chosen_20 rfl ?_
    refine a_callI hX hR ml_X12_212 (ci_X12_chosenOf _ _ _) s_94 rfl rfl rfl (by decide) (Nat.le_of_ble_eq_true rfl) rfl dX12_chosen_21 rfl (fun x2 => ?_)
    refine a_goto hX dX12_chosen_24 rfl ?_
    exact a_iret hX hQ hr dX12_chosen_28

set_option maxRecDepth 100000 in
set_option maxHeartbeats 2000000 in
theorem a_X12_chosen_0 {X : AX} {r0 : Int32 × Mem} (hX : CX X cX12_chosen 2 RX12) (hR : (aR X).frames = 6 ∧ (aR X).locals = 138 ∧ aCe X ≤ (aR X).cells ∧ aSl X ≤ (aR X).slots) (hQ : QI X r0) (hr : (aMeth X).sig.returnType = (some .int)) (v1 : Int32) (σ : Mem) : AWo X r0 0 [some (.ref 94), some (.int v1)] [] σ (m_X12_chosen v1 σ) := by
  unfold m_X12_chosen
  refine a_al0 hX dX12_chosen_0 rfl ?_
  refine a_il1 hX dX12_chosen_1 rfl ?_
  refine a_callSI hX hR ml_X12_93 (ci_X12_isPackage _ _ _) rfl rfl (by decide) (Nat.le_of_ble_eq_true rfl) rfl dX12_chosen_2 rfl (fun x1 => ?_)
  refine a_if_eq hX dX12_chosen_5 rfl rfl ?_ ?_
  · refine a_ic 1 hX dX12_chosen_12 (by decide) rfl ?_
    exact a_sub (a_X12_chosen_13 hX hR hQ hr v1 1 x1.2) (ls_s (ls_s ls_0))
  · refine a_ic 0 hX dX12_chosen_8 (by decide) rfl ?_
    refine a_goto hX dX12_chosen_9 rfl ?_
    exact a_sub (a_X12_chosen_13 hX hR hQ hr v1 0 x1.2) (ls_s (ls_s ls_0))

set_option maxRecDepth 100000 in
theorem ci_X12_chosen (l : Launch) (v1 : Int32) (σ : Mem) : CI l yX12_chosen cX12_chosen 2 (some .int) 6 138 [.ref 94, .int v1] σ (m_X12_chosen v1 σ) :=
  ci_of (by decide) (by simp [Value.category]) (by simp) (fun X r hl hX hR hQ hr => a_X12_chosen_0 hX hR hQ hr v1 σ)

set_option maxRecDepth 100000 in
set_option maxHeartbeats 2000000 in
theorem a_X12_chosenAnew_13 {X : AX} {r0 : Int32 × Mem} (hX : CX X cX12_chosenAnew 2 RX12) (hR : (aR X).frames = 6 ∧ (aR X).locals = 138 ∧ aCe X ≤ (aR X).cells ∧ aSl X ≤ (aR X).slots) (hQ : QI X r0) (hr : (aMeth X).sig.returnType = (some .int)) (v1 s1 : Int32) (σ : Mem) : AWo X r0 13 [some (.ref 94), some (.int v1)] [.int s1, .ref 94] σ (m_X12_chosenAnew_13 v1 s1 σ) := by
  unfold m_X12_chosenAnew_13
  refine a_callI hX hR ml_X12_101 (ci_X12_goesWell _ _ _) s_94 rfl rfl rfl (by decide) (Nat.le_of_ble_eq_true rfl) rfl dX12_chosenAnew_13 rfl (fun x1 => ?_)
  refine a_if_ne hX dX12_chosenAnew_16 rfl rfl ?_ ?_
  · refine a_al0 hX dX12_chosenAnew_21 rfl ?_
    refine a_ic 0 hX dX12_chosenAnew_22 (by decide) rfl ?_
    refine a_putZ hX fp_X12_104 (by decide) s_94 rfl dX12_chosenAnew_23 rfl ?_
    refine a_nameM (fun m2 => ?_)
    refine a_al0 hX dX12_chosenAnew_26 rfl ?_
    refine a_il1 hX dX12_chosenAnew_27 rfl ?_
    refine a_callI hX hR ml_X12_212 (ci_X12_chosenOf _ _ _) s_94 rfl rfl rfl (by decide) (Nat.le_of_ble_eq_true rfl) rfl dX12_chosenAnew_28 rfl (fun x3 => ?_)
    exact a_iret hX hQ hr dX12_chosenAnew_31
  · refine a_ic 0 hX dX12_chosenAnew_19 (by decide) rfl ?_
    exact a_iret hX hQ hr dX12_chosenAnew_20

set_option maxRecDepth 100000 in
set_option maxHeartbeats 2000000 in
theorem a_X12_chosenAnew_0 {X : AX} {r0 : Int32 × Mem} (hX : CX X cX12_chosenAnew 2 RX12) (hR : (aR X).frames = 6 ∧ (aR X).locals = 138 ∧ aCe X ≤ (aR X).cells ∧ aSl X ≤ (aR X).slots) (hQ : QI X r0) (hr : (aMeth X).sig.returnType = (some .int)) (v1 : Int32) (σ : Mem) : AWo X r0 0 [some (.ref 94), some (.int v1)] [] σ (m_X12_chosenAnew v1 σ) := by
  unfold m_X12_chosenAnew
  refine a_al0 hX dX12_chosenAnew_0 rfl ?_
  refine a_il1 hX dX12_chosenAnew_1 rfl ?_
  refine a_callSI hX hR ml_X12_93 (ci_X12_isPackage _ _ _) rfl rfl (by decide) (Nat.le_of_ble_eq_true rfl) rfl dX12_chosenAnew_2 rfl (fun x1 => ?_)
  refine a_if_eq hX dX12_chosenAnew_5 rfl rfl ?_ ?_
  · refine a_ic 1 hX dX12_chosenAnew_12 (by decide) rfl ?_
    exact a_sub (a_X12_chosenAnew_13 hX hR hQ hr v1 1 x1.2) (ls_s (ls_s ls_0))
  · refine a_ic 0 hX dX12_chosenAnew_8 (by decide) rfl ?_
    refine a_goto hX dX12_chosenAnew_9 rfl ?_
    exact a_sub (a_X12_chosenAnew_13 hX hR hQ hr v1 0 x1.2) (ls_s (ls_s ls_0))

set_option maxRecDepth 100000 in
theorem ci_X12_chosenAnew (l : Launch) (v1 : Int32) (σ : Mem) : CI l yX12_chosenAnew cX12_chosenAnew 2 (some .int) 6 138 [.ref 94, .int v1] σ (m_X12_chosenAnew v1 σ) :=
  ci_of (by decide) (by simp [Value.category]) (by simp) (fun X r hl hX hR hQ hr => a_X12_chosenAnew_0 hX hR hQ hr v1 σ)

set_option maxRecDepth 100000 in
set_option maxHeartbeats 2000000 in
theorem a_X12_features_13 {X : AX} {r0 : Int32 × Mem} (hX : CX X cX12_features 2 RX12) (hR : (aR X).frames = 6 ∧ (aR X).locals = 138 ∧ aCe X ≤ (aR X).cells ∧ aSl X ≤ (aR X).slots) (hQ : QI X r0) (hr : (aMeth X).sig.returnType = (some .int)) (v1 s1 : Int32) (σ : Mem) : AWo X r0 13 [some (.ref 94), some (.int v1)] [.int s1, .ref 94] σ (m_X12_features_13 v1 s1 σ) := by
  unfold m_X12_features_13
  refine a_callI hX hR ml_X12_101 (ci_X12_goesWell _ _ _) s_94 rfl rfl rfl (by decide) (Nat.le_of_ble_eq_true rfl) rfl dX12_features_13 rfl (fun x1 => ?_)
  refine a_if_eq hX dX12_features_16 rfl rfl ?_ ?_
  · refine a_ic 0 hX dX12_features_37 (by decide) rfl ?_
    exact a_iret hX hQ hr dX12_features_38
  · refine a_al0 hX dX12_features_19 rfl ?_
    refine a_il1 hX dX12_features_20 rfl ?_
    refine a_callI hX hR ml_X12_212 (ci_X12_chosenOf _ _ _) s_94 rfl rfl rfl (by decide) (Nat.le_of_ble_eq_true rfl) rfl dX12_features_21 rfl (fun x2 => ?_)
    refine a_ic (-1) hX dX12_features_24 (by decide) rfl ?_
    refine a_icmp_eq hX dX12_features_25 rfl rfl ?_ ?_
    · refine a_ic 0 hX dX12_features_37 (by decide) rfl ?_
      exact a_iret hX hQ hr dX12_features_38
    · refine a_al0 hX dX12_features_28 rfl ?_
      refine a_getR hX fl_X12_69 s_94 rfl dX12_features_29 rfl ?_
      refine a_il1 hX dX12_features_32 rfl ?_
      refine a_ald hX s_113 dX12_features_33 rfl (fun x3 => ?_)
      refine a_goto hX dX12_features_34 rfl ?_
      exact a_iret hX hQ hr dX12_features_38

set_option maxRecDepth 100000 in
set_option maxHeartbeats 2000000 in
theorem a_X12_features_0 {X : AX} {r0 : Int32 × Mem} (hX : CX X cX12_features 2 RX12) (hR : (aR X).frames = 6 ∧ (aR X).locals = 138 ∧ aCe X ≤ (aR X).cells ∧ aSl X ≤ (aR X).slots) (hQ : QI X r0) (hr : (aMeth X).sig.returnType = (some .int)) (v1 : Int32) (σ : Mem) : AWo X r0 0 [some (.ref 94), some (.int v1)] [] σ (m_X12_features v1 σ) := by
  unfold m_X12_features
  refine a_al0 hX dX12_features_0 rfl ?_
  refine a_il1 hX dX12_features_1 rfl ?_
  refine a_callSI hX hR ml_X12_93 (ci_X12_isPackage _ _ _) rfl rfl (by decide) (Nat.le_of_ble_eq_true rfl) rfl dX12_features_2 rfl (fun x1 => ?_)
  refine a_if_eq hX dX12_features_5 rfl rfl ?_ ?_
  · refine a_ic 1 hX dX12_features_12 (by decide) rfl ?_
    exact a_sub (a_X12_features_13 hX hR hQ hr v1 1 x1.2) (ls_s (ls_s ls_0))
  · refine a_ic 0 hX dX12_features_8 (by decide) rfl ?_
    refine a_goto hX dX12_features_9 rfl ?_
    exact a_sub (a_X12_features_13 hX hR hQ hr v1 0 x1.2) (ls_s (ls_s ls_0))

set_option maxRecDepth 100000 in
theorem ci_X12_features (l : Launch) (v1 : Int32) (σ : Mem) : CI l yX12_features cX12_features 2 (some .int) 6 138 [.ref 94, .int v1] σ (m_X12_features v1 σ) :=
  ci_of (by decide) (by simp [Value.category]) (by simp) (fun X r hl hX hR hQ hr => a_X12_features_0 hX hR hQ hr v1 σ)

set_option maxRecDepth 100000 in
set_option maxHeartbeats 2000000 in
theorem a_X12_solutions_0 {X : AX} {r0 : Int32 × Mem} (hX : CX X cX12_solutions 1 RX12) (hR : (aR X).frames = 5 ∧ (aR X).locals = 117 ∧ aCe X ≤ (aR X).cells ∧ aSl X ≤ (aR X).slots) (hQ : QI X r0) (hr : (aMeth X).sig.returnType = (some .int)) (σ : Mem) : AWo X r0 0 [some (.ref 94)] [] σ (m_X12_solutions  σ) := by
  unfold m_X12_solutions
  refine a_al0 hX dX12_solutions_0 rfl ?_
  refine a_ic 0 hX dX12_solutions_1 (by decide) rfl ?_
  refine a_putI hX fp_X12_72 s_94 rfl dX12_solutions_2 rfl ?_
  refine a_nameM (fun m1 => ?_)
  refine a_al0 hX dX12_solutions_5 rfl ?_
  refine a_callV hX hR ml_X12_209 (ci_X12_find _ _) s_94 rfl rfl rfl (by decide) (Nat.le_of_ble_eq_true rfl) rfl dX12_solutions_6 rfl (fun x2 => ?_)
  refine a_al0 hX dX12_solutions_9 rfl ?_
  refine a_getI hX fl_X12_181 s_94 rfl dX12_solutions_10 rfl ?_
  refine a_si 1000 hX dX12_solutions_13 (by decide) rfl ?_
  refine a_icmp_le hX dX12_solutions_16 rfl rfl ?_ ?_
  · refine a_al0 hX dX12_solutions_25 rfl ?_
    refine a_getI hX fl_X12_181 s_94 rfl dX12_solutions_26 rfl ?_
    exact a_iret hX hQ hr dX12_solutions_29
  · refine a_si 1000 hX dX12_solutions_19 (by decide) rfl ?_
    refine a_goto hX dX12_solutions_22 rfl ?_
    exact a_iret hX hQ hr dX12_solutions_29

set_option maxRecDepth 100000 in
theorem ci_X12_solutions (l : Launch) (σ : Mem) : CI l yX12_solutions cX12_solutions 1 (some .int) 5 117 [.ref 94] σ (m_X12_solutions  σ) :=
  ci_of (by decide) (by simp [Value.category]) (by simp) (fun X r hl hX hR hQ hr => a_X12_solutions_0 hX hR hQ hr σ)

set_option maxRecDepth 100000 in
set_option maxHeartbeats 2000000 in
theorem a_X12_bits_4 {X : AX} {r0 : Int32 × Mem} (hX : CX X cX12_bits 3 RX12) (hR : (aR X).frames = 0 ∧ (aR X).locals = 0 ∧ aCe X ≤ (aR X).cells ∧ aSl X ≤ (aR X).slots) (hQ : QI X r0) (hr : (aMeth X).sig.returnType = (some .int)) : ∀ (fuel : Nat) (v0 v1 v2 : Int32) (σ : Mem), AWo X r0 4 [some (.int v0), some (.int v1), some (.int v2)] [] σ (m_X12_bits_4 fuel v0 v1 v2 σ) := by
  intro fuel
  induction fuel with
  | zero => intro v0 v1 v2 σ; exact a_none
  | succ fuel ih =>
    intro v0 v1 v2 σ
    show AWo X r0 4 [some (.int v0), some (.int v1), some (.int v2)] [] σ (m_X12_bits_4 (fuel + 1) v0 v1 v2 σ)
    unfold m_X12_bits_4
    refine a_il2 hX dX12_bits_4 rfl ?_
    refine a_bi 6 hX dX12_bits_5 (by decide) rfl ?_
    refine a_icmp_ge hX dX12_bits_7 rfl rfl ?_ ?_
    · refine a_il1 hX dX12_bits_24 rfl ?_
      exact a_iret hX hQ hr dX12_bits_25
    · refine a_il1 hX dX12_bits_10 rfl ?_
      refine a_il0 hX dX12_bits_11 rfl ?_
      refine a_il2 hX dX12_bits_12 rfl ?_
      refine a_ishr hX dX12_bits_13 rfl ?_
      refine a_ic 1 hX dX12_bits_14 (by decide) rfl ?_
      refine a_iand hX dX12_bits_15 rfl ?_
      refine a_iadd hX dX12_bits_16 rfl ?_
      refine a_name (fun y1 => ?_)
      refine a_is1 hX dX12_bits_17 rfl ?_
      refine a_inc2 1 hX dX12_bits_18 (by decide) rfl ?_
      refine a_goto hX dX12_bits_21 rfl ?_
      exact a_sub (ih v0 y1 (v2 + 1) (σ)) (ls_s (ls_s (ls_s ls_0)))

set_option maxRecDepth 100000 in
set_option maxHeartbeats 2000000 in
theorem a_X12_bits_0 {X : AX} {r0 : Int32 × Mem} (hX : CX X cX12_bits 3 RX12) (hR : (aR X).frames = 0 ∧ (aR X).locals = 0 ∧ aCe X ≤ (aR X).cells ∧ aSl X ≤ (aR X).slots) (hQ : QI X r0) (hr : (aMeth X).sig.returnType = (some .int)) (v0 : Int32) (σ : Mem) : AWo X r0 0 [some (.int v0), none, none] [] σ (m_X12_bits v0 σ) := by
  unfold m_X12_bits
  refine a_ic 0 hX dX12_bits_0 (by decide) rfl ?_
  refine a_is1 hX dX12_bits_1 rfl ?_
  refine a_ic 0 hX dX12_bits_2 (by decide) rfl ?_
  refine a_is2 hX dX12_bits_3 rfl ?_
  exact a_sub (a_X12_bits_4 hX hR hQ hr FU v0 0 0 (σ)) (ls_s (ls_s (ls_s ls_0)))

set_option maxRecDepth 100000 in
theorem ci_X12_bits (l : Launch) (v0 : Int32) (σ : Mem) : CI l yX12_bits cX12_bits 3 (some .int) 0 0 [.int v0] σ (m_X12_bits v0 σ) :=
  ci_of (by decide) (by simp [Value.category]) (by simp) (fun X r hl hX hR hQ hr => a_X12_bits_0 hX hR hQ hr v0 σ)

set_option maxRecDepth 100000 in
set_option maxHeartbeats 2000000 in
theorem a_X12_why_35 {X : AX} {r0 : Int32 × Mem} (hX : CX X cX12_why 4 RX12) (hR : (aR X).frames = 5 ∧ (aR X).locals = 118 ∧ aCe X ≤ (aR X).cells ∧ aSl X ≤ (aR X).slots) (hQ : QI X r0) (hr : (aMeth X).sig.returnType = (some .int)) (f20 : Int32 → Int32 → Mem → Option (Int32 × Mem)) (hf20 : ∀ (v1 v2 : Int32) (σ : Mem), AWo X r0 20 [some (.ref 94), some (.int v1), some (.int v2), none] [] σ (f20 v1 v2 σ)) : ∀ (fuel : Nat) (v1 v2 v3 : Int32) (σ : Mem), AWo X r0 35 [some (.ref 94), some (.int v1), some (.int v2), some (.int v3)] [] σ (m_X12_why_35 f20 fuel v1 v2 v3 σ) := by
  intro fuel
  induction fuel with
  | zero => intro v1 v2 v3 σ; exact a_none
  | succ fuel ih =>
    intro v1 v2 v3 σ
    show AWo X r0 35 [some (.ref 94), some (.int v1), some (.int v2), some (.int v3)] [] σ (m_X12_why_35 f20 (fuel + 1) v1 v2 v3 σ)
    unfold m_X12_why_35
    refine a_il3 hX dX12_why_35 rfl ?_
    refine a_il1 hX dX12_why_36 rfl ?_
    refine a_icmp_gt hX dX12_why_37 rfl rfl ?_ ?_
    · refine a_inc2 1 hX dX12_why_73 (by decide) rfl ?_
      refine a_goto hX dX12_why_76 rfl ?_
      exact a_sub (hf20 v1 (v2 + 1) (σ)) (ls_s (ls_s (ls_s (ls_n ls_0))))
    · refine a_il3 hX dX12_why_40 rfl ?_
      refine a_il1 hX dX12_why_41 rfl ?_
      refine a_ic (-1) hX dX12_why_42 (by decide) rfl ?_
      refine a_ixor hX dX12_why_43 rfl ?_
      refine a_iand hX dX12_why_44 rfl ?_
      refine a_if_ne hX dX12_why_45 rfl rfl ?_ ?_
      · refine a_inc3 1 hX dX12_why_67 (by decide) rfl ?_
        refine a_goto hX dX12_why_70 rfl ?_
        exact a_sub (ih v1 v2 (v3 + 1) (σ)) (ls_s (ls_s (ls_s (ls_s ls_0))))
      · refine a_il3 hX dX12_why_48 rfl ?_
        refine a_callSI hX hR ml_X12_215 (ci_X12_bits _ _ _) rfl rfl (by decide) (Nat.le_of_ble_eq_true rfl) rfl dX12_why_49 rfl (fun x1 => ?_)
        refine a_il2 hX dX12_why_52 rfl ?_
        refine a_icmp_ne hX dX12_why_53 rfl rfl ?_ ?_
        · refine a_inc3 1 hX dX12_why_67 (by decide) rfl ?_
          refine a_goto hX dX12_why_70 rfl ?_
          exact a_sub (ih v1 v2 (v3 + 1) x1.2) (ls_s (ls_s (ls_s (ls_s ls_0))))
        · refine a_al0 hX dX12_why_56 rfl ?_
          refine a_il3 hX dX12_why_57 rfl ?_
          refine a_ic (-1) hX dX12_why_58 (by decide) rfl ?_
          refine a_callI hX hR ml_X12_218 (ci_X12_isSolvable _ _ _ _) s_94 rfl rfl rfl (by decide) (Nat.le_of_ble_eq_true rfl) rfl dX12_why_59 rfl (fun x2 => ?_)
          refine a_if_ne hX dX12_why_62 rfl rfl ?_ ?_
          · refine a_inc3 1 hX dX12_why_67 (by decide) rfl ?_
            refine a_goto hX dX12_why_70 rfl ?_
            exact a_sub (ih v1 v2 (v3 + 1) x2.2) (ls_s (ls_s (ls_s (ls_s ls_0))))
          · refine a_il3 hX dX12_why_65 rfl ?_
            exact a_iret hX hQ hr dX12_why_66

set_option maxRecDepth 100000 in
set_option maxHeartbeats 2000000 in
theorem a_X12_why_20 {X : AX} {r0 : Int32 × Mem} (hX : CX X cX12_why 4 RX12) (hR : (aR X).frames = 5 ∧ (aR X).locals = 118 ∧ aCe X ≤ (aR X).cells ∧ aSl X ≤ (aR X).slots) (hQ : QI X r0) (hr : (aMeth X).sig.returnType = (some .int)) : ∀ (fuel : Nat) (v1 v2 : Int32) (σ : Mem), AWo X r0 20 [some (.ref 94), some (.int v1), some (.int v2), none] [] σ (m_X12_why_20 fuel v1 v2 σ) := by
  intro fuel
  induction fuel with
  | zero => intro v1 v2 σ; exact a_none
  | succ fuel ih =>
    intro v1 v2 σ
    show AWo X r0 20 [some (.ref 94), some (.int v1), some (.int v2), none] [] σ (m_X12_why_20 (fuel + 1) v1 v2 σ)
    unfold m_X12_why_20
    refine a_il2 hX dX12_why_20 rfl ?_
    refine a_bi 6 hX dX12_why_21 (by decide) rfl ?_
    refine a_icmp_gt hX dX12_why_23 rfl rfl ?_ ?_
    · refine a_ic 0 hX dX12_why_79 (by decide) rfl ?_
      exact a_iret hX hQ hr dX12_why_80
    · refine a_al0 hX dX12_why_26 rfl ?_
      refine a_getI hX fl_X12_181 s_94 rfl dX12_why_27 rfl ?_
      refine a_if_ne hX dX12_why_30 rfl rfl ?_ ?_
      · refine a_ic 0 hX dX12_why_79 (by decide) rfl ?_
        exact a_iret hX hQ hr dX12_why_80
      · refine a_ic 1 hX dX12_why_33 (by decide) rfl ?_
        refine a_is3 hX dX12_why_34 rfl ?_
        exact a_sub (a_X12_why_35 hX hR hQ hr (m_X12_why_20 fuel) ih FU v1 v2 1 (σ)) (ls_s (ls_s (ls_s (ls_s ls_0))))

set_option maxRecDepth 100000 in
set_option maxHeartbeats 2000000 in
theorem a_X12_why_0 {X : AX} {r0 : Int32 × Mem} (hX : CX X cX12_why 4 RX12) (hR : (aR X).frames = 5 ∧ (aR X).locals = 118 ∧ aCe X ≤ (aR X).cells ∧ aSl X ≤ (aR X).slots) (hQ : QI X r0) (hr : (aMeth X).sig.returnType = (some .int)) (σ : Mem) : AWo X r0 0 [some (.ref 94), none, none, none] [] σ (m_X12_why  σ) := by
  unfold m_X12_why
  refine a_al0 hX dX12_why_0 rfl ?_
  refine a_ic 0 hX dX12_why_1 (by decide) rfl ?_
  refine a_putI hX fp_X12_72 s_94 rfl dX12_why_2 rfl ?_
  refine a_nameM (fun m1 => ?_)
  refine a_al0 hX dX12_why_5 rfl ?_
  refine a_callV hX hR ml_X12_209 (ci_X12_find _ _) s_94 rfl rfl rfl (by decide) (Nat.le_of_ble_eq_true rfl) rfl dX12_why_6 rfl (fun x2 => ?_)
  refine a_al0 hX dX12_why_9 rfl ?_
  refine a_al0 hX dX12_why_10 rfl ?_
  refine a_getI hX fl_X12_190 s_94 rfl dX12_why_11 rfl ?_
  refine a_callI hX hR ml_X12_193 (ci_X12_demandsOf _ _ _) s_94 rfl rfl rfl (by decide) (Nat.le_of_ble_eq_true rfl) rfl dX12_why_14 rfl (fun x3 => ?_)
  refine a_is1 hX dX12_why_17 rfl ?_
  refine a_ic 1 hX dX12_why_18 (by decide) rfl ?_
  refine a_is2 hX dX12_why_19 rfl ?_
  exact a_sub (a_X12_why_20 hX hR hQ hr FU x3.1 1 x3.2) (ls_s (ls_s (ls_s (ls_n ls_0))))

set_option maxRecDepth 100000 in
theorem ci_X12_why (l : Launch) (σ : Mem) : CI l yX12_why cX12_why 4 (some .int) 5 118 [.ref 94] σ (m_X12_why  σ) :=
  ci_of (by decide) (by simp [Value.category]) (by simp) (fun X r hl hX hR hQ hr => a_X12_why_0 hX hR hQ hr σ)

set_option maxRecDepth 100000 in
set_option maxHeartbeats 2000000 in
theorem a_X12_against_147 {X : AX} {r0 : Int32 × Mem} (hX : CX X cX12_against 5 RX12) (hR : (aR X).frames = 5 ∧ (aR X).locals = 118 ∧ aCe X ≤ (aR X).cells ∧ aSl X ≤ (aR X).slots) (hQ : QI X r0) (hr : (aMeth X).sig.returnType = (some .int)) (v1 v3 : Int32) (σ : Mem) : AWo X r0 147 [some (.ref 94), some (.int v1), none, some (.int v3), none] [] σ (m_X12_against_147 v1 v3 σ) := by
  unfold m_X12_against_147
  refine a_al0 hX dX12_against_147 rfl ?_
  refine a_il3 hX dX12_against_148 rfl ?_
  refine a_il1 hX dX12_against_149 rfl ?_
  refine a_callI hX hR ml_X12_218 (ci_X12_isSolvable _ _ _ _) s_94 rfl rfl rfl (by decide) (Nat.le_of_ble_eq_true rfl) rfl dX12_against_150 rfl (fun x1 => ?_)
  refine a_if_eq hX dX12_against_153 rfl rfl ?_ ?_
  · refine a_bi 6 hX dX12_against_161 (by decide) rfl ?_
    exact a_iret hX hQ hr dX12_against_163
  · refine a_bi 7 hX dX12_against_156 (by decide) rfl ?_
    refine a_goto hX dX12_against_158 rfl ?_
    exact a_iret hX hQ hr dX12_against_163

set_option maxRecDepth 100000 in
set_option maxHeartbeats 2000000 in
theorem a_X12_against_46 {X : AX} {r0 : Int32 × Mem} (hX : CX X cX12_against 5 RX12) (hR : (aR X).frames = 5 ∧ (aR X).locals = 118 ∧ aCe X ≤ (aR X).cells ∧ aSl X ≤ (aR X).slots) (hQ : QI X r0) (hr : (aMeth X).sig.returnType = (some .int)) : ∀ (fuel : Nat) (v1 v3 v4 : Int32) (σ : Mem), AWo X r0 46 [some (.ref 94), some (.int v1), none, some (.int v3), some (.int v4)] [] σ (m_X12_against_46 fuel v1 v3 v4 σ) := by
  intro fuel
  induction fuel with
  | zero => intro v1 v3 v4 σ; exact a_none
  | succ fuel ih =>
    intro v1 v3 v4 σ
    show AWo X r0 46 [some (.ref 94), some (.int v1), none, some (.int v3), some (.int v4)] [] σ (m_X12_against_46 (fuel + 1) v1 v3 v4 σ)
    unfold m_X12_against_46
    refine a_il4 hX dX12_against_46 rfl ?_
    refine a_al0 hX dX12_against_48 rfl ?_
    refine a_getI hX fl_X12_125 s_94 rfl dX12_against_49 rfl ?_
    refine a_icmp_ge hX dX12_against_52 rfl rfl ?_ ?_
    · refine a_al0 hX dX12_against_120 rfl ?_
      refine a_callV hX hR ml_X12_209 (ci_X12_find _ _) s_94 rfl rfl rfl (by decide) (Nat.le_of_ble_eq_true rfl) rfl dX12_against_121 rfl (fun x1 => ?_)
      refine a_al0 hX dX12_against_124 rfl ?_
      refine a_getI hX fl_X12_181 s_94 rfl dX12_against_125 rfl ?_
      refine a_if_le hX dX12_against_128 rfl rfl ?_ ?_
      · exact a_sub (a_X12_against_147 hX hR hQ hr v1 v3 x1.2) (ls_s (ls_s (ls_n (ls_s (ls_n ls_0)))))
      · refine a_al0 hX dX12_against_131 rfl ?_
        refine a_getR hX fl_X12_66 s_94 rfl dX12_against_132 rfl ?_
        refine a_al0 hX dX12_against_135 rfl ?_
        refine a_il1 hX dX12_against_136 rfl ?_
        refine a_callI hX hR ml_X12_97 (ci_X12_packageOf _ _ _) s_94 rfl rfl rfl (by decide) (Nat.le_of_ble_eq_true rfl) rfl dX12_against_137 rfl (fun x2 => ?_)
        refine a_ald hX s_112 dX12_against_140 rfl (fun x3 => ?_)
        refine a_il1 hX dX12_against_141 rfl ?_
        refine a_icmp_ne hX dX12_against_142 rfl rfl ?_ ?_
        · exact a_sub (a_X12_against_147 hX hR hQ hr v1 v3 x2.2) (ls_s (ls_s (ls_n (ls_s (ls_n ls_0)))))
        · refine a_ic 0 hX dX12_against_145 (by decide) rfl ?_
          exact a_iret hX hQ hr dX12_against_146
    · refine a_il3 hX dX12_against_55 rfl ?_
      refine a_il4 hX dX12_against_56 rfl ?_
      refine a_ishr hX dX12_against_58 rfl ?_
      refine a_ic 1 hX dX12_against_59 (by decide) rfl ?_
      refine a_iand hX dX12_against_60 rfl ?_
      refine a_ic 1 hX dX12_against_61 (by decide) rfl ?_
      refine a_icmp_ne hX dX12_against_62 rfl rfl ?_ ?_
      · refine a_inc4 1 hX dX12_against_114 (by decide) rfl ?_
        refine a_goto hX dX12_against_117 rfl ?_
        exact a_sub (ih v1 v3 (v4 + 1) (σ)) (ls_s (ls_s (ls_n (ls_s (ls_s ls_0)))))
      · refine a_al0 hX dX12_against_65 rfl ?_
        refine a_al0 hX dX12_against_66 rfl ?_
        refine a_getR hX fl_X12_26 s_94 rfl dX12_against_67 rfl ?_
        refine a_ic 4 hX dX12_against_70 (by decide) rfl ?_
        refine a_il4 hX dX12_against_71 rfl ?_
        refine a_imul hX dX12_against_73 rfl ?_
        refine a_ic 1 hX dX12_against_74 (by decide) rfl ?_
        refine a_iadd hX dX12_against_75 rfl ?_
        refine a_ald hX s_100 dX12_against_76 rfl (fun x4 => ?_)
        refine a_callI hX hR ml_X12_140 (ci_X12_standsFor _ _ _) s_94 rfl rfl rfl (by decide) (Nat.le_of_ble_eq_true rfl) rfl dX12_against_77 rfl (fun x5 => ?_)
        refine a_al0 hX dX12_against_80 rfl ?_
        refine a_il1 hX dX12_against_81 rfl ?_
        refine a_callI hX hR ml_X12_97 (ci_X12_packageOf _ _ _) s_94 rfl rfl rfl (by decide) (Nat.le_of_ble_eq_true rfl) rfl dX12_against_82 rfl (fun x6 => ?_)
        refine a_icmp_ne hX dX12_against_85 rfl rfl ?_ ?_
        · refine a_inc4 1 hX dX12_against_114 (by decide) rfl ?_
          refine a_goto hX dX12_against_117 rfl ?_
          exact a_sub (ih v1 v3 (v4 + 1) x6.2) (ls_s (ls_s (ls_n (ls_s (ls_s ls_0)))))
        · refine a_al0 hX dX12_against_88 rfl ?_
          refine a_getR hX fl_X12_22 s_94 rfl dX12_against_89 rfl ?_
          refine a_bi 24 hX dX12_against_92 (by decide) rfl ?_
          refine a_al0 hX dX12_against_94 rfl ?_
          refine a_getR hX fl_X12_26 s_94 rfl dX12_against_95 rfl ?_
          refine a_ic 4 hX dX12_against_98 (by decide) rfl ?_
          refine a_il4 hX dX12_against_99 rfl ?_
          refine a_imul hX dX12_against_101 rfl ?_
          refine a_ic 2 hX dX12_against_102 (by decide) rfl ?_
          refine a_iadd hX dX12_against_103 rfl ?_
          refine a_ald hX s_100 dX12_against_104 rfl (fun x7 => ?_)
          refine a_imul hX dX12_against_105 rfl ?_
          refine a_il1 hX dX12_against_106 rfl ?_
          refine a_iadd hX dX12_against_107 rfl ?_
          refine a_zld hX s_99 dX12_against_108 rfl (fun x8 => ?_)
          refine a_if_ne hX dX12_against_109 rfl rfl ?_ ?_
          · refine a_inc4 1 hX dX12_against_114 (by decide) rfl ?_
            refine a_goto hX dX12_against_117 rfl ?_
            exact a_sub (ih v1 v3 (v4 + 1) x6.2) (ls_s (ls_s (ls_n (ls_s (ls_s ls_0)))))
          · refine a_ic 5 hX dX12_against_112 (by decide) rfl ?_
            exact a_iret hX hQ hr dX12_against_113

set_option maxRecDepth 100000 in
set_option maxHeartbeats 2000000 in
theorem a_X12_against_14 {X : AX} {r0 : Int32 × Mem} (hX : CX X cX12_against 5 RX12) (hR : (aR X).frames = 5 ∧ (aR X).locals = 118 ∧ aCe X ≤ (aR X).cells ∧ aSl X ≤ (aR X).slots) (hQ : QI X r0) (hr : (aMeth X).sig.returnType = (some .int)) (v1 s1 : Int32) (σ : Mem) : AWo X r0 14 [some (.ref 94), some (.int v1), none, none, none] [.int s1, .ref 94] σ (m_X12_against_14 v1 s1 σ) := by
  unfold m_X12_against_14
  refine a_callI hX hR ml_X12_101 (ci_X12_goesWell _ _ _) s_94 rfl rfl rfl (by decide) (Nat.le_of_ble_eq_true rfl) rfl dX12_against_14 rfl (fun x1 => ?_)
  refine a_if_ne hX dX12_against_17 rfl rfl ?_ ?_
  · refine a_al0 hX dX12_against_22 rfl ?_
    refine a_il1 hX dX12_against_23 rfl ?_
    refine a_callI hX hR ml_X12_134 (ci_X12_hinders _ _ _) s_94 rfl rfl rfl (by decide) (Nat.le_of_ble_eq_true rfl) rfl dX12_against_24 rfl (fun x2 => ?_)
    refine a_is2 hX dX12_against_27 rfl ?_
    refine a_il2 hX dX12_against_28 rfl ?_
    refine a_if_eq hX dX12_against_29 rfl rfl ?_ ?_
    · refine a_al0 hX dX12_against_34 rfl ?_
      refine a_al0 hX dX12_against_35 rfl ?_
      refine a_getI hX fl_X12_190 s_94 rfl dX12_against_36 rfl ?_
      refine a_callI hX hR ml_X12_193 (ci_X12_demandsOf _ _ _) s_94 rfl rfl rfl (by decide) (Nat.le_of_ble_eq_true rfl) rfl dX12_against_39 rfl (fun x3 => ?_)
      refine a_is3 hX dX12_against_42 rfl ?_
      refine a_ic 0 hX dX12_against_43 (by decide) rfl ?_
      refine a_is4 hX dX12_against_44 rfl ?_
      exact a_sub (a_X12_against_46 hX hR hQ hr FU v1 x3.1 0 x3.2) (ls_s (ls_s (ls_n (ls_s (ls_s ls_0)))))
    · refine a_il2 hX dX12_against_32 rfl ?_
      exact a_iret hX hQ hr dX12_against_33
  · refine a_ic 0 hX dX12_against_20 (by decide) rfl ?_
    exact a_iret hX hQ hr dX12_against_21

set_option maxRecDepth 100000 in
set_option maxHeartbeats 2000000 in
theorem a_X12_against_0 {X : AX} {r0 : Int32 × Mem} (hX : CX X cX12_against 5 RX12) (hR : (aR X).frames = 5 ∧ (aR X).locals = 118 ∧ aCe X ≤ (aR X).cells ∧ aSl X ≤ (aR X).slots) (hQ : QI X r0) (hr : (aMeth X).sig.returnType = (some .int)) (v1 : Int32) (σ : Mem) : AWo X r0 0 [some (.ref 94), some (.int v1), none, none, none] [] σ (m_X12_against v1 σ) := by
  unfold m_X12_against
  refine a_al0 hX dX12_against_0 rfl ?_
  refine a_al0 hX dX12_against_1 rfl ?_
  refine a_il1 hX dX12_against_2 rfl ?_
  refine a_callI hX hR ml_X12_108 (ci_X12_isVersion _ _ _) s_94 rfl rfl rfl (by decide) (Nat.le_of_ble_eq_true rfl) rfl dX12_against_3 rfl (fun x1 => ?_)
  refine a_if_eq hX dX12_against_6 rfl rfl ?_ ?_
  · refine a_ic 1 hX dX12_against_13 (by decide) rfl ?_
    exact a_sub (a_X12_against_14 hX hR hQ hr v1 1 x1.2) (ls_s (ls_s (ls_n (ls_n (ls_n ls_0)))))
  · refine a_ic 0 hX dX12_against_9 (by decide) rfl ?_
    refine a_goto hX dX12_against_10 rfl ?_
    exact a_sub (a_X12_against_14 hX hR hQ hr v1 0 x1.2) (ls_s (ls_s (ls_n (ls_n (ls_n ls_0)))))

set_option maxRecDepth 100000 in
theorem ci_X12_against (l : Launch) (v1 : Int32) (σ : Mem) : CI l yX12_against cX12_against 5 (some .int) 5 118 [.ref 94, .int v1] σ (m_X12_against v1 σ) :=
  ci_of (by decide) (by simp [Value.category]) (by simp) (fun X r hl hX hR hQ hr => a_X12_against_0 hX hR hQ hr v1 σ)

set_option maxRecDepth 100000 in
set_option maxHeartbeats 2000000 in
theorem a_X12_lock_56 {X : AX} {r0 : Int32 × Mem} (hX : CX X cX12_lock 3 RX12) (hR : (aR X).frames = 5 ∧ (aR X).locals = 117 ∧ aCe X ≤ (aR X).cells ∧ aSl X ≤ (aR X).slots) (hQ : QI X r0) (hr : (aMeth X).sig.returnType = (some .int)) (f29 : Int32 → Int32 → Mem → Option (Int32 × Mem)) (hf29 : ∀ (v1 v2 : Int32) (σ : Mem), AWo X r0 29 [some (.ref 94), some (.int v1), some (.int v2)] [] σ (f29 v1 v2 σ)) (v2 s0 s1 : Int32) (σ : Mem) : AWo X r0 56 [some (.ref 94), none, some (.int v2)] [.int s1, .int s0] σ (m_X12_lock_56 f29 v2 s0 s1 σ) := by
  unfold m_X12_lock_56
  refine a_iadd hX dX12_lock_56 rfl ?_
  refine a_name (fun y1 => ?_)
  refine a_is1 hX dX12_lock_57 rfl ?_
  refine a_al0 hX dX12_lock_58 rfl ?_
  refine a_getR hX fl_X12_35 s_94 rfl dX12_lock_59 rfl ?_
  refine a_il2 hX dX12_lock_62 rfl ?_
  refine a_al0 hX dX12_lock_63 rfl ?_
  refine a_getR hX fl_X12_66 s_94 rfl dX12_lock_64 rfl ?_
  refine a_il2 hX dX12_lock_67 rfl ?_
  refine a_ald hX s_112 dX12_lock_68 rfl (fun x2 => ?_)
  refine a_ast hX s_103 dX12_lock_69 rfl (fun m3 => ?_)
  refine a_inc2 1 hX dX12_lock_70 (by decide) rfl ?_
  refine a_goto hX dX12_lock_73 rfl ?_
  exact a_sub (hf29 y1 (v2 + 1) m3) (ls_s (ls_s (ls_s ls_0)))

set_option maxRecDepth 100000 in
set_option maxHeartbeats 2000000 in
theorem a_X12_lock_29 {X : AX} {r0 : Int32 × Mem} (hX : CX X cX12_lock 3 RX12) (hR : (aR X).frames = 5 ∧ (aR X).locals = 117 ∧ aCe X ≤ (aR X).cells ∧ aSl X ≤ (aR X).slots) (hQ : QI X r0) (hr : (aMeth X).sig.returnType = (some .int)) : ∀ (fuel : Nat) (v1 v2 : Int32) (σ : Mem), AWo X r0 29 [some (.ref 94), some (.int v1), some (.int v2)] [] σ (m_X12_lock_29 fuel v1 v2 σ) := by
  intro fuel
  induction fuel with
  | zero => intro v1 v2 σ; exact a_none
  | succ fuel ih =>
    intro v1 v2 σ
    show AWo X r0 29 [some (.ref 94), some (.int v1), some (.int v2)] [] σ (m_X12_lock_29 (fuel + 1) v1 v2 σ)
    unfold m_X12_lock_29
    refine a_il2 hX dX12_lock_29 rfl ?_
    refine a_bi 6 hX dX12_lock_30 (by decide) rfl ?_
    refine a_icmp_ge hX dX12_lock_32 rfl rfl ?_ ?_
    · refine a_al0 hX dX12_lock_76 rfl ?_
      refine a_ic 0 hX dX12_lock_77 (by decide) rfl ?_
      refine a_putZ hX fp_X12_104 (by decide) s_94 rfl dX12_lock_78 rfl ?_
      refine a_nameM (fun m1 => ?_)
      refine a_il1 hX dX12_lock_81 rfl ?_
      exact a_iret hX hQ hr dX12_lock_82
    · refine a_il1 hX dX12_lock_35 rfl ?_
      refine a_al0 hX dX12_lock_36 rfl ?_
      refine a_getR hX fl_X12_35 s_94 rfl dX12_lock_37 rfl ?_
      refine a_il2 hX dX12_lock_40 rfl ?_
      refine a_ald hX s_103 dX12_lock_41 rfl (fun x2 => ?_)
      refine a_al0 hX dX12_lock_42 rfl ?_
      refine a_getR hX fl_X12_66 s_94 rfl dX12_lock_43 rfl ?_
      refine a_il2 hX dX12_lock_46 rfl ?_
      refine a_ald hX s_112 dX12_lock_47 rfl (fun x3 => ?_)
      refine a_icmp_ne hX dX12_lock_48 rfl rfl ?_ ?_
      · refine a_ic 1 hX dX12_lock_55 (by decide) rfl ?_
        exact a_sub (a_X12_lock_56 hX hR hQ hr (m_X12_lock_29 fuel) ih v2 v1 1 (σ)) (ls_s (ls_n (ls_s ls_0)))
      · refine a_ic 0 hX dX12_lock_51 (by decide) rfl ?_
        refine a_goto hX dX12_lock_52 rfl ?_
        exact a_sub (a_X12_lock_56 hX hR hQ hr (m_X12_lock_29 fuel) ih v2 v1 0 (σ)) (ls_s (ls_n (ls_s ls_0)))

set_option maxRecDepth 100000 in
set_option maxHeartbeats 2000000 in
theorem a_X12_lock_17 {X : AX} {r0 : Int32 × Mem} (hX : CX X cX12_lock 3 RX12) (hR : (aR X).frames = 5 ∧ (aR X).locals = 117 ∧ aCe X ≤ (aR X).cells ∧ aSl X ≤ (aR X).slots) (hQ : QI X r0) (hr : (aMeth X).sig.returnType = (some .int)) (s1 : Int32) (σ : Mem) : AWo X r0 17 [some (.ref 94), none, none] [.int s1, .ref 94] σ (m_X12_lock_17 s1 σ) := by
  unfold m_X12_lock_17
  refine a_callI hX hR ml_X12_101 (ci_X12_goesWell _ _ _) s_94 rfl rfl rfl (by decide) (Nat.le_of_ble_eq_true rfl) rfl dX12_lock_17 rfl (fun x1 => ?_)
  refine a_if_ne hX dX12_lock_20 rfl rfl ?_ ?_
  · refine a_ic 0 hX dX12_lock_25 (by decide) rfl ?_
    refine a_is1 hX dX12_lock_26 rfl ?_
    refine a_ic 0 hX dX12_lock_27 (by decide) rfl ?_
    refine a_is2 hX dX12_lock_28 rfl ?_
    exact a_sub (a_X12_lock_29 hX hR hQ hr FU 0 0 x1.2) (ls_s (ls_s (ls_s ls_0)))
  · refine a_ic 0 hX dX12_lock_23 (by decide) rfl ?_
    exact a_iret hX hQ hr dX12_lock_24

set_option maxRecDepth 100000 in
set_option maxHeartbeats 2000000 in
theorem a_X12_lock_0 {X : AX} {r0 : Int32 × Mem} (hX : CX X cX12_lock 3 RX12) (hR : (aR X).frames = 5 ∧ (aR X).locals = 117 ∧ aCe X ≤ (aR X).cells ∧ aSl X ≤ (aR X).slots) (hQ : QI X r0) (hr : (aMeth X).sig.returnType = (some .int)) (σ : Mem) : AWo X r0 0 [some (.ref 94), none, none] [] σ (m_X12_lock  σ) := by
  unfold m_X12_lock
  refine a_al0 hX dX12_lock_0 rfl ?_
  refine a_callV hX hR ml_X12_209 (ci_X12_find _ _) s_94 rfl rfl rfl (by decide) (Nat.le_of_ble_eq_true rfl) rfl dX12_lock_1 rfl (fun x1 => ?_)
  refine a_al0 hX dX12_lock_4 rfl ?_
  refine a_al0 hX dX12_lock_5 rfl ?_
  refine a_getI hX fl_X12_181 s_94 rfl dX12_lock_6 rfl ?_
  refine a_if_ne hX dX12_lock_9 rfl rfl ?_ ?_
  · refine a_ic 0 hX dX12_lock_16 (by decide) rfl ?_
    exact a_sub (a_X12_lock_17 hX hR hQ hr 0 x1.2) (ls_s (ls_n (ls_n ls_0)))
  · refine a_ic 1 hX dX12_lock_12 (by decide) rfl ?_
    refine a_goto hX dX12_lock_13 rfl ?_
    exact a_sub (a_X12_lock_17 hX hR hQ hr 1 x1.2) (ls_s (ls_n (ls_n ls_0)))

set_option maxRecDepth 100000 in
theorem ci_X12_lock (l : Launch) (σ : Mem) : CI l yX12_lock cX12_lock 3 (some .int) 5 117 [.ref 94] σ (m_X12_lock  σ) :=
  ci_of (by decide) (by simp [Value.category]) (by simp) (fun X r hl hX hR hQ hr => a_X12_lock_0 hX hR hQ hr σ)

set_option maxRecDepth 100000 in
set_option maxHeartbeats 2000000 in
theorem a_X12_unlock_13 {X : AX} {r0 : Int32 × Mem} (hX : CX X cX12_unlock 3 RX12) (hR : (aR X).frames = 2 ∧ (aR X).locals = 42 ∧ aCe X ≤ (aR X).cells ∧ aSl X ≤ (aR X).slots) (hQ : QI X r0) (hr : (aMeth X).sig.returnType = (some .int)) (v1 s1 : Int32) (σ : Mem) : AWo X r0 13 [some (.ref 94), some (.int v1), none] [.int s1, .ref 94] σ (m_X12_unlock_13 v1 s1 σ) := by
  unfold m_X12_unlock_13
  refine a_callI hX hR ml_X12_101 (ci_X12_goesWell _ _ _) s_94 rfl rfl rfl (by decide) (Nat.le_of_ble_eq_true rfl) rfl dX12_unlock_13 rfl (fun x1 => ?_)
  refine a_if_ne hX dX12_unlock_16 rfl rfl ?_ ?_
  · refine a_al0 hX dX12_unlock_21 rfl ?_
    refine a_getR hX fl_X12_35 s_94 rfl dX12_unlock_22 rfl ?_
    refine a_il1 hX dX12_unlock_25 rfl ?_
    refine a_ald hX s_103 dX12_unlock_26 rfl (fun x2 => ?_)
    refine a_is2 hX dX12_unlock_27 rfl ?_
    refine a_al0 hX dX12_unlock_28 rfl ?_
    refine a_getR hX fl_X12_35 s_94 rfl dX12_unlock_29 rfl ?_
    refine a_il1 hX dX12_unlock_32 rfl ?_
    refine a_ic (-1) hX dX12_unlock_33 (by decide) rfl ?_
    refine a_ast hX s_103 dX12_unlock_34 rfl (fun m3 => ?_)
    refine a_al0 hX dX12_unlock_35 rfl ?_
    refine a_ic 0 hX dX12_unlock_36 (by decide) rfl ?_
    refine a_putZ hX fp_X12_104 (by decide) s_94 rfl dX12_unlock_37 rfl ?_
    refine a_nameM (fun m4 => ?_)
    refine a_il2 hX dX12_unlock_40 rfl ?_
    exact a_iret hX hQ hr dX12_unlock_41
  · refine a_ic 0 hX dX12_unlock_19 (by decide) rfl ?_
    exact a_iret hX hQ hr dX12_unlock_20

set_option maxRecDepth 100000 in
set_option maxHeartbeats 2000000 in
theorem a_X12_unlock_0 {X : AX} {r0 : Int32 × Mem} (hX : CX X cX12_unlock 3 RX12) (hR : (aR X).frames = 2 ∧ (aR X).locals = 42 ∧ aCe X ≤ (aR X).cells ∧ aSl X ≤ (aR X).slots) (hQ : QI X r0) (hr : (aMeth X).sig.returnType = (some .int)) (v1 : Int32) (σ : Mem) : AWo X r0 0 [some (.ref 94), some (.int v1), none] [] σ (m_X12_unlock v1 σ) := by
  unfold m_X12_unlock
  refine a_al0 hX dX12_unlock_0 rfl ?_
  refine a_il1 hX dX12_unlock_1 rfl ?_
  refine a_callSI hX hR ml_X12_93 (ci_X12_isPackage _ _ _) rfl rfl (by decide) (Nat.le_of_ble_eq_true rfl) rfl dX12_unlock_2 rfl (fun x1 => ?_)
  refine a_if_eq hX dX12_unlock_5 rfl rfl ?_ ?_
  · refine a_ic 1 hX dX12_unlock_12 (by decide) rfl ?_
    exact a_sub (a_X12_unlock_13 hX hR hQ hr v1 1 x1.2) (ls_s (ls_s (ls_n ls_0)))
  · refine a_ic 0 hX dX12_unlock_8 (by decide) rfl ?_
    refine a_goto hX dX12_unlock_9 rfl ?_
    exact a_sub (a_X12_unlock_13 hX hR hQ hr v1 0 x1.2) (ls_s (ls_s (ls_n ls_0)))

set_option maxRecDepth 100000 in
theorem ci_X12_unlock (l : Launch) (v1 : Int32) (σ : Mem) : CI l yX12_unlock cX12_unlock 3 (some .int) 2 42 [.ref 94, .int v1] σ (m_X12_unlock v1 σ) :=
  ci_of (by decide) (by simp [Value.category]) (by simp) (fun X r hl hX hR hQ hr => a_X12_unlock_0 hX hR hQ hr v1 σ)

set_option maxRecDepth 100000 in
set_option maxHeartbeats 2000000 in
theorem a_X12_sumOf_0 {X : AX} {r0 : Int32 × Mem} (hX : CX X cX12_sumOf 3 RX12) (hR : (aR X).frames = 0 ∧ (aR X).locals = 0 ∧ aCe X ≤ (aR X).cells ∧ aSl X ≤ (aR X).slots) (hQ : QI X r0) (hr : (aMeth X).sig.returnType = (some .int)) (v1 : Int32) (σ : Mem) : AWo X r0 0 [some (.ref 94), some (.int v1), none] [] σ (m_X12_sumOf v1 σ) := by
  unfold m_X12_sumOf
  refine a_bi 9 hX dX12_sumOf_0 (by decide) rfl ?_
  refine a_il1 hX dX12_sumOf_2 rfl ?_
  refine a_imul hX dX12_sumOf_3 rfl ?_
  refine a_name (fun y1 => ?_)
  refine a_is2 hX dX12_sumOf_4 rfl ?_
  refine a_bi 31 hX dX12_sumOf_5 (by decide) rfl ?_
  refine a_il1 hX dX12_sumOf_7 rfl ?_
  refine a_imul hX dX12_sumOf_8 rfl ?_
  refine a_bi 7 hX dX12_sumOf_9 (by decide) rfl ?_
  refine a_al0 hX dX12_sumOf_11 rfl ?_
  refine a_getR hX fl_X12_7 s_94 rfl dX12_sumOf_12 rfl ?_
  refine a_il2 hX dX12_sumOf_15 rfl ?_
  refine a_ic 1 hX dX12_sumOf_16 (by decide) rfl ?_
  refine a_iadd hX dX12_sumOf_17 rfl ?_
  refine a_ald hX s_95 dX12_sumOf_18 rfl (fun x2 => ?_)
  refine a_imul hX dX12_sumOf_19 rfl ?_
  refine a_iadd hX dX12_sumOf_20 rfl ?_
  refine a_ic 5 hX dX12_sumOf_21 (by decide) rfl ?_
  refine a_al0 hX dX12_sumOf_22 rfl ?_
  refine a_getR hX fl_X12_7 s_94 rfl dX12_sumOf_23 rfl ?_
  refine a_il2 hX dX12_sumOf_26 rfl ?_
  refine a_ic 2 hX dX12_sumOf_27 (by decide) rfl ?_
  refine a_iadd hX dX12_sumOf_28 rfl ?_
  refine a_ald hX s_95 dX12_sumOf_29 rfl (fun x3 => ?_)
  refine a_imul hX dX12_sumOf_30 rfl ?_
  refine a_iadd hX dX12_sumOf_31 rfl ?_
  refine a_ic 3 hX dX12_sumOf_32 (by decide) rfl ?_
  refine a_al0 hX dX12_sumOf_33 rfl ?_
  refine a_getR hX fl_X12_7 s_94 rfl dX12_sumOf_34 rfl ?_
  refine a_il2 hX dX12_sumOf_37 rfl ?_
  refine a_ic 3 hX dX12_sumOf_38 (by decide) rfl ?_
  refine a_iadd hX dX12_sumOf_39 rfl ?_
  refine a_ald hX s_95 dX12_sumOf_40 rfl (fun x4 => ?_)
  refine a_imul hX dX12_sumOf_41 rfl ?_
  refine a_iadd hX dX12_sumOf_42 rfl ?_
  refine a_al0 hX dX12_sumOf_43 rfl ?_
  refine a_getR hX fl_X12_7 s_94 rfl dX12_sumOf_44 rfl ?_
  refine a_il2 hX dX12_sumOf_47 rfl ?_
  refine a_ic 4 hX dX12_sumOf_48 (by decide) rfl ?_
  refine a_iadd hX dX12_sumOf_49 rfl ?_
  refine a_ald hX s_95 dX12_sumOf_50 rfl (fun x5 => ?_)
  refine a_iadd hX dX12_sumOf_51 rfl ?_
  refine a_ic 1 hX dX12_sumOf_52 (by decide) rfl ?_
  refine a_iadd hX dX12_sumOf_53 rfl ?_
  refine a_si 9973 hX dX12_sumOf_54 (by decide) rfl ?_
  refine a_irem hX dX12_sumOf_57 (by decide) rfl ?_
  exact a_iret hX hQ hr dX12_sumOf_58

set_option maxRecDepth 100000 in
theorem ci_X12_sumOf (l : Launch) (v1 : Int32) (σ : Mem) : CI l yX12_sumOf cX12_sumOf 3 (some .int) 0 0 [.ref 94, .int v1] σ (m_X12_sumOf v1 σ) :=
  ci_of (by decide) (by simp [Value.category]) (by simp) (fun X r hl hX hR hQ hr => a_X12_sumOf_0 hX hR hQ hr v1 σ)

set_option maxRecDepth 100000 in
set_option maxHeartbeats 2000000 in
theorem a_X12_isRightOnDisk_0 {X : AX} {r0 : Int32 × Mem} (hX : CX X cX12_isRightOnDisk 2 RX12) (hR : (aR X).frames = 1 ∧ (aR X).locals = 22 ∧ aCe X ≤ (aR X).cells ∧ aSl X ≤ (aR X).slots) (hQ : QI X r0) (hr : (aMeth X).sig.returnType = (some .boolean)) (v1 : Int32) (σ : Mem) : AWo X r0 0 [some (.ref 94), some (.int v1)] [] σ (m_X12_isRightOnDisk v1 σ) := by
  unfold m_X12_isRightOnDisk
  refine a_al0 hX dX12_isRightOnDisk_0 rfl ?_
  refine a_getR hX fl_X12_38 s_94 rfl dX12_isRightOnDisk_1 rfl ?_
  refine a_il1 hX dX12_isRightOnDisk_4 rfl ?_
  refine a_ald hX s_104 dX12_isRightOnDisk_5 rfl (fun x1 => ?_)
  refine a_al0 hX dX12_isRightOnDisk_6 rfl ?_
  refine a_getR hX fl_X12_66 s_94 rfl dX12_isRightOnDisk_7 rfl ?_
  refine a_il1 hX dX12_isRightOnDisk_10 rfl ?_
  refine a_ald hX s_112 dX12_isRightOnDisk_11 rfl (fun x2 => ?_)
  refine a_icmp_ne hX dX12_isRightOnDisk_12 rfl rfl ?_ ?_
  · refine a_ic 0 hX dX12_isRightOnDisk_48 (by decide) rfl ?_
    exact a_zret0 (by decide) hX hQ hr dX12_isRightOnDisk_49
  · refine a_al0 hX dX12_isRightOnDisk_15 rfl ?_
    refine a_getR hX fl_X12_66 s_94 rfl dX12_isRightOnDisk_16 rfl ?_
    refine a_il1 hX dX12_isRightOnDisk_19 rfl ?_
    refine a_ald hX s_112 dX12_isRightOnDisk_20 rfl (fun x3 => ?_)
    refine a_ic (-1) hX dX12_isRightOnDisk_21 (by decide) rfl ?_
    refine a_icmp_eq hX dX12_isRightOnDisk_22 rfl rfl ?_ ?_
    · refine a_ic 1 hX dX12_isRightOnDisk_44 (by decide) rfl ?_
      refine a_goto hX dX12_isRightOnDisk_45 rfl ?_
      exact a_zret0 (by decide) hX hQ hr dX12_isRightOnDisk_49
    · refine a_al0 hX dX12_isRightOnDisk_25 rfl ?_
      refine a_getR hX fl_X12_41 s_94 rfl dX12_isRightOnDisk_26 rfl ?_
      refine a_il1 hX dX12_isRightOnDisk_29 rfl ?_
      refine a_ald hX s_105 dX12_isRightOnDisk_30 rfl (fun x4 => ?_)
      refine a_al0 hX dX12_isRightOnDisk_31 rfl ?_
      refine a_al0 hX dX12_isRightOnDisk_32 rfl ?_
      refine a_getR hX fl_X12_66 s_94 rfl dX12_isRightOnDisk_33 rfl ?_
      refine a_il1 hX dX12_isRightOnDisk_36 rfl ?_
      refine a_ald hX s_112 dX12_isRightOnDisk_37 rfl (fun x5 => ?_)
      refine a_callI hX hR ml_X12_221 (ci_X12_sumOf _ _ _) s_94 rfl rfl rfl (by decide) (Nat.le_of_ble_eq_true rfl) rfl dX12_isRightOnDisk_38 rfl (fun x6 => ?_)
      refine a_icmp_ne hX dX12_isRightOnDisk_41 rfl rfl ?_ ?_
      · refine a_ic 0 hX dX12_isRightOnDisk_48 (by decide) rfl ?_
        exact a_zret0 (by decide) hX hQ hr dX12_isRightOnDisk_49
      · refine a_ic 1 hX dX12_isRightOnDisk_44 (by decide) rfl ?_
        refine a_goto hX dX12_isRightOnDisk_45 rfl ?_
        exact a_zret0 (by decide) hX hQ hr dX12_isRightOnDisk_49

set_option maxRecDepth 100000 in
theorem ci_X12_isRightOnDisk (l : Launch) (v1 : Int32) (σ : Mem) : CI l yX12_isRightOnDisk cX12_isRightOnDisk 2 (some .boolean) 1 22 [.ref 94, .int v1] σ (m_X12_isRightOnDisk v1 σ) :=
  ci_of (by decide) (by simp [Value.category]) (by simp) (fun X r hl hX hR hQ hr => a_X12_isRightOnDisk_0 hX hR hQ hr v1 σ)

set_option maxRecDepth 100000 in
set_option maxHeartbeats 2000000 in
theorem a_X12_install_103 {X : AX} {r0 : Int32 × Mem} (hX : CX X cX12_install 4 RX12) (hR : (aR X).frames = 5 ∧ (aR X).locals = 117 ∧ aCe X ≤ (aR X).cells ∧ aSl X ≤ (aR X).slots) (hQ : QI X r0) (hr : (aMeth X).sig.returnType = (some .int)) (f43 : Int32 → Int32 → Int32 → Mem → Option (Int32 × Mem)) (hf43 : ∀ (v1 v2 v3 : Int32) (σ : Mem), AWo X r0 43 [some (.ref 94), some (.int v1), some (.int v2), some (.int v3)] [] σ (f43 v1 v2 v3 σ)) (v1 v2 v3 s1 s2 : Int32) (σ : Mem) : AWo X r0 103 [some (.ref 94), some (.int v1), some (.int v2), some (.int v3)] [.int s2, .int s1, .ref 105] σ (m_X12_install_103 f43 v1 v2 v3 s1 s2 σ) := by
  unfold m_X12_install_103
  refine a_ast hX s_105 dX12_install_103 rfl (fun m1 => ?_)
  refine a_inc2 1 hX dX12_install_104 (by decide) rfl ?_
  refine a_inc3 1 hX dX12_install_107 (by decide) rfl ?_
  refine a_goto hX dX12_install_110 rfl ?_
  exact a_sub (hf43 v1 (v2 + 1) (v3 + 1) m1) (ls_s (ls_s (ls_s (ls_s ls_0))))

set_option maxRecDepth 100000 in
set_option maxHeartbeats 2000000 in
theorem a_X12_install_43 {X : AX} {r0 : Int32 × Mem} (hX : CX X cX12_install 4 RX12) (hR : (aR X).frames = 5 ∧ (aR X).locals = 117 ∧ aCe X ≤ (aR X).cells ∧ aSl X ≤ (aR X).slots) (hQ : QI X r0) (hr : (aMeth X).sig.returnType = (some .int)) : ∀ (fuel : Nat) (v1 v2 v3 : Int32) (σ : Mem), AWo X r0 43 [some (.ref 94), some (.int v1), some (.int v2), some (.int v3)] [] σ (m_X12_install_43 fuel v1 v2 v3 σ) := by
  intro fuel
  induction fuel with
  | zero => intro v1 v2 v3 σ; exact a_none
  | succ fuel ih =>
    intro v1 v2 v3 σ
    show AWo X r0 43 [some (.ref 94), some (.int v1), some (.int v2), some (.int v3)] [] σ (m_X12_install_43 (fuel + 1) v1 v2 v3 σ)
    unfold m_X12_install_43
    refine a_il3 hX dX12_install_43 rfl ?_
    refine a_bi 6 hX dX12_install_44 (by decide) rfl ?_
    refine a_icmp_ge hX dX12_install_46 rfl rfl ?_ ?_
    · refine a_il2 hX dX12_install_113 rfl ?_
      exact a_iret hX hQ hr dX12_install_114
    · refine a_il2 hX dX12_install_49 rfl ?_
      refine a_il1 hX dX12_install_50 rfl ?_
      refine a_icmp_ge hX dX12_install_51 rfl rfl ?_ ?_
      · refine a_il2 hX dX12_install_113 rfl ?_
        exact a_iret hX hQ hr dX12_install_114
      · refine a_al0 hX dX12_install_54 rfl ?_
        refine a_il3 hX dX12_install_55 rfl ?_
        refine a_callI hX hR ml_X12_224 (ci_X12_isRightOnDisk _ _ _) s_94 rfl rfl rfl (by decide) (Nat.le_of_ble_eq_true rfl) rfl dX12_install_56 rfl (fun x1 => ?_)
        refine a_if_ne hX dX12_install_59 rfl rfl ?_ ?_
        · refine a_inc3 1 hX dX12_install_107 (by decide) rfl ?_
          refine a_goto hX dX12_install_110 rfl ?_
          exact a_sub (ih v1 v2 (v3 + 1) x1.2) (ls_s (ls_s (ls_s (ls_s ls_0))))
        · refine a_al0 hX dX12_install_62 rfl ?_
          refine a_getR hX fl_X12_38 s_94 rfl dX12_install_63 rfl ?_
          refine a_il3 hX dX12_install_66 rfl ?_
          refine a_al0 hX dX12_install_67 rfl ?_
          refine a_getR hX fl_X12_66 s_94 rfl dX12_install_68 rfl ?_
          refine a_il3 hX dX12_install_71 rfl ?_
          refine a_ald hX s_112 dX12_install_72 rfl (fun x2 => ?_)
          refine a_ast hX s_104 dX12_install_73 rfl (fun m3 => ?_)
          refine a_al0 hX dX12_install_74 rfl ?_
          refine a_getR hX fl_X12_41 s_94 rfl dX12_install_75 rfl ?_
          refine a_il3 hX dX12_install_78 rfl ?_
          refine a_al0 hX dX12_install_79 rfl ?_
          refine a_getR hX fl_X12_66 s_94 rfl dX12_install_80 rfl ?_
          refine a_il3 hX dX12_install_83 rfl ?_
          refine a_ald hX s_112 dX12_install_84 rfl (fun x4 => ?_)
          refine a_ic (-1) hX dX12_install_85 (by decide) rfl ?_
          refine a_icmp_ne hX dX12_install_86 rfl rfl ?_ ?_
          · refine a_al0 hX dX12_install_93 rfl ?_
            refine a_al0 hX dX12_install_94 rfl ?_
            refine a_getR hX fl_X12_66 s_94 rfl dX12_install_95 rfl ?_
            refine a_il3 hX dX12_install_98 rfl ?_
            refine a_ald hX s_112 dX12_install_99 rfl (fun x5 => ?_)
            refine a_callI hX hR ml_X12_221 (ci_X12_sumOf _ _ _) s_94 rfl rfl rfl (by decide) (Nat.le_of_ble_eq_true rfl) rfl dX12_install_100 rfl (fun x6 => ?_)
            exact a_sub (a_X12_install_103 hX hR hQ hr (m_X12_install_43 fuel) ih v1 v2 v3 v3 x6.1 x6.2) (ls_s (ls_s (ls_s (ls_s ls_0))))
          · refine a_ic 0 hX dX12_install_89 (by decide) rfl ?_
            refine a_goto hX dX12_install_90 rfl ?_
            exact a_sub (a_X12_install_103 hX hR hQ hr (m_X12_install_43 fuel) ih v1 v2 v3 v3 0 m3) (ls_s (ls_s (ls_s (ls_s ls_0))))

set_option maxRecDepth 100000 in
set_option maxHeartbeats 2000000 in
theorem a_X12_install_31 {X : AX} {r0 : Int32 × Mem} (hX : CX X cX12_install 4 RX12) (hR : (aR X).frames = 5 ∧ (aR X).locals = 117 ∧ aCe X ≤ (aR X).cells ∧ aSl X ≤ (aR X).slots) (hQ : QI X r0) (hr : (aMeth X).sig.returnType = (some .int)) (v1 s1 : Int32) (σ : Mem) : AWo X r0 31 [some (.ref 94), some (.int v1), none, none] [.int s1, .ref 94] σ (m_X12_install_31 v1 s1 σ) := by
  unfold m_X12_install_31
  refine a_callI hX hR ml_X12_101 (ci_X12_goesWell _ _ _) s_94 rfl rfl rfl (by decide) (Nat.le_of_ble_eq_true rfl) rfl dX12_install_31 rfl (fun x1 => ?_)
  refine a_if_ne hX dX12_install_34 rfl rfl ?_ ?_
  · refine a_ic 0 hX dX12_install_39 (by decide) rfl ?_
    refine a_is2 hX dX12_install_40 rfl ?_
    refine a_ic 0 hX dX12_install_41 (by decide) rfl ?_
    refine a_is3 hX dX12_install_42 rfl ?_
    exact a_sub (a_X12_install_43 hX hR hQ hr FU v1 0 0 x1.2) (ls_s (ls_s (ls_s (ls_s ls_0))))
  · refine a_ic 0 hX dX12_install_37 (by decide) rfl ?_
    exact a_iret hX hQ hr dX12_install_38

set_option maxRecDepth 100000 in
set_option maxHeartbeats 2000000 in
theorem a_X12_install_0 {X : AX} {r0 : Int32 × Mem} (hX : CX X cX12_install 4 RX12) (hR : (aR X).frames = 5 ∧ (aR X).locals = 117 ∧ aCe X ≤ (aR X).cells ∧ aSl X ≤ (aR X).slots) (hQ : QI X r0) (hr : (aMeth X).sig.returnType = (some .int)) (v1 : Int32) (σ : Mem) : AWo X r0 0 [some (.ref 94), some (.int v1), none, none] [] σ (m_X12_install v1 σ) := by
  unfold m_X12_install
  refine a_al0 hX dX12_install_0 rfl ?_
  refine a_callV hX hR ml_X12_209 (ci_X12_find _ _) s_94 rfl rfl rfl (by decide) (Nat.le_of_ble_eq_true rfl) rfl dX12_install_1 rfl (fun x1 => ?_)
  refine a_al0 hX dX12_install_4 rfl ?_
  refine a_il1 hX dX12_install_5 rfl ?_
  refine a_ic 1 hX dX12_install_6 (by decide) rfl ?_
  refine a_bi 10 hX dX12_install_7 (by decide) rfl ?_
  refine a_callSI hX hR ml_X12_75 (ci_X12_in _ _ _ _ _) rfl rfl (by decide) (Nat.le_of_ble_eq_true rfl) rfl dX12_install_9 rfl (fun x2 => ?_)
  refine a_if_ne hX dX12_install_12 rfl rfl ?_ ?_
  · refine a_al0 hX dX12_install_19 rfl ?_
    refine a_getI hX fl_X12_181 s_94 rfl dX12_install_20 rfl ?_
    refine a_if_ne hX dX12_install_23 rfl rfl ?_ ?_
    · refine a_ic 0 hX dX12_install_30 (by decide) rfl ?_
      exact a_sub (a_X12_install_31 hX hR hQ hr v1 0 x2.2) (ls_s (ls_s (ls_n (ls_n ls_0))))
    · refine a_ic 2 hX dX12_install_26 (by decide) rfl ?_
      refine a_goto hX dX12_install_27 rfl ?_
      exact a_sub (a_X12_install_31 hX hR hQ hr v1 2 x2.2) (ls_s (ls_s (ls_n (ls_n ls_0))))
  · refine a_ic 1 hX dX12_install_15 (by decide) rfl ?_
    refine a_goto hX dX12_install_16 rfl ?_
    exact a_sub (a_X12_install_31 hX hR hQ hr v1 1 x2.2) (ls_s (ls_s (ls_n (ls_n ls_0))))

set_option maxRecDepth 100000 in
theorem ci_X12_install (l : Launch) (v1 : Int32) (σ : Mem) : CI l yX12_install cX12_install 4 (some .int) 5 117 [.ref 94, .int v1] σ (m_X12_install v1 σ) :=
  ci_of (by decide) (by simp [Value.category]) (by simp) (fun X r hl hX hR hQ hr => a_X12_install_0 hX hR hQ hr v1 σ)

set_option maxRecDepth 100000 in
set_option maxHeartbeats 2000000 in
theorem a_X12_spoil_27 {X : AX} {r0 : Int32 × Mem} (hX : CX X cX12_spoil 2 RX12) (hR : (aR X).frames = 2 ∧ (aR X).locals = 42 ∧ aCe X ≤ (aR X).cells ∧ aSl X ≤ (aR X).slots) (hQ : QI X r0) (hr : (aMeth X).sig.returnType = (some .int)) (v1 s1 : Int32) (σ : Mem) : AWo X r0 27 [some (.ref 94), some (.int v1)] [.int s1, .ref 94] σ (m_X12_spoil_27 v1 s1 σ) := by
  unfold m_X12_spoil_27
  refine a_callI hX hR ml_X12_101 (ci_X12_goesWell _ _ _) s_94 rfl rfl rfl (by decide) (Nat.le_of_ble_eq_true rfl) rfl dX12_spoil_27 rfl (fun x1 => ?_)
  refine a_if_ne hX dX12_spoil_30 rfl rfl ?_ ?_
  · refine a_al0 hX dX12_spoil_35 rfl ?_
    refine a_getR hX fl_X12_41 s_94 rfl dX12_spoil_36 rfl ?_
    refine a_il1 hX dX12_spoil_39 rfl ?_
    refine a_dup2 hX dX12_spoil_40 rfl rfl rfl ?_
    refine a_ald hX s_105 dX12_spoil_41 rfl (fun x2 => ?_)
    refine a_ic 1 hX dX12_spoil_42 (by decide) rfl ?_
    refine a_iadd hX dX12_spoil_43 rfl ?_
    refine a_ast hX s_105 dX12_spoil_44 rfl (fun m3 => ?_)
    refine a_al0 hX dX12_spoil_45 rfl ?_
    refine a_getR hX fl_X12_41 s_94 rfl dX12_spoil_46 rfl ?_
    refine a_il1 hX dX12_spoil_49 rfl ?_
    refine a_ald hX s_105 dX12_spoil_50 rfl (fun x4 => ?_)
    exact a_iret hX hQ hr dX12_spoil_51
  · refine a_ic 0 hX dX12_spoil_33 (by decide) rfl ?_
    exact a_iret hX hQ hr dX12_spoil_34

set_option maxRecDepth 100000 in
set_option maxHeartbeats 2000000 in
theorem a_X12_spoil_0 {X : AX} {r0 : Int32 × Mem} (hX : CX X cX12_spoil 2 RX12) (hR : (aR X).frames = 2 ∧ (aR X).locals = 42 ∧ aCe X ≤ (aR X).cells ∧ aSl X ≤ (aR X).slots) (hQ : QI X r0) (hr : (aMeth X).sig.returnType = (some .int)) (v1 : Int32) (σ : Mem) : AWo X r0 0 [some (.ref 94), some (.int v1)] [] σ (m_X12_spoil v1 σ) := by
  unfold m_X12_spoil
  refine a_al0 hX dX12_spoil_0 rfl ?_
  refine a_il1 hX dX12_spoil_1 rfl ?_
  refine a_callSI hX hR ml_X12_93 (ci_X12_isPackage _ _ _) rfl rfl (by decide) (Nat.le_of_ble_eq_true rfl) rfl dX12_spoil_2 rfl (fun x1 => ?_)
  refine a_if_ne hX dX12_spoil_5 rfl rfl ?_ ?_
  · refine a_al0 hX dX12_spoil_12 rfl ?_
    refine a_getR hX fl_X12_38 s_94 rfl dX12_spoil_13 rfl ?_
    refine a_il1 hX dX12_spoil_16 rfl ?_
    refine a_ald hX s_104 dX12_spoil_17 rfl (fun x2 => ?_)
    refine a_ic (-1) hX dX12_spoil_18 (by decide) rfl ?_
    refine a_icmp_ne hX dX12_spoil_19 rfl rfl ?_ ?_
    · refine a_ic 0 hX dX12_spoil_26 (by decide) rfl ?_
      exact a_sub (a_X12_spoil_27 hX hR hQ hr v1 0 x1.2) (ls_s (ls_s ls_0))
    · refine a_ic 2 hX dX12_spoil_22 (by decide) rfl ?_
      refine a_goto hX dX12_spoil_23 rfl ?_
      exact a_sub (a_X12_spoil_27 hX hR hQ hr v1 2 x1.2) (ls_s (ls_s ls_0))
  · refine a_ic 1 hX dX12_spoil_8 (by decide) rfl ?_
    refine a_goto hX dX12_spoil_9 rfl ?_
    exact a_sub (a_X12_spoil_27 hX hR hQ hr v1 1 x1.2) (ls_s (ls_s ls_0))

set_option maxRecDepth 100000 in
theorem ci_X12_spoil (l : Launch) (v1 : Int32) (σ : Mem) : CI l yX12_spoil cX12_spoil 2 (some .int) 2 42 [.ref 94, .int v1] σ (m_X12_spoil v1 σ) :=
  ci_of (by decide) (by simp [Value.category]) (by simp) (fun X r hl hX hR hQ hr => a_X12_spoil_0 hX hR hQ hr v1 σ)

set_option maxRecDepth 100000 in
set_option maxHeartbeats 2000000 in
theorem a_X12_onDisk_49 {X : AX} {r0 : Int32 × Mem} (hX : CX X cX12_onDisk 2 RX12) (hR : (aR X).frames = 2 ∧ (aR X).locals = 42 ∧ aCe X ≤ (aR X).cells ∧ aSl X ≤ (aR X).slots) (hQ : QI X r0) (hr : (aMeth X).sig.returnType = (some .int)) (σ : Mem) : AWo X r0 49 [some (.ref 94), none] [] σ (m_X12_onDisk_49  σ) := by
  unfold m_X12_onDisk_49
  refine a_al0 hX dX12_onDisk_49 rfl ?_
  refine a_getI hX fl_X12_72 s_94 rfl dX12_onDisk_50 rfl ?_
  refine a_if_ne hX dX12_onDisk_53 rfl rfl ?_ ?_
  · refine a_ic 0 hX dX12_onDisk_60 (by decide) rfl ?_
    exact a_iret hX hQ hr dX12_onDisk_61
  · refine a_ic (-1) hX dX12_onDisk_56 (by decide) rfl ?_
    refine a_goto hX dX12_onDisk_57 rfl ?_
    exact a_iret hX hQ hr dX12_onDisk_61

set_option maxRecDepth 100000 in
set_option maxHeartbeats 2000000 in
theorem a_X12_onDisk_13 {X : AX} {r0 : Int32 × Mem} (hX : CX X cX12_onDisk 2 RX12) (hR : (aR X).frames = 2 ∧ (aR X).locals = 42 ∧ aCe X ≤ (aR X).cells ∧ aSl X ≤ (aR X).slots) (hQ : QI X r0) (hr : (aMeth X).sig.returnType = (some .int)) (v1 s1 : Int32) (σ : Mem) : AWo X r0 13 [some (.ref 94), some (.int v1)] [.int s1, .ref 94] σ (m_X12_onDisk_13 v1 s1 σ) := by
  unfold m_X12_onDisk_13
  refine a_callI hX hR ml_X12_101 (ci_X12_goesWell _ _ _) s_94 rfl rfl rfl (by decide) (Nat.le_of_ble_eq_true rfl) rfl dX12_onDisk_13 rfl (fun x1 => ?_)
  refine a_if_eq hX dX12_onDisk_16 rfl rfl ?_ ?_
  · exact a_sub (a_X12_onDisk_49 hX hR hQ hr x1.2) (ls_s (ls_n ls_0))
  · refine a_al0 hX dX12_onDisk_19 rfl ?_
    refine a_getR hX fl_X12_38 s_94 rfl dX12_onDisk_20 rfl ?_
    refine a_il1 hX dX12_onDisk_23 rfl ?_
    refine a_ald hX s_104 dX12_onDisk_24 rfl (fun x2 => ?_)
    refine a_ic (-1) hX dX12_onDisk_25 (by decide) rfl ?_
    refine a_icmp_eq hX dX12_onDisk_26 rfl rfl ?_ ?_
    · exact a_sub (a_X12_onDisk_49 hX hR hQ hr x1.2) (ls_s (ls_n ls_0))
    · refine a_si 10000 hX dX12_onDisk_29 (by decide) rfl ?_
      refine a_al0 hX dX12_onDisk_32 rfl ?_
      refine a_getR hX fl_X12_38 s_94 rfl dX12_onDisk_33 rfl ?_
      refine a_il1 hX dX12_onDisk_36 rfl ?_
      refine a_ald hX s_104 dX12_onDisk_37 rfl (fun x3 => ?_)
      refine a_imul hX dX12_onDisk_38 rfl ?_
      refine a_al0 hX dX12_onDisk_39 rfl ?_
      refine a_getR hX fl_X12_41 s_94 rfl dX12_onDisk_40 rfl ?_
      refine a_il1 hX dX12_onDisk_43 rfl ?_
      refine a_ald hX s_105 dX12_onDisk_44 rfl (fun x4 => ?_)
      refine a_iadd hX dX12_onDisk_45 rfl ?_
      refine a_goto hX dX12_onDisk_46 rfl ?_
      exact a_iret hX hQ hr dX12_onDisk_61

set_option maxRecDepth 100000 in
set_option maxHeartbeats 2000000 in
theorem a_X12_onDisk_0 {X : AX} {r0 : Int32 × Mem} (hX : CX X cX12_onDisk 2 RX12) (hR : (aR X).frames = 2 ∧ (aR X).locals = 42 ∧ aCe X ≤ (aR X).cells ∧ aSl X ≤ (aR X).slots) (hQ : QI X r0) (hr : (aMeth X).sig.returnType = (some .int)) (v1 : Int32) (σ : Mem) : AWo X r0 0 [some (.ref 94), some (.int v1)] [] σ (m_X12_onDisk v1 σ) := by
  unfold m_X12_onDisk
  refine a_al0 hX dX12_onDisk_0 rfl ?_
  refine a_il1 hX dX12_onDisk_1 rfl ?_
  refine a_callSI hX hR ml_X12_93 (ci_X12_isPackage _ _ _) rfl rfl (by decide) (Nat.le_of_ble_eq_true rfl) rfl dX12_onDisk_2 rfl (fun x1 => ?_)
  refine a_if_eq hX dX12_onDisk_5 rfl rfl ?_ ?_
  · refine a_ic 1 hX dX12_onDisk_12 (by decide) rfl ?_
    exact a_sub (a_X12_onDisk_13 hX hR hQ hr v1 1 x1.2) (ls_s (ls_s ls_0))
  · refine a_ic 0 hX dX12_onDisk_8 (by decide) rfl ?_
    refine a_goto hX dX12_onDisk_9 rfl ?_
    exact a_sub (a_X12_onDisk_13 hX hR hQ hr v1 0 x1.2) (ls_s (ls_s ls_0))

set_option maxRecDepth 100000 in
theorem ci_X12_onDisk (l : Launch) (v1 : Int32) (σ : Mem) : CI l yX12_onDisk cX12_onDisk 2 (some .int) 2 42 [.ref 94, .int v1] σ (m_X12_onDisk v1 σ) :=
  ci_of (by decide) (by simp [Value.category]) (by simp) (fun X r hl hX hR hQ hr => a_X12_onDisk_0 hX hR hQ hr v1 σ)

set_option maxRecDepth 100000 in
set_option maxHeartbeats 2000000 in
theorem a_X12_pending_33 {X : AX} {r0 : Int32 × Mem} (hX : CX X cX12_pending 3 RX12) (hR : (aR X).frames = 5 ∧ (aR X).locals = 117 ∧ aCe X ≤ (aR X).cells ∧ aSl X ≤ (aR X).slots) (hQ : QI X r0) (hr : (aMeth X).sig.returnType = (some .int)) (f13 : Int32 → Int32 → Mem → Option (Int32 × Mem)) (hf13 : ∀ (v1 v2 : Int32) (σ : Mem), AWo X r0 13 [some (.ref 94), some (.int v1), some (.int v2)] [] σ (f13 v1 v2 σ)) (v2 s0 s1 : Int32) (σ : Mem) : AWo X r0 33 [some (.ref 94), none, some (.int v2)] [.int s1, .int s0] σ (m_X12_pending_33 f13 v2 s0 s1 σ) := by
  unfold m_X12_pending_33
  refine a_iadd hX dX12_pending_33 rfl ?_
  refine a_name (fun y1 => ?_)
  refine a_is1 hX dX12_pending_34 rfl ?_
  refine a_inc2 1 hX dX12_pending_35 (by decide) rfl ?_
  refine a_goto hX dX12_pending_38 rfl ?_
  exact a_sub (hf13 y1 (v2 + 1) (σ)) (ls_s (ls_s (ls_s ls_0)))

set_option maxRecDepth 100000 in
set_option maxHeartbeats 2000000 in
theorem a_X12_pending_13 {X : AX} {r0 : Int32 × Mem} (hX : CX X cX12_pending 3 RX12) (hR : (aR X).frames = 5 ∧ (aR X).locals = 117 ∧ aCe X ≤ (aR X).cells ∧ aSl X ≤ (aR X).slots) (hQ : QI X r0) (hr : (aMeth X).sig.returnType = (some .int)) : ∀ (fuel : Nat) (v1 v2 : Int32) (σ : Mem), AWo X r0 13 [some (.ref 94), some (.int v1), some (.int v2)] [] σ (m_X12_pending_13 fuel v1 v2 σ) := by
  intro fuel
  induction fuel with
  | zero => intro v1 v2 σ; exact a_none
  | succ fuel ih =>
    intro v1 v2 σ
    show AWo X r0 13 [some (.ref 94), some (.int v1), some (.int v2)] [] σ (m_X12_pending_13 (fuel + 1) v1 v2 σ)
    unfold m_X12_pending_13
    refine a_il2 hX dX12_pending_13 rfl ?_
    refine a_bi 6 hX dX12_pending_14 (by decide) rfl ?_
    refine a_icmp_ge hX dX12_pending_16 rfl rfl ?_ ?_
    · refine a_al0 hX dX12_pending_41 rfl ?_
      refine a_getI hX fl_X12_181 s_94 rfl dX12_pending_42 rfl ?_
      refine a_if_ne hX dX12_pending_45 rfl rfl ?_ ?_
      · refine a_il1 hX dX12_pending_52 rfl ?_
        exact a_iret hX hQ hr dX12_pending_53
      · refine a_ic (-1) hX dX12_pending_48 (by decide) rfl ?_
        refine a_goto hX dX12_pending_49 rfl ?_
        exact a_iret hX hQ hr dX12_pending_53
    · refine a_il1 hX dX12_pending_19 rfl ?_
      refine a_al0 hX dX12_pending_20 rfl ?_
      refine a_il2 hX dX12_pending_21 rfl ?_
      refine a_callI hX hR ml_X12_224 (ci_X12_isRightOnDisk _ _ _) s_94 rfl rfl rfl (by decide) (Nat.le_of_ble_eq_true rfl) rfl dX12_pending_22 rfl (fun x1 => ?_)
      refine a_if_eq hX dX12_pending_25 rfl rfl ?_ ?_
      · refine a_ic 1 hX dX12_pending_32 (by decide) rfl ?_
        exact a_sub (a_X12_pending_33 hX hR hQ hr (m_X12_pending_13 fuel) ih v2 v1 1 x1.2) (ls_s (ls_n (ls_s ls_0)))
      · refine a_ic 0 hX dX12_pending_28 (by decide) rfl ?_
        refine a_goto hX dX12_pending_29 rfl ?_
        exact a_sub (a_X12_pending_33 hX hR hQ hr (m_X12_pending_13 fuel) ih v2 v1 0 x1.2) (ls_s (ls_n (ls_s ls_0)))

set_option maxRecDepth 100000 in
set_option maxHeartbeats 2000000 in
theorem a_X12_pending_0 {X : AX} {r0 : Int32 × Mem} (hX : CX X cX12_pending 3 RX12) (hR : (aR X).frames = 5 ∧ (aR X).locals = 117 ∧ aCe X ≤ (aR X).cells ∧ aSl X ≤ (aR X).slots) (hQ : QI X r0) (hr : (aMeth X).sig.returnType = (some .int)) (σ : Mem) : AWo X r0 0 [some (.ref 94), none, none] [] σ (m_X12_pending  σ) := by
  unfold m_X12_pending
  refine a_al0 hX dX12_pending_0 rfl ?_
  refine a_ic 0 hX dX12_pending_1 (by decide) rfl ?_
  refine a_putI hX fp_X12_72 s_94 rfl dX12_pending_2 rfl ?_
  refine a_nameM (fun m1 => ?_)
  refine a_al0 hX dX12_pending_5 rfl ?_
  refine a_callV hX hR ml_X12_209 (ci_X12_find _ _) s_94 rfl rfl rfl (by decide) (Nat.le_of_ble_eq_true rfl) rfl dX12_pending_6 rfl (fun x2 => ?_)
  refine a_ic 0 hX dX12_pending_9 (by decide) rfl ?_
  refine a_is1 hX dX12_pending_10 rfl ?_
  refine a_ic 0 hX dX12_pending_11 (by decide) rfl ?_
  refine a_is2 hX dX12_pending_12 rfl ?_
  exact a_sub (a_X12_pending_13 hX hR hQ hr FU 0 0 x2.2) (ls_s (ls_s (ls_s ls_0)))

set_option maxRecDepth 100000 in
theorem ci_X12_pending (l : Launch) (σ : Mem) : CI l yX12_pending cX12_pending 3 (some .int) 5 117 [.ref 94] σ (m_X12_pending  σ) :=
  ci_of (by decide) (by simp [Value.category]) (by simp) (fun X r hl hX hR hQ hr => a_X12_pending_0 hX hR hQ hr σ)

