set_option maxRecDepth 100000 in
set_option maxHeartbeats 2000000 in
theorem a_X11_spoil_0 {X : AX} {r0 : (Nat × Int32) × Mem} (hX : CX X cX11_spoil 3 RX11) (hR : (aR X).frames = 6 ∧ (aR X).locals = 82 ∧ aCe X ≤ (aR X).cells ∧ aSl X ≤ (aR X).slots) (hQ : QT X r0) (hr : (aMeth X).sig.returnType = (some .int)) (v1 : Int32) (σ : Mem) : AWo X r0 0 [some (.ref 0), some (.int v1), none] [] σ (m_X11_spoil v1 σ) := by
  unfold m_X11_spoil
  refine a_il1 hX dX11_spoil_0 rfl ?_
  refine a_callSI hX hR ml_X11_48 (ci_X11_isPackage _ _ _) rfl rfl (by decide) (Nat.le_of_ble_eq_true rfl) rfl dX11_spoil_1 rfl (fun x1 => ?_)
  refine a_if_ne hX dX11_spoil_4 rfl rfl ?_ ?_
  · refine a_al0 hX dX11_spoil_17 rfl ?_
    refine a_getR hX fl_X11_44 s_0 rfl dX11_spoil_18 rfl ?_
    refine a_getR hX fl_X11_306 s_89 rfl dX11_spoil_21 rfl ?_
    refine a_il1 hX dX11_spoil_24 rfl ?_
    refine a_callI hX hR ml_X11_114 (ci_X7_get _ 90 91 6 s_90 s_91 _ _) s_90 rfl rfl rfl (by decide) (Nat.le_of_ble_eq_true rfl) rfl dX11_spoil_25 rfl (fun x2 => ?_)
    refine a_ic (-1) hX dX11_spoil_28 (by decide) rfl ?_
    refine a_icmp_ne hX dX11_spoil_29 rfl rfl ?_ ?_
    · refine a_al0 hX dX11_spoil_43 rfl ?_
      refine a_getR hX fl_X11_44 s_0 rfl dX11_spoil_44 rfl ?_
      refine a_getR hX fl_X11_310 s_89 rfl dX11_spoil_47 rfl ?_
      refine a_il1 hX dX11_spoil_50 rfl ?_
      refine a_callI hX hR ml_X11_114 (ci_X7_get _ 92 93 6 s_92 s_93 _ _) s_92 rfl rfl rfl (by decide) (Nat.le_of_ble_eq_true rfl) rfl dX11_spoil_51 rfl (fun x3 => ?_)
      refine a_ic 1 hX dX11_spoil_54 (by decide) rfl ?_
      refine a_iadd hX dX11_spoil_55 rfl ?_
      refine a_name (fun y4 => ?_)
      refine a_is2 hX dX11_spoil_56 rfl ?_
      refine a_al0 hX dX11_spoil_57 rfl ?_
      refine a_getR hX fl_X11_44 s_0 rfl dX11_spoil_58 rfl ?_
      refine a_getR hX fl_X11_310 s_89 rfl dX11_spoil_61 rfl ?_
      refine a_il1 hX dX11_spoil_64 rfl ?_
      refine a_il2 hX dX11_spoil_65 rfl ?_
      refine a_callV hX hR ml_X11_311 (ci_X7_set _ 92 93 6 s_92 s_93 _ _ _) s_92 rfl rfl rfl (by decide) (Nat.le_of_ble_eq_true rfl) rfl dX11_spoil_66 rfl (fun x5 => ?_)
      refine a_il2 hX dX11_spoil_69 rfl ?_
      exact a_tiret hX hQ hr dX11_spoil_70
    · exact a_throwW hX hR hQ th_X11_87_308 (by decide) dX11_spoil_32 dX11_spoil_35 dX11_spoil_36 dX11_spoil_39 dX11_spoil_42 (by decide) rfl
  · exact a_throw hX hR hQ th_X11_56_230 (by decide) dX11_spoil_7 dX11_spoil_10 dX11_spoil_11 dX11_spoil_13 dX11_spoil_16 (by decide) rfl

set_option maxRecDepth 100000 in
theorem ci_X11_spoil (l : Launch) (hlt : l.stackTraces = false) (v1 : Int32) (σ : Mem) : CT l yX11_spoil cX11_spoil 3 (some .int) 6 82 [.ref 0, .int v1] σ (m_X11_spoil v1 σ) :=
  ct_of (by decide) (by simp [Value.category]) (by simp) hlt (fun X r hl hX hR hQ hr => a_X11_spoil_0 hX hR hQ hr v1 σ)

set_option maxRecDepth 100000 in
set_option maxHeartbeats 2000000 in
theorem a_X11_onDisk_0 {X : AX} {r0 : (Nat × Int32) × Mem} (hX : CX X cX11_onDisk 3 RX11) (hR : (aR X).frames = 6 ∧ (aR X).locals = 82 ∧ aCe X ≤ (aR X).cells ∧ aSl X ≤ (aR X).slots) (hQ : QT X r0) (hr : (aMeth X).sig.returnType = (some .int)) (v1 : Int32) (σ : Mem) : AWo X r0 0 [some (.ref 0), some (.int v1), none] [] σ (m_X11_onDisk v1 σ) := by
  unfold m_X11_onDisk
  refine a_il1 hX dX11_onDisk_0 rfl ?_
  refine a_callSI hX hR ml_X11_48 (ci_X11_isPackage _ _ _) rfl rfl (by decide) (Nat.le_of_ble_eq_true rfl) rfl dX11_onDisk_1 rfl (fun x1 => ?_)
  refine a_if_ne hX dX11_onDisk_4 rfl rfl ?_ ?_
  · refine a_al0 hX dX11_onDisk_17 rfl ?_
    refine a_getR hX fl_X11_44 s_0 rfl dX11_onDisk_18 rfl ?_
    refine a_getR hX fl_X11_306 s_89 rfl dX11_onDisk_21 rfl ?_
    refine a_il1 hX dX11_onDisk_24 rfl ?_
    refine a_callI hX hR ml_X11_114 (ci_X7_get _ 90 91 6 s_90 s_91 _ _) s_90 rfl rfl rfl (by decide) (Nat.le_of_ble_eq_true rfl) rfl dX11_onDisk_25 rfl (fun x2 => ?_)
    refine a_is2 hX dX11_onDisk_28 rfl ?_
    refine a_il2 hX dX11_onDisk_29 rfl ?_
    refine a_ic (-1) hX dX11_onDisk_30 (by decide) rfl ?_
    refine a_icmp_ne hX dX11_onDisk_31 rfl rfl ?_ ?_
    · refine a_si 10000 hX dX11_onDisk_38 (by decide) rfl ?_
      refine a_il2 hX dX11_onDisk_41 rfl ?_
      refine a_imul hX dX11_onDisk_42 rfl ?_
      refine a_al0 hX dX11_onDisk_43 rfl ?_
      refine a_getR hX fl_X11_44 s_0 rfl dX11_onDisk_44 rfl ?_
      refine a_getR hX fl_X11_310 s_89 rfl dX11_onDisk_47 rfl ?_
      refine a_il1 hX dX11_onDisk_50 rfl ?_
      refine a_callI hX hR ml_X11_114 (ci_X7_get _ 92 93 6 s_92 s_93 _ _) s_92 rfl rfl rfl (by decide) (Nat.le_of_ble_eq_true rfl) rfl dX11_onDisk_51 rfl (fun x3 => ?_)
      refine a_iadd hX dX11_onDisk_54 rfl ?_
      exact a_tiret hX hQ hr dX11_onDisk_55
    · refine a_ic (-1) hX dX11_onDisk_34 (by decide) rfl ?_
      refine a_goto hX dX11_onDisk_35 rfl ?_
      exact a_tiret hX hQ hr dX11_onDisk_55
  · exact a_throw hX hR hQ th_X11_56_230 (by decide) dX11_onDisk_7 dX11_onDisk_10 dX11_onDisk_11 dX11_onDisk_13 dX11_onDisk_16 (by decide) rfl

set_option maxRecDepth 100000 in
theorem ci_X11_onDisk (l : Launch) (hlt : l.stackTraces = false) (v1 : Int32) (σ : Mem) : CT l yX11_onDisk cX11_onDisk 3 (some .int) 6 82 [.ref 0, .int v1] σ (m_X11_onDisk v1 σ) :=
  ct_of (by decide) (by simp [Value.category]) (by simp) hlt (fun X r hl hX hR hQ hr => a_X11_onDisk_0 hX hR hQ hr v1 σ)

