set_option maxRecDepth 100000 in
set_option maxHeartbeats 2000000 in
theorem a_X1_isServed_0 {X : AX} {r0 : Int32 × Mem} (hX : CX X cX1_isServed 3 RX1) (hR : (aR X).frames = 1 ∧ (aR X).locals = 21 ∧ aCe X ≤ (aR X).cells ∧ aSl X ≤ (aR X).slots) (hQ : QI X r0) (hr : (aMeth X).sig.returnType = (some .boolean)) (c pk pa on oa : Nat) (hc : shp[c]? = some (.inl (1, [some 1, some pk, some on]))) (hpk : shp[pk]? = some (.inl (7, [some pa]))) (hpa : shp[pa]? = some (.inr (0, 6))) (hon : shp[on]? = some (.inl (7, [some oa]))) (hoa : shp[oa]? = some (.inr (0, 6))) (v1 v2 : Int32) (σ : Mem) : AWo X r0 0 [some (.ref c), some (.int v1), some (.int v2)] [] σ (m_X1_isServed pa oa v1 v2 σ) := by
  unfold m_X1_isServed
  refine a_il2 hX dX1_isServed_0 rfl ?_
  refine a_ic (-1) hX dX1_isServed_1 (by decide) rfl ?_
  refine a_icmp_ne hX dX1_isServed_2 rfl rfl ?_ ?_
  · refine a_al0 hX dX1_isServed_29 rfl ?_
    refine a_getR hX fl_X1_23 hc rfl dX1_isServed_30 rfl ?_
    refine a_getR hX fl_X1_64 s_1 rfl dX1_isServed_33 rfl ?_
    refine a_getR hX fl_X1_102 s_17 rfl dX1_isServed_36 rfl ?_
    refine a_al0 hX dX1_isServed_39 rfl ?_
    refine a_getR hX fl_X1_23 hc rfl dX1_isServed_40 rfl ?_
    refine a_getR hX fl_X1_78 s_1 rfl dX1_isServed_43 rfl ?_
    refine a_getR hX fl_X1_105 s_32 rfl dX1_isServed_46 rfl ?_
    refine a_il1 hX dX1_isServed_49 rfl ?_
    refine a_callI hX hR ml_X1_57 (ci_X7_get _ 35 36 120 s_35 s_36 _ _) s_35 rfl rfl rfl (by decide) (Nat.le_of_ble_eq_true rfl) rfl dX1_isServed_50 rfl (fun x1 => ?_)
    refine a_callI hX hR ml_X1_57 (ci_X7_get _ 30 31 30 s_30 s_31 _ _) s_30 rfl rfl rfl (by decide) (Nat.le_of_ble_eq_true rfl) rfl dX1_isServed_53 rfl (fun x2 => ?_)
    refine a_il2 hX dX1_isServed_56 rfl ?_
    refine a_callNI hX hR ml_X1_60 (ci_X11_isIn _ _ _ _) rfl rfl (by decide) (Nat.le_of_ble_eq_true rfl) rfl dX1_isServed_57 rfl (fun x3 => ?_)
    exact a_zret hX hQ hr dX1_isServed_60
  · refine a_al0 hX dX1_isServed_5 rfl ?_
    refine a_getR hX fl_X1_23 hc rfl dX1_isServed_6 rfl ?_
    refine a_getR hX fl_X1_78 s_1 rfl dX1_isServed_9 rfl ?_
    refine a_getR hX fl_X1_99 s_32 rfl dX1_isServed_12 rfl ?_
    refine a_il1 hX dX1_isServed_15 rfl ?_
    refine a_callI hX hR ml_X1_57 (ci_X7_get _ 37 38 120 s_37 s_38 _ _) s_37 rfl rfl rfl (by decide) (Nat.le_of_ble_eq_true rfl) rfl dX1_isServed_16 rfl (fun x4 => ?_)
    refine a_ic 1 hX dX1_isServed_19 (by decide) rfl ?_
    refine a_icmp_ne hX dX1_isServed_20 rfl rfl ?_ ?_
    · refine a_ic 0 hX dX1_isServed_27 (by decide) rfl ?_
      exact a_zret0 (by decide) hX hQ hr dX1_isServed_28
    · refine a_ic 1 hX dX1_isServed_23 (by decide) rfl ?_
      refine a_goto hX dX1_isServed_24 rfl ?_
      exact a_zret0 (by decide) hX hQ hr dX1_isServed_28

set_option maxRecDepth 100000 in
theorem ci_X1_isServed (l : Launch) (c pk pa on oa : Nat) (hc : shp[c]? = some (.inl (1, [some 1, some pk, some on]))) (hpk : shp[pk]? = some (.inl (7, [some pa]))) (hpa : shp[pa]? = some (.inr (0, 6))) (hon : shp[on]? = some (.inl (7, [some oa]))) (hoa : shp[oa]? = some (.inr (0, 6))) (v1 v2 : Int32) (σ : Mem) : CI l yX1_isServed cX1_isServed 3 (some .boolean) 1 21 [.ref c, .int v1, .int v2] σ (m_X1_isServed pa oa v1 v2 σ) :=
  ci_of (by decide) (by simp [Value.category]) (by simp) (fun X r hl hX hR hQ hr => a_X1_isServed_0 hX hR hQ hr c pk pa on oa hc hpk hpa hon hoa v1 v2 σ)

set_option maxRecDepth 100000 in
set_option maxHeartbeats 2000000 in
theorem a_X1_holdsNeeds_35 {X : AX} {r0 : Int32 × Mem} (hX : CX X cX1_holdsNeeds 7 RX1) (hR : (aR X).frames = 2 ∧ (aR X).locals = 44 ∧ aCe X ≤ (aR X).cells ∧ aSl X ≤ (aR X).slots) (hQ : QI X r0) (hr : (aMeth X).sig.returnType = (some .boolean)) (c pk pa on oa : Nat) (hc : shp[c]? = some (.inl (1, [some 1, some pk, some on]))) (hpk : shp[pk]? = some (.inl (7, [some pa]))) (hpa : shp[pa]? = some (.inr (0, 6))) (hon : shp[on]? = some (.inl (7, [some oa]))) (hoa : shp[oa]? = some (.inr (0, 6))) : ∀ (fuel : Nat) (v1 v2 v4 v5 : Int32) (σ : Mem), AWo X r0 35 [some (.ref c), some (.int v1), some (.int v2), none, some (.int v4), some (.int v5), none] [] σ (m_X1_holdsNeeds_35 pa oa fuel v1 v2 v4 v5 σ) := by
  intro fuel
  induction fuel with
  | zero => intro v1 v2 v4 v5 σ; exact a_none
  | succ fuel ih =>
    intro v1 v2 v4 v5 σ
    show AWo X r0 35 [some (.ref c), some (.int v1), some (.int v2), none, some (.int v4), some (.int v5), none] [] σ (m_X1_holdsNeeds_35 pa oa (fuel + 1) v1 v2 v4 v5 σ)
    unfold m_X1_holdsNeeds_35
    refine a_il5 hX dX1_holdsNeeds_35 rfl ?_
    refine a_il4 hX dX1_holdsNeeds_37 rfl ?_
    refine a_icmp_ge hX dX1_holdsNeeds_39 rfl rfl ?_ ?_
    · refine a_ic 1 hX dX1_holdsNeeds_105 (by decide) rfl ?_
      exact a_zret0 (by decide) hX hQ hr dX1_holdsNeeds_106
    · refine a_al0 hX dX1_holdsNeeds_42 rfl ?_
      refine a_getR hX fl_X1_23 hc rfl dX1_holdsNeeds_43 rfl ?_
      refine a_il5 hX dX1_holdsNeeds_46 rfl ?_
      refine a_callI hX hR ml_X1_90 (ci_X10_targetOfNeed _ _ _) s_1 rfl rfl rfl (by decide) (Nat.le_of_ble_eq_true rfl) rfl dX1_holdsNeeds_48 rfl (fun x1 => ?_)
      refine a_is6 hX dX1_holdsNeeds_51 rfl ?_
      refine a_il6 hX dX1_holdsNeeds_53 rfl ?_
      refine a_il2 hX dX1_holdsNeeds_55 rfl ?_
      refine a_icmp_gt hX dX1_holdsNeeds_56 rfl rfl ?_ ?_
      · refine a_inc5 1 hX dX1_holdsNeeds_99 (by decide) rfl ?_
        refine a_goto hX dX1_holdsNeeds_102 rfl ?_
        exact a_sub (ih v1 v2 v4 (v5 + 1) x1.2) (ls_s (ls_s (ls_s (ls_n (ls_s (ls_s (ls_n ls_0)))))))
      · refine a_al0 hX dX1_holdsNeeds_59 rfl ?_
        refine a_getR hX fl_X1_23 hc rfl dX1_holdsNeeds_60 rfl ?_
        refine a_il5 hX dX1_holdsNeeds_63 rfl ?_
        refine a_al0 hX dX1_holdsNeeds_65 rfl ?_
        refine a_getR hX fl_X1_20 hc rfl dX1_holdsNeeds_66 rfl ?_
        refine a_il1 hX dX1_holdsNeeds_69 rfl ?_
        refine a_callI hX hR ml_X1_57 (ci_X7_get _ on oa 6 hon hoa _ _) hon rfl rfl rfl (by decide) (Nat.le_of_ble_eq_true rfl) rfl dX1_holdsNeeds_70 rfl (fun x2 => ?_)
        refine a_callI hX hR ml_X1_93 (ci_X10_counts _ _ _ _) s_1 rfl rfl rfl (by decide) (Nat.le_of_ble_eq_true rfl) rfl dX1_holdsNeeds_73 rfl (fun x3 => ?_)
        refine a_if_eq hX dX1_holdsNeeds_76 rfl rfl ?_ ?_
        · refine a_inc5 1 hX dX1_holdsNeeds_99 (by decide) rfl ?_
          refine a_goto hX dX1_holdsNeeds_102 rfl ?_
          exact a_sub (ih v1 v2 v4 (v5 + 1) x3.2) (ls_s (ls_s (ls_s (ls_n (ls_s (ls_s (ls_n ls_0)))))))
        · refine a_al0 hX dX1_holdsNeeds_79 rfl ?_
          refine a_il5 hX dX1_holdsNeeds_80 rfl ?_
          refine a_al0 hX dX1_holdsNeeds_82 rfl ?_
          refine a_getR hX fl_X1_14 hc rfl dX1_holdsNeeds_83 rfl ?_
          refine a_il6 hX dX1_holdsNeeds_86 rfl ?_
          refine a_callI hX hR ml_X1_57 (ci_X7_get _ pk pa 6 hpk hpa _ _) hpk rfl rfl rfl (by decide) (Nat.le_of_ble_eq_true rfl) rfl dX1_holdsNeeds_88 rfl (fun x4 => ?_)
          refine a_callI hX hR ml_X1_96 (ci_X1_isServed _ c pk pa on oa hc hpk hpa hon hoa _ _ _) hc rfl rfl rfl (by decide) (Nat.le_of_ble_eq_true rfl) rfl dX1_holdsNeeds_91 rfl (fun x5 => ?_)
          refine a_if_ne hX dX1_holdsNeeds_94 rfl rfl ?_ ?_
          · refine a_inc5 1 hX dX1_holdsNeeds_99 (by decide) rfl ?_
            refine a_goto hX dX1_holdsNeeds_102 rfl ?_
            exact a_sub (ih v1 v2 v4 (v5 + 1) x5.2) (ls_s (ls_s (ls_s (ls_n (ls_s (ls_s (ls_n ls_0)))))))
          · refine a_ic 0 hX dX1_holdsNeeds_97 (by decide) rfl ?_
            exact a_zret0 (by decide) hX hQ hr dX1_holdsNeeds_98

set_option maxRecDepth 100000 in
set_option maxHeartbeats 2000000 in
theorem a_X1_holdsNeeds_0 {X : AX} {r0 : Int32 × Mem} (hX : CX X cX1_holdsNeeds 7 RX1) (hR : (aR X).frames = 2 ∧ (aR X).locals = 44 ∧ aCe X ≤ (aR X).cells ∧ aSl X ≤ (aR X).slots) (hQ : QI X r0) (hr : (aMeth X).sig.returnType = (some .boolean)) (c pk pa on oa : Nat) (hc : shp[c]? = some (.inl (1, [some 1, some pk, some on]))) (hpk : shp[pk]? = some (.inl (7, [some pa]))) (hpa : shp[pa]? = some (.inr (0, 6))) (hon : shp[on]? = some (.inl (7, [some oa]))) (hoa : shp[oa]? = some (.inr (0, 6))) (v1 v2 : Int32) (σ : Mem) : AWo X r0 0 [some (.ref c), some (.int v1), some (.int v2), none, none, none, none] [] σ (m_X1_holdsNeeds pa oa v1 v2 σ) := by
  unfold m_X1_holdsNeeds
  refine a_al0 hX dX1_holdsNeeds_0 rfl ?_
  refine a_getR hX fl_X1_14 hc rfl dX1_holdsNeeds_1 rfl ?_
  refine a_il1 hX dX1_holdsNeeds_4 rfl ?_
  refine a_callI hX hR ml_X1_57 (ci_X7_get _ pk pa 6 hpk hpa _ _) hpk rfl rfl rfl (by decide) (Nat.le_of_ble_eq_true rfl) rfl dX1_holdsNeeds_5 rfl (fun x1 => ?_)
  refine a_is3 hX dX1_holdsNeeds_8 rfl ?_
  refine a_al0 hX dX1_holdsNeeds_9 rfl ?_
  refine a_getR hX fl_X1_23 hc rfl dX1_holdsNeeds_10 rfl ?_
  refine a_getR hX fl_X1_78 s_1 rfl dX1_holdsNeeds_13 rfl ?_
  refine a_il3 hX dX1_holdsNeeds_16 rfl ?_
  refine a_callI hX hR ml_X1_82 (ci_X4_end _ _ _) s_32 rfl rfl rfl (by decide) (Nat.le_of_ble_eq_true rfl) rfl dX1_holdsNeeds_17 rfl (fun x2 => ?_)
  refine a_is4 hX dX1_holdsNeeds_20 rfl ?_
  refine a_al0 hX dX1_holdsNeeds_22 rfl ?_
  refine a_getR hX fl_X1_23 hc rfl dX1_holdsNeeds_23 rfl ?_
  refine a_getR hX fl_X1_78 s_1 rfl dX1_holdsNeeds_26 rfl ?_
  refine a_il3 hX dX1_holdsNeeds_29 rfl ?_
  refine a_callI hX hR ml_X1_87 (ci_X4_first _ _ _) s_32 rfl rfl rfl (by decide) (Nat.le_of_ble_eq_true rfl) rfl dX1_holdsNeeds_30 rfl (fun x3 => ?_)
  refine a_is5 hX dX1_holdsNeeds_33 rfl ?_
  exact a_sub (a_X1_holdsNeeds_35 hX hR hQ hr c pk pa on oa hc hpk hpa hon hoa FU v1 v2 x2.1 x3.1 x3.2) (ls_s (ls_s (ls_s (ls_n (ls_s (ls_s (ls_n ls_0)))))))

set_option maxRecDepth 100000 in
theorem ci_X1_holdsNeeds (l : Launch) (c pk pa on oa : Nat) (hc : shp[c]? = some (.inl (1, [some 1, some pk, some on]))) (hpk : shp[pk]? = some (.inl (7, [some pa]))) (hpa : shp[pa]? = some (.inr (0, 6))) (hon : shp[on]? = some (.inl (7, [some oa]))) (hoa : shp[oa]? = some (.inr (0, 6))) (v1 v2 : Int32) (σ : Mem) : CI l yX1_holdsNeeds cX1_holdsNeeds 7 (some .boolean) 2 44 [.ref c, .int v1, .int v2] σ (m_X1_holdsNeeds pa oa v1 v2 σ) :=
  ci_of (by decide) (by simp [Value.category]) (by simp) (fun X r hl hX hR hQ hr => a_X1_holdsNeeds_0 hX hR hQ hr c pk pa on oa hc hpk hpa hon hoa v1 v2 σ)

set_option maxRecDepth 100000 in
set_option maxHeartbeats 2000000 in
theorem a_X1_standsUpTo_2 {X : AX} {r0 : Int32 × Mem} (hX : CX X cX1_standsUpTo 3 RX1) (hR : (aR X).frames = 3 ∧ (aR X).locals = 70 ∧ aCe X ≤ (aR X).cells ∧ aSl X ≤ (aR X).slots) (hQ : QI X r0) (hr : (aMeth X).sig.returnType = (some .boolean)) (c pk pa on oa : Nat) (hc : shp[c]? = some (.inl (1, [some 1, some pk, some on]))) (hpk : shp[pk]? = some (.inl (7, [some pa]))) (hpa : shp[pa]? = some (.inr (0, 6))) (hon : shp[on]? = some (.inl (7, [some oa]))) (hoa : shp[oa]? = some (.inr (0, 6))) : ∀ (fuel : Nat) (v1 v2 : Int32) (σ : Mem), AWo X r0 2 [some (.ref c), some (.int v1), some (.int v2)] [] σ (m_X1_standsUpTo_2 pa oa fuel v1 v2 σ) := by
  intro fuel
  induction fuel with
  | zero => intro v1 v2 σ; exact a_none
  | succ fuel ih =>
    intro v1 v2 σ
    show AWo X r0 2 [some (.ref c), some (.int v1), some (.int v2)] [] σ (m_X1_standsUpTo_2 pa oa (fuel + 1) v1 v2 σ)
    unfold m_X1_standsUpTo_2
    refine a_il2 hX dX1_standsUpTo_2 rfl ?_
    refine a_il1 hX dX1_standsUpTo_3 rfl ?_
    refine a_icmp_gt hX dX1_standsUpTo_4 rfl rfl ?_ ?_
    · refine a_ic 1 hX dX1_standsUpTo_24 (by decide) rfl ?_
      exact a_zret0 (by decide) hX hQ hr dX1_standsUpTo_25
    · refine a_al0 hX dX1_standsUpTo_7 rfl ?_
      refine a_il2 hX dX1_standsUpTo_8 rfl ?_
      refine a_il1 hX dX1_standsUpTo_9 rfl ?_
      refine a_callI hX hR ml_X1_75 (ci_X1_holdsNeeds _ c pk pa on oa hc hpk hpa hon hoa _ _ _) hc rfl rfl rfl (by decide) (Nat.le_of_ble_eq_true rfl) rfl dX1_standsUpTo_10 rfl (fun x1 => ?_)
      refine a_if_ne hX dX1_standsUpTo_13 rfl rfl ?_ ?_
      · refine a_inc2 1 hX dX1_standsUpTo_18 (by decide) rfl ?_
        refine a_goto hX dX1_standsUpTo_21 rfl ?_
        exact a_sub (ih v1 (v2 + 1) x1.2) (ls_s (ls_s (ls_s ls_0)))
      · refine a_ic 0 hX dX1_standsUpTo_16 (by decide) rfl ?_
        exact a_zret0 (by decide) hX hQ hr dX1_standsUpTo_17

set_option maxRecDepth 100000 in
set_option maxHeartbeats 2000000 in
theorem a_X1_standsUpTo_0 {X : AX} {r0 : Int32 × Mem} (hX : CX X cX1_standsUpTo 3 RX1) (hR : (aR X).frames = 3 ∧ (aR X).locals = 70 ∧ aCe X ≤ (aR X).cells ∧ aSl X ≤ (aR X).slots) (hQ : QI X r0) (hr : (aMeth X).sig.returnType = (some .boolean)) (c pk pa on oa : Nat) (hc : shp[c]? = some (.inl (1, [some 1, some pk, some on]))) (hpk : shp[pk]? = some (.inl (7, [some pa]))) (hpa : shp[pa]? = some (.inr (0, 6))) (hon : shp[on]? = some (.inl (7, [some oa]))) (hoa : shp[oa]? = some (.inr (0, 6))) (v1 : Int32) (σ : Mem) : AWo X r0 0 [some (.ref c), some (.int v1), none] [] σ (m_X1_standsUpTo pa oa v1 σ) := by
  unfold m_X1_standsUpTo
  refine a_ic 0 hX dX1_standsUpTo_0 (by decide) rfl ?_
  refine a_is2 hX dX1_standsUpTo_1 rfl ?_
  exact a_sub (a_X1_standsUpTo_2 hX hR hQ hr c pk pa on oa hc hpk hpa hon hoa FU v1 0 (σ)) (ls_s (ls_s (ls_s ls_0)))

set_option maxRecDepth 100000 in
theorem ci_X1_standsUpTo (l : Launch) (c pk pa on oa : Nat) (hc : shp[c]? = some (.inl (1, [some 1, some pk, some on]))) (hpk : shp[pk]? = some (.inl (7, [some pa]))) (hpa : shp[pa]? = some (.inr (0, 6))) (hon : shp[on]? = some (.inl (7, [some oa]))) (hoa : shp[oa]? = some (.inr (0, 6))) (v1 : Int32) (σ : Mem) : CI l yX1_standsUpTo cX1_standsUpTo 3 (some .boolean) 3 70 [.ref c, .int v1] σ (m_X1_standsUpTo pa oa v1 σ) :=
  ci_of (by decide) (by simp [Value.category]) (by simp) (fun X r hl hX hR hQ hr => a_X1_standsUpTo_0 hX hR hQ hr c pk pa on oa hc hpk hpa hon hoa v1 σ)

set_option maxRecDepth 100000 in
set_option maxHeartbeats 2000000 in
theorem a_X10_demanded_4 {X : AX} {r0 : Int32 × Mem} (hX : CX X cX10_demanded 4 RX10) (hR : (aR X).frames = 2 ∧ (aR X).locals = 42 ∧ aCe X ≤ (aR X).cells ∧ aSl X ≤ (aR X).slots) (hQ : QI X r0) (hr : (aMeth X).sig.returnType = (some .int)) : ∀ (fuel : Nat) (v1 v2 v3 : Int32) (σ : Mem), AWo X r0 4 [some (.ref 1), some (.int v1), some (.int v2), some (.int v3)] [] σ (m_X10_demanded_4 fuel v1 v2 v3 σ) := by
  intro fuel
  induction fuel with
  | zero => intro v1 v2 v3 σ; exact a_none
  | succ fuel ih =>
    intro v1 v2 v3 σ
    show AWo X r0 4 [some (.ref 1), some (.int v1), some (.int v2), some (.int v3)] [] σ (m_X10_demanded_4 (fuel + 1) v1 v2 v3 σ)
    unfold m_X10_demanded_4
    refine a_il3 hX dX10_demanded_4 rfl ?_
    refine a_al0 hX dX10_demanded_5 rfl ?_
    refine a_getR hX fl_X10_35 s_1 rfl dX10_demanded_6 rfl ?_
    refine a_getI hX fl_X10_136 s_47 rfl dX10_demanded_9 rfl ?_
    refine a_icmp_ge hX dX10_demanded_12 rfl rfl ?_ ?_
    · refine a_il2 hX dX10_demanded_39 rfl ?_
      exact a_iret hX hQ hr dX10_demanded_40
    · refine a_il1 hX dX10_demanded_15 rfl ?_
      refine a_il3 hX dX10_demanded_16 rfl ?_
      refine a_callNI hX hR ml_X10_87 (ci_X11_isIn _ _ _ _) rfl rfl (by decide) (Nat.le_of_ble_eq_true rfl) rfl dX10_demanded_17 rfl (fun x1 => ?_)
      refine a_if_eq hX dX10_demanded_20 rfl rfl ?_ ?_
      · refine a_inc3 1 hX dX10_demanded_33 (by decide) rfl ?_
        refine a_goto hX dX10_demanded_36 rfl ?_
        exact a_sub (ih v1 v2 (v3 + 1) x1.2) (ls_s (ls_s (ls_s (ls_s ls_0))))
      · refine a_il2 hX dX10_demanded_23 rfl ?_
        refine a_ic 1 hX dX10_demanded_24 (by decide) rfl ?_
        refine a_al0 hX dX10_demanded_25 rfl ?_
        refine a_il3 hX dX10_demanded_26 rfl ?_
        refine a_callI hX hR ml_X10_137 (ci_X10_targetOfDemand _ _ _) s_1 rfl rfl rfl (by decide) (Nat.le_of_ble_eq_true rfl) rfl dX10_demanded_27 rfl (fun x2 => ?_)
        refine a_ishl hX dX10_demanded_30 rfl ?_
        refine a_ior hX dX10_demanded_31 rfl ?_
        refine a_name (fun y3 => ?_)
        refine a_is2 hX dX10_demanded_32 rfl ?_
        refine a_inc3 1 hX dX10_demanded_33 (by decide) rfl ?_
        refine a_goto hX dX10_demanded_36 rfl ?_
        exact a_sub (ih v1 y3 (v3 + 1) x2.2) (ls_s (ls_s (ls_s (ls_s ls_0))))

set_option maxRecDepth 100000 in
set_option maxHeartbeats 2000000 in
theorem a_X10_demanded_0 {X : AX} {r0 : Int32 × Mem} (hX : CX X cX10_demanded 4 RX10) (hR : (aR X).frames = 2 ∧ (aR X).locals = 42 ∧ aCe X ≤ (aR X).cells ∧ aSl X ≤ (aR X).slots) (hQ : QI X r0) (hr : (aMeth X).sig.returnType = (some .int)) (v1 : Int32) (σ : Mem) : AWo X r0 0 [some (.ref 1), some (.int v1), none, none] [] σ (m_X10_demanded v1 σ) := by
  unfold m_X10_demanded
  refine a_ic 0 hX dX10_demanded_0 (by decide) rfl ?_
  refine a_is2 hX dX10_demanded_1 rfl ?_
  refine a_ic 0 hX dX10_demanded_2 (by decide) rfl ?_
  refine a_is3 hX dX10_demanded_3 rfl ?_
  exact a_sub (a_X10_demanded_4 hX hR hQ hr FU v1 0 0 (σ)) (ls_s (ls_s (ls_s (ls_s ls_0))))

set_option maxRecDepth 100000 in
theorem ci_X10_demanded (l : Launch) (v1 : Int32) (σ : Mem) : CI l yX10_demanded cX10_demanded 4 (some .int) 2 42 [.ref 1, .int v1] σ (m_X10_demanded v1 σ) :=
  ci_of (by decide) (by simp [Value.category]) (by simp) (fun X r hl hX hR hQ hr => a_X10_demanded_0 hX hR hQ hr v1 σ)

set_option maxRecDepth 100000 in
set_option maxHeartbeats 2000000 in
theorem a_X10_pulledBy_22 {X : AX} {r0 : Int32 × Mem} (hX : CX X cX10_pulledBy 6 RX10) (hR : (aR X).frames = 2 ∧ (aR X).locals = 44 ∧ aCe X ≤ (aR X).cells ∧ aSl X ≤ (aR X).slots) (hQ : QI X r0) (hr : (aMeth X).sig.returnType = (some .int)) : ∀ (fuel : Nat) (v2 v3 v4 v5 : Int32) (σ : Mem), AWo X r0 22 [some (.ref 1), none, some (.int v2), some (.int v3), some (.int v4), some (.int v5)] [] σ (m_X10_pulledBy_22 fuel v2 v3 v4 v5 σ) := by
  intro fuel
  induction fuel with
  | zero => intro v2 v3 v4 v5 σ; exact a_none
  | succ fuel ih =>
    intro v2 v3 v4 v5 σ
    show AWo X r0 22 [some (.ref 1), none, some (.int v2), some (.int v3), some (.int v4), some (.int v5)] [] σ (m_X10_pulledBy_22 (fuel + 1) v2 v3 v4 v5 σ)
    unfold m_X10_pulledBy_22
    refine a_il5 hX dX10_pulledBy_22 rfl ?_
    refine a_il4 hX dX10_pulledBy_24 rfl ?_
    refine a_icmp_ge hX dX10_pulledBy_26 rfl rfl ?_ ?_
    · refine a_il3 hX dX10_pulledBy_72 rfl ?_
      exact a_iret hX hQ hr dX10_pulledBy_73
    · refine a_al0 hX dX10_pulledBy_29 rfl ?_
      refine a_getR hX fl_X10_28 s_1 rfl dX10_pulledBy_30 rfl ?_
      refine a_getR hX fl_X10_127 s_32 rfl dX10_pulledBy_33 rfl ?_
      refine a_il5 hX dX10_pulledBy_36 rfl ?_
      refine a_callI hX hR ml_X10_70 (ci_X7_get _ 37 38 120 s_37 s_38 _ _) s_37 rfl rfl rfl (by decide) (Nat.le_of_ble_eq_true rfl) rfl dX10_pulledBy_38 rfl (fun x1 => ?_)
      refine a_ic 2 hX dX10_pulledBy_41 (by decide) rfl ?_
      refine a_icmp_eq hX dX10_pulledBy_42 rfl rfl ?_ ?_
      · refine a_inc5 1 hX dX10_pulledBy_66 (by decide) rfl ?_
        refine a_goto hX dX10_pulledBy_69 rfl ?_
        exact a_sub (ih v2 v3 v4 (v5 + 1) x1.2) (ls_s (ls_n (ls_s (ls_s (ls_s (ls_s ls_0))))))
      · refine a_al0 hX dX10_pulledBy_45 rfl ?_
        refine a_il5 hX dX10_pulledBy_46 rfl ?_
        refine a_il2 hX dX10_pulledBy_48 rfl ?_
        refine a_callI hX hR ml_X10_130 (ci_X10_counts _ _ _ _) s_1 rfl rfl rfl (by decide) (Nat.le_of_ble_eq_true rfl) rfl dX10_pulledBy_49 rfl (fun x2 => ?_)
        refine a_if_eq hX dX10_pulledBy_52 rfl rfl ?_ ?_
        · refine a_inc5 1 hX dX10_pulledBy_66 (by decide) rfl ?_
          refine a_goto hX dX10_pulledBy_69 rfl ?_
          exact a_sub (ih v2 v3 v4 (v5 + 1) x2.2) (ls_s (ls_n (ls_s (ls_s (ls_s (ls_s ls_0))))))
        · refine a_il3 hX dX10_pulledBy_55 rfl ?_
          refine a_ic 1 hX dX10_pulledBy_56 (by decide) rfl ?_
          refine a_al0 hX dX10_pulledBy_57 rfl ?_
          refine a_il5 hX dX10_pulledBy_58 rfl ?_
          refine a_callI hX hR ml_X10_133 (ci_X10_targetOfNeed _ _ _) s_1 rfl rfl rfl (by decide) (Nat.le_of_ble_eq_true rfl) rfl dX10_pulledBy_60 rfl (fun x3 => ?_)
          refine a_ishl hX dX10_pulledBy_63 rfl ?_
          refine a_ior hX dX10_pulledBy_64 rfl ?_
          refine a_name (fun y4 => ?_)
          refine a_is3 hX dX10_pulledBy_65 rfl ?_
          refine a_inc5 1 hX dX10_pulledBy_66 (by decide) rfl ?_
          refine a_goto hX dX10_pulledBy_69 rfl ?_
          exact a_sub (ih v2 y4 v4 (v5 + 1) x3.2) (ls_s (ls_n (ls_s (ls_s (ls_s (ls_s ls_0))))))

set_option maxRecDepth 100000 in
set_option maxHeartbeats 2000000 in
theorem a_X10_pulledBy_0 {X : AX} {r0 : Int32 × Mem} (hX : CX X cX10_pulledBy 6 RX10) (hR : (aR X).frames = 2 ∧ (aR X).locals = 44 ∧ aCe X ≤ (aR X).cells ∧ aSl X ≤ (aR X).slots) (hQ : QI X r0) (hr : (aMeth X).sig.returnType = (some .int)) (v1 v2 : Int32) (σ : Mem) : AWo X r0 0 [some (.ref 1), some (.int v1), some (.int v2), none, none, none] [] σ (m_X10_pulledBy v1 v2 σ) := by
  unfold m_X10_pulledBy
  refine a_ic 0 hX dX10_pulledBy_0 (by decide) rfl ?_
  refine a_is3 hX dX10_pulledBy_1 rfl ?_
  refine a_al0 hX dX10_pulledBy_2 rfl ?_
  refine a_getR hX fl_X10_28 s_1 rfl dX10_pulledBy_3 rfl ?_
  refine a_il1 hX dX10_pulledBy_6 rfl ?_
  refine a_callI hX hR ml_X10_121 (ci_X4_end _ _ _) s_32 rfl rfl rfl (by decide) (Nat.le_of_ble_eq_true rfl) rfl dX10_pulledBy_7 rfl (fun x1 => ?_)
  refine a_is4 hX dX10_pulledBy_10 rfl ?_
  refine a_al0 hX dX10_pulledBy_12 rfl ?_
  refine a_getR hX fl_X10_28 s_1 rfl dX10_pulledBy_13 rfl ?_
  refine a_il1 hX dX10_pulledBy_16 rfl ?_
  refine a_callI hX hR ml_X10_124 (ci_X4_first _ _ _) s_32 rfl rfl rfl (by decide) (Nat.le_of_ble_eq_true rfl) rfl dX10_pulledBy_17 rfl (fun x2 => ?_)
  refine a_is5 hX dX10_pulledBy_20 rfl ?_
  exact a_sub (a_X10_pulledBy_22 hX hR hQ hr FU v2 0 x1.1 x2.1 x2.2) (ls_s (ls_n (ls_s (ls_s (ls_s (ls_s ls_0))))))

set_option maxRecDepth 100000 in
theorem ci_X10_pulledBy (l : Launch) (v1 v2 : Int32) (σ : Mem) : CI l yX10_pulledBy cX10_pulledBy 6 (some .int) 2 44 [.ref 1, .int v1, .int v2] σ (m_X10_pulledBy v1 v2 σ) :=
  ci_of (by decide) (by simp [Value.category]) (by simp) (fun X r hl hX hR hQ hr => a_X10_pulledBy_0 hX hR hQ hr v1 v2 σ)

set_option maxRecDepth 100000 in
set_option maxHeartbeats 2000000 in
theorem a_X1_isPulled_78 {X : AX} {r0 : Int32 × Mem} (hX : CX X cX1_isPulled 5 RX1) (hR : (aR X).frames = 3 ∧ (aR X).locals = 69 ∧ aCe X ≤ (aR X).cells ∧ aSl X ≤ (aR X).slots) (hQ : QI X r0) (hr : (aMeth X).sig.returnType = (some .boolean)) (c pk pa on oa : Nat) (hc : shp[c]? = some (.inl (1, [some 1, some pk, some on]))) (hpk : shp[pk]? = some (.inl (7, [some pa]))) (hpa : shp[pa]? = some (.inr (0, 6))) (hon : shp[on]? = some (.inl (7, [some oa]))) (hoa : shp[oa]? = some (.inr (0, 6))) : ∀ (fuel : Nat) (v2 v3 : Int32) (σ : Mem), AWo X r0 78 [some (.ref c), none, some (.int v2), some (.int v3), none] [] σ (m_X1_isPulled_78 pa oa fuel v2 v3 σ) := by
  intro fuel
  induction fuel with
  | zero => intro v2 v3 σ; exact a_none
  | succ fuel ih =>
    intro v2 v3 σ
    show AWo X r0 78 [some (.ref c), none, some (.int v2), some (.int v3), none] [] σ (m_X1_isPulled_78 pa oa (fuel + 1) v2 v3 σ)
    unfold m_X1_isPulled_78
    refine a_il3 hX dX1_isPulled_78 rfl ?_
    refine a_bi 6 hX dX1_isPulled_79 (by decide) rfl ?_
    refine a_icmp_ge hX dX1_isPulled_81 rfl rfl ?_ ?_
    · refine a_ic 1 hX dX1_isPulled_112 (by decide) rfl ?_
      exact a_zret0 (by decide) hX hQ hr dX1_isPulled_113
    · refine a_al0 hX dX1_isPulled_84 rfl ?_
      refine a_getR hX fl_X1_14 hc rfl dX1_isPulled_85 rfl ?_
      refine a_il3 hX dX1_isPulled_88 rfl ?_
      refine a_callI hX hR ml_X1_57 (ci_X7_get _ pk pa 6 hpk hpa _ _) hpk rfl rfl rfl (by decide) (Nat.le_of_ble_eq_true rfl) rfl dX1_isPulled_89 rfl (fun x1 => ?_)
      refine a_ic (-1) hX dX1_isPulled_92 (by decide) rfl ?_
      refine a_icmp_eq hX dX1_isPulled_93 rfl rfl ?_ ?_
      · refine a_inc3 1 hX dX1_isPulled_106 (by decide) rfl ?_
        refine a_goto hX dX1_isPulled_109 rfl ?_
        exact a_sub (ih v2 (v3 + 1) x1.2) (ls_s (ls_n (ls_s (ls_s (ls_n ls_0)))))
      · refine a_il2 hX dX1_isPulled_96 rfl ?_
        refine a_il3 hX dX1_isPulled_97 rfl ?_
        refine a_callNI hX hR ml_X1_60 (ci_X11_isIn _ _ _ _) rfl rfl (by decide) (Nat.le_of_ble_eq_true rfl) rfl dX1_isPulled_98 rfl (fun x2 => ?_)
        refine a_if_ne hX dX1_isPulled_101 rfl rfl ?_ ?_
        · refine a_inc3 1 hX dX1_isPulled_106 (by decide) rfl ?_
          refine a_goto hX dX1_isPulled_109 rfl ?_
          exact a_sub (ih v2 (v3 + 1) x2.2) (ls_s (ls_n (ls_s (ls_s (ls_n ls_0)))))
        · refine a_ic 0 hX dX1_isPulled_104 (by decide) rfl ?_
          exact a_zret0 (by decide) hX hQ hr dX1_isPulled_105

set_option maxRecDepth 100000 in
set_option maxHeartbeats 2000000 in
theorem a_X1_isPulled_20 {X : AX} {r0 : Int32 × Mem} (hX : CX X cX1_isPulled 5 RX1) (hR : (aR X).frames = 3 ∧ (aR X).locals = 69 ∧ aCe X ≤ (aR X).cells ∧ aSl X ≤ (aR X).slots) (hQ : QI X r0) (hr : (aMeth X).sig.returnType = (some .boolean)) (c pk pa on oa : Nat) (hc : shp[c]? = some (.inl (1, [some 1, some pk, some on]))) (hpk : shp[pk]? = some (.inl (7, [some pa]))) (hpa : shp[pa]? = some (.inr (0, 6))) (hon : shp[on]? = some (.inl (7, [some oa]))) (hoa : shp[oa]? = some (.inr (0, 6))) (f11 : Int32 → Int32 → Mem → Option (Int32 × Mem)) (hf11 : ∀ (v2 v3 : Int32) (σ : Mem), AWo X r0 11 [some (.ref c), none, some (.int v2), some (.int v3), none] [] σ (f11 v2 v3 σ)) : ∀ (fuel : Nat) (v2 v3 v4 : Int32) (σ : Mem), AWo X r0 20 [some (.ref c), none, some (.int v2), some (.int v3), some (.int v4)] [] σ (m_X1_isPulled_20 pa oa f11 fuel v2 v3 v4 σ) := by
  intro fuel
  induction fuel with
  | zero => intro v2 v3 v4 σ; exact a_none
  | succ fuel ih =>
    intro v2 v3 v4 σ
    show AWo X r0 20 [some (.ref c), none, some (.int v2), some (.int v3), some (.int v4)] [] σ (m_X1_isPulled_20 pa oa f11 (fuel + 1) v2 v3 v4 σ)
    unfold m_X1_isPulled_20
    refine a_il4 hX dX1_isPulled_20 rfl ?_
    refine a_bi 6 hX dX1_isPulled_22 (by decide) rfl ?_
    refine a_icmp_ge hX dX1_isPulled_24 rfl rfl ?_ ?_
    · refine a_inc3 1 hX dX1_isPulled_70 (by decide) rfl ?_
      refine a_goto hX dX1_isPulled_73 rfl ?_
      exact a_sub (hf11 v2 (v3 + 1) (σ)) (ls_s (ls_n (ls_s (ls_s (ls_n ls_0)))))
    · refine a_il2 hX dX1_isPulled_27 rfl ?_
      refine a_il4 hX dX1_isPulled_28 rfl ?_
      refine a_callNI hX hR ml_X1_60 (ci_X11_isIn _ _ _ _) rfl rfl (by decide) (Nat.le_of_ble_eq_true rfl) rfl dX1_isPulled_30 rfl (fun x1 => ?_)
      refine a_if_eq hX dX1_isPulled_33 rfl rfl ?_ ?_
      · refine a_inc4 1 hX dX1_isPulled_64 (by decide) rfl ?_
        refine a_goto hX dX1_isPulled_67 rfl ?_
        exact a_sub (ih v2 v3 (v4 + 1) x1.2) (ls_s (ls_n (ls_s (ls_s (ls_s ls_0)))))
      · refine a_il2 hX dX1_isPulled_36 rfl ?_
        refine a_al0 hX dX1_isPulled_37 rfl ?_
        refine a_getR hX fl_X1_23 hc rfl dX1_isPulled_38 rfl ?_
        refine a_al0 hX dX1_isPulled_41 rfl ?_
        refine a_getR hX fl_X1_14 hc rfl dX1_isPulled_42 rfl ?_
        refine a_il4 hX dX1_isPulled_45 rfl ?_
        refine a_callI hX hR ml_X1_57 (ci_X7_get _ pk pa 6 hpk hpa _ _) hpk rfl rfl rfl (by decide) (Nat.le_of_ble_eq_true rfl) rfl dX1_isPulled_47 rfl (fun x2 => ?_)
        refine a_al0 hX dX1_isPulled_50 rfl ?_
        refine a_getR hX fl_X1_20 hc rfl dX1_isPulled_51 rfl ?_
        refine a_il4 hX dX1_isPulled_54 rfl ?_
        refine a_callI hX hR ml_X1_57 (ci_X7_get _ on oa 6 hon hoa _ _) hon rfl rfl rfl (by decide) (Nat.le_of_ble_eq_true rfl) rfl dX1_isPulled_56 rfl (fun x3 => ?_)
        refine a_callI hX hR ml_X1_132 (ci_X10_pulledBy _ _ _ _) s_1 rfl rfl rfl (by decide) (Nat.le_of_ble_eq_true rfl) rfl dX1_isPulled_59 rfl (fun x4 => ?_)
        refine a_ior hX dX1_isPulled_62 rfl ?_
        refine a_name (fun y5 => ?_)
        refine a_is2 hX dX1_isPulled_63 rfl ?_
        refine a_inc4 1 hX dX1_isPulled_64 (by decide) rfl ?_
        refine a_goto hX dX1_isPulled_67 rfl ?_
        exact a_sub (ih y5 v3 (v4 + 1) x4.2) (ls_s (ls_n (ls_s (ls_s (ls_s ls_0)))))

set_option maxRecDepth 100000 in
set_option maxHeartbeats 2000000 in
theorem a_X1_isPulled_11 {X : AX} {r0 : Int32 × Mem} (hX : CX X cX1_isPulled 5 RX1) (hR : (aR X).frames = 3 ∧ (aR X).locals = 69 ∧ aCe X ≤ (aR X).cells ∧ aSl X ≤ (aR X).slots) (hQ : QI X r0) (hr : (aMeth X).sig.returnType = (some .boolean)) (c pk pa on oa : Nat) (hc : shp[c]? = some (.inl (1, [some 1, some pk, some on]))) (hpk : shp[pk]? = some (.inl (7, [some pa]))) (hpa : shp[pa]? = some (.inr (0, 6))) (hon : shp[on]? = some (.inl (7, [some oa]))) (hoa : shp[oa]? = some (.inr (0, 6))) : ∀ (fuel : Nat) (v2 v3 : Int32) (σ : Mem), AWo X r0 11 [some (.ref c), none, some (.int v2), some (.int v3), none] [] σ (m_X1_isPulled_11 pa oa fuel v2 v3 σ) := by
  intro fuel
  induction fuel with
  | zero => intro v2 v3 σ; exact a_none
  | succ fuel ih =>
    intro v2 v3 σ
    show AWo X r0 11 [some (.ref c), none, some (.int v2), some (.int v3), none] [] σ (m_X1_isPulled_11 pa oa (fuel + 1) v2 v3 σ)
    unfold m_X1_isPulled_11
    refine a_il3 hX dX1_isPulled_11 rfl ?_
    refine a_bi 6 hX dX1_isPulled_12 (by decide) rfl ?_
    refine a_icmp_ge hX dX1_isPulled_14 rfl rfl ?_ ?_
    · refine a_ic 0 hX dX1_isPulled_76 (by decide) rfl ?_
      refine a_is3 hX dX1_isPulled_77 rfl ?_
      exact a_sub (a_X1_isPulled_78 hX hR hQ hr c pk pa on oa hc hpk hpa hon hoa FU v2 0 (σ)) (ls_s (ls_n (ls_s (ls_s (ls_n ls_0)))))
    · refine a_ic 0 hX dX1_isPulled_17 (by decide) rfl ?_
      refine a_is4 hX dX1_isPulled_18 rfl ?_
      exact a_sub (a_X1_isPulled_20 hX hR hQ hr c pk pa on oa hc hpk hpa hon hoa (m_X1_isPulled_11 pa oa fuel) ih FU v2 v3 0 (σ)) (ls_s (ls_n (ls_s (ls_s (ls_s ls_0)))))

set_option maxRecDepth 100000 in
set_option maxHeartbeats 2000000 in
theorem a_X1_isPulled_0 {X : AX} {r0 : Int32 × Mem} (hX : CX X cX1_isPulled 5 RX1) (hR : (aR X).frames = 3 ∧ (aR X).locals = 69 ∧ aCe X ≤ (aR X).cells ∧ aSl X ≤ (aR X).slots) (hQ : QI X r0) (hr : (aMeth X).sig.returnType = (some .boolean)) (c pk pa on oa : Nat) (hc : shp[c]? = some (.inl (1, [some 1, some pk, some on]))) (hpk : shp[pk]? = some (.inl (7, [some pa]))) (hpa : shp[pa]? = some (.inr (0, 6))) (hon : shp[on]? = some (.inl (7, [some oa]))) (hoa : shp[oa]? = some (.inr (0, 6))) (v1 : Int32) (σ : Mem) : AWo X r0 0 [some (.ref c), some (.int v1), none, none, none] [] σ (m_X1_isPulled pa oa v1 σ) := by
  unfold m_X1_isPulled
  refine a_al0 hX dX1_isPulled_0 rfl ?_
  refine a_getR hX fl_X1_23 hc rfl dX1_isPulled_1 rfl ?_
  refine a_il1 hX dX1_isPulled_4 rfl ?_
  refine a_callI hX hR ml_X1_129 (ci_X10_demanded _ _ _) s_1 rfl rfl rfl (by decide) (Nat.le_of_ble_eq_true rfl) rfl dX1_isPulled_5 rfl (fun x1 => ?_)
  refine a_is2 hX dX1_isPulled_8 rfl ?_
  refine a_ic 0 hX dX1_isPulled_9 (by decide) rfl ?_
  refine a_is3 hX dX1_isPulled_10 rfl ?_
  exact a_sub (a_X1_isPulled_11 hX hR hQ hr c pk pa on oa hc hpk hpa hon hoa FU x1.1 0 x1.2) (ls_s (ls_n (ls_s (ls_s (ls_n ls_0)))))

set_option maxRecDepth 100000 in
theorem ci_X1_isPulled (l : Launch) (c pk pa on oa : Nat) (hc : shp[c]? = some (.inl (1, [some 1, some pk, some on]))) (hpk : shp[pk]? = some (.inl (7, [some pa]))) (hpa : shp[pa]? = some (.inr (0, 6))) (hon : shp[on]? = some (.inl (7, [some oa]))) (hoa : shp[oa]? = some (.inr (0, 6))) (v1 : Int32) (σ : Mem) : CI l yX1_isPulled cX1_isPulled 5 (some .boolean) 3 69 [.ref c, .int v1] σ (m_X1_isPulled pa oa v1 σ) :=
  ci_of (by decide) (by simp [Value.category]) (by simp) (fun X r hl hX hR hQ hr => a_X1_isPulled_0 hX hR hQ hr c pk pa on oa hc hpk hpa hon hoa v1 σ)

set_option maxRecDepth 100000 in
set_option maxHeartbeats 2000000 in
theorem a_X1_isSolution_0 {X : AX} {r0 : Int32 × Mem} (hX : CX X cX1_isSolution 2 RX1) (hR : (aR X).frames = 4 ∧ (aR X).locals = 95 ∧ aCe X ≤ (aR X).cells ∧ aSl X ≤ (aR X).slots) (hQ : QI X r0) (hr : (aMeth X).sig.returnType = (some .boolean)) (c pk pa on oa : Nat) (hc : shp[c]? = some (.inl (1, [some 1, some pk, some on]))) (hpk : shp[pk]? = some (.inl (7, [some pa]))) (hpa : shp[pa]? = some (.inr (0, 6))) (hon : shp[on]? = some (.inl (7, [some oa]))) (hoa : shp[oa]? = some (.inr (0, 6))) (v1 : Int32) (σ : Mem) : AWo X r0 0 [some (.ref c), some (.int v1)] [] σ (m_X1_isSolution pa oa v1 σ) := by
  unfold m_X1_isSolution
  refine a_al0 hX dX1_isSolution_0 rfl ?_
  refine a_il1 hX dX1_isSolution_1 rfl ?_
  refine a_callI hX hR ml_X1_27 (ci_X1_meets _ c pk pa on oa hc hpk hpa hon hoa _ _) hc rfl rfl rfl (by decide) (Nat.le_of_ble_eq_true rfl) rfl dX1_isSolution_2 rfl (fun x1 => ?_)
  refine a_if_ne hX dX1_isSolution_5 rfl rfl ?_ ?_
  · refine a_al0 hX dX1_isSolution_10 rfl ?_
    refine a_il1 hX dX1_isSolution_11 rfl ?_
    refine a_callV hX hR ml_X1_31 (ci_X1_turnOn _ c pk pa on oa hc hpk hpa hon hoa _ _) hc rfl rfl rfl (by decide) (Nat.le_of_ble_eq_true rfl) rfl dX1_isSolution_12 rfl (fun x2 => ?_)
    refine a_al0 hX dX1_isSolution_15 rfl ?_
    refine a_ic 5 hX dX1_isSolution_16 (by decide) rfl ?_
    refine a_callI hX hR ml_X1_35 (ci_X1_standsUpTo _ c pk pa on oa hc hpk hpa hon hoa _ _) hc rfl rfl rfl (by decide) (Nat.le_of_ble_eq_true rfl) rfl dX1_isSolution_17 rfl (fun x3 => ?_)
    refine a_if_eq hX dX1_isSolution_20 rfl rfl ?_ ?_
    · refine a_ic 0 hX dX1_isSolution_35 (by decide) rfl ?_
      exact a_zret0 (by decide) hX hQ hr dX1_isSolution_36
    · refine a_al0 hX dX1_isSolution_23 rfl ?_
      refine a_il1 hX dX1_isSolution_24 rfl ?_
      refine a_callI hX hR ml_X1_38 (ci_X1_isPulled _ c pk pa on oa hc hpk hpa hon hoa _ _) hc rfl rfl rfl (by decide) (Nat.le_of_ble_eq_true rfl) rfl dX1_isSolution_25 rfl (fun x4 => ?_)
      refine a_if_eq hX dX1_isSolution_28 rfl rfl ?_ ?_
      · refine a_ic 0 hX dX1_isSolution_35 (by decide) rfl ?_
        exact a_zret0 (by decide) hX hQ hr dX1_isSolution_36
      · refine a_ic 1 hX dX1_isSolution_31 (by decide) rfl ?_
        refine a_goto hX dX1_isSolution_32 rfl ?_
        exact a_zret0 (by decide) hX hQ hr dX1_isSolution_36
  · refine a_ic 0 hX dX1_isSolution_8 (by decide) rfl ?_
    exact a_zret0 (by decide) hX hQ hr dX1_isSolution_9

set_option maxRecDepth 100000 in
theorem ci_X1_isSolution (l : Launch) (c pk pa on oa : Nat) (hc : shp[c]? = some (.inl (1, [some 1, some pk, some on]))) (hpk : shp[pk]? = some (.inl (7, [some pa]))) (hpa : shp[pa]? = some (.inr (0, 6))) (hon : shp[on]? = some (.inl (7, [some oa]))) (hoa : shp[oa]? = some (.inr (0, 6))) (v1 : Int32) (σ : Mem) : CI l yX1_isSolution cX1_isSolution 2 (some .boolean) 4 95 [.ref c, .int v1] σ (m_X1_isSolution pa oa v1 σ) :=
  ci_of (by decide) (by simp [Value.category]) (by simp) (fun X r hl hX hR hQ hr => a_X1_isSolution_0 hX hR hQ hr c pk pa on oa hc hpk hpa hon hoa v1 σ)

set_option maxRecDepth 100000 in
set_option maxHeartbeats 2000000 in
theorem a_X7_copy_2 {X : AX} {r0 : Int32 × Mem} (hX : CX X cX7_copy 3 RX7) (hR : (aR X).frames = 1 ∧ (aR X).locals = 21 ∧ aCe X ≤ (aR X).cells ∧ aSl X ≤ (aR X).slots) (hQ : QV X r0) (hr : (aMeth X).sig.returnType = none) (p a n : Nat) (hp : shp[p]? = some (.inl (7, [some a]))) (ha : shp[a]? = some (.inr (0, n))) (p1 a1 n1 : Nat) (hp1 : shp[p1]? = some (.inl (7, [some a1]))) (ha1 : shp[a1]? = some (.inr (0, n1))) : ∀ (fuel : Nat) (v2 : Int32) (σ : Mem), AWo X r0 2 [some (.ref p), some (.ref p1), some (.int v2)] [] σ (m_X7_copy_2 a n a1 n1 fuel v2 σ) := by
  intro fuel
  induction fuel with
  | zero => intro v2 σ; exact a_none
  | succ fuel ih =>
    intro v2 σ
    show AWo X r0 2 [some (.ref p), some (.ref p1), some (.int v2)] [] σ (m_X7_copy_2 a n a1 n1 (fuel + 1) v2 σ)
    unfold m_X7_copy_2
    refine a_il2 hX dX7_copy_2 rfl ?_
    refine a_al0 hX dX7_copy_3 rfl ?_
    refine a_getR hX fl_X7_9 hp rfl dX7_copy_4 rfl ?_
    refine a_alen (Int32.ofNat n) hX ha (by decide) rfl dX7_copy_7 rfl ?_
    refine a_icmp_ge hX dX7_copy_8 rfl rfl ?_ ?_
    · exact a_vret hX hQ hr dX7_copy_28
    · refine a_al0 hX dX7_copy_11 rfl ?_
      refine a_getR hX fl_X7_9 hp rfl dX7_copy_12 rfl ?_
      refine a_il2 hX dX7_copy_15 rfl ?_
      refine a_al1 hX dX7_copy_16 rfl ?_
      refine a_il2 hX dX7_copy_17 rfl ?_
      refine a_callI hX hR ml_X7_21 (ci_X7_get _ p1 a1 n1 hp1 ha1 _ _) hp1 rfl rfl rfl (by decide) (Nat.le_of_ble_eq_true rfl) rfl dX7_copy_18 rfl (fun x1 => ?_)
      refine a_ast hX ha dX7_copy_21 rfl (fun m2 => ?_)
      refine a_inc2 1 hX dX7_copy_22 (by decide) rfl ?_
      refine a_goto hX dX7_copy_25 rfl ?_
      exact a_sub (ih (v2 + 1) m2) (ls_s (ls_s (ls_s ls_0)))

set_option maxRecDepth 100000 in
set_option maxHeartbeats 2000000 in
theorem a_X7_copy_0 {X : AX} {r0 : Int32 × Mem} (hX : CX X cX7_copy 3 RX7) (hR : (aR X).frames = 1 ∧ (aR X).locals = 21 ∧ aCe X ≤ (aR X).cells ∧ aSl X ≤ (aR X).slots) (hQ : QV X r0) (hr : (aMeth X).sig.returnType = none) (p a n : Nat) (hp : shp[p]? = some (.inl (7, [some a]))) (ha : shp[a]? = some (.inr (0, n))) (p1 a1 n1 : Nat) (hp1 : shp[p1]? = some (.inl (7, [some a1]))) (ha1 : shp[a1]? = some (.inr (0, n1))) (σ : Mem) : AWo X r0 0 [some (.ref p), some (.ref p1), none] [] σ (m_X7_copy a n a1 n1  σ) := by
  unfold m_X7_copy
  refine a_ic 0 hX dX7_copy_0 (by decide) rfl ?_
  refine a_is2 hX dX7_copy_1 rfl ?_
  exact a_sub (a_X7_copy_2 hX hR hQ hr p a n hp ha p1 a1 n1 hp1 ha1 FU 0 (σ)) (ls_s (ls_s (ls_s ls_0)))

set_option maxRecDepth 100000 in
theorem ci_X7_copy (l : Launch) (p a n : Nat) (hp : shp[p]? = some (.inl (7, [some a]))) (ha : shp[a]? = some (.inr (0, n))) (p1 a1 n1 : Nat) (hp1 : shp[p1]? = some (.inl (7, [some a1]))) (ha1 : shp[a1]? = some (.inr (0, n1))) (σ : Mem) : CV l yX7_copy cX7_copy 3 1 21 [.ref p, .ref p1] σ (m_X7_copy a n a1 n1  σ) :=
  cv_of (by decide) (by simp [Value.category]) (by simp) (fun X r hl hX hR hQ hr => a_X7_copy_0 hX hR hQ hr p a n hp ha p1 a1 n1 hp1 ha1 σ)

set_option maxRecDepth 100000 in
set_option maxHeartbeats 2000000 in
theorem a_X0_findBest_58 {X : AX} {r0 : Int32 × Mem} (hX : CX X cX0_findBest 5 RX0) (hR : (aR X).frames = 5 ∧ (aR X).locals = 116 ∧ aCe X ≤ (aR X).cells ∧ aSl X ≤ (aR X).slots) (hQ : QI X r0) (hr : (aMeth X).sig.returnType = (some .boolean)) (f29 : Int32 → Int32 → Int32 → Int32 → Mem → Option (Int32 × Mem)) (hf29 : ∀ (v1 v2 v3 v4 : Int32) (σ : Mem), AWo X r0 29 [some (.ref 81), some (.int v1), some (.int v2), some (.int v3), some (.int v4)] [] σ (f29 v1 v2 v3 v4 σ)) (v1 v2 v3 v4 : Int32) (σ : Mem) : AWo X r0 58 [some (.ref 81), some (.int v1), some (.int v2), some (.int v3), some (.int v4)] [] σ (m_X0_findBest_58 f29 v1 v2 v3 v4 σ) := by
  unfold m_X0_findBest_58
  refine a_al0 hX dX0_findBest_58 rfl ?_
  refine a_getR hX fl_X0_33 s_81 rfl dX0_findBest_59 rfl ?_
  refine a_il2 hX dX0_findBest_62 rfl ?_
  refine a_callI hX hR ml_X0_60 (ci_X1_isSolution _ 84 85 86 87 88 s_84 s_85 s_86 s_87 s_88 _ _) s_84 rfl rfl rfl (by decide) (Nat.le_of_ble_eq_true rfl) rfl dX0_findBest_63 rfl (fun x1 => ?_)
  refine a_if_eq hX dX0_findBest_66 rfl rfl ?_ ?_
  · refine a_inc4 1 hX dX0_findBest_85 (by decide) rfl ?_
    refine a_goto hX dX0_findBest_88 rfl ?_
    exact a_sub (hf29 v1 v2 v3 (v4 + 1) x1.2) (ls_s (ls_s (ls_s (ls_s (ls_s ls_0)))))
  · refine a_al0 hX dX0_findBest_69 rfl ?_
    refine a_getR hX fl_X0_14 s_81 rfl dX0_findBest_70 rfl ?_
    refine a_al0 hX dX0_findBest_73 rfl ?_
    refine a_getR hX fl_X0_33 s_81 rfl dX0_findBest_74 rfl ?_
    refine a_getR hX fl_X0_64 s_84 rfl dX0_findBest_77 rfl ?_
    refine a_callV hX hR ml_X0_67 (ci_X7_copy _ 82 83 6 s_82 s_83 85 86 6 s_85 s_86 _) s_82 rfl rfl rfl (by decide) (Nat.le_of_ble_eq_true rfl) rfl dX0_findBest_80 rfl (fun x2 => ?_)
    refine a_ic 1 hX dX0_findBest_83 (by decide) rfl ?_
    refine a_is3 hX dX0_findBest_84 rfl ?_
    refine a_inc4 1 hX dX0_findBest_85 (by decide) rfl ?_
    refine a_goto hX dX0_findBest_88 rfl ?_
    exact a_sub (hf29 v1 v2 1 (v4 + 1) x2.2) (ls_s (ls_s (ls_s (ls_s (ls_s ls_0)))))

set_option maxRecDepth 100000 in
set_option maxHeartbeats 2000000 in
theorem a_X0_findBest_29 {X : AX} {r0 : Int32 × Mem} (hX : CX X cX0_findBest 5 RX0) (hR : (aR X).frames = 5 ∧ (aR X).locals = 116 ∧ aCe X ≤ (aR X).cells ∧ aSl X ≤ (aR X).slots) (hQ : QI X r0) (hr : (aMeth X).sig.returnType = (some .boolean)) : ∀ (fuel : Nat) (v1 v2 v3 v4 : Int32) (σ : Mem), AWo X r0 29 [some (.ref 81), some (.int v1), some (.int v2), some (.int v3), some (.int v4)] [] σ (m_X0_findBest_29 fuel v1 v2 v3 v4 σ) := by
  intro fuel
  induction fuel with
  | zero => intro v1 v2 v3 v4 σ; exact a_none
  | succ fuel ih =>
    intro v1 v2 v3 v4 σ
    show AWo X r0 29 [some (.ref 81), some (.int v1), some (.int v2), some (.int v3), some (.int v4)] [] σ (m_X0_findBest_29 (fuel + 1) v1 v2 v3 v4 σ)
    unfold m_X0_findBest_29
    refine a_il4 hX dX0_findBest_29 rfl ?_
    refine a_si 15625 hX dX0_findBest_31 (by decide) rfl ?_
    refine a_icmp_ge hX dX0_findBest_34 rfl rfl ?_ ?_
    · refine a_il3 hX dX0_findBest_91 rfl ?_
      exact a_zret hX hQ hr dX0_findBest_92
    · refine a_al0 hX dX0_findBest_37 rfl ?_
      refine a_il4 hX dX0_findBest_38 rfl ?_
      refine a_il1 hX dX0_findBest_40 rfl ?_
      refine a_callI hX hR ml_X0_52 (ci_X0_pickAll _ _ _ _) s_81 rfl rfl rfl (by decide) (Nat.le_of_ble_eq_true rfl) rfl dX0_findBest_41 rfl (fun x1 => ?_)
      refine a_if_eq hX dX0_findBest_44 rfl rfl ?_ ?_
      · refine a_inc4 1 hX dX0_findBest_85 (by decide) rfl ?_
        refine a_goto hX dX0_findBest_88 rfl ?_
        exact a_sub (ih v1 v2 v3 (v4 + 1) x1.2) (ls_s (ls_s (ls_s (ls_s (ls_s ls_0)))))
      · refine a_il3 hX dX0_findBest_47 rfl ?_
        refine a_if_eq hX dX0_findBest_48 rfl rfl ?_ ?_
        · exact a_sub (a_X0_findBest_58 hX hR hQ hr (m_X0_findBest_29 fuel) ih v1 v2 v3 v4 x1.2) (ls_s (ls_s (ls_s (ls_s (ls_s ls_0)))))
        · refine a_al0 hX dX0_findBest_51 rfl ?_
          refine a_callI hX hR ml_X0_56 (ci_X0_isBetter _ _) s_81 rfl rfl rfl (by decide) (Nat.le_of_ble_eq_true rfl) rfl dX0_findBest_52 rfl (fun x2 => ?_)
          refine a_if_eq hX dX0_findBest_55 rfl rfl ?_ ?_
          · refine a_inc4 1 hX dX0_findBest_85 (by decide) rfl ?_
            refine a_goto hX dX0_findBest_88 rfl ?_
            exact a_sub (ih v1 v2 v3 (v4 + 1) x2.2) (ls_s (ls_s (ls_s (ls_s (ls_s ls_0)))))
          · exact a_sub (a_X0_findBest_58 hX hR hQ hr (m_X0_findBest_29 fuel) ih v1 v2 v3 v4 x2.2) (ls_s (ls_s (ls_s (ls_s (ls_s ls_0)))))

set_option maxRecDepth 100000 in
set_option maxHeartbeats 2000000 in
theorem a_X0_findBest_0 {X : AX} {r0 : Int32 × Mem} (hX : CX X cX0_findBest 5 RX0) (hR : (aR X).frames = 5 ∧ (aR X).locals = 116 ∧ aCe X ≤ (aR X).cells ∧ aSl X ≤ (aR X).slots) (hQ : QI X r0) (hr : (aMeth X).sig.returnType = (some .boolean)) (σ : Mem) : AWo X r0 0 [some (.ref 81), none, none, none, none] [] σ (m_X0_findBest  σ) := by
  unfold m_X0_findBest
  refine a_al0 hX dX0_findBest_0 rfl ?_
  refine a_getR hX fl_X0_20 s_81 rfl dX0_findBest_1 rfl ?_
  refine a_callI hX hR ml_X0_37 (ci_X10_usable _ _) s_1 rfl rfl rfl (by decide) (Nat.le_of_ble_eq_true rfl) rfl dX0_findBest_4 rfl (fun x1 => ?_)
  refine a_is1 hX dX0_findBest_7 rfl ?_
  refine a_al0 hX dX0_findBest_8 rfl ?_
  refine a_getR hX fl_X0_24 s_81 rfl dX0_findBest_9 rfl ?_
  refine a_callI hX hR ml_X0_43 (ci_X5_demands _ _) s_66 rfl rfl rfl (by decide) (Nat.le_of_ble_eq_true rfl) rfl dX0_findBest_12 rfl (fun x2 => ?_)
  refine a_is2 hX dX0_findBest_15 rfl ?_
  refine a_al0 hX dX0_findBest_16 rfl ?_
  refine a_getR hX fl_X0_14 s_81 rfl dX0_findBest_17 rfl ?_
  refine a_ic (-1) hX dX0_findBest_20 (by decide) rfl ?_
  refine a_callV hX hR ml_X0_48 (ci_X7_fill _ 82 83 6 s_82 s_83 _ _) s_82 rfl rfl rfl (by decide) (Nat.le_of_ble_eq_true rfl) rfl dX0_findBest_21 rfl (fun x3 => ?_)
  refine a_ic 0 hX dX0_findBest_24 (by decide) rfl ?_
  refine a_is3 hX dX0_findBest_25 rfl ?_
  refine a_ic 0 hX dX0_findBest_26 (by decide) rfl ?_
  refine a_is4 hX dX0_findBest_27 rfl ?_
  exact a_sub (a_X0_findBest_29 hX hR hQ hr FU x1.1 x2.1 0 0 x3.2) (ls_s (ls_s (ls_s (ls_s (ls_s ls_0)))))

set_option maxRecDepth 100000 in
theorem ci_X0_findBest (l : Launch) (σ : Mem) : CI l yX0_findBest cX0_findBest 5 (some .boolean) 5 116 [.ref 81] σ (m_X0_findBest  σ) :=
  ci_of (by decide) (by simp [Value.category]) (by simp) (fun X r hl hX hR hQ hr => a_X0_findBest_0 hX hR hQ hr σ)

set_option maxRecDepth 100000 in
set_option maxHeartbeats 2000000 in
theorem a_X2_isFull_0 {X : AX} {r0 : Int32 × Mem} (hX : CX X cX2_isFull 1 RX2) (hR : (aR X).frames = 0 ∧ (aR X).locals = 0 ∧ aCe X ≤ (aR X).cells ∧ aSl X ≤ (aR X).slots) (hQ : QI X r0) (hr : (aMeth X).sig.returnType = (some .boolean)) (σ : Mem) : AWo X r0 0 [some (.ref 47)] [] σ (m_X2_isFull  σ) := by
  unfold m_X2_isFull
  refine a_al0 hX dX2_isFull_0 rfl ?_
  refine a_getI hX fl_X2_29 s_47 rfl dX2_isFull_1 rfl ?_
  refine a_bi 6 hX dX2_isFull_4 (by decide) rfl ?_
  refine a_icmp_lt hX dX2_isFull_6 rfl rfl ?_ ?_
  · refine a_ic 0 hX dX2_isFull_13 (by decide) rfl ?_
    exact a_zret0 (by decide) hX hQ hr dX2_isFull_14
  · refine a_ic 1 hX dX2_isFull_9 (by decide) rfl ?_
    refine a_goto hX dX2_isFull_10 rfl ?_
    exact a_zret0 (by decide) hX hQ hr dX2_isFull_14

set_option maxRecDepth 100000 in
theorem ci_X2_isFull (l : Launch) (σ : Mem) : CI l yX2_isFull cX2_isFull 1 (some .boolean) 0 0 [.ref 47] σ (m_X2_isFull  σ) :=
  ci_of (by decide) (by simp [Value.category]) (by simp) (fun X r hl hX hR hQ hr => a_X2_isFull_0 hX hR hQ hr σ)

set_option maxRecDepth 100000 in
set_option maxHeartbeats 2000000 in
theorem a_X2_add_0 {X : AX} {r0 : Int32 × Mem} (hX : CX X cX2_add 6 RX2) (hR : (aR X).frames = 1 ∧ (aR X).locals = 22 ∧ aCe X ≤ (aR X).cells ∧ aSl X ≤ (aR X).slots) (hQ : QI X r0) (hr : (aMeth X).sig.returnType = (some .int)) (v1 v2 v3 v4 : Int32) (σ : Mem) : AWo X r0 0 [some (.ref 47), some (.int v1), some (.int v2), some (.int v3), some (.int v4), none] [] σ (m_X2_add v1 v2 v3 v4 σ) := by
  unfold m_X2_add
  refine a_al0 hX dX2_add_0 rfl ?_
  refine a_getI hX fl_X2_29 s_47 rfl dX2_add_1 rfl ?_
  refine a_name (fun y1 => ?_)
  refine a_is5 hX dX2_add_4 rfl ?_
  refine a_al0 hX dX2_add_6 rfl ?_
  refine a_getR hX fl_X2_14 s_47 rfl dX2_add_7 rfl ?_
  refine a_il5 hX dX2_add_10 rfl ?_
  refine a_il1 hX dX2_add_12 rfl ?_
  refine a_callV hX hR ml_X2_33 (ci_X7_set _ 48 49 6 s_48 s_49 _ _ _) s_48 rfl rfl rfl (by decide) (Nat.le_of_ble_eq_true rfl) rfl dX2_add_13 rfl (fun x2 => ?_)
  refine a_al0 hX dX2_add_16 rfl ?_
  refine a_getR hX fl_X2_20 s_47 rfl dX2_add_17 rfl ?_
  refine a_il5 hX dX2_add_20 rfl ?_
  refine a_il2 hX dX2_add_22 rfl ?_
  refine a_callV hX hR ml_X2_33 (ci_X7_set _ 50 51 6 s_50 s_51 _ _ _) s_50 rfl rfl rfl (by decide) (Nat.le_of_ble_eq_true rfl) rfl dX2_add_23 rfl (fun x3 => ?_)
  refine a_al0 hX dX2_add_26 rfl ?_
  refine a_getR hX fl_X2_23 s_47 rfl dX2_add_27 rfl ?_
  refine a_il5 hX dX2_add_30 rfl ?_
  refine a_il3 hX dX2_add_32 rfl ?_
  refine a_callV hX hR ml_X2_33 (ci_X7_set _ 52 53 6 s_52 s_53 _ _ _) s_52 rfl rfl rfl (by decide) (Nat.le_of_ble_eq_true rfl) rfl dX2_add_33 rfl (fun x4 => ?_)
  refine a_al0 hX dX2_add_36 rfl ?_
  refine a_getR hX fl_X2_26 s_47 rfl dX2_add_37 rfl ?_
  refine a_il5 hX dX2_add_40 rfl ?_
  refine a_il4 hX dX2_add_42 rfl ?_
  refine a_callV hX hR ml_X2_33 (ci_X7_set _ 54 55 6 s_54 s_55 _ _ _) s_54 rfl rfl rfl (by decide) (Nat.le_of_ble_eq_true rfl) rfl dX2_add_44 rfl (fun x5 => ?_)
  refine a_al0 hX dX2_add_47 rfl ?_
  refine a_dup hX dX2_add_48 rfl rfl ?_
  refine a_getI hX fl_X2_29 s_47 rfl dX2_add_49 rfl ?_
  refine a_ic 1 hX dX2_add_52 (by decide) rfl ?_
  refine a_iadd hX dX2_add_53 rfl ?_
  refine a_putI hX fp_X2_29 s_47 rfl dX2_add_54 rfl ?_
  refine a_nameM (fun m6 => ?_)
  refine a_il5 hX dX2_add_57 rfl ?_
  exact a_iret hX hQ hr dX2_add_59

set_option maxRecDepth 100000 in
theorem ci_X2_add (l : Launch) (v1 v2 v3 v4 : Int32) (σ : Mem) : CI l yX2_add cX2_add 6 (some .int) 1 22 [.ref 47, .int v1, .int v2, .int v3, .int v4] σ (m_X2_add v1 v2 v3 v4 σ) :=
  ci_of (by decide) (by simp [Value.category]) (by simp) (fun X r hl hX hR hQ hr => a_X2_add_0 hX hR hQ hr v1 v2 v3 v4 σ)

set_option maxRecDepth 100000 in
set_option maxHeartbeats 2000000 in
theorem a_X3_differs_0 {X : AX} {r0 : Int32 × Mem} (hX : CX X cX3_differs 4 RX3) (hR : (aR X).frames = 1 ∧ (aR X).locals = 21 ∧ aCe X ≤ (aR X).cells ∧ aSl X ≤ (aR X).slots) (hQ : QI X r0) (hr : (aMeth X).sig.returnType = (some .boolean)) (v1 v2 v3 : Int32) (σ : Mem) : AWo X r0 0 [some (.ref 89), some (.int v1), some (.int v2), some (.int v3)] [] σ (m_X3_differs v1 v2 v3 σ) := by
  unfold m_X3_differs
  refine a_al0 hX dX3_differs_0 rfl ?_
  refine a_getR hX fl_X3_14 s_89 rfl dX3_differs_1 rfl ?_
  refine a_il1 hX dX3_differs_4 rfl ?_
  refine a_callI hX hR ml_X3_23 (ci_X7_get _ 90 91 6 s_90 s_91 _ _) s_90 rfl rfl rfl (by decide) (Nat.le_of_ble_eq_true rfl) rfl dX3_differs_5 rfl (fun x1 => ?_)
  refine a_il2 hX dX3_differs_8 rfl ?_
  refine a_icmp_ne hX dX3_differs_9 rfl rfl ?_ ?_
  · refine a_ic 1 hX dX3_differs_29 (by decide) rfl ?_
    refine a_goto hX dX3_differs_30 rfl ?_
    exact a_zret0 (by decide) hX hQ hr dX3_differs_34
  · refine a_il2 hX dX3_differs_12 rfl ?_
    refine a_ic (-1) hX dX3_differs_13 (by decide) rfl ?_
    refine a_icmp_eq hX dX3_differs_14 rfl rfl ?_ ?_
    · refine a_ic 0 hX dX3_differs_33 (by decide) rfl ?_
      exact a_zret0 (by decide) hX hQ hr dX3_differs_34
    · refine a_al0 hX dX3_differs_17 rfl ?_
      refine a_getR hX fl_X3_20 s_89 rfl dX3_differs_18 rfl ?_
      refine a_il1 hX dX3_differs_21 rfl ?_
      refine a_callI hX hR ml_X3_23 (ci_X7_get _ 92 93 6 s_92 s_93 _ _) s_92 rfl rfl rfl (by decide) (Nat.le_of_ble_eq_true rfl) rfl dX3_differs_22 rfl (fun x2 => ?_)
      refine a_il3 hX dX3_differs_25 rfl ?_
      refine a_icmp_eq hX dX3_differs_26 rfl rfl ?_ ?_
      · refine a_ic 0 hX dX3_differs_33 (by decide) rfl ?_
        exact a_zret0 (by decide) hX hQ hr dX3_differs_34
      · refine a_ic 1 hX dX3_differs_29 (by decide) rfl ?_
        refine a_goto hX dX3_differs_30 rfl ?_
        exact a_zret0 (by decide) hX hQ hr dX3_differs_34

set_option maxRecDepth 100000 in
theorem ci_X3_differs (l : Launch) (v1 v2 v3 : Int32) (σ : Mem) : CI l yX3_differs cX3_differs 4 (some .boolean) 1 21 [.ref 89, .int v1, .int v2, .int v3] σ (m_X3_differs v1 v2 v3 σ) :=
  ci_of (by decide) (by simp [Value.category]) (by simp) (fun X r hl hX hR hQ hr => a_X3_differs_0 hX hR hQ hr v1 v2 v3 σ)

set_option maxRecDepth 100000 in
set_option maxHeartbeats 2000000 in
theorem a_X3_put_0 {X : AX} {r0 : Int32 × Mem} (hX : CX X cX3_put 4 RX3) (hR : (aR X).frames = 1 ∧ (aR X).locals = 22 ∧ aCe X ≤ (aR X).cells ∧ aSl X ≤ (aR X).slots) (hQ : QV X r0) (hr : (aMeth X).sig.returnType = none) (v1 v2 v3 : Int32) (σ : Mem) : AWo X r0 0 [some (.ref 89), some (.int v1), some (.int v2), some (.int v3)] [] σ (m_X3_put v1 v2 v3 σ) := by
  unfold m_X3_put
  refine a_al0 hX dX3_put_0 rfl ?_
  refine a_getR hX fl_X3_14 s_89 rfl dX3_put_1 rfl ?_
  refine a_il1 hX dX3_put_4 rfl ?_
  refine a_il2 hX dX3_put_5 rfl ?_
  refine a_callV hX hR ml_X3_27 (ci_X7_set _ 90 91 6 s_90 s_91 _ _ _) s_90 rfl rfl rfl (by decide) (Nat.le_of_ble_eq_true rfl) rfl dX3_put_6 rfl (fun x1 => ?_)
  refine a_al0 hX dX3_put_9 rfl ?_
  refine a_getR hX fl_X3_20 s_89 rfl dX3_put_10 rfl ?_
  refine a_il1 hX dX3_put_13 rfl ?_
  refine a_il3 hX dX3_put_14 rfl ?_
  refine a_callV hX hR ml_X3_27 (ci_X7_set _ 92 93 6 s_92 s_93 _ _ _) s_92 rfl rfl rfl (by decide) (Nat.le_of_ble_eq_true rfl) rfl dX3_put_15 rfl (fun x2 => ?_)
  exact a_vret hX hQ hr dX3_put_18

set_option maxRecDepth 100000 in
theorem ci_X3_put (l : Launch) (v1 v2 v3 : Int32) (σ : Mem) : CV l yX3_put cX3_put 4 1 22 [.ref 89, .int v1, .int v2, .int v3] σ (m_X3_put v1 v2 v3 σ) :=
  cv_of (by decide) (by simp [Value.category]) (by simp) (fun X r hl hX hR hQ hr => a_X3_put_0 hX hR hQ hr v1 v2 v3 σ)

set_option maxRecDepth 100000 in
set_option maxHeartbeats 2000000 in
theorem a_X4_isFull_0 {X : AX} {r0 : Int32 × Mem} (hX : CX X cX4_isFull 2 RX4) (hR : (aR X).frames = 1 ∧ (aR X).locals = 21 ∧ aCe X ≤ (aR X).cells ∧ aSl X ≤ (aR X).slots) (hQ : QI X r0) (hr : (aMeth X).sig.returnType = (some .boolean)) (v1 : Int32) (σ : Mem) : AWo X r0 0 [some (.ref 32), some (.int v1)] [] σ (m_X4_isFull v1 σ) := by
  unfold m_X4_isFull
  refine a_al0 hX dX4_isFull_0 rfl ?_
  refine a_getR hX fl_X4_35 s_32 rfl dX4_isFull_1 rfl ?_
  refine a_il1 hX dX4_isFull_4 rfl ?_
  refine a_callI hX hR ml_X4_38 (ci_X7_get _ 45 46 24 s_45 s_46 _ _) s_45 rfl rfl rfl (by decide) (Nat.le_of_ble_eq_true rfl) rfl dX4_isFull_5 rfl (fun x1 => ?_)
  refine a_ic 5 hX dX4_isFull_8 (by decide) rfl ?_
  refine a_icmp_lt hX dX4_isFull_9 rfl rfl ?_ ?_
  · refine a_ic 0 hX dX4_isFull_16 (by decide) rfl ?_
    exact a_zret0 (by decide) hX hQ hr dX4_isFull_17
  · refine a_ic 1 hX dX4_isFull_12 (by decide) rfl ?_
    refine a_goto hX dX4_isFull_13 rfl ?_
    exact a_zret0 (by decide) hX hQ hr dX4_isFull_17

set_option maxRecDepth 100000 in
theorem ci_X4_isFull (l : Launch) (v1 : Int32) (σ : Mem) : CI l yX4_isFull cX4_isFull 2 (some .boolean) 1 21 [.ref 32, .int v1] σ (m_X4_isFull v1 σ) :=
  ci_of (by decide) (by simp [Value.category]) (by simp) (fun X r hl hX hR hQ hr => a_X4_isFull_0 hX hR hQ hr v1 σ)

set_option maxRecDepth 100000 in
set_option maxHeartbeats 2000000 in
theorem a_X4_add_0 {X : AX} {r0 : Int32 × Mem} (hX : CX X cX4_add 9 RX4) (hR : (aR X).frames = 2 ∧ (aR X).locals = 42 ∧ aCe X ≤ (aR X).cells ∧ aSl X ≤ (aR X).slots) (hQ : QI X r0) (hr : (aMeth X).sig.returnType = (some .int)) (v1 v2 v3 v4 v5 v6 v7 : Int32) (σ : Mem) : AWo X r0 0 [some (.ref 32), some (.int v1), some (.int v2), some (.int v3), some (.int v4), some (.int v5), some (.int v6), some (.int v7), none] [] σ (m_X4_add v1 v2 v3 v4 v5 v6 v7 σ) := by
  unfold m_X4_add
  refine a_al0 hX dX4_add_0 rfl ?_
  refine a_il1 hX dX4_add_1 rfl ?_
  refine a_callI hX hR ml_X4_42 (ci_X4_end _ _ _) s_32 rfl rfl rfl (by decide) (Nat.le_of_ble_eq_true rfl) rfl dX4_add_2 rfl (fun x1 => ?_)
  refine a_is8 hX dX4_add_5 rfl ?_
  refine a_al0 hX dX4_add_7 rfl ?_
  refine a_getR hX fl_X4_14 s_32 rfl dX4_add_8 rfl ?_
  refine a_il8 hX dX4_add_11 rfl ?_
  refine a_il2 hX dX4_add_13 rfl ?_
  refine a_callV hX hR ml_X4_45 (ci_X7_set _ 33 34 120 s_33 s_34 _ _ _) s_33 rfl rfl rfl (by decide) (Nat.le_of_ble_eq_true rfl) rfl dX4_add_14 rfl (fun x2 => ?_)
  refine a_al0 hX dX4_add_17 rfl ?_
  refine a_getR hX fl_X4_20 s_32 rfl dX4_add_18 rfl ?_
  refine a_il8 hX dX4_add_21 rfl ?_
  refine a_il3 hX dX4_add_23 rfl ?_
  refine a_callV hX hR ml_X4_45 (ci_X7_set _ 35 36 120 s_35 s_36 _ _ _) s_35 rfl rfl rfl (by decide) (Nat.le_of_ble_eq_true rfl) rfl dX4_add_24 rfl (fun x3 => ?_)
  refine a_al0 hX dX4_add_27 rfl ?_
  refine a_getR hX fl_X4_23 s_32 rfl dX4_add_28 rfl ?_
  refine a_il8 hX dX4_add_31 rfl ?_
  refine a_il4 hX dX4_add_33 rfl ?_
  refine a_callV hX hR ml_X4_45 (ci_X7_set _ 37 38 120 s_37 s_38 _ _ _) s_37 rfl rfl rfl (by decide) (Nat.le_of_ble_eq_true rfl) rfl dX4_add_35 rfl (fun x4 => ?_)
  refine a_al0 hX dX4_add_38 rfl ?_
  refine a_getR hX fl_X4_26 s_32 rfl dX4_add_39 rfl ?_
  refine a_il8 hX dX4_add_42 rfl ?_
  refine a_il5 hX dX4_add_44 rfl ?_
  refine a_callV hX hR ml_X4_45 (ci_X7_set _ 39 40 120 s_39 s_40 _ _ _) s_39 rfl rfl rfl (by decide) (Nat.le_of_ble_eq_true rfl) rfl dX4_add_46 rfl (fun x5 => ?_)
  refine a_al0 hX dX4_add_49 rfl ?_
  refine a_getR hX fl_X4_29 s_32 rfl dX4_add_50 rfl ?_
  refine a_il8 hX dX4_add_53 rfl ?_
  refine a_il6 hX dX4_add_55 rfl ?_
  refine a_callV hX hR ml_X4_45 (ci_X7_set _ 41 42 120 s_41 s_42 _ _ _) s_41 rfl rfl rfl (by decide) (Nat.le_of_ble_eq_true rfl) rfl dX4_add_57 rfl (fun x6 => ?_)
  refine a_al0 hX dX4_add_60 rfl ?_
  refine a_getR hX fl_X4_32 s_32 rfl dX4_add_61 rfl ?_
  refine a_il8 hX dX4_add_64 rfl ?_
  refine a_il7 hX dX4_add_66 rfl ?_
  refine a_callV hX hR ml_X4_45 (ci_X7_set _ 43 44 120 s_43 s_44 _ _ _) s_43 rfl rfl rfl (by decide) (Nat.le_of_ble_eq_true rfl) rfl dX4_add_68 rfl (fun x7 => ?_)
  refine a_al0 hX dX4_add_71 rfl ?_
  refine a_getR hX fl_X4_35 s_32 rfl dX4_add_72 rfl ?_
  refine a_il1 hX dX4_add_75 rfl ?_
  refine a_al0 hX dX4_add_76 rfl ?_
  refine a_getR hX fl_X4_35 s_32 rfl dX4_add_77 rfl ?_
  refine a_il1 hX dX4_add_80 rfl ?_
  refine a_callI hX hR ml_X4_38 (ci_X7_get _ 45 46 24 s_45 s_46 _ _) s_45 rfl rfl rfl (by decide) (Nat.le_of_ble_eq_true rfl) rfl dX4_add_81 rfl (fun x8 => ?_)
  refine a_ic 1 hX dX4_add_84 (by decide) rfl ?_
  refine a_iadd hX dX4_add_85 rfl ?_
  refine a_callV hX hR ml_X4_45 (ci_X7_set _ 45 46 24 s_45 s_46 _ _ _) s_45 rfl rfl rfl (by decide) (Nat.le_of_ble_eq_true rfl) rfl dX4_add_86 rfl (fun x9 => ?_)
  refine a_al0 hX dX4_add_89 rfl ?_
  refine a_getR hX fl_X4_35 s_32 rfl dX4_add_90 rfl ?_
  refine a_il1 hX dX4_add_93 rfl ?_
  refine a_callI hX hR ml_X4_38 (ci_X7_get _ 45 46 24 s_45 s_46 _ _) s_45 rfl rfl rfl (by decide) (Nat.le_of_ble_eq_true rfl) rfl dX4_add_94 rfl (fun x10 => ?_)
  exact a_iret hX hQ hr dX4_add_97

set_option maxRecDepth 100000 in
theorem ci_X4_add (l : Launch) (v1 v2 v3 v4 v5 v6 v7 : Int32) (σ : Mem) : CI l yX4_add cX4_add 9 (some .int) 2 42 [.ref 32, .int v1, .int v2, .int v3, .int v4, .int v5, .int v6, .int v7] σ (m_X4_add v1 v2 v3 v4 v5 v6 v7 σ) :=
  ci_of (by decide) (by simp [Value.category]) (by simp) (fun X r hl hX hR hQ hr => a_X4_add_0 hX hR hQ hr v1 v2 v3 v4 v5 v6 v7 σ)

set_option maxRecDepth 100000 in
set_option maxHeartbeats 2000000 in
theorem a_X6_isFull_0 {X : AX} {r0 : Int32 × Mem} (hX : CX X cX6_isFull 1 RX6) (hR : (aR X).frames = 0 ∧ (aR X).locals = 0 ∧ aCe X ≤ (aR X).cells ∧ aSl X ≤ (aR X).slots) (hQ : QI X r0) (hr : (aMeth X).sig.returnType = (some .boolean)) (σ : Mem) : AWo X r0 0 [some (.ref 17)] [] σ (m_X6_isFull  σ) := by
  unfold m_X6_isFull
  refine a_al0 hX dX6_isFull_0 rfl ?_
  refine a_getI hX fl_X6_38 s_17 rfl dX6_isFull_1 rfl ?_
  refine a_bi 30 hX dX6_isFull_4 (by decide) rfl ?_
  refine a_icmp_lt hX dX6_isFull_6 rfl rfl ?_ ?_
  · refine a_ic 0 hX dX6_isFull_13 (by decide) rfl ?_
    exact a_zret0 (by decide) hX hQ hr dX6_isFull_14
  · refine a_ic 1 hX dX6_isFull_9 (by decide) rfl ?_
    refine a_goto hX dX6_isFull_10 rfl ?_
    exact a_zret0 (by decide) hX hQ hr dX6_isFull_14

set_option maxRecDepth 100000 in
theorem ci_X6_isFull (l : Launch) (σ : Mem) : CI l yX6_isFull cX6_isFull 1 (some .boolean) 0 0 [.ref 17] σ (m_X6_isFull  σ) :=
  ci_of (by decide) (by simp [Value.category]) (by simp) (fun X r hl hX hR hQ hr => a_X6_isFull_0 hX hR hQ hr σ)

set_option maxRecDepth 100000 in
set_option maxHeartbeats 2000000 in
theorem a_X11_hasPre_0 {X : AX} {r0 : Int32 × Mem} (hX : CX X cX11_hasPre 1 RX11) (hR : (aR X).frames = 0 ∧ (aR X).locals = 0 ∧ aCe X ≤ (aR X).cells ∧ aSl X ≤ (aR X).slots) (hQ : QI X r0) (hr : (aMeth X).sig.returnType = (some .boolean)) (v0 : Int32) (σ : Mem) : AWo X r0 0 [some (.int v0)] [] σ (m_X11_hasPre v0 σ) := by
  unfold m_X11_hasPre
  refine a_il0 hX dX11_hasPre_0 rfl ?_
  refine a_bi 15 hX dX11_hasPre_1 (by decide) rfl ?_
  refine a_iand hX dX11_hasPre_3 rfl ?_
  refine a_bi 10 hX dX11_hasPre_4 (by decide) rfl ?_
  refine a_icmp_eq hX dX11_hasPre_6 rfl rfl ?_ ?_
  · refine a_ic 0 hX dX11_hasPre_13 (by decide) rfl ?_
    exact a_zret0 (by decide) hX hQ hr dX11_hasPre_14
  · refine a_ic 1 hX dX11_hasPre_9 (by decide) rfl ?_
    refine a_goto hX dX11_hasPre_10 rfl ?_
    exact a_zret0 (by decide) hX hQ hr dX11_hasPre_14

set_option maxRecDepth 100000 in
theorem ci_X11_hasPre (l : Launch) (v0 : Int32) (σ : Mem) : CI l yX11_hasPre cX11_hasPre 1 (some .boolean) 0 0 [.int v0] σ (m_X11_hasPre v0 σ) :=
  ci_of (by decide) (by simp [Value.category]) (by simp) (fun X r hl hX hR hQ hr => a_X11_hasPre_0 hX hR hQ hr v0 σ)

set_option maxRecDepth 100000 in
set_option maxHeartbeats 2000000 in
theorem a_X11_triple_0 {X : AX} {r0 : Int32 × Mem} (hX : CX X cX11_triple 1 RX11) (hR : (aR X).frames = 0 ∧ (aR X).locals = 0 ∧ aCe X ≤ (aR X).cells ∧ aSl X ≤ (aR X).slots) (hQ : QI X r0) (hr : (aMeth X).sig.returnType = (some .int)) (v0 : Int32) (σ : Mem) : AWo X r0 0 [some (.int v0)] [] σ (m_X11_triple v0 σ) := by
  unfold m_X11_triple
  refine a_il0 hX dX11_triple_0 rfl ?_
  refine a_ic 4 hX dX11_triple_1 (by decide) rfl ?_
  refine a_ishr hX dX11_triple_2 rfl ?_
  exact a_iret hX hQ hr dX11_triple_3

set_option maxRecDepth 100000 in
theorem ci_X11_triple (l : Launch) (v0 : Int32) (σ : Mem) : CI l yX11_triple cX11_triple 1 (some .int) 0 0 [.int v0] σ (m_X11_triple v0 σ) :=
  ci_of (by decide) (by simp [Value.category]) (by simp) (fun X r hl hX hR hQ hr => a_X11_triple_0 hX hR hQ hr v0 σ)

set_option maxRecDepth 100000 in
set_option maxHeartbeats 2000000 in
theorem a_X6_reaches_0 {X : AX} {r0 : Int32 × Mem} (hX : CX X cX6_reaches 3 RX6) (hR : (aR X).frames = 1 ∧ (aR X).locals = 21 ∧ aCe X ≤ (aR X).cells ∧ aSl X ≤ (aR X).slots) (hQ : QI X r0) (hr : (aMeth X).sig.returnType = (some .boolean)) (v1 v2 : Int32) (σ : Mem) : AWo X r0 0 [some (.ref 17), some (.int v1), some (.int v2)] [] σ (m_X6_reaches v1 v2 σ) := by
  unfold m_X6_reaches
  refine a_il2 hX dX6_reaches_0 rfl ?_
  refine a_al0 hX dX6_reaches_1 rfl ?_
  refine a_getR hX fl_X6_20 s_17 rfl dX6_reaches_2 rfl ?_
  refine a_il1 hX dX6_reaches_5 rfl ?_
  refine a_callI hX hR ml_X6_51 (ci_X7_get _ 20 21 30 s_20 s_21 _ _) s_20 rfl rfl rfl (by decide) (Nat.le_of_ble_eq_true rfl) rfl dX6_reaches_6 rfl (fun x1 => ?_)
  refine a_icmp_lt hX dX6_reaches_9 rfl rfl ?_ ?_
  · refine a_ic 0 hX dX6_reaches_50 (by decide) rfl ?_
    exact a_zret0 (by decide) hX hQ hr dX6_reaches_51
  · refine a_il2 hX dX6_reaches_12 rfl ?_
    refine a_al0 hX dX6_reaches_13 rfl ?_
    refine a_getR hX fl_X6_23 s_17 rfl dX6_reaches_14 rfl ?_
    refine a_il1 hX dX6_reaches_17 rfl ?_
    refine a_callI hX hR ml_X6_51 (ci_X7_get _ 22 23 30 s_22 s_23 _ _) s_22 rfl rfl rfl (by decide) (Nat.le_of_ble_eq_true rfl) rfl dX6_reaches_18 rfl (fun x2 => ?_)
    refine a_icmp_ge hX dX6_reaches_21 rfl rfl ?_ ?_
    · refine a_ic 0 hX dX6_reaches_50 (by decide) rfl ?_
      exact a_zret0 (by decide) hX hQ hr dX6_reaches_51
    · refine a_il2 hX dX6_reaches_24 rfl ?_
      refine a_callNI hX hR ml_X6_71 (ci_X11_hasPre _ _ _) rfl rfl (by decide) (Nat.le_of_ble_eq_true rfl) rfl dX6_reaches_25 rfl (fun x3 => ?_)
      refine a_if_eq hX dX6_reaches_28 rfl rfl ?_ ?_
      · refine a_ic 1 hX dX6_reaches_46 (by decide) rfl ?_
        refine a_goto hX dX6_reaches_47 rfl ?_
        exact a_zret0 (by decide) hX hQ hr dX6_reaches_51
      · refine a_al0 hX dX6_reaches_31 rfl ?_
        refine a_getR hX fl_X6_26 s_17 rfl dX6_reaches_32 rfl ?_
        refine a_il1 hX dX6_reaches_35 rfl ?_
        refine a_callI hX hR ml_X6_51 (ci_X7_get _ 24 25 30 s_24 s_25 _ _) s_24 rfl rfl rfl (by decide) (Nat.le_of_ble_eq_true rfl) rfl dX6_reaches_36 rfl (fun x4 => ?_)
        refine a_il2 hX dX6_reaches_39 rfl ?_
        refine a_callNI hX hR ml_X6_75 (ci_X11_triple _ _ _) rfl rfl (by decide) (Nat.le_of_ble_eq_true rfl) rfl dX6_reaches_40 rfl (fun x5 => ?_)
        refine a_icmp_ne hX dX6_reaches_43 rfl rfl ?_ ?_
        · refine a_ic 0 hX dX6_reaches_50 (by decide) rfl ?_
          exact a_zret0 (by decide) hX hQ hr dX6_reaches_51
        · refine a_ic 1 hX dX6_reaches_46 (by decide) rfl ?_
          refine a_goto hX dX6_reaches_47 rfl ?_
          exact a_zret0 (by decide) hX hQ hr dX6_reaches_51

set_option maxRecDepth 100000 in
theorem ci_X6_reaches (l : Launch) (v1 v2 : Int32) (σ : Mem) : CI l yX6_reaches cX6_reaches 3 (some .boolean) 1 21 [.ref 17, .int v1, .int v2] σ (m_X6_reaches v1 v2 σ) :=
  ci_of (by decide) (by simp [Value.category]) (by simp) (fun X r hl hX hR hQ hr => a_X6_reaches_0 hX hR hQ hr v1 v2 σ)

set_option maxRecDepth 100000 in
set_option maxHeartbeats 2000000 in
theorem a_X6_add_39 {X : AX} {r0 : Int32 × Mem} (hX : CX X cX6_add 7 RX6) (hR : (aR X).frames = 2 ∧ (aR X).locals = 43 ∧ aCe X ≤ (aR X).cells ∧ aSl X ≤ (aR X).slots) (hQ : QI X r0) (hr : (aMeth X).sig.returnType = (some .int)) : ∀ (fuel : Nat) (v5 v6 : Int32) (σ : Mem), AWo X r0 39 [some (.ref 17), none, none, none, some (.ref 2), some (.int v5), some (.int v6)] [] σ (m_X6_add_39 fuel v5 v6 σ) := by
  intro fuel
  induction fuel with
  | zero => intro v5 v6 σ; exact a_none
  | succ fuel ih =>
    intro v5 v6 σ
    show AWo X r0 39 [some (.ref 17), none, none, none, some (.ref 2), some (.int v5), some (.int v6)] [] σ (m_X6_add_39 (fuel + 1) v5 v6 σ)
    unfold m_X6_add_39
    refine a_il6 hX dX6_add_39 rfl ?_
    refine a_al4 hX dX6_add_41 rfl ?_
    refine a_getI hX fl_X6_45 s_2 rfl dX6_add_43 rfl ?_
    refine a_icmp_ge hX dX6_add_46 rfl rfl ?_ ?_
    · refine a_al0 hX dX6_add_88 rfl ?_
      refine a_dup hX dX6_add_89 rfl rfl ?_
      refine a_getI hX fl_X6_38 s_17 rfl dX6_add_90 rfl ?_
      refine a_ic 1 hX dX6_add_93 (by decide) rfl ?_
      refine a_iadd hX dX6_add_94 rfl ?_
      refine a_putI hX fp_X6_38 s_17 rfl dX6_add_95 rfl ?_
      refine a_nameM (fun m1 => ?_)
      refine a_il5 hX dX6_add_98 rfl ?_
      exact a_iret hX hQ hr dX6_add_100
    · refine a_al0 hX dX6_add_49 rfl ?_
      refine a_il5 hX dX6_add_50 rfl ?_
      refine a_al4 hX dX6_add_52 rfl ?_
      refine a_getR hX fl_X6_48 s_2 rfl dX6_add_54 rfl ?_
      refine a_il6 hX dX6_add_57 rfl ?_
      refine a_callI hX hR ml_X6_51 (ci_X7_get _ 5 6 24 s_5 s_6 _ _) s_5 rfl rfl rfl (by decide) (Nat.le_of_ble_eq_true rfl) rfl dX6_add_59 rfl (fun x2 => ?_)
      refine a_callI hX hR ml_X6_55 (ci_X6_reaches _ _ _ _) s_17 rfl rfl rfl (by decide) (Nat.le_of_ble_eq_true rfl) rfl dX6_add_62 rfl (fun x3 => ?_)
      refine a_if_eq hX dX6_add_65 rfl rfl ?_ ?_
      · refine a_inc6 1 hX dX6_add_82 (by decide) rfl ?_
        refine a_goto hX dX6_add_85 rfl ?_
        exact a_sub (ih v5 (v6 + 1) x3.2) (ls_s (ls_n (ls_n (ls_n (ls_s (ls_s (ls_s ls_0)))))))
      · refine a_al0 hX dX6_add_68 rfl ?_
        refine a_getR hX fl_X6_35 s_17 rfl dX6_add_69 rfl ?_
        refine a_il5 hX dX6_add_72 rfl ?_
        refine a_ic 1 hX dX6_add_74 (by decide) rfl ?_
        refine a_il6 hX dX6_add_75 rfl ?_
        refine a_ishl hX dX6_add_77 rfl ?_
        refine a_callI hX hR ml_X6_59 (ci_X7_merge _ 30 31 30 s_30 s_31 _ _ _) s_30 rfl rfl rfl (by decide) (Nat.le_of_ble_eq_true rfl) rfl dX6_add_78 rfl (fun x4 => ?_)
        refine a_pop hX dX6_add_81 rfl rfl ?_
        refine a_inc6 1 hX dX6_add_82 (by decide) rfl ?_
        refine a_goto hX dX6_add_85 rfl ?_
        exact a_sub (ih v5 (v6 + 1) x4.2) (ls_s (ls_n (ls_n (ls_n (ls_s (ls_s (ls_s ls_0)))))))

set_option maxRecDepth 100000 in
set_option maxHeartbeats 2000000 in
theorem a_X6_add_0 {X : AX} {r0 : Int32 × Mem} (hX : CX X cX6_add 7 RX6) (hR : (aR X).frames = 2 ∧ (aR X).locals = 43 ∧ aCe X ≤ (aR X).cells ∧ aSl X ≤ (aR X).slots) (hQ : QI X r0) (hr : (aMeth X).sig.returnType = (some .int)) (v1 v2 v3 : Int32) (σ : Mem) : AWo X r0 0 [some (.ref 17), some (.int v1), some (.int v2), some (.int v3), some (.ref 2), none, none] [] σ (m_X6_add v1 v2 v3 σ) := by
  unfold m_X6_add
  refine a_al0 hX dX6_add_0 rfl ?_
  refine a_getI hX fl_X6_38 s_17 rfl dX6_add_1 rfl ?_
  refine a_name (fun y1 => ?_)
  refine a_is5 hX dX6_add_4 rfl ?_
  refine a_al0 hX dX6_add_6 rfl ?_
  refine a_getR hX fl_X6_20 s_17 rfl dX6_add_7 rfl ?_
  refine a_il5 hX dX6_add_10 rfl ?_
  refine a_il1 hX dX6_add_12 rfl ?_
  refine a_callV hX hR ml_X6_42 (ci_X7_set _ 20 21 30 s_20 s_21 _ _ _) s_20 rfl rfl rfl (by decide) (Nat.le_of_ble_eq_true rfl) rfl dX6_add_13 rfl (fun x2 => ?_)
  refine a_al0 hX dX6_add_16 rfl ?_
  refine a_getR hX fl_X6_23 s_17 rfl dX6_add_17 rfl ?_
  refine a_il5 hX dX6_add_20 rfl ?_
  refine a_il2 hX dX6_add_22 rfl ?_
  refine a_callV hX hR ml_X6_42 (ci_X7_set _ 22 23 30 s_22 s_23 _ _ _) s_22 rfl rfl rfl (by decide) (Nat.le_of_ble_eq_true rfl) rfl dX6_add_23 rfl (fun x3 => ?_)
  refine a_al0 hX dX6_add_26 rfl ?_
  refine a_getR hX fl_X6_26 s_17 rfl dX6_add_27 rfl ?_
  refine a_il5 hX dX6_add_30 rfl ?_
  refine a_il3 hX dX6_add_32 rfl ?_
  refine a_callV hX hR ml_X6_42 (ci_X7_set _ 24 25 30 s_24 s_25 _ _ _) s_24 rfl rfl rfl (by decide) (Nat.le_of_ble_eq_true rfl) rfl dX6_add_33 rfl (fun x4 => ?_)
  refine a_ic 0 hX dX6_add_36 (by decide) rfl ?_
  refine a_is6 hX dX6_add_37 rfl ?_
  exact a_sub (a_X6_add_39 hX hR hQ hr FU y1 0 x4.2) (ls_s (ls_n (ls_n (ls_n (ls_s (ls_s (ls_s ls_0)))))))

set_option maxRecDepth 100000 in
theorem ci_X6_add (l : Launch) (v1 v2 v3 : Int32) (σ : Mem) : CI l yX6_add cX6_add 7 (some .int) 2 43 [.ref 17, .int v1, .int v2, .int v3, .ref 2] σ (m_X6_add v1 v2 v3 σ) :=
  ci_of (by decide) (by simp [Value.category]) (by simp) (fun X r hl hX hR hQ hr => a_X6_add_0 hX hR hQ hr v1 v2 v3 σ)

set_option maxRecDepth 100000 in
set_option maxHeartbeats 2000000 in
theorem a_X6_addJoined_81 {X : AX} {r0 : Int32 × Mem} (hX : CX X cX6_addJoined 7 RX6) (hR : (aR X).frames = 1 ∧ (aR X).locals = 22 ∧ aCe X ≤ (aR X).cells ∧ aSl X ≤ (aR X).slots) (hQ : QI X r0) (hr : (aMeth X).sig.returnType = (some .int)) (v4 s1 s2 : Int32) (σ : Mem) : AWo X r0 81 [some (.ref 17), none, none, none, some (.int v4), none, none] [.int s2, .int s1, .ref 30] σ (m_X6_addJoined_81 v4 s1 s2 σ) := by
  unfold m_X6_addJoined_81
  refine a_callV hX hR ml_X6_42 (ci_X7_set _ 30 31 30 s_30 s_31 _ _ _) s_30 rfl rfl rfl (by decide) (Nat.le_of_ble_eq_true rfl) rfl dX6_addJoined_81 rfl (fun x1 => ?_)
  refine a_al0 hX dX6_addJoined_84 rfl ?_
  refine a_dup hX dX6_addJoined_85 rfl rfl ?_
  refine a_getI hX fl_X6_38 s_17 rfl dX6_addJoined_86 rfl ?_
  refine a_ic 1 hX dX6_addJoined_89 (by decide) rfl ?_
  refine a_iadd hX dX6_addJoined_90 rfl ?_
  refine a_putI hX fp_X6_38 s_17 rfl dX6_addJoined_91 rfl ?_
  refine a_nameM (fun m2 => ?_)
  refine a_il4 hX dX6_addJoined_94 rfl ?_
  exact a_iret hX hQ hr dX6_addJoined_96

set_option maxRecDepth 100000 in
set_option maxHeartbeats 2000000 in
theorem a_X6_addJoined_0 {X : AX} {r0 : Int32 × Mem} (hX : CX X cX6_addJoined 7 RX6) (hR : (aR X).frames = 1 ∧ (aR X).locals = 22 ∧ aCe X ≤ (aR X).cells ∧ aSl X ≤ (aR X).slots) (hQ : QI X r0) (hr : (aMeth X).sig.returnType = (some .int)) (v1 v2 v3 : Int32) (σ : Mem) : AWo X r0 0 [some (.ref 17), some (.int v1), some (.int v2), some (.int v3), none, none, none] [] σ (m_X6_addJoined v1 v2 v3 σ) := by
  unfold m_X6_addJoined
  refine a_al0 hX dX6_addJoined_0 rfl ?_
  refine a_getI hX fl_X6_38 s_17 rfl dX6_addJoined_1 rfl ?_
  refine a_name (fun y1 => ?_)
  refine a_is4 hX dX6_addJoined_4 rfl ?_
  refine a_al0 hX dX6_addJoined_6 rfl ?_
  refine a_getR hX fl_X6_14 s_17 rfl dX6_addJoined_7 rfl ?_
  refine a_il4 hX dX6_addJoined_10 rfl ?_
  refine a_il1 hX dX6_addJoined_12 rfl ?_
  refine a_callV hX hR ml_X6_42 (ci_X7_set _ 18 19 30 s_18 s_19 _ _ _) s_18 rfl rfl rfl (by decide) (Nat.le_of_ble_eq_true rfl) rfl dX6_addJoined_13 rfl (fun x2 => ?_)
  refine a_al0 hX dX6_addJoined_16 rfl ?_
  refine a_getR hX fl_X6_29 s_17 rfl dX6_addJoined_17 rfl ?_
  refine a_il4 hX dX6_addJoined_20 rfl ?_
  refine a_il2 hX dX6_addJoined_22 rfl ?_
  refine a_callV hX hR ml_X6_42 (ci_X7_set _ 26 27 30 s_26 s_27 _ _ _) s_26 rfl rfl rfl (by decide) (Nat.le_of_ble_eq_true rfl) rfl dX6_addJoined_23 rfl (fun x3 => ?_)
  refine a_al0 hX dX6_addJoined_26 rfl ?_
  refine a_getR hX fl_X6_32 s_17 rfl dX6_addJoined_27 rfl ?_
  refine a_il4 hX dX6_addJoined_30 rfl ?_
  refine a_il3 hX dX6_addJoined_32 rfl ?_
  refine a_callV hX hR ml_X6_42 (ci_X7_set _ 28 29 30 s_28 s_29 _ _ _) s_28 rfl rfl rfl (by decide) (Nat.le_of_ble_eq_true rfl) rfl dX6_addJoined_33 rfl (fun x4 => ?_)
  refine a_al0 hX dX6_addJoined_36 rfl ?_
  refine a_getR hX fl_X6_35 s_17 rfl dX6_addJoined_37 rfl ?_
  refine a_il2 hX dX6_addJoined_40 rfl ?_
  refine a_callI hX hR ml_X6_51 (ci_X7_get _ 30 31 30 s_30 s_31 _ _) s_30 rfl rfl rfl (by decide) (Nat.le_of_ble_eq_true rfl) rfl dX6_addJoined_41 rfl (fun x5 => ?_)
  refine a_is5 hX dX6_addJoined_44 rfl ?_
  refine a_al0 hX dX6_addJoined_46 rfl ?_
  refine a_getR hX fl_X6_35 s_17 rfl dX6_addJoined_47 rfl ?_
  refine a_il3 hX dX6_addJoined_50 rfl ?_
  refine a_callI hX hR ml_X6_51 (ci_X7_get _ 30 31 30 s_30 s_31 _ _) s_30 rfl rfl rfl (by decide) (Nat.le_of_ble_eq_true rfl) rfl dX6_addJoined_51 rfl (fun x6 => ?_)
  refine a_is6 hX dX6_addJoined_54 rfl ?_
  refine a_al0 hX dX6_addJoined_56 rfl ?_
  refine a_getR hX fl_X6_35 s_17 rfl dX6_addJoined_57 rfl ?_
  refine a_il4 hX dX6_addJoined_60 rfl ?_
  refine a_il1 hX dX6_addJoined_62 rfl ?_
  refine a_bi 8 hX dX6_addJoined_63 (by decide) rfl ?_
  refine a_icmp_ne hX dX6_addJoined_65 rfl rfl ?_ ?_
  · refine a_il5 hX dX6_addJoined_76 rfl ?_
    refine a_il6 hX dX6_addJoined_78 rfl ?_
    refine a_ior hX dX6_addJoined_80 rfl ?_
    exact a_sub (a_X6_addJoined_81 hX hR hQ hr y1 y1 (x5.1 ||| x6.1) x6.2) (ls_s (ls_n (ls_n (ls_n (ls_s (ls_n (ls_n ls_0)))))))
  · refine a_il5 hX dX6_addJoined_68 rfl ?_
    refine a_il6 hX dX6_addJoined_70 rfl ?_
    refine a_iand hX dX6_addJoined_72 rfl ?_
    refine a_goto hX dX6_addJoined_73 rfl ?_
    exact a_sub (a_X6_addJoined_81 hX hR hQ hr y1 y1 (x5.1 &&& x6.1) x6.2) (ls_s (ls_n (ls_n (ls_n (ls_s (ls_n (ls_n ls_0)))))))

set_option maxRecDepth 100000 in
theorem ci_X6_addJoined (l : Launch) (v1 v2 v3 : Int32) (σ : Mem) : CI l yX6_addJoined cX6_addJoined 7 (some .int) 1 22 [.ref 17, .int v1, .int v2, .int v3] σ (m_X6_addJoined v1 v2 v3 σ) :=
  ci_of (by decide) (by simp [Value.category]) (by simp) (fun X r hl hX hR hQ hr => a_X6_addJoined_0 hX hR hQ hr v1 v2 v3 σ)

set_option maxRecDepth 100000 in
set_option maxHeartbeats 2000000 in
theorem a_X6_take_106 {X : AX} {r0 : Int32 × Mem} (hX : CX X cX6_take 8 RX6) (hR : (aR X).frames = 2 ∧ (aR X).locals = 43 ∧ aCe X ≤ (aR X).cells ∧ aSl X ≤ (aR X).slots) (hQ : QV X r0) (hr : (aMeth X).sig.returnType = none) (f2 : Int32 → Int32 → Int32 → Mem → Option (Int32 × Mem)) (hf2 : ∀ (v1 v2 v3 : Int32) (σ : Mem), AWo X r0 2 [some (.ref 17), some (.int v1), some (.int v2), some (.int v3), none, none, none, none] [] σ (f2 v1 v2 v3 σ)) (v1 v2 v3 s0 : Int32) (σ : Mem) : AWo X r0 106 [some (.ref 17), some (.int v1), some (.int v2), some (.int v3), none, none, none, none] [.int s0] σ (m_X6_take_106 f2 v1 v2 v3 s0 σ) := by
  unfold m_X6_take_106
  refine a_is7 hX dX6_take_106 rfl ?_
  refine a_il7 hX dX6_take_108 rfl ?_
  refine a_if_eq hX dX6_take_110 rfl rfl ?_ ?_
  · refine a_inc3 1 hX dX6_take_125 (by decide) rfl ?_
    refine a_goto hX dX6_take_128 rfl ?_
    exact a_sub (hf2 v1 v2 (v3 + 1) (σ)) (ls_s (ls_s (ls_s (ls_s (ls_n (ls_n (ls_n (ls_n ls_0))))))))
  · refine a_al0 hX dX6_take_113 rfl ?_
    refine a_getR hX fl_X6_35 s_17 rfl dX6_take_114 rfl ?_
    refine a_il3 hX dX6_take_117 rfl ?_
    refine a_ic 1 hX dX6_take_118 (by decide) rfl ?_
    refine a_il1 hX dX6_take_119 rfl ?_
    refine a_ishl hX dX6_take_120 rfl ?_
    refine a_callI hX hR ml_X6_59 (ci_X7_merge _ 30 31 30 s_30 s_31 _ _ _) s_30 rfl rfl rfl (by decide) (Nat.le_of_ble_eq_true rfl) rfl dX6_take_121 rfl (fun x1 => ?_)
    refine a_pop hX dX6_take_124 rfl rfl ?_
    refine a_inc3 1 hX dX6_take_125 (by decide) rfl ?_
    refine a_goto hX dX6_take_128 rfl ?_
    exact a_sub (hf2 v1 v2 (v3 + 1) x1.2) (ls_s (ls_s (ls_s (ls_s (ls_n (ls_n (ls_n (ls_n ls_0))))))))

set_option maxRecDepth 100000 in
set_option maxHeartbeats 2000000 in
theorem a_X6_take_2 {X : AX} {r0 : Int32 × Mem} (hX : CX X cX6_take 8 RX6) (hR : (aR X).frames = 2 ∧ (aR X).locals = 43 ∧ aCe X ≤ (aR X).cells ∧ aSl X ≤ (aR X).slots) (hQ : QV X r0) (hr : (aMeth X).sig.returnType = none) : ∀ (fuel : Nat) (v1 v2 v3 : Int32) (σ : Mem), AWo X r0 2 [some (.ref 17), some (.int v1), some (.int v2), some (.int v3), none, none, none, none] [] σ (m_X6_take_2 fuel v1 v2 v3 σ) := by
  intro fuel
  induction fuel with
  | zero => intro v1 v2 v3 σ; exact a_none
  | succ fuel ih =>
    intro v1 v2 v3 σ
    show AWo X r0 2 [some (.ref 17), some (.int v1), some (.int v2), some (.int v3), none, none, none, none] [] σ (m_X6_take_2 (fuel + 1) v1 v2 v3 σ)
    unfold m_X6_take_2
    refine a_il3 hX dX6_take_2 rfl ?_
    refine a_al0 hX dX6_take_3 rfl ?_
    refine a_getI hX fl_X6_38 s_17 rfl dX6_take_4 rfl ?_
    refine a_icmp_ge hX dX6_take_7 rfl rfl ?_ ?_
    · exact a_vret hX hQ hr dX6_take_131
    · refine a_al0 hX dX6_take_10 rfl ?_
      refine a_getR hX fl_X6_14 s_17 rfl dX6_take_11 rfl ?_
      refine a_il3 hX dX6_take_14 rfl ?_
      refine a_callI hX hR ml_X6_51 (ci_X7_get _ 18 19 30 s_18 s_19 _ _) s_18 rfl rfl rfl (by decide) (Nat.le_of_ble_eq_true rfl) rfl dX6_take_15 rfl (fun x1 => ?_)
      refine a_is4 hX dX6_take_18 rfl ?_
      refine a_al0 hX dX6_take_20 rfl ?_
      refine a_al0 hX dX6_take_21 rfl ?_
      refine a_getR hX fl_X6_29 s_17 rfl dX6_take_22 rfl ?_
      refine a_il3 hX dX6_take_25 rfl ?_
      refine a_callI hX hR ml_X6_51 (ci_X7_get _ 26 27 30 s_26 s_27 _ _) s_26 rfl rfl rfl (by decide) (Nat.le_of_ble_eq_true rfl) rfl dX6_take_26 rfl (fun x2 => ?_)
      refine a_il1 hX dX6_take_29 rfl ?_
      refine a_callI hX hR ml_X6_62 (ci_X6_holds _ _ _ _) s_17 rfl rfl rfl (by decide) (Nat.le_of_ble_eq_true rfl) rfl dX6_take_30 rfl (fun x3 => ?_)
      refine a_is5 hX dX6_take_33 rfl ?_
      refine a_al0 hX dX6_take_35 rfl ?_
      refine a_al0 hX dX6_take_36 rfl ?_
      refine a_getR hX fl_X6_32 s_17 rfl dX6_take_37 rfl ?_
      refine a_il3 hX dX6_take_40 rfl ?_
      refine a_callI hX hR ml_X6_51 (ci_X7_get _ 28 29 30 s_28 s_29 _ _) s_28 rfl rfl rfl (by decide) (Nat.le_of_ble_eq_true rfl) rfl dX6_take_41 rfl (fun x4 => ?_)
      refine a_il1 hX dX6_take_44 rfl ?_
      refine a_callI hX hR ml_X6_62 (ci_X6_holds _ _ _ _) s_17 rfl rfl rfl (by decide) (Nat.le_of_ble_eq_true rfl) rfl dX6_take_45 rfl (fun x5 => ?_)
      refine a_is6 hX dX6_take_48 rfl ?_
      refine a_il4 hX dX6_take_50 rfl ?_
      refine a_bi 8 hX dX6_take_52 (by decide) rfl ?_
      refine a_icmp_ne hX dX6_take_54 rfl rfl ?_ ?_
      · refine a_il4 hX dX6_take_75 rfl ?_
        refine a_bi 9 hX dX6_take_77 (by decide) rfl ?_
        refine a_icmp_ne hX dX6_take_79 rfl rfl ?_ ?_
        · refine a_al0 hX dX6_take_100 rfl ?_
          refine a_il3 hX dX6_take_101 rfl ?_
          refine a_il2 hX dX6_take_102 rfl ?_
          refine a_callI hX hR ml_X6_55 (ci_X6_reaches _ _ _ _) s_17 rfl rfl rfl (by decide) (Nat.le_of_ble_eq_true rfl) rfl dX6_take_103 rfl (fun x6 => ?_)
          exact a_sub (a_X6_take_106 hX hR hQ hr (m_X6_take_2 fuel) ih v1 v2 v3 x6.1 x6.2) (ls_s (ls_s (ls_s (ls_s (ls_n (ls_n (ls_n (ls_n ls_0))))))))
        · refine a_il5 hX dX6_take_82 rfl ?_
          refine a_if_ne hX dX6_take_84 rfl rfl ?_ ?_
          · refine a_ic 1 hX dX6_take_92 (by decide) rfl ?_
            refine a_goto hX dX6_take_93 rfl ?_
            exact a_sub (a_X6_take_106 hX hR hQ hr (m_X6_take_2 fuel) ih v1 v2 v3 1 x5.2) (ls_s (ls_s (ls_s (ls_s (ls_n (ls_n (ls_n (ls_n ls_0))))))))
          · refine a_il6 hX dX6_take_87 rfl ?_
            refine a_if_eq hX dX6_take_89 rfl rfl ?_ ?_
            · refine a_ic 0 hX dX6_take_96 (by decide) rfl ?_
              refine a_goto hX dX6_take_97 rfl ?_
              exact a_sub (a_X6_take_106 hX hR hQ hr (m_X6_take_2 fuel) ih v1 v2 v3 0 x5.2) (ls_s (ls_s (ls_s (ls_s (ls_n (ls_n (ls_n (ls_n ls_0))))))))
            · refine a_ic 1 hX dX6_take_92 (by decide) rfl ?_
              refine a_goto hX dX6_take_93 rfl ?_
              exact a_sub (a_X6_take_106 hX hR hQ hr (m_X6_take_2 fuel) ih v1 v2 v3 1 x5.2) (ls_s (ls_s (ls_s (ls_s (ls_n (ls_n (ls_n (ls_n ls_0))))))))
      · refine a_il5 hX dX6_take_57 rfl ?_
        refine a_if_eq hX dX6_take_59 rfl rfl ?_ ?_
        · refine a_ic 0 hX dX6_take_71 (by decide) rfl ?_
          refine a_goto hX dX6_take_72 rfl ?_
          exact a_sub (a_X6_take_106 hX hR hQ hr (m_X6_take_2 fuel) ih v1 v2 v3 0 x5.2) (ls_s (ls_s (ls_s (ls_s (ls_n (ls_n (ls_n (ls_n ls_0))))))))
        · refine a_il6 hX dX6_take_62 rfl ?_
          refine a_if_eq hX dX6_take_64 rfl rfl ?_ ?_
          · refine a_ic 0 hX dX6_take_71 (by decide) rfl ?_
            refine a_goto hX dX6_take_72 rfl ?_
            exact a_sub (a_X6_take_106 hX hR hQ hr (m_X6_take_2 fuel) ih v1 v2 v3 0 x5.2) (ls_s (ls_s (ls_s (ls_s (ls_n (ls_n (ls_n (ls_n ls_0))))))))
          · refine a_ic 1 hX dX6_take_67 (by decide) rfl ?_
            refine a_goto hX dX6_take_68 rfl ?_
            exact a_sub (a_X6_take_106 hX hR hQ hr (m_X6_take_2 fuel) ih v1 v2 v3 1 x5.2) (ls_s (ls_s (ls_s (ls_s (ls_n (ls_n (ls_n (ls_n ls_0))))))))

set_option maxRecDepth 100000 in
set_option maxHeartbeats 2000000 in
theorem a_X6_take_0 {X : AX} {r0 : Int32 × Mem} (hX : CX X cX6_take 8 RX6) (hR : (aR X).frames = 2 ∧ (aR X).locals = 43 ∧ aCe X ≤ (aR X).cells ∧ aSl X ≤ (aR X).slots) (hQ : QV X r0) (hr : (aMeth X).sig.returnType = none) (v1 v2 : Int32) (σ : Mem) : AWo X r0 0 [some (.ref 17), some (.int v1), some (.int v2), none, none, none, none, none] [] σ (m_X6_take v1 v2 σ) := by
  unfold m_X6_take
  refine a_ic 0 hX dX6_take_0 (by decide) rfl ?_
  refine a_is3 hX dX6_take_1 rfl ?_
  exact a_sub (a_X6_take_2 hX hR hQ hr FU v1 v2 0 (σ)) (ls_s (ls_s (ls_s (ls_s (ls_n (ls_n (ls_n (ls_n ls_0))))))))

set_option maxRecDepth 100000 in
theorem ci_X6_take (l : Launch) (v1 v2 : Int32) (σ : Mem) : CV l yX6_take cX6_take 8 2 43 [.ref 17, .int v1, .int v2] σ (m_X6_take v1 v2 σ) :=
  cv_of (by decide) (by simp [Value.category]) (by simp) (fun X r hl hX hR hQ hr => a_X6_take_0 hX hR hQ hr v1 v2 σ)

