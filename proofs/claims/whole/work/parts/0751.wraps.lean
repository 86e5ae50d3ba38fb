theorem ml_L_7 : MLV RL 7 yX11_publish cX11_publish 10 (some .int) 6 := ⟨bg 660 (by decide +kernel) rfl, bg 661 (by decide +kernel) rfl, bg 662 (by decide +kernel) rfl, bg 49 (by decide +kernel) rfl, bg 663 (by decide +kernel) rfl, ⟨by decide +kernel, by decide +kernel, by decide +kernel⟩⟩
theorem ml_L_19 : MLV RL 19 yX11_compare cX11_compare 3 (some .int) 2 := ⟨bg 807 (by decide +kernel) rfl, bg 808 (by decide +kernel) rfl, bg 809 (by decide +kernel) rfl, bg 49 (by decide +kernel) rfl, bg 810 (by decide +kernel) rfl, ⟨by decide +kernel, by decide +kernel, by decide +kernel⟩⟩
theorem ml_L_23 : MLV RL 23 yX11_yank cX11_yank 2 (some .boolean) 1 := ⟨bg 823 (by decide +kernel) rfl, bg 824 (by decide +kernel) rfl, bg 825 (by decide +kernel) rfl, bg 49 (by decide +kernel) rfl, bg 826 (by decide +kernel) rfl, ⟨by decide +kernel, by decide +kernel, by decide +kernel⟩⟩
theorem ml_L_27 : MLV RL 27 yX11_setPlatforms cX11_setPlatforms 3 (some .int) 2 := ⟨bg 835 (by decide +kernel) rfl, bg 836 (by decide +kernel) rfl, bg 837 (by decide +kernel) rfl, bg 49 (by decide +kernel) rfl, bg 838 (by decide +kernel) rfl, ⟨by decide +kernel, by decide +kernel, by decide +kernel⟩⟩
theorem ml_L_30 : MLV RL 30 yX11_bring cX11_bring 4 (some .boolean) 3 := ⟨bg 848 (by decide +kernel) rfl, bg 849 (by decide +kernel) rfl, bg 850 (by decide +kernel) rfl, bg 49 (by decide +kernel) rfl, bg 851 (by decide +kernel) rfl, ⟨by decide +kernel, by decide +kernel, by decide +kernel⟩⟩
theorem ml_L_34 : MLV RL 34 yX11_range cX11_range 9 (some .int) 5 := ⟨bg 857 (by decide +kernel) rfl, bg 858 (by decide +kernel) rfl, bg 859 (by decide +kernel) rfl, bg 49 (by decide +kernel) rfl, bg 860 (by decide +kernel) rfl, ⟨by decide +kernel, by decide +kernel, by decide +kernel⟩⟩
theorem ml_L_38 : MLV RL 38 yX11_join cX11_join 4 (some .int) 3 := ⟨bg 887 (by decide +kernel) rfl, bg 888 (by decide +kernel) rfl, bg 889 (by decide +kernel) rfl, bg 49 (by decide +kernel) rfl, bg 890 (by decide +kernel) rfl, ⟨by decide +kernel, by decide +kernel, by decide +kernel⟩⟩
theorem ml_L_42 : MLV RL 42 yX11_has cX11_has 3 (some .boolean) 2 := ⟨bg 903 (by decide +kernel) rfl, bg 904 (by decide +kernel) rfl, bg 905 (by decide +kernel) rfl, bg 49 (by decide +kernel) rfl, bg 906 (by decide +kernel) rfl, ⟨by decide +kernel, by decide +kernel, by decide +kernel⟩⟩
theorem ml_L_46 : MLV RL 46 yX11_need cX11_need 8 (some .int) 7 := ⟨bg 912 (by decide +kernel) rfl, bg 913 (by decide +kernel) rfl, bg 914 (by decide +kernel) rfl, bg 49 (by decide +kernel) rfl, bg 915 (by decide +kernel) rfl, ⟨by decide +kernel, by decide +kernel, by decide +kernel⟩⟩
theorem ml_L_50 : MLV RL 50 yX11_demand cX11_demand 5 (some .int) 4 := ⟨bg 932 (by decide +kernel) rfl, bg 933 (by decide +kernel) rfl, bg 934 (by decide +kernel) rfl, bg 49 (by decide +kernel) rfl, bg 935 (by decide +kernel) rfl, ⟨by decide +kernel, by decide +kernel, by decide +kernel⟩⟩
theorem ml_L_54 : MLV RL 54 yX11_advise cX11_advise 3 (some .int) 2 := ⟨bg 951 (by decide +kernel) rfl, bg 952 (by decide +kernel) rfl, bg 953 (by decide +kernel) rfl, bg 49 (by decide +kernel) rfl, bg 954 (by decide +kernel) rfl, ⟨by decide +kernel, by decide +kernel, by decide +kernel⟩⟩
theorem ml_L_57 : MLV RL 57 yX11_mending cX11_mending 2 (some .int) 1 := ⟨bg 964 (by decide +kernel) rfl, bg 965 (by decide +kernel) rfl, bg 966 (by decide +kernel) rfl, bg 49 (by decide +kernel) rfl, bg 967 (by decide +kernel) rfl, ⟨by decide +kernel, by decide +kernel, by decide +kernel⟩⟩
theorem ml_L_61 : MLV RL 61 yX11_replace cX11_replace 3 (some .int) 2 := ⟨bg 976 (by decide +kernel) rfl, bg 977 (by decide +kernel) rfl, bg 978 (by decide +kernel) rfl, bg 49 (by decide +kernel) rfl, bg 979 (by decide +kernel) rfl, ⟨by decide +kernel, by decide +kernel, by decide +kernel⟩⟩
theorem ml_L_64 : MLV RL 64 yX11_setPlatform cX11_setPlatform 3 (some .int) 1 := ⟨bg 998 (by decide +kernel) rfl, bg 999 (by decide +kernel) rfl, bg 1000 (by decide +kernel) rfl, bg 49 (by decide +kernel) rfl, bg 1001 (by decide +kernel) rfl, ⟨by decide +kernel, by decide +kernel, by decide +kernel⟩⟩
theorem ml_L_67 : MLV RL 67 yX11_solve cX11_solve 3 (some .int) 2 := ⟨bg 1006 (by decide +kernel) rfl, bg 1007 (by decide +kernel) rfl, bg 1008 (by decide +kernel) rfl, bg 49 (by decide +kernel) rfl, bg 1009 (by decide +kernel) rfl, ⟨by decide +kernel, by decide +kernel, by decide +kernel⟩⟩
theorem ml_L_70 : MLV RL 70 yX11_chosen cX11_chosen 2 (some .int) 1 := ⟨bg 1018 (by decide +kernel) rfl, bg 1019 (by decide +kernel) rfl, bg 1020 (by decide +kernel) rfl, bg 49 (by decide +kernel) rfl, bg 1021 (by decide +kernel) rfl, ⟨by decide +kernel, by decide +kernel, by decide +kernel⟩⟩
theorem ml_L_73 : MLV RL 73 yX11_chosenAnew cX11_chosenAnew 2 (some .int) 1 := ⟨bg 1025 (by decide +kernel) rfl, bg 1026 (by decide +kernel) rfl, bg 1027 (by decide +kernel) rfl, bg 49 (by decide +kernel) rfl, bg 1028 (by decide +kernel) rfl, ⟨by decide +kernel, by decide +kernel, by decide +kernel⟩⟩
theorem ml_L_76 : MLV RL 76 yX11_features cX11_features 2 (some .int) 1 := ⟨bg 1066 (by decide +kernel) rfl, bg 1067 (by decide +kernel) rfl, bg 1068 (by decide +kernel) rfl, bg 49 (by decide +kernel) rfl, bg 1069 (by decide +kernel) rfl, ⟨by decide +kernel, by decide +kernel, by decide +kernel⟩⟩
theorem ml_L_79 : MLV RL 79 yX11_against cX11_against 4 (some .int) 1 := ⟨bg 1077 (by decide +kernel) rfl, bg 1078 (by decide +kernel) rfl, bg 1079 (by decide +kernel) rfl, bg 49 (by decide +kernel) rfl, bg 1080 (by decide +kernel) rfl, ⟨by decide +kernel, by decide +kernel, by decide +kernel⟩⟩
theorem ml_L_82 : MLV RL 82 yX11_lock cX11_lock 4 (some .int) 0 := ⟨bg 1086 (by decide +kernel) rfl, bg 1087 (by decide +kernel) rfl, bg 1088 (by decide +kernel) rfl, bg 49 (by decide +kernel) rfl, bg 1089 (by decide +kernel) rfl, ⟨by decide +kernel, by decide +kernel, by decide +kernel⟩⟩
theorem ml_L_86 : MLV RL 86 yX11_unlock cX11_unlock 2 (some .int) 1 := ⟨bg 1094 (by decide +kernel) rfl, bg 1095 (by decide +kernel) rfl, bg 1096 (by decide +kernel) rfl, bg 49 (by decide +kernel) rfl, bg 1097 (by decide +kernel) rfl, ⟨by decide +kernel, by decide +kernel, by decide +kernel⟩⟩
theorem ml_L_89 : MLV RL 89 yX11_install cX11_install 6 (some .int) 1 := ⟨bg 1101 (by decide +kernel) rfl, bg 1102 (by decide +kernel) rfl, bg 1103 (by decide +kernel) rfl, bg 49 (by decide +kernel) rfl, bg 1104 (by decide +kernel) rfl, ⟨by decide +kernel, by decide +kernel, by decide +kernel⟩⟩
theorem ml_L_92 : MLV RL 92 yX11_spoil cX11_spoil 3 (some .int) 1 := ⟨bg 1114 (by decide +kernel) rfl, bg 1115 (by decide +kernel) rfl, bg 1116 (by decide +kernel) rfl, bg 49 (by decide +kernel) rfl, bg 1117 (by decide +kernel) rfl, ⟨by decide +kernel, by decide +kernel, by decide +kernel⟩⟩
theorem ml_L_95 : MLV RL 95 yX11_onDisk cX11_onDisk 3 (some .int) 1 := ⟨bg 1123 (by decide +kernel) rfl, bg 1124 (by decide +kernel) rfl, bg 1125 (by decide +kernel) rfl, bg 49 (by decide +kernel) rfl, bg 1126 (by decide +kernel) rfl, ⟨by decide +kernel, by decide +kernel, by decide +kernel⟩⟩
def km_publish : Nat → Option Int32 := fun k => if k = 1 then some 1 else if k = 2 then some 2 else if k = 3 then some 3 else none
def w_publish (v1 v2 v3 v4 v5 v6 : Int32) (σ : Mem) (τ : Nat → Int64) : Option RW := wres km_publish τ (m_X11_publish v1 v2 v3 v4 v5 v6 σ)
theorem hn_publish_1 : HND RL cL_publish 9 (tableOf [(0, 18, 21, 13), (0, 18, 25, 15), (0, 18, 29, 17)]) 13 1 1 := ⟨[], [⟨0, 18, 25, 15⟩, ⟨0, 18, 29, 17⟩], ⟨0, 18, 21, 13⟩, 8, 23, 1, rfl, fun z hz => absurd hz List.not_mem_nil, by decide, by decide, bg 657 (by decide +kernel) rfl, by decide +kernel, by decide, Or.inl ⟨dL_publish_21, rfl⟩, dL_publish_23, by decide, dL_publish_24⟩
theorem hn_publish_2 : HND RL cL_publish 9 (tableOf [(0, 18, 21, 13), (0, 18, 25, 15), (0, 18, 29, 17)]) 13 2 2 := ⟨[⟨0, 18, 21, 13⟩], [⟨0, 18, 29, 17⟩], ⟨0, 18, 25, 15⟩, 8, 27, 2, rfl, fun z hz => by
    simp only [List.mem_cons, List.not_mem_nil, or_false] at hz
    rcases hz with rfl
    · exact ⟨by decide, xName 1, bg 657 (by decide +kernel) rfl, by decide +kernel⟩
, by decide, by decide, bg 658 (by decide +kernel) rfl, by decide +kernel, by decide, Or.inl ⟨dL_publish_25, rfl⟩, dL_publish_27, by decide, dL_publish_28⟩
theorem hn_publish_3 : HND RL cL_publish 9 (tableOf [(0, 18, 21, 13), (0, 18, 25, 15), (0, 18, 29, 17)]) 13 3 3 := ⟨[⟨0, 18, 21, 13⟩, ⟨0, 18, 25, 15⟩], [], ⟨0, 18, 29, 17⟩, 8, 31, 3, rfl, fun z hz => by
    simp only [List.mem_cons, List.not_mem_nil, or_false] at hz
    rcases hz with rfl | rfl
    · exact ⟨by decide, xName 1, bg 657 (by decide +kernel) rfl, by decide +kernel⟩
    · exact ⟨by decide, xName 2, bg 658 (by decide +kernel) rfl, by decide +kernel⟩
, by decide, by decide, bg 659 (by decide +kernel) rfl, by decide +kernel, by decide, Or.inl ⟨dL_publish_29, rfl⟩, dL_publish_31, by decide, dL_publish_32⟩
theorem hk_publish : ∀ k j, km_publish k = some j → HND RL cL_publish 9 (tableOf [(0, 18, 21, 13), (0, 18, 25, 15), (0, 18, 29, 17)]) 13 k j := by
  intro k j h
  unfold km_publish at h
  by_cases e1 : k = 1
  · subst e1
    simp at h
    subst h
    exact hn_publish_1
  rw [if_neg e1] at h
  by_cases e2 : k = 2
  · subst e2
    simp at h
    subst h
    exact hn_publish_2
  rw [if_neg e2] at h
  by_cases e3 : k = 3
  · subst e3
    simp at h
    subst h
    exact hn_publish_3
  rw [if_neg e3] at h
  cases h
set_option maxRecDepth 100000 in
theorem cw_publish (l : Launch) (hlt : l.stackTraces = false) (v1 v2 v3 v4 v5 v6 : Int32) (σ : Mem) : CW l yL_publish cL_publish 9 [(0, 18, 21, 13), (0, 18, 25, 15), (0, 18, 29, 17)] 7 111 [.ref 0, .int v1, .int v2, .int v3, .int v4, .int v5, .int v6, .ref 114] σ (w_publish v1 v2 v3 v4 v5 v6 σ) := by
  refine cw_of (by decide) (by simp [Value.category]) (by simp) (fun X r hl hX hR hQ hr ht => ?_)
  unfold w_publish
  refine a_al7 hX dL_publish_0 rfl ?_
  refine a_ic 0 hX dL_publish_2 (by decide) rfl ?_
  refine a_al0 hX dL_publish_3 rfl ?_
  refine a_il1 hX dL_publish_4 rfl ?_
  refine a_il2 hX dL_publish_5 rfl ?_
  refine a_il3 hX dL_publish_6 rfl ?_
  refine a_il4 hX dL_publish_7 rfl ?_
  refine a_il5 hX dL_publish_9 rfl ?_
  refine a_il6 hX dL_publish_11 rfl ?_
  exact a_wrapI hX hR hQ hr ht ml_L_7 (ci_X11_publish _ (by rw [hl]; exact hlt) _ _ _ _ _ _ _) rfl rfl rfl ⟨Nat.le_of_ble_eq_true rfl, Nat.le_of_ble_eq_true rfl⟩ rfl dL_publish_13 dL_publish_16 dL_publish_17 dL_publish_18 rfl dL_publish_33 dL_publish_34 hk_publish
def km_compare : Nat → Option Int32 := fun k => if k = 1 then some 1 else if k = 2 then some 2 else none
def w_compare (v1 v2 : Int32) (σ : Mem) (τ : Nat → Int64) : Option RW := wres km_compare τ (m_X11_compare v1 v2 σ)
theorem hn_compare_1 : HND RL cL_compare 5 (tableOf [(0, 10, 13, 13), (0, 10, 17, 15)]) 5 1 1 := ⟨[], [⟨0, 10, 17, 15⟩], ⟨0, 10, 13, 13⟩, 4, 15, 1, rfl, fun z hz => absurd hz List.not_mem_nil, by decide, by decide, bg 657 (by decide +kernel) rfl, by decide +kernel, by decide, Or.inl ⟨dL_compare_13, rfl⟩, dL_compare_15, by decide, dL_compare_16⟩
theorem hn_compare_2 : HND RL cL_compare 5 (tableOf [(0, 10, 13, 13), (0, 10, 17, 15)]) 5 2 2 := ⟨[⟨0, 10, 13, 13⟩], [], ⟨0, 10, 17, 15⟩, 4, 19, 2, rfl, fun z hz => by
    simp only [List.mem_cons, List.not_mem_nil, or_false] at hz
    rcases hz with rfl
    · exact ⟨by decide, xName 1, bg 657 (by decide +kernel) rfl, by decide +kernel⟩
, by decide, by decide, bg 658 (by decide +kernel) rfl, by decide +kernel, by decide, Or.inl ⟨dL_compare_17, rfl⟩, dL_compare_19, by decide, dL_compare_20⟩
theorem hk_compare : ∀ k j, km_compare k = some j → HND RL cL_compare 5 (tableOf [(0, 10, 13, 13), (0, 10, 17, 15)]) 5 k j := by
  intro k j h
  unfold km_compare at h
  by_cases e1 : k = 1
  · subst e1
    simp at h
    subst h
    exact hn_compare_1
  rw [if_neg e1] at h
  by_cases e2 : k = 2
  · subst e2
    simp at h
    subst h
    exact hn_compare_2
  rw [if_neg e2] at h
  cases h
set_option maxRecDepth 100000 in
theorem cw_compare (l : Launch) (hlt : l.stackTraces = false) (v1 v2 : Int32) (σ : Mem) : CW l yL_compare cL_compare 5 [(0, 10, 13, 13), (0, 10, 17, 15)] 7 104 [.ref 0, .int v1, .int v2, .ref 114] σ (w_compare v1 v2 σ) := by
  refine cw_of (by decide) (by simp [Value.category]) (by simp) (fun X r hl hX hR hQ hr ht => ?_)
  unfold w_compare
  refine a_al3 hX dL_compare_0 rfl ?_
  refine a_ic 0 hX dL_compare_1 (by decide) rfl ?_
  refine a_al0 hX dL_compare_2 rfl ?_
  refine a_il1 hX dL_compare_3 rfl ?_
  refine a_il2 hX dL_compare_4 rfl ?_
  exact a_wrapI hX hR hQ hr ht ml_L_19 (ci_X11_compare _ (by rw [hl]; exact hlt) _ _ _) rfl rfl rfl ⟨Nat.le_of_ble_eq_true rfl, Nat.le_of_ble_eq_true rfl⟩ rfl dL_compare_5 dL_compare_8 dL_compare_9 dL_compare_10 rfl dL_compare_21 dL_compare_22 hk_compare
def km_yank : Nat → Option Int32 := fun k => if k = 1 then some 1 else none
def w_yank (v1 : Int32) (σ : Mem) (τ : Nat → Int64) : Option RW := wresZ km_yank τ (m_X11_yank v1 σ)
theorem hn_yank_1 : HND RL cL_yank 4 (tableOf [(0, 16, 19, 13)]) 4 1 1 := ⟨[], [], ⟨0, 16, 19, 13⟩, 3, 20, 1, rfl, fun z hz => absurd hz List.not_mem_nil, by decide, by decide, bg 657 (by decide +kernel) rfl, by decide +kernel, by decide, Or.inr ⟨3, rfl, dL_yank_19, rfl⟩, dL_yank_20, by decide, dL_yank_21⟩
theorem hk_yank : ∀ k j, km_yank k = some j → HND RL cL_yank 4 (tableOf [(0, 16, 19, 13)]) 4 k j := by
  intro k j h
  unfold km_yank at h
  by_cases e1 : k = 1
  · subst e1
    simp at h
    subst h
    exact hn_yank_1
  rw [if_neg e1] at h
  cases h
set_option maxRecDepth 100000 in
theorem cw_yank (l : Launch) (hlt : l.stackTraces = false) (v1 : Int32) (σ : Mem) : CW l yL_yank cL_yank 4 [(0, 16, 19, 13)] 7 103 [.ref 0, .int v1, .ref 114] σ (w_yank v1 σ) := by
  refine cw_of (by decide) (by simp [Value.category]) (by simp) (fun X r hl hX hR hQ hr ht => ?_)
  unfold w_yank
  refine a_al2 hX dL_yank_0 rfl ?_
  refine a_ic 0 hX dL_yank_1 (by decide) rfl ?_
  refine a_al0 hX dL_yank_2 rfl ?_
  refine a_il1 hX dL_yank_3 rfl ?_
  exact a_wrapZ hX hR hQ hr ht ml_L_23 (ci_X11_yank _ (by rw [hl]; exact hlt) _ _) rfl rfl rfl ⟨Nat.le_of_ble_eq_true rfl, Nat.le_of_ble_eq_true rfl⟩ rfl dL_yank_4 dL_yank_7 dL_yank_10 dL_yank_11 dL_yank_14 dL_yank_15 dL_yank_16 rfl dL_yank_22 dL_yank_23 hk_yank
def km_setPlatforms : Nat → Option Int32 := fun k => if k = 1 then some 1 else if k = 2 then some 2 else none
def w_setPlatforms (v1 v2 : Int32) (σ : Mem) (τ : Nat → Int64) : Option RW := wres km_setPlatforms τ (m_X11_setPlatforms v1 v2 σ)
theorem hn_setPlatforms_1 : HND RL cL_setPlatforms 5 (tableOf [(0, 10, 13, 13), (0, 10, 17, 15)]) 5 1 1 := ⟨[], [⟨0, 10, 17, 15⟩], ⟨0, 10, 13, 13⟩, 4, 15, 1, rfl, fun z hz => absurd hz List.not_mem_nil, by decide, by decide, bg 657 (by decide +kernel) rfl, by decide +kernel, by decide, Or.inl ⟨dL_setPlatforms_13, rfl⟩, dL_setPlatforms_15, by decide, dL_setPlatforms_16⟩
theorem hn_setPlatforms_2 : HND RL cL_setPlatforms 5 (tableOf [(0, 10, 13, 13), (0, 10, 17, 15)]) 5 2 2 := ⟨[⟨0, 10, 13, 13⟩], [], ⟨0, 10, 17, 15⟩, 4, 19, 2, rfl, fun z hz => by
    simp only [List.mem_cons, List.not_mem_nil, or_false] at hz
    rcases hz with rfl
    · exact ⟨by decide, xName 1, bg 657 (by decide +kernel) rfl, by decide +kernel⟩
, by decide, by decide, bg 658 (by decide +kernel) rfl, by decide +kernel, by decide, Or.inl ⟨dL_setPlatforms_17, rfl⟩, dL_setPlatforms_19, by decide, dL_setPlatforms_20⟩
theorem hk_setPlatforms : ∀ k j, km_setPlatforms k = some j → HND RL cL_setPlatforms 5 (tableOf [(0, 10, 13, 13), (0, 10, 17, 15)]) 5 k j := by
  intro k j h
  unfold km_setPlatforms at h
  by_cases e1 : k = 1
  · subst e1
    simp at h
    subst h
    exact hn_setPlatforms_1
  rw [if_neg e1] at h
  by_cases e2 : k = 2
  · subst e2
    simp at h
    subst h
    exact hn_setPlatforms_2
  rw [if_neg e2] at h
  cases h
set_option maxRecDepth 100000 in
theorem cw_setPlatforms (l : Launch) (hlt : l.stackTraces = false) (v1 v2 : Int32) (σ : Mem) : CW l yL_setPlatforms cL_setPlatforms 5 [(0, 10, 13, 13), (0, 10, 17, 15)] 7 104 [.ref 0, .int v1, .int v2, .ref 114] σ (w_setPlatforms v1 v2 σ) := by
  refine cw_of (by decide) (by simp [Value.category]) (by simp) (fun X r hl hX hR hQ hr ht => ?_)
  unfold w_setPlatforms
  refine a_al3 hX dL_setPlatforms_0 rfl ?_
  refine a_ic 0 hX dL_setPlatforms_1 (by decide) rfl ?_
  refine a_al0 hX dL_setPlatforms_2 rfl ?_
  refine a_il1 hX dL_setPlatforms_3 rfl ?_
  refine a_il2 hX dL_setPlatforms_4 rfl ?_
  exact a_wrapI hX hR hQ hr ht ml_L_27 (ci_X11_setPlatforms _ (by rw [hl]; exact hlt) _ _ _) rfl rfl rfl ⟨Nat.le_of_ble_eq_true rfl, Nat.le_of_ble_eq_true rfl⟩ rfl dL_setPlatforms_5 dL_setPlatforms_8 dL_setPlatforms_9 dL_setPlatforms_10 rfl dL_setPlatforms_21 dL_setPlatforms_22 hk_setPlatforms
def km_bring : Nat → Option Int32 := fun k => if k = 1 then some 1 else none
def w_bring (v1 v2 v3 : Int32) (σ : Mem) (τ : Nat → Int64) : Option RW := wresZ km_bring τ (m_X11_bring v1 v2 v3 σ)
theorem hn_bring_1 : HND RL cL_bring 6 (tableOf [(0, 19, 22, 13)]) 7 1 1 := ⟨[], [], ⟨0, 19, 22, 13⟩, 5, 24, 1, rfl, fun z hz => absurd hz List.not_mem_nil, by decide, by decide, bg 657 (by decide +kernel) rfl, by decide +kernel, by decide, Or.inl ⟨dL_bring_22, rfl⟩, dL_bring_24, by decide, dL_bring_25⟩
theorem hk_bring : ∀ k j, km_bring k = some j → HND RL cL_bring 6 (tableOf [(0, 19, 22, 13)]) 7 k j := by
  intro k j h
  unfold km_bring at h
  by_cases e1 : k = 1
  · subst e1
    simp at h
    subst h
    exact hn_bring_1
  rw [if_neg e1] at h
  cases h
set_option maxRecDepth 100000 in
theorem cw_bring (l : Launch) (hlt : l.stackTraces = false) (v1 v2 v3 : Int32) (σ : Mem) : CW l yL_bring cL_bring 6 [(0, 19, 22, 13)] 7 105 [.ref 0, .int v1, .int v2, .int v3, .ref 114] σ (w_bring v1 v2 v3 σ) := by
  refine cw_of (by decide) (by simp [Value.category]) (by simp) (fun X r hl hX hR hQ hr ht => ?_)
  unfold w_bring
  refine a_al4 hX dL_bring_0 rfl ?_
  refine a_ic 0 hX dL_bring_2 (by decide) rfl ?_
  refine a_al0 hX dL_bring_3 rfl ?_
  refine a_il1 hX dL_bring_4 rfl ?_
  refine a_il2 hX dL_bring_5 rfl ?_
  refine a_il3 hX dL_bring_6 rfl ?_
  exact a_wrapZ hX hR hQ hr ht ml_L_30 (ci_X11_bring _ (by rw [hl]; exact hlt) _ _ _ _) rfl rfl rfl ⟨Nat.le_of_ble_eq_true rfl, Nat.le_of_ble_eq_true rfl⟩ rfl dL_bring_7 dL_bring_10 dL_bring_13 dL_bring_14 dL_bring_17 dL_bring_18 dL_bring_19 rfl dL_bring_26 dL_bring_27 hk_bring
def km_range : Nat → Option Int32 := fun k => if k = 1 then some 1 else if k = 2 then some 2 else if k = 3 then some 3 else none
def w_range (v1 v2 v3 v4 v5 : Int32) (σ : Mem) (τ : Nat → Int64) : Option RW := wres km_range τ (m_X11_range v1 v2 v3 v4 v5 σ)
theorem hn_range_1 : HND RL cL_range 8 (tableOf [(0, 16, 19, 13), (0, 16, 23, 15), (0, 16, 27, 17)]) 11 1 1 := ⟨[], [⟨0, 16, 23, 15⟩, ⟨0, 16, 27, 17⟩], ⟨0, 16, 19, 13⟩, 7, 21, 1, rfl, fun z hz => absurd hz List.not_mem_nil, by decide, by decide, bg 657 (by decide +kernel) rfl, by decide +kernel, by decide, Or.inl ⟨dL_range_19, rfl⟩, dL_range_21, by decide, dL_range_22⟩
theorem hn_range_2 : HND RL cL_range 8 (tableOf [(0, 16, 19, 13), (0, 16, 23, 15), (0, 16, 27, 17)]) 11 2 2 := ⟨[⟨0, 16, 19, 13⟩], [⟨0, 16, 27, 17⟩], ⟨0, 16, 23, 15⟩, 7, 25, 2, rfl, fun z hz => by
    simp only [List.mem_cons, List.not_mem_nil, or_false] at hz
    rcases hz with rfl
    · exact ⟨by decide, xName 1, bg 657 (by decide +kernel) rfl, by decide +kernel⟩
, by decide, by decide, bg 658 (by decide +kernel) rfl, by decide +kernel, by decide, Or.inl ⟨dL_range_23, rfl⟩, dL_range_25, by decide, dL_range_26⟩
theorem hn_range_3 : HND RL cL_range 8 (tableOf [(0, 16, 19, 13), (0, 16, 23, 15), (0, 16, 27, 17)]) 11 3 3 := ⟨[⟨0, 16, 19, 13⟩, ⟨0, 16, 23, 15⟩], [], ⟨0, 16, 27, 17⟩, 7, 29, 3, rfl, fun z hz => by
    simp only [List.mem_cons, List.not_mem_nil, or_false] at hz
    rcases hz with rfl | rfl
    · exact ⟨by decide, xName 1, bg 657 (by decide +kernel) rfl, by decide +kernel⟩
    · exact ⟨by decide, xName 2, bg 658 (by decide +kernel) rfl, by decide +kernel⟩
, by decide, by decide, bg 659 (by decide +kernel) rfl, by decide +kernel, by decide, Or.inl ⟨dL_range_27, rfl⟩, dL_range_29, by decide, dL_range_30⟩
theorem hk_range : ∀ k j, km_range k = some j → HND RL cL_range 8 (tableOf [(0, 16, 19, 13), (0, 16, 23, 15), (0, 16, 27, 17)]) 11 k j := by
  intro k j h
  unfold km_range at h
  by_cases e1 : k = 1
  · subst e1
    simp at h
    subst h
    exact hn_range_1
  rw [if_neg e1] at h
  by_cases e2 : k = 2
  · subst e2
    simp at h
    subst h
    exact hn_range_2
  rw [if_neg e2] at h
  by_cases e3 : k = 3
  · subst e3
    simp at h
    subst h
    exact hn_range_3
  rw [if_neg e3] at h
  cases h
set_option maxRecDepth 100000 in
theorem cw_range (l : Launch) (hlt : l.stackTraces = false) (v1 v2 v3 v4 v5 : Int32) (σ : Mem) : CW l yL_range cL_range 8 [(0, 16, 19, 13), (0, 16, 23, 15), (0, 16, 27, 17)] 7 110 [.ref 0, .int v1, .int v2, .int v3, .int v4, .int v5, .ref 114] σ (w_range v1 v2 v3 v4 v5 σ) := by
  refine cw_of (by decide) (by simp [Value.category]) (by simp) (fun X r hl hX hR hQ hr ht => ?_)
  unfold w_range
  refine a_al6 hX dL_range_0 rfl ?_
  refine a_ic 0 hX dL_range_2 (by decide) rfl ?_
  refine a_al0 hX dL_range_3 rfl ?_
  refine a_il1 hX dL_range_4 rfl ?_
  refine a_il2 hX dL_range_5 rfl ?_
  refine a_il3 hX dL_range_6 rfl ?_
  refine a_il4 hX dL_range_7 rfl ?_
  refine a_il5 hX dL_range_9 rfl ?_
  exact a_wrapI hX hR hQ hr ht ml_L_34 (ci_X11_range _ (by rw [hl]; exact hlt) _ _ _ _ _ _) rfl rfl rfl ⟨Nat.le_of_ble_eq_true rfl, Nat.le_of_ble_eq_true rfl⟩ rfl dL_range_11 dL_range_14 dL_range_15 dL_range_16 rfl dL_range_31 dL_range_32 hk_range
def km_join : Nat → Option Int32 := fun k => if k = 1 then some 1 else if k = 3 then some 2 else none
def w_join (v1 v2 v3 : Int32) (σ : Mem) (τ : Nat → Int64) : Option RW := wres km_join τ (m_X11_join v1 v2 v3 σ)
theorem hn_join_1 : HND RL cL_join 6 (tableOf [(0, 12, 15, 13), (0, 12, 19, 17)]) 7 1 1 := ⟨[], [⟨0, 12, 19, 17⟩], ⟨0, 12, 15, 13⟩, 5, 17, 1, rfl, fun z hz => absurd hz List.not_mem_nil, by decide, by decide, bg 657 (by decide +kernel) rfl, by decide +kernel, by decide, Or.inl ⟨dL_join_15, rfl⟩, dL_join_17, by decide, dL_join_18⟩
theorem hn_join_3 : HND RL cL_join 6 (tableOf [(0, 12, 15, 13), (0, 12, 19, 17)]) 7 3 2 := ⟨[⟨0, 12, 15, 13⟩], [], ⟨0, 12, 19, 17⟩, 5, 21, 2, rfl, fun z hz => by
    simp only [List.mem_cons, List.not_mem_nil, or_false] at hz
    rcases hz with rfl
    · exact ⟨by decide, xName 1, bg 657 (by decide +kernel) rfl, by decide +kernel⟩
, by decide, by decide, bg 659 (by decide +kernel) rfl, by decide +kernel, by decide, Or.inl ⟨dL_join_19, rfl⟩, dL_join_21, by decide, dL_join_22⟩
theorem hk_join : ∀ k j, km_join k = some j → HND RL cL_join 6 (tableOf [(0, 12, 15, 13), (0, 12, 19, 17)]) 7 k j := by
  intro k j h
  unfold km_join at h
  by_cases e1 : k = 1
  · subst e1
    simp at h
    subst h
    exact hn_join_1
  rw [if_neg e1] at h
  by_cases e3 : k = 3
  · subst e3
    simp at h
    subst h
    exact hn_join_3
  rw [if_neg e3] at h
  cases h
set_option maxRecDepth 100000 in
theorem cw_join (l : Launch) (hlt : l.stackTraces = false) (v1 v2 v3 : Int32) (σ : Mem) : CW l yL_join cL_join 6 [(0, 12, 15, 13), (0, 12, 19, 17)] 7 105 [.ref 0, .int v1, .int v2, .int v3, .ref 114] σ (w_join v1 v2 v3 σ) := by
  refine cw_of (by decide) (by simp [Value.category]) (by simp) (fun X r hl hX hR hQ hr ht => ?_)
  unfold w_join
  refine a_al4 hX dL_join_0 rfl ?_
  refine a_ic 0 hX dL_join_2 (by decide) rfl ?_
  refine a_al0 hX dL_join_3 rfl ?_
  refine a_il1 hX dL_join_4 rfl ?_
  refine a_il2 hX dL_join_5 rfl ?_
  refine a_il3 hX dL_join_6 rfl ?_
  exact a_wrapI hX hR hQ hr ht ml_L_38 (ci_X11_join _ (by rw [hl]; exact hlt) _ _ _ _) rfl rfl rfl ⟨Nat.le_of_ble_eq_true rfl, Nat.le_of_ble_eq_true rfl⟩ rfl dL_join_7 dL_join_10 dL_join_11 dL_join_12 rfl dL_join_23 dL_join_24 hk_join
def km_has : Nat → Option Int32 := fun k => if k = 1 then some 1 else none
def w_has (v1 v2 : Int32) (σ : Mem) (τ : Nat → Int64) : Option RW := wresZ km_has τ (m_X11_has v1 v2 σ)
theorem hn_has_1 : HND RL cL_has 5 (tableOf [(0, 17, 20, 13)]) 5 1 1 := ⟨[], [], ⟨0, 17, 20, 13⟩, 4, 22, 1, rfl, fun z hz => absurd hz List.not_mem_nil, by decide, by decide, bg 657 (by decide +kernel) rfl, by decide +kernel, by decide, Or.inl ⟨dL_has_20, rfl⟩, dL_has_22, by decide, dL_has_23⟩
theorem hk_has : ∀ k j, km_has k = some j → HND RL cL_has 5 (tableOf [(0, 17, 20, 13)]) 5 k j := by
  intro k j h
  unfold km_has at h
  by_cases e1 : k = 1
  · subst e1
    simp at h
    subst h
    exact hn_has_1
  rw [if_neg e1] at h
  cases h
set_option maxRecDepth 100000 in
theorem cw_has (l : Launch) (hlt : l.stackTraces = false) (v1 v2 : Int32) (σ : Mem) : CW l yL_has cL_has 5 [(0, 17, 20, 13)] 7 104 [.ref 0, .int v1, .int v2, .ref 114] σ (w_has v1 v2 σ) := by
  refine cw_of (by decide) (by simp [Value.category]) (by simp) (fun X r hl hX hR hQ hr ht => ?_)
  unfold w_has
  refine a_al3 hX dL_has_0 rfl ?_
  refine a_ic 0 hX dL_has_1 (by decide) rfl ?_
  refine a_al0 hX dL_has_2 rfl ?_
  refine a_il1 hX dL_has_3 rfl ?_
  refine a_il2 hX dL_has_4 rfl ?_
  exact a_wrapZ hX hR hQ hr ht ml_L_42 (ci_X11_has _ (by rw [hl]; exact hlt) _ _ _) rfl rfl rfl ⟨Nat.le_of_ble_eq_true rfl, Nat.le_of_ble_eq_true rfl⟩ rfl dL_has_5 dL_has_8 dL_has_11 dL_has_12 dL_has_15 dL_has_16 dL_has_17 rfl dL_has_24 dL_has_25 hk_has
def km_need : Nat → Option Int32 := fun k => if k = 1 then some 1 else if k = 2 then some 2 else if k = 3 then some 3 else none
def w_need (v1 v2 v3 v4 v5 v6 v7 : Int32) (σ : Mem) (τ : Nat → Int64) : Option RW := wres km_need τ (m_X11_need v1 v2 v3 v4 v5 v6 v7 σ)
theorem hn_need_1 : HND RL cL_need 10 (tableOf [(0, 20, 23, 13), (0, 20, 27, 15), (0, 20, 31, 17)]) 15 1 1 := ⟨[], [⟨0, 20, 27, 15⟩, ⟨0, 20, 31, 17⟩], ⟨0, 20, 23, 13⟩, 9, 25, 1, rfl, fun z hz => absurd hz List.not_mem_nil, by decide, by decide, bg 657 (by decide +kernel) rfl, by decide +kernel, by decide, Or.inl ⟨dL_need_23, rfl⟩, dL_need_25, by decide, dL_need_26⟩
theorem hn_need_2 : HND RL cL_need 10 (tableOf [(0, 20, 23, 13), (0, 20, 27, 15), (0, 20, 31, 17)]) 15 2 2 := ⟨[⟨0, 20, 23, 13⟩], [⟨0, 20, 31, 17⟩], ⟨0, 20, 27, 15⟩, 9, 29, 2, rfl, fun z hz => by
    simp only [List.mem_cons, List.not_mem_nil, or_false] at hz
    rcases hz with rfl
    · exact ⟨by decide, xName 1, bg 657 (by decide +kernel) rfl, by decide +kernel⟩
, by decide, by decide, bg 658 (by decide +kernel) rfl, by decide +kernel, by decide, Or.inl ⟨dL_need_27, rfl⟩, dL_need_29, by decide, dL_need_30⟩
theorem hn_need_3 : HND RL cL_need 10 (tableOf [(0, 20, 23, 13), (0, 20, 27, 15), (0, 20, 31, 17)]) 15 3 3 := ⟨[⟨0, 20, 23, 13⟩, ⟨0, 20, 27, 15⟩], [], ⟨0, 20, 31, 17⟩, 9, 33, 3, rfl, fun z hz => by
    simp only [List.mem_cons, List.not_mem_nil, or_false] at hz
    rcases hz with rfl | rfl
    · exact ⟨by decide, xName 1, bg 657 (by decide +kernel) rfl, by decide +kernel⟩
    · exact ⟨by decide, xName 2, bg 658 (by decide +kernel) rfl, by decide +kernel⟩
, by decide, by decide, bg 659 (by decide +kernel) rfl, by decide +kernel, by decide, Or.inl ⟨dL_need_31, rfl⟩, dL_need_33, by decide, dL_need_34⟩
theorem hk_need : ∀ k j, km_need k = some j → HND RL cL_need 10 (tableOf [(0, 20, 23, 13), (0, 20, 27, 15), (0, 20, 31, 17)]) 15 k j := by
  intro k j h
  unfold km_need at h
  by_cases e1 : k = 1
  · subst e1
    simp at h
    subst h
    exact hn_need_1
  rw [if_neg e1] at h
  by_cases e2 : k = 2
  · subst e2
    simp at h
    subst h
    exact hn_need_2
  rw [if_neg e2] at h
  by_cases e3 : k = 3
  · subst e3
    simp at h
    subst h
    exact hn_need_3
  rw [if_neg e3] at h
  cases h
set_option maxRecDepth 100000 in
theorem cw_need (l : Launch) (hlt : l.stackTraces = false) (v1 v2 v3 v4 v5 v6 v7 : Int32) (σ : Mem) : CW l yL_need cL_need 10 [(0, 20, 23, 13), (0, 20, 27, 15), (0, 20, 31, 17)] 7 109 [.ref 0, .int v1, .int v2, .int v3, .int v4, .int v5, .int v6, .int v7, .ref 114] σ (w_need v1 v2 v3 v4 v5 v6 v7 σ) := by
  refine cw_of (by decide) (by simp [Value.category]) (by simp) (fun X r hl hX hR hQ hr ht => ?_)
  unfold w_need
  refine a_al8 hX dL_need_0 rfl ?_
  refine a_ic 0 hX dL_need_2 (by decide) rfl ?_
  refine a_al0 hX dL_need_3 rfl ?_
  refine a_il1 hX dL_need_4 rfl ?_
  refine a_il2 hX dL_need_5 rfl ?_
  refine a_il3 hX dL_need_6 rfl ?_
  refine a_il4 hX dL_need_7 rfl ?_
  refine a_il5 hX dL_need_9 rfl ?_
  refine a_il6 hX dL_need_11 rfl ?_
  refine a_il7 hX dL_need_13 rfl ?_
  exact a_wrapI hX hR hQ hr ht ml_L_46 (ci_X11_need _ (by rw [hl]; exact hlt) _ _ _ _ _ _ _ _) rfl rfl rfl ⟨Nat.le_of_ble_eq_true rfl, Nat.le_of_ble_eq_true rfl⟩ rfl dL_need_15 dL_need_18 dL_need_19 dL_need_20 rfl dL_need_35 dL_need_36 hk_need
def km_demand : Nat → Option Int32 := fun k => if k = 1 then some 1 else if k = 2 then some 2 else if k = 3 then some 3 else none
def w_demand (v1 v2 v3 v4 : Int32) (σ : Mem) (τ : Nat → Int64) : Option RW := wres km_demand τ (m_X11_demand v1 v2 v3 v4 σ)
theorem hn_demand_1 : HND RL cL_demand 7 (tableOf [(0, 14, 17, 13), (0, 14, 21, 15), (0, 14, 25, 17)]) 9 1 1 := ⟨[], [⟨0, 14, 21, 15⟩, ⟨0, 14, 25, 17⟩], ⟨0, 14, 17, 13⟩, 6, 19, 1, rfl, fun z hz => absurd hz List.not_mem_nil, by decide, by decide, bg 657 (by decide +kernel) rfl, by decide +kernel, by decide, Or.inl ⟨dL_demand_17, rfl⟩, dL_demand_19, by decide, dL_demand_20⟩
theorem hn_demand_2 : HND RL cL_demand 7 (tableOf [(0, 14, 17, 13), (0, 14, 21, 15), (0, 14, 25, 17)]) 9 2 2 := ⟨[⟨0, 14, 17, 13⟩], [⟨0, 14, 25, 17⟩], ⟨0, 14, 21, 15⟩, 6, 23, 2, rfl, fun z hz => by
    simp only [List.mem_cons, List.not_mem_nil, or_false] at hz
    rcases hz with rfl
    · exact ⟨by decide, xName 1, bg 657 (by decide +kernel) rfl, by decide +kernel⟩
, by decide, by decide, bg 658 (by decide +kernel) rfl, by decide +kernel, by decide, Or.inl ⟨dL_demand_21, rfl⟩, dL_demand_23, by decide, dL_demand_24⟩
theorem hn_demand_3 : HND RL cL_demand 7 (tableOf [(0, 14, 17, 13), (0, 14, 21, 15), (0, 14, 25, 17)]) 9 3 3 := ⟨[⟨0, 14, 17, 13⟩, ⟨0, 14, 21, 15⟩], [], ⟨0, 14, 25, 17⟩, 6, 27, 3, rfl, fun z hz => by
    simp only [List.mem_cons, List.not_mem_nil, or_false] at hz
    rcases hz with rfl | rfl
    · exact ⟨by decide, xName 1, bg 657 (by decide +kernel) rfl, by decide +kernel⟩
    · exact ⟨by decide, xName 2, bg 658 (by decide +kernel) rfl, by decide +kernel⟩
, by decide, by decide, bg 659 (by decide +kernel) rfl, by decide +kernel, by decide, Or.inl ⟨dL_demand_25, rfl⟩, dL_demand_27, by decide, dL_demand_28⟩
theorem hk_demand : ∀ k j, km_demand k = some j → HND RL cL_demand 7 (tableOf [(0, 14, 17, 13), (0, 14, 21, 15), (0, 14, 25, 17)]) 9 k j := by
  intro k j h
  unfold km_demand at h
  by_cases e1 : k = 1
  · subst e1
    simp at h
    subst h
    exact hn_demand_1
  rw [if_neg e1] at h
  by_cases e2 : k = 2
  · subst e2
    simp at h
    subst h
    exact hn_demand_2
  rw [if_neg e2] at h
  by_cases e3 : k = 3
  · subst e3
    simp at h
    subst h
    exact hn_demand_3
  rw [if_neg e3] at h
  cases h
set_option maxRecDepth 100000 in
theorem cw_demand (l : Launch) (hlt : l.stackTraces = false) (v1 v2 v3 v4 : Int32) (σ : Mem) : CW l yL_demand cL_demand 7 [(0, 14, 17, 13), (0, 14, 21, 15), (0, 14, 25, 17)] 7 106 [.ref 0, .int v1, .int v2, .int v3, .int v4, .ref 114] σ (w_demand v1 v2 v3 v4 σ) := by
  refine cw_of (by decide) (by simp [Value.category]) (by simp) (fun X r hl hX hR hQ hr ht => ?_)
  unfold w_demand
  refine a_al5 hX dL_demand_0 rfl ?_
  refine a_ic 0 hX dL_demand_2 (by decide) rfl ?_
  refine a_al0 hX dL_demand_3 rfl ?_
  refine a_il1 hX dL_demand_4 rfl ?_
  refine a_il2 hX dL_demand_5 rfl ?_
  refine a_il3 hX dL_demand_6 rfl ?_
  refine a_il4 hX dL_demand_7 rfl ?_
  exact a_wrapI hX hR hQ hr ht ml_L_50 (ci_X11_demand _ (by rw [hl]; exact hlt) _ _ _ _ _) rfl rfl rfl ⟨Nat.le_of_ble_eq_true rfl, Nat.le_of_ble_eq_true rfl⟩ rfl dL_demand_9 dL_demand_12 dL_demand_13 dL_demand_14 rfl dL_demand_29 dL_demand_30 hk_demand
def km_advise : Nat → Option Int32 := fun k => if k = 1 then some 1 else if k = 3 then some 2 else none
def w_advise (v1 v2 : Int32) (σ : Mem) (τ : Nat → Int64) : Option RW := wres km_advise τ (m_X11_advise v1 v2 σ)
theorem hn_advise_1 : HND RL cL_advise 5 (tableOf [(0, 10, 13, 13), (0, 10, 17, 17)]) 5 1 1 := ⟨[], [⟨0, 10, 17, 17⟩], ⟨0, 10, 13, 13⟩, 4, 15, 1, rfl, fun z hz => absurd hz List.not_mem_nil, by decide, by decide, bg 657 (by decide +kernel) rfl, by decide +kernel, by decide, Or.inl ⟨dL_advise_13, rfl⟩, dL_advise_15, by decide, dL_advise_16⟩
theorem hn_advise_3 : HND RL cL_advise 5 (tableOf [(0, 10, 13, 13), (0, 10, 17, 17)]) 5 3 2 := ⟨[⟨0, 10, 13, 13⟩], [], ⟨0, 10, 17, 17⟩, 4, 19, 2, rfl, fun z hz => by
    simp only [List.mem_cons, List.not_mem_nil, or_false] at hz
    rcases hz with rfl
    · exact ⟨by decide, xName 1, bg 657 (by decide +kernel) rfl, by decide +kernel⟩
, by decide, by decide, bg 659 (by decide +kernel) rfl, by decide +kernel, by decide, Or.inl ⟨dL_advise_17, rfl⟩, dL_advise_19, by decide, dL_advise_20⟩
theorem hk_advise : ∀ k j, km_advise k = some j → HND RL cL_advise 5 (tableOf [(0, 10, 13, 13), (0, 10, 17, 17)]) 5 k j := by
  intro k j h
  unfold km_advise at h
  by_cases e1 : k = 1
  · subst e1
    simp at h
    subst h
    exact hn_advise_1
  rw [if_neg e1] at h
  by_cases e3 : k = 3
  · subst e3
    simp at h
    subst h
    exact hn_advise_3
  rw [if_neg e3] at h
  cases h
set_option maxRecDepth 100000 in
theorem cw_advise (l : Launch) (hlt : l.stackTraces = false) (v1 v2 : Int32) (σ : Mem) : CW l yL_advise cL_advise 5 [(0, 10, 13, 13), (0, 10, 17, 17)] 7 104 [.ref 0, .int v1, .int v2, .ref 114] σ (w_advise v1 v2 σ) := by
  refine cw_of (by decide) (by simp [Value.category]) (by simp) (fun X r hl hX hR hQ hr ht => ?_)
  unfold w_advise
  refine a_al3 hX dL_advise_0 rfl ?_
  refine a_ic 0 hX dL_advise_1 (by decide) rfl ?_
  refine a_al0 hX dL_advise_2 rfl ?_
  refine a_il1 hX dL_advise_3 rfl ?_
  refine a_il2 hX dL_advise_4 rfl ?_
  exact a_wrapI hX hR hQ hr ht ml_L_54 (ci_X11_advise _ (by rw [hl]; exact hlt) _ _ _) rfl rfl rfl ⟨Nat.le_of_ble_eq_true rfl, Nat.le_of_ble_eq_true rfl⟩ rfl dL_advise_5 dL_advise_8 dL_advise_9 dL_advise_10 rfl dL_advise_21 dL_advise_22 hk_advise
def km_mending : Nat → Option Int32 := fun k => if k = 1 then some 1 else none
def w_mending (v1 : Int32) (σ : Mem) (τ : Nat → Int64) : Option RW := wres km_mending τ (m_X11_mending v1 σ)
theorem hn_mending_1 : HND RL cL_mending 4 (tableOf [(0, 9, 12, 13)]) 4 1 1 := ⟨[], [], ⟨0, 9, 12, 13⟩, 3, 13, 1, rfl, fun z hz => absurd hz List.not_mem_nil, by decide, by decide, bg 657 (by decide +kernel) rfl, by decide +kernel, by decide, Or.inr ⟨3, rfl, dL_mending_12, rfl⟩, dL_mending_13, by decide, dL_mending_14⟩
theorem hk_mending : ∀ k j, km_mending k = some j → HND RL cL_mending 4 (tableOf [(0, 9, 12, 13)]) 4 k j := by
  intro k j h
  unfold km_mending at h
  by_cases e1 : k = 1
  · subst e1
    simp at h
    subst h
    exact hn_mending_1
  rw [if_neg e1] at h
  cases h
set_option maxRecDepth 100000 in
theorem cw_mending (l : Launch) (hlt : l.stackTraces = false) (v1 : Int32) (σ : Mem) : CW l yL_mending cL_mending 4 [(0, 9, 12, 13)] 7 113 [.ref 0, .int v1, .ref 114] σ (w_mending v1 σ) := by
  refine cw_of (by decide) (by simp [Value.category]) (by simp) (fun X r hl hX hR hQ hr ht => ?_)
  unfold w_mending
  refine a_al2 hX dL_mending_0 rfl ?_
  refine a_ic 0 hX dL_mending_1 (by decide) rfl ?_
  refine a_al0 hX dL_mending_2 rfl ?_
  refine a_il1 hX dL_mending_3 rfl ?_
  exact a_wrapI hX hR hQ hr ht ml_L_57 (ci_X11_mending _ (by rw [hl]; exact hlt) _ _) rfl rfl rfl ⟨Nat.le_of_ble_eq_true rfl, Nat.le_of_ble_eq_true rfl⟩ rfl dL_mending_4 dL_mending_7 dL_mending_8 dL_mending_9 rfl dL_mending_15 dL_mending_16 hk_mending
def km_replace : Nat → Option Int32 := fun k => if k = 1 then some 1 else if k = 3 then some 2 else none
def w_replace (v1 v2 : Int32) (σ : Mem) (τ : Nat → Int64) : Option RW := wres km_replace τ (m_X11_replace v1 v2 σ)
theorem hn_replace_1 : HND RL cL_replace 5 (tableOf [(0, 10, 13, 13), (0, 10, 17, 17)]) 5 1 1 := ⟨[], [⟨0, 10, 17, 17⟩], ⟨0, 10, 13, 13⟩, 4, 15, 1, rfl, fun z hz => absurd hz List.not_mem_nil, by decide, by decide, bg 657 (by decide +kernel) rfl, by decide +kernel, by decide, Or.inl ⟨dL_replace_13, rfl⟩, dL_replace_15, by decide, dL_replace_16⟩
theorem hn_replace_3 : HND RL cL_replace 5 (tableOf [(0, 10, 13, 13), (0, 10, 17, 17)]) 5 3 2 := ⟨[⟨0, 10, 13, 13⟩], [], ⟨0, 10, 17, 17⟩, 4, 19, 2, rfl, fun z hz => by
    simp only [List.mem_cons, List.not_mem_nil, or_false] at hz
    rcases hz with rfl
    · exact ⟨by decide, xName 1, bg 657 (by decide +kernel) rfl, by decide +kernel⟩
, by decide, by decide, bg 659 (by decide +kernel) rfl, by decide +kernel, by decide, Or.inl ⟨dL_replace_17, rfl⟩, dL_replace_19, by decide, dL_replace_20⟩
theorem hk_replace : ∀ k j, km_replace k = some j → HND RL cL_replace 5 (tableOf [(0, 10, 13, 13), (0, 10, 17, 17)]) 5 k j := by
  intro k j h
  unfold km_replace at h
  by_cases e1 : k = 1
  · subst e1
    simp at h
    subst h
    exact hn_replace_1
  rw [if_neg e1] at h
  by_cases e3 : k = 3
  · subst e3
    simp at h
    subst h
    exact hn_replace_3
  rw [if_neg e3] at h
  cases h
set_option maxRecDepth 100000 in
theorem cw_replace (l : Launch) (hlt : l.stackTraces = false) (v1 v2 : Int32) (σ : Mem) : CW l yL_replace cL_replace 5 [(0, 10, 13, 13), (0, 10, 17, 17)] 7 104 [.ref 0, .int v1, .int v2, .ref 114] σ (w_replace v1 v2 σ) := by
  refine cw_of (by decide) (by simp [Value.category]) (by simp) (fun X r hl hX hR hQ hr ht => ?_)
  unfold w_replace
  refine a_al3 hX dL_replace_0 rfl ?_
  refine a_ic 0 hX dL_replace_1 (by decide) rfl ?_
  refine a_al0 hX dL_replace_2 rfl ?_
  refine a_il1 hX dL_replace_3 rfl ?_
  refine a_il2 hX dL_replace_4 rfl ?_
  exact a_wrapI hX hR hQ hr ht ml_L_61 (ci_X11_replace _ (by rw [hl]; exact hlt) _ _ _) rfl rfl rfl ⟨Nat.le_of_ble_eq_true rfl, Nat.le_of_ble_eq_true rfl⟩ rfl dL_replace_5 dL_replace_8 dL_replace_9 dL_replace_10 rfl dL_replace_21 dL_replace_22 hk_replace
def km_setPlatform : Nat → Option Int32 := fun k => if k = 1 then some 1 else none
def w_setPlatform (v1 : Int32) (σ : Mem) (τ : Nat → Int64) : Option RW := wres km_setPlatform τ (m_X11_setPlatform v1 σ)
theorem hn_setPlatform_1 : HND RL cL_setPlatform 4 (tableOf [(0, 9, 12, 13)]) 4 1 1 := ⟨[], [], ⟨0, 9, 12, 13⟩, 3, 13, 1, rfl, fun z hz => absurd hz List.not_mem_nil, by decide, by decide, bg 657 (by decide +kernel) rfl, by decide +kernel, by decide, Or.inr ⟨3, rfl, dL_setPlatform_12, rfl⟩, dL_setPlatform_13, by decide, dL_setPlatform_14⟩
theorem hk_setPlatform : ∀ k j, km_setPlatform k = some j → HND RL cL_setPlatform 4 (tableOf [(0, 9, 12, 13)]) 4 k j := by
  intro k j h
  unfold km_setPlatform at h
  by_cases e1 : k = 1
  · subst e1
    simp at h
    subst h
    exact hn_setPlatform_1
  rw [if_neg e1] at h
  cases h
set_option maxRecDepth 100000 in
theorem cw_setPlatform (l : Launch) (hlt : l.stackTraces = false) (v1 : Int32) (σ : Mem) : CW l yL_setPlatform cL_setPlatform 4 [(0, 9, 12, 13)] 7 104 [.ref 0, .int v1, .ref 114] σ (w_setPlatform v1 σ) := by
  refine cw_of (by decide) (by simp [Value.category]) (by simp) (fun X r hl hX hR hQ hr ht => ?_)
  unfold w_setPlatform
  refine a_al2 hX dL_setPlatform_0 rfl ?_
  refine a_ic 0 hX dL_setPlatform_1 (by decide) rfl ?_
  refine a_al0 hX dL_setPlatform_2 rfl ?_
  refine a_il1 hX dL_setPlatform_3 rfl ?_
  exact a_wrapI hX hR hQ hr ht ml_L_64 (ci_X11_setPlatform _ (by rw [hl]; exact hlt) _ _) rfl rfl rfl ⟨Nat.le_of_ble_eq_true rfl, Nat.le_of_ble_eq_true rfl⟩ rfl dL_setPlatform_4 dL_setPlatform_7 dL_setPlatform_8 dL_setPlatform_9 rfl dL_setPlatform_15 dL_setPlatform_16 hk_setPlatform
def km_solve : Nat → Option Int32 := fun k => if k = 2 then some 1 else none
def w_solve (v1 v2 : Int32) (σ : Mem) (τ : Nat → Int64) : Option RW := wres km_solve τ (m_X11_solve v1 v2 σ)
theorem hn_solve_2 : HND RL cL_solve 5 (tableOf [(0, 10, 13, 15)]) 5 2 1 := ⟨[], [], ⟨0, 10, 13, 15⟩, 4, 15, 1, rfl, fun z hz => absurd hz List.not_mem_nil, by decide, by decide, bg 658 (by decide +kernel) rfl, by decide +kernel, by decide, Or.inl ⟨dL_solve_13, rfl⟩, dL_solve_15, by decide, dL_solve_16⟩
theorem hk_solve : ∀ k j, km_solve k = some j → HND RL cL_solve 5 (tableOf [(0, 10, 13, 15)]) 5 k j := by
  intro k j h
  unfold km_solve at h
  by_cases e2 : k = 2
  · subst e2
    simp at h
    subst h
    exact hn_solve_2
  rw [if_neg e2] at h
  cases h
set_option maxRecDepth 100000 in
theorem cw_solve (l : Launch) (hlt : l.stackTraces = false) (v1 v2 : Int32) (σ : Mem) : CW l yL_solve cL_solve 5 [(0, 10, 13, 15)] 7 164 [.ref 0, .int v1, .int v2, .ref 114] σ (w_solve v1 v2 σ) := by
  refine cw_of (by decide) (by simp [Value.category]) (by simp) (fun X r hl hX hR hQ hr ht => ?_)
  unfold w_solve
  refine a_al3 hX dL_solve_0 rfl ?_
  refine a_ic 0 hX dL_solve_1 (by decide) rfl ?_
  refine a_al0 hX dL_solve_2 rfl ?_
  refine a_il1 hX dL_solve_3 rfl ?_
  refine a_il2 hX dL_solve_4 rfl ?_
  exact a_wrapI hX hR hQ hr ht ml_L_67 (ci_X11_solve _ (by rw [hl]; exact hlt) _ _ _) rfl rfl rfl ⟨Nat.le_of_ble_eq_true rfl, Nat.le_of_ble_eq_true rfl⟩ rfl dL_solve_5 dL_solve_8 dL_solve_9 dL_solve_10 rfl dL_solve_17 dL_solve_18 hk_solve
def km_chosen : Nat → Option Int32 := fun k => if k = 1 then some 1 else none
def w_chosen (v1 : Int32) (σ : Mem) (τ : Nat → Int64) : Option RW := wres km_chosen τ (m_X11_chosen v1 σ)
theorem hn_chosen_1 : HND RL cL_chosen 4 (tableOf [(0, 9, 12, 13)]) 4 1 1 := ⟨[], [], ⟨0, 9, 12, 13⟩, 3, 13, 1, rfl, fun z hz => absurd hz List.not_mem_nil, by decide, by decide, bg 657 (by decide +kernel) rfl, by decide +kernel, by decide, Or.inr ⟨3, rfl, dL_chosen_12, rfl⟩, dL_chosen_13, by decide, dL_chosen_14⟩
theorem hk_chosen : ∀ k j, km_chosen k = some j → HND RL cL_chosen 4 (tableOf [(0, 9, 12, 13)]) 4 k j := by
  intro k j h
  unfold km_chosen at h
  by_cases e1 : k = 1
  · subst e1
    simp at h
    subst h
    exact hn_chosen_1
  rw [if_neg e1] at h
  cases h
set_option maxRecDepth 100000 in
theorem cw_chosen (l : Launch) (hlt : l.stackTraces = false) (v1 : Int32) (σ : Mem) : CW l yL_chosen cL_chosen 4 [(0, 9, 12, 13)] 7 163 [.ref 0, .int v1, .ref 114] σ (w_chosen v1 σ) := by
  refine cw_of (by decide) (by simp [Value.category]) (by simp) (fun X r hl hX hR hQ hr ht => ?_)
  unfold w_chosen
  refine a_al2 hX dL_chosen_0 rfl ?_
  refine a_ic 0 hX dL_chosen_1 (by decide) rfl ?_
  refine a_al0 hX dL_chosen_2 rfl ?_
  refine a_il1 hX dL_chosen_3 rfl ?_
  exact a_wrapI hX hR hQ hr ht ml_L_70 (ci_X11_chosen _ (by rw [hl]; exact hlt) _ _) rfl rfl rfl ⟨Nat.le_of_ble_eq_true rfl, Nat.le_of_ble_eq_true rfl⟩ rfl dL_chosen_4 dL_chosen_7 dL_chosen_8 dL_chosen_9 rfl dL_chosen_15 dL_chosen_16 hk_chosen
def km_chosenAnew : Nat → Option Int32 := fun k => if k = 1 then some 1 else none
def w_chosenAnew (v1 : Int32) (σ : Mem) (τ : Nat → Int64) : Option RW := wres km_chosenAnew τ (m_X11_chosenAnew v1 σ)
theorem hn_chosenAnew_1 : HND RL cL_chosenAnew 4 (tableOf [(0, 9, 12, 13)]) 4 1 1 := ⟨[], [], ⟨0, 9, 12, 13⟩, 3, 13, 1, rfl, fun z hz => absurd hz List.not_mem_nil, by decide, by decide, bg 657 (by decide +kernel) rfl, by decide +kernel, by decide, Or.inr ⟨3, rfl, dL_chosenAnew_12, rfl⟩, dL_chosenAnew_13, by decide, dL_chosenAnew_14⟩
theorem hk_chosenAnew : ∀ k j, km_chosenAnew k = some j → HND RL cL_chosenAnew 4 (tableOf [(0, 9, 12, 13)]) 4 k j := by
  intro k j h
  unfold km_chosenAnew at h
  by_cases e1 : k = 1
  · subst e1
    simp at h
    subst h
    exact hn_chosenAnew_1
  rw [if_neg e1] at h
  cases h
set_option maxRecDepth 100000 in
theorem cw_chosenAnew (l : Launch) (hlt : l.stackTraces = false) (v1 : Int32) (σ : Mem) : CW l yL_chosenAnew cL_chosenAnew 4 [(0, 9, 12, 13)] 7 161 [.ref 0, .int v1, .ref 114] σ (w_chosenAnew v1 σ) := by
  refine cw_of (by decide) (by simp [Value.category]) (by simp) (fun X r hl hX hR hQ hr ht => ?_)
  unfold w_chosenAnew
  refine a_al2 hX dL_chosenAnew_0 rfl ?_
  refine a_ic 0 hX dL_chosenAnew_1 (by decide) rfl ?_
  refine a_al0 hX dL_chosenAnew_2 rfl ?_
  refine a_il1 hX dL_chosenAnew_3 rfl ?_
  exact a_wrapI hX hR hQ hr ht ml_L_73 (ci_X11_chosenAnew _ (by rw [hl]; exact hlt) _ _) rfl rfl rfl ⟨Nat.le_of_ble_eq_true rfl, Nat.le_of_ble_eq_true rfl⟩ rfl dL_chosenAnew_4 dL_chosenAnew_7 dL_chosenAnew_8 dL_chosenAnew_9 rfl dL_chosenAnew_15 dL_chosenAnew_16 hk_chosenAnew
def km_features : Nat → Option Int32 := fun k => if k = 1 then some 1 else none
def w_features (v1 : Int32) (σ : Mem) (τ : Nat → Int64) : Option RW := wres km_features τ (m_X11_features v1 σ)
theorem hn_features_1 : HND RL cL_features 4 (tableOf [(0, 9, 12, 13)]) 4 1 1 := ⟨[], [], ⟨0, 9, 12, 13⟩, 3, 13, 1, rfl, fun z hz => absurd hz List.not_mem_nil, by decide, by decide, bg 657 (by decide +kernel) rfl, by decide +kernel, by decide, Or.inr ⟨3, rfl, dL_features_12, rfl⟩, dL_features_13, by decide, dL_features_14⟩
theorem hk_features : ∀ k j, km_features k = some j → HND RL cL_features 4 (tableOf [(0, 9, 12, 13)]) 4 k j := by
  intro k j h
  unfold km_features at h
  by_cases e1 : k = 1
  · subst e1
    simp at h
    subst h
    exact hn_features_1
  rw [if_neg e1] at h
  cases h
set_option maxRecDepth 100000 in
theorem cw_features (l : Launch) (hlt : l.stackTraces = false) (v1 : Int32) (σ : Mem) : CW l yL_features cL_features 4 [(0, 9, 12, 13)] 7 163 [.ref 0, .int v1, .ref 114] σ (w_features v1 σ) := by
  refine cw_of (by decide) (by simp [Value.category]) (by simp) (fun X r hl hX hR hQ hr ht => ?_)
  unfold w_features
  refine a_al2 hX dL_features_0 rfl ?_
  refine a_ic 0 hX dL_features_1 (by decide) rfl ?_
  refine a_al0 hX dL_features_2 rfl ?_
  refine a_il1 hX dL_features_3 rfl ?_
  exact a_wrapI hX hR hQ hr ht ml_L_76 (ci_X11_features _ (by rw [hl]; exact hlt) _ _) rfl rfl rfl ⟨Nat.le_of_ble_eq_true rfl, Nat.le_of_ble_eq_true rfl⟩ rfl dL_features_4 dL_features_7 dL_features_8 dL_features_9 rfl dL_features_15 dL_features_16 hk_features
def km_against : Nat → Option Int32 := fun k => if k = 1 then some 1 else none
def w_against (v1 : Int32) (σ : Mem) (τ : Nat → Int64) : Option RW := wres km_against τ (m_X11_against v1 σ)
theorem hn_against_1 : HND RL cL_against 4 (tableOf [(0, 9, 12, 13)]) 4 1 1 := ⟨[], [], ⟨0, 9, 12, 13⟩, 3, 13, 1, rfl, fun z hz => absurd hz List.not_mem_nil, by decide, by decide, bg 657 (by decide +kernel) rfl, by decide +kernel, by decide, Or.inr ⟨3, rfl, dL_against_12, rfl⟩, dL_against_13, by decide, dL_against_14⟩
theorem hk_against : ∀ k j, km_against k = some j → HND RL cL_against 4 (tableOf [(0, 9, 12, 13)]) 4 k j := by
  intro k j h
  unfold km_against at h
  by_cases e1 : k = 1
  · subst e1
    simp at h
    subst h
    exact hn_against_1
  rw [if_neg e1] at h
  cases h
set_option maxRecDepth 100000 in
theorem cw_against (l : Launch) (hlt : l.stackTraces = false) (v1 : Int32) (σ : Mem) : CW l yL_against cL_against 4 [(0, 9, 12, 13)] 7 165 [.ref 0, .int v1, .ref 114] σ (w_against v1 σ) := by
  refine cw_of (by decide) (by simp [Value.category]) (by simp) (fun X r hl hX hR hQ hr ht => ?_)
  unfold w_against
  refine a_al2 hX dL_against_0 rfl ?_
  refine a_ic 0 hX dL_against_1 (by decide) rfl ?_
  refine a_al0 hX dL_against_2 rfl ?_
  refine a_il1 hX dL_against_3 rfl ?_
  exact a_wrapI hX hR hQ hr ht ml_L_79 (ci_X11_against _ (by rw [hl]; exact hlt) _ _) rfl rfl rfl ⟨Nat.le_of_ble_eq_true rfl, Nat.le_of_ble_eq_true rfl⟩ rfl dL_against_4 dL_against_7 dL_against_8 dL_against_9 rfl dL_against_15 dL_against_16 hk_against
def km_lock : Nat → Option Int32 := fun k => if k = 3 then some 1 else none
def w_lock (σ : Mem) (τ : Nat → Int64) : Option RW := wres km_lock τ (m_X11_lock  σ)
theorem hn_lock_3 : HND RL cL_lock 3 (tableOf [(0, 8, 11, 17)]) 3 3 1 := ⟨[], [], ⟨0, 8, 11, 17⟩, 2, 12, 1, rfl, fun z hz => absurd hz List.not_mem_nil, by decide, by decide, bg 659 (by decide +kernel) rfl, by decide +kernel, by decide, Or.inr ⟨2, rfl, dL_lock_11, rfl⟩, dL_lock_12, by decide, dL_lock_13⟩
theorem hk_lock : ∀ k j, km_lock k = some j → HND RL cL_lock 3 (tableOf [(0, 8, 11, 17)]) 3 k j := by
  intro k j h
  unfold km_lock at h
  by_cases e3 : k = 3
  · subst e3
    simp at h
    subst h
    exact hn_lock_3
  rw [if_neg e3] at h
  cases h
set_option maxRecDepth 100000 in
theorem cw_lock (l : Launch) (hlt : l.stackTraces = false) (σ : Mem) : CW l yL_lock cL_lock 3 [(0, 8, 11, 17)] 7 165 [.ref 0, .ref 114] σ (w_lock  σ) := by
  refine cw_of (by decide) (by simp [Value.category]) (by simp) (fun X r hl hX hR hQ hr ht => ?_)
  unfold w_lock
  refine a_al1 hX dL_lock_0 rfl ?_
  refine a_ic 0 hX dL_lock_1 (by decide) rfl ?_
  refine a_al0 hX dL_lock_2 rfl ?_
  exact a_wrapI hX hR hQ hr ht ml_L_82 (ci_X11_lock _ (by rw [hl]; exact hlt)  _) rfl rfl rfl ⟨Nat.le_of_ble_eq_true rfl, Nat.le_of_ble_eq_true rfl⟩ rfl dL_lock_3 dL_lock_6 dL_lock_7 dL_lock_8 rfl dL_lock_14 dL_lock_15 hk_lock
def km_unlock : Nat → Option Int32 := fun k => if k = 1 then some 1 else none
def w_unlock (v1 : Int32) (σ : Mem) (τ : Nat → Int64) : Option RW := wres km_unlock τ (m_X11_unlock v1 σ)
theorem hn_unlock_1 : HND RL cL_unlock 4 (tableOf [(0, 9, 12, 13)]) 4 1 1 := ⟨[], [], ⟨0, 9, 12, 13⟩, 3, 13, 1, rfl, fun z hz => absurd hz List.not_mem_nil, by decide, by decide, bg 657 (by decide +kernel) rfl, by decide +kernel, by decide, Or.inr ⟨3, rfl, dL_unlock_12, rfl⟩, dL_unlock_13, by decide, dL_unlock_14⟩
theorem hk_unlock : ∀ k j, km_unlock k = some j → HND RL cL_unlock 4 (tableOf [(0, 9, 12, 13)]) 4 k j := by
  intro k j h
  unfold km_unlock at h
  by_cases e1 : k = 1
  · subst e1
    simp at h
    subst h
    exact hn_unlock_1
  rw [if_neg e1] at h
  cases h
set_option maxRecDepth 100000 in
theorem cw_unlock (l : Launch) (hlt : l.stackTraces = false) (v1 : Int32) (σ : Mem) : CW l yL_unlock cL_unlock 4 [(0, 9, 12, 13)] 7 103 [.ref 0, .int v1, .ref 114] σ (w_unlock v1 σ) := by
  refine cw_of (by decide) (by simp [Value.category]) (by simp) (fun X r hl hX hR hQ hr ht => ?_)
  unfold w_unlock
  refine a_al2 hX dL_unlock_0 rfl ?_
  refine a_ic 0 hX dL_unlock_1 (by decide) rfl ?_
  refine a_al0 hX dL_unlock_2 rfl ?_
  refine a_il1 hX dL_unlock_3 rfl ?_
  exact a_wrapI hX hR hQ hr ht ml_L_86 (ci_X11_unlock _ (by rw [hl]; exact hlt) _ _) rfl rfl rfl ⟨Nat.le_of_ble_eq_true rfl, Nat.le_of_ble_eq_true rfl⟩ rfl dL_unlock_4 dL_unlock_7 dL_unlock_8 dL_unlock_9 rfl dL_unlock_15 dL_unlock_16 hk_unlock
def km_install : Nat → Option Int32 := fun k => if k = 2 then some 1 else if k = 3 then some 2 else none
def w_install (v1 : Int32) (σ : Mem) (τ : Nat → Int64) : Option RW := wres km_install τ (m_X11_install v1 σ)
theorem hn_install_2 : HND RL cL_install 4 (tableOf [(0, 9, 12, 15), (0, 9, 15, 17)]) 4 2 1 := ⟨[], [⟨0, 9, 15, 17⟩], ⟨0, 9, 12, 15⟩, 3, 13, 1, rfl, fun z hz => absurd hz List.not_mem_nil, by decide, by decide, bg 658 (by decide +kernel) rfl, by decide +kernel, by decide, Or.inr ⟨3, rfl, dL_install_12, rfl⟩, dL_install_13, by decide, dL_install_14⟩
theorem hn_install_3 : HND RL cL_install 4 (tableOf [(0, 9, 12, 15), (0, 9, 15, 17)]) 4 3 2 := ⟨[⟨0, 9, 12, 15⟩], [], ⟨0, 9, 15, 17⟩, 3, 16, 2, rfl, fun z hz => by
    simp only [List.mem_cons, List.not_mem_nil, or_false] at hz
    rcases hz with rfl
    · exact ⟨by decide, xName 2, bg 658 (by decide +kernel) rfl, by decide +kernel⟩
, by decide, by decide, bg 659 (by decide +kernel) rfl, by decide +kernel, by decide, Or.inr ⟨3, rfl, dL_install_15, rfl⟩, dL_install_16, by decide, dL_install_17⟩
theorem hk_install : ∀ k j, km_install k = some j → HND RL cL_install 4 (tableOf [(0, 9, 12, 15), (0, 9, 15, 17)]) 4 k j := by
  intro k j h
  unfold km_install at h
  by_cases e2 : k = 2
  · subst e2
    simp at h
    subst h
    exact hn_install_2
  rw [if_neg e2] at h
  by_cases e3 : k = 3
  · subst e3
    simp at h
    subst h
    exact hn_install_3
  rw [if_neg e3] at h
  cases h
set_option maxRecDepth 100000 in
theorem cw_install (l : Launch) (hlt : l.stackTraces = false) (v1 : Int32) (σ : Mem) : CW l yL_install cL_install 4 [(0, 9, 12, 15), (0, 9, 15, 17)] 7 167 [.ref 0, .int v1, .ref 114] σ (w_install v1 σ) := by
  refine cw_of (by decide) (by simp [Value.category]) (by simp) (fun X r hl hX hR hQ hr ht => ?_)
  unfold w_install
  refine a_al2 hX dL_install_0 rfl ?_
  refine a_ic 0 hX dL_install_1 (by decide) rfl ?_
  refine a_al0 hX dL_install_2 rfl ?_
  refine a_il1 hX dL_install_3 rfl ?_
  exact a_wrapI hX hR hQ hr ht ml_L_89 (ci_X11_install _ (by rw [hl]; exact hlt) _ _) rfl rfl rfl ⟨Nat.le_of_ble_eq_true rfl, Nat.le_of_ble_eq_true rfl⟩ rfl dL_install_4 dL_install_7 dL_install_8 dL_install_9 rfl dL_install_18 dL_install_19 hk_install
def km_spoil : Nat → Option Int32 := fun k => if k = 1 then some 1 else if k = 3 then some 2 else none
def w_spoil (v1 : Int32) (σ : Mem) (τ : Nat → Int64) : Option RW := wres km_spoil τ (m_X11_spoil v1 σ)
theorem hn_spoil_1 : HND RL cL_spoil 4 (tableOf [(0, 9, 12, 13), (0, 9, 15, 17)]) 4 1 1 := ⟨[], [⟨0, 9, 15, 17⟩], ⟨0, 9, 12, 13⟩, 3, 13, 1, rfl, fun z hz => absurd hz List.not_mem_nil, by decide, by decide, bg 657 (by decide +kernel) rfl, by decide +kernel, by decide, Or.inr ⟨3, rfl, dL_spoil_12, rfl⟩, dL_spoil_13, by decide, dL_spoil_14⟩
theorem hn_spoil_3 : HND RL cL_spoil 4 (tableOf [(0, 9, 12, 13), (0, 9, 15, 17)]) 4 3 2 := ⟨[⟨0, 9, 12, 13⟩], [], ⟨0, 9, 15, 17⟩, 3, 16, 2, rfl, fun z hz => by
    simp only [List.mem_cons, List.not_mem_nil, or_false] at hz
    rcases hz with rfl
    · exact ⟨by decide, xName 1, bg 657 (by decide +kernel) rfl, by decide +kernel⟩
, by decide, by decide, bg 659 (by decide +kernel) rfl, by decide +kernel, by decide, Or.inr ⟨3, rfl, dL_spoil_15, rfl⟩, dL_spoil_16, by decide, dL_spoil_17⟩
theorem hk_spoil : ∀ k j, km_spoil k = some j → HND RL cL_spoil 4 (tableOf [(0, 9, 12, 13), (0, 9, 15, 17)]) 4 k j := by
  intro k j h
  unfold km_spoil at h
  by_cases e1 : k = 1
  · subst e1
    simp at h
    subst h
    exact hn_spoil_1
  rw [if_neg e1] at h
  by_cases e3 : k = 3
  · subst e3
    simp at h
    subst h
    exact hn_spoil_3
  rw [if_neg e3] at h
  cases h
set_option maxRecDepth 100000 in
theorem cw_spoil (l : Launch) (hlt : l.stackTraces = false) (v1 : Int32) (σ : Mem) : CW l yL_spoil cL_spoil 4 [(0, 9, 12, 13), (0, 9, 15, 17)] 7 104 [.ref 0, .int v1, .ref 114] σ (w_spoil v1 σ) := by
  refine cw_of (by decide) (by simp [Value.category]) (by simp) (fun X r hl hX hR hQ hr ht => ?_)
  unfold w_spoil
  refine a_al2 hX dL_spoil_0 rfl ?_
  refine a_ic 0 hX dL_spoil_1 (by decide) rfl ?_
  refine a_al0 hX dL_spoil_2 rfl ?_
  refine a_il1 hX dL_spoil_3 rfl ?_
  exact a_wrapI hX hR hQ hr ht ml_L_92 (ci_X11_spoil _ (by rw [hl]; exact hlt) _ _) rfl rfl rfl ⟨Nat.le_of_ble_eq_true rfl, Nat.le_of_ble_eq_true rfl⟩ rfl dL_spoil_4 dL_spoil_7 dL_spoil_8 dL_spoil_9 rfl dL_spoil_18 dL_spoil_19 hk_spoil
def km_onDisk : Nat → Option Int32 := fun k => if k = 1 then some 1 else none
def w_onDisk (v1 : Int32) (σ : Mem) (τ : Nat → Int64) : Option RW := wres km_onDisk τ (m_X11_onDisk v1 σ)
theorem hn_onDisk_1 : HND RL cL_onDisk 4 (tableOf [(0, 9, 12, 13)]) 4 1 1 := ⟨[], [], ⟨0, 9, 12, 13⟩, 3, 13, 1, rfl, fun z hz => absurd hz List.not_mem_nil, by decide, by decide, bg 657 (by decide +kernel) rfl, by decide +kernel, by decide, Or.inr ⟨3, rfl, dL_onDisk_12, rfl⟩, dL_onDisk_13, by decide, dL_onDisk_14⟩
theorem hk_onDisk : ∀ k j, km_onDisk k = some j → HND RL cL_onDisk 4 (tableOf [(0, 9, 12, 13)]) 4 k j := by
  intro k j h
  unfold km_onDisk at h
  by_cases e1 : k = 1
  · subst e1
    simp at h
    subst h
    exact hn_onDisk_1
  rw [if_neg e1] at h
  cases h
set_option maxRecDepth 100000 in
theorem cw_onDisk (l : Launch) (hlt : l.stackTraces = false) (v1 : Int32) (σ : Mem) : CW l yL_onDisk cL_onDisk 4 [(0, 9, 12, 13)] 7 104 [.ref 0, .int v1, .ref 114] σ (w_onDisk v1 σ) := by
  refine cw_of (by decide) (by simp [Value.category]) (by simp) (fun X r hl hX hR hQ hr ht => ?_)
  unfold w_onDisk
  refine a_al2 hX dL_onDisk_0 rfl ?_
  refine a_ic 0 hX dL_onDisk_1 (by decide) rfl ?_
  refine a_al0 hX dL_onDisk_2 rfl ?_
  refine a_il1 hX dL_onDisk_3 rfl ?_
  exact a_wrapI hX hR hQ hr ht ml_L_95 (ci_X11_onDisk _ (by rw [hl]; exact hlt) _ _) rfl rfl rfl ⟨Nat.le_of_ble_eq_true rfl, Nat.le_of_ble_eq_true rfl⟩ rfl dL_onDisk_4 dL_onDisk_7 dL_onDisk_8 dL_onDisk_9 rfl dL_onDisk_15 dL_onDisk_16 hk_onDisk
