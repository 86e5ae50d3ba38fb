theorem dL_publish_0 : decode cL_publish 0 = .ok (.aload 7, 2) := by decide +kernel
theorem dL_publish_2 : decode cL_publish 2 = .ok (.iconst 0, 1) := by decide +kernel
theorem dL_publish_3 : decode cL_publish 3 = .ok (.aload_n 0, 1) := by decide +kernel
theorem dL_publish_4 : decode cL_publish 4 = .ok (.iload_n 1, 1) := by decide +kernel
theorem dL_publish_5 : decode cL_publish 5 = .ok (.iload_n 2, 1) := by decide +kernel
theorem dL_publish_6 : decode cL_publish 6 = .ok (.iload_n 3, 1) := by decide +kernel
theorem dL_publish_7 : decode cL_publish 7 = .ok (.iload 4, 2) := by decide +kernel
theorem dL_publish_9 : decode cL_publish 9 = .ok (.iload 5, 2) := by decide +kernel
theorem dL_publish_11 : decode cL_publish 11 = .ok (.iload 6, 2) := by decide +kernel
theorem dL_publish_13 : decode cL_publish 13 = .ok (.invokevirtual 7, 3) := by decide +kernel
theorem dL_publish_16 : decode cL_publish 16 = .ok (.i2l, 1) := by decide +kernel
theorem dL_publish_17 : decode cL_publish 17 = .ok (.lastore, 1) := by decide +kernel
theorem dL_publish_18 : decode cL_publish 18 = .ok (.goto 15, 3) := by decide +kernel
theorem dL_publish_21 : decode cL_publish 21 = .ok (.astore 8, 2) := by decide +kernel
theorem dL_publish_23 : decode cL_publish 23 = .ok (.iconst 1, 1) := by decide +kernel
theorem dL_publish_24 : decode cL_publish 24 = .ok (.ireturn, 1) := by decide +kernel
theorem dL_publish_25 : decode cL_publish 25 = .ok (.astore 8, 2) := by decide +kernel
theorem dL_publish_27 : decode cL_publish 27 = .ok (.iconst 2, 1) := by decide +kernel
theorem dL_publish_28 : decode cL_publish 28 = .ok (.ireturn, 1) := by decide +kernel
theorem dL_publish_29 : decode cL_publish 29 = .ok (.astore 8, 2) := by decide +kernel
theorem dL_publish_31 : decode cL_publish 31 = .ok (.iconst 3, 1) := by decide +kernel
theorem dL_publish_32 : decode cL_publish 32 = .ok (.ireturn, 1) := by decide +kernel
theorem dL_publish_33 : decode cL_publish 33 = .ok (.iconst 0, 1) := by decide +kernel
theorem dL_publish_34 : decode cL_publish 34 = .ok (.ireturn, 1) := by decide +kernel
theorem dL_compare_0 : decode cL_compare 0 = .ok (.aload_n 3, 1) := by decide +kernel
theorem dL_compare_1 : decode cL_compare 1 = .ok (.iconst 0, 1) := by decide +kernel
theorem dL_compare_2 : decode cL_compare 2 = .ok (.aload_n 0, 1) := by decide +kernel
theorem dL_compare_3 : decode cL_compare 3 = .ok (.iload_n 1, 1) := by decide +kernel
theorem dL_compare_4 : decode cL_compare 4 = .ok (.iload_n 2, 1) := by decide +kernel
theorem dL_compare_5 : decode cL_compare 5 = .ok (.invokevirtual 19, 3) := by decide +kernel
theorem dL_compare_8 : decode cL_compare 8 = .ok (.i2l, 1) := by decide +kernel
theorem dL_compare_9 : decode cL_compare 9 = .ok (.lastore, 1) := by decide +kernel
theorem dL_compare_10 : decode cL_compare 10 = .ok (.goto 11, 3) := by decide +kernel
theorem dL_compare_13 : decode cL_compare 13 = .ok (.astore 4, 2) := by decide +kernel
theorem dL_compare_15 : decode cL_compare 15 = .ok (.iconst 1, 1) := by decide +kernel
theorem dL_compare_16 : decode cL_compare 16 = .ok (.ireturn, 1) := by decide +kernel
theorem dL_compare_17 : decode cL_compare 17 = .ok (.astore 4, 2) := by decide +kernel
theorem dL_compare_19 : decode cL_compare 19 = .ok (.iconst 2, 1) := by decide +kernel
theorem dL_compare_20 : decode cL_compare 20 = .ok (.ireturn, 1) := by decide +kernel
theorem dL_compare_21 : decode cL_compare 21 = .ok (.iconst 0, 1) := by decide +kernel
theorem dL_compare_22 : decode cL_compare 22 = .ok (.ireturn, 1) := by decide +kernel
theorem dL_yank_0 : decode cL_yank 0 = .ok (.aload_n 2, 1) := by decide +kernel
theorem dL_yank_1 : decode cL_yank 1 = .ok (.iconst 0, 1) := by decide +kernel
theorem dL_yank_2 : decode cL_yank 2 = .ok (.aload_n 0, 1) := by decide +kernel
theorem dL_yank_3 : decode cL_yank 3 = .ok (.iload_n 1, 1) := by decide +kernel
theorem dL_yank_4 : decode cL_yank 4 = .ok (.invokevirtual 23, 3) := by decide +kernel
theorem dL_yank_7 : decode cL_yank 7 = .ok (.ifCond .eq 7, 3) := by decide +kernel
theorem dL_yank_10 : decode cL_yank 10 = .ok (.lconst 1, 1) := by decide +kernel
theorem dL_yank_11 : decode cL_yank 11 = .ok (.goto 4, 3) := by decide +kernel
theorem dL_yank_14 : decode cL_yank 14 = .ok (.lconst 0, 1) := by decide +kernel
theorem dL_yank_15 : decode cL_yank 15 = .ok (.lastore, 1) := by decide +kernel
theorem dL_yank_16 : decode cL_yank 16 = .ok (.goto 6, 3) := by decide +kernel
theorem dL_yank_19 : decode cL_yank 19 = .ok (.astore_n 3, 1) := by decide +kernel
theorem dL_yank_20 : decode cL_yank 20 = .ok (.iconst 1, 1) := by decide +kernel
theorem dL_yank_21 : decode cL_yank 21 = .ok (.ireturn, 1) := by decide +kernel
theorem dL_yank_22 : decode cL_yank 22 = .ok (.iconst 0, 1) := by decide +kernel
theorem dL_yank_23 : decode cL_yank 23 = .ok (.ireturn, 1) := by decide +kernel
theorem dL_setPlatforms_0 : decode cL_setPlatforms 0 = .ok (.aload_n 3, 1) := by decide +kernel
theorem dL_setPlatforms_1 : decode cL_setPlatforms 1 = .ok (.iconst 0, 1) := by decide +kernel
theorem dL_setPlatforms_2 : decode cL_setPlatforms 2 = .ok (.aload_n 0, 1) := by decide +kernel
theorem dL_setPlatforms_3 : decode cL_setPlatforms 3 = .ok (.iload_n 1, 1) := by decide +kernel
theorem dL_setPlatforms_4 : decode cL_setPlatforms 4 = .ok (.iload_n 2, 1) := by decide +kernel
theorem dL_setPlatforms_5 : decode cL_setPlatforms 5 = .ok (.invokevirtual 27, 3) := by decide +kernel
theorem dL_setPlatforms_8 : decode cL_setPlatforms 8 = .ok (.i2l, 1) := by decide +kernel
theorem dL_setPlatforms_9 : decode cL_setPlatforms 9 = .ok (.lastore, 1) := by decide +kernel
theorem dL_setPlatforms_10 : decode cL_setPlatforms 10 = .ok (.goto 11, 3) := by decide +kernel
theorem dL_setPlatforms_13 : decode cL_setPlatforms 13 = .ok (.astore 4, 2) := by decide +kernel
theorem dL_setPlatforms_15 : decode cL_setPlatforms 15 = .ok (.iconst 1, 1) := by decide +kernel
theorem dL_setPlatforms_16 : decode cL_setPlatforms 16 = .ok (.ireturn, 1) := by decide +kernel
theorem dL_setPlatforms_17 : decode cL_setPlatforms 17 = .ok (.astore 4, 2) := by decide +kernel
theorem dL_setPlatforms_19 : decode cL_setPlatforms 19 = .ok (.iconst 2, 1) := by decide +kernel
theorem dL_setPlatforms_20 : decode cL_setPlatforms 20 = .ok (.ireturn, 1) := by decide +kernel
theorem dL_setPlatforms_21 : decode cL_setPlatforms 21 = .ok (.iconst 0, 1) := by decide +kernel
theorem dL_setPlatforms_22 : decode cL_setPlatforms 22 = .ok (.ireturn, 1) := by decide +kernel
theorem dL_bring_0 : decode cL_bring 0 = .ok (.aload 4, 2) := by decide +kernel
theorem dL_bring_2 : decode cL_bring 2 = .ok (.iconst 0, 1) := by decide +kernel
theorem dL_bring_3 : decode cL_bring 3 = .ok (.aload_n 0, 1) := by decide +kernel
theorem dL_bring_4 : decode cL_bring 4 = .ok (.iload_n 1, 1) := by decide +kernel
theorem dL_bring_5 : decode cL_bring 5 = .ok (.iload_n 2, 1) := by decide +kernel
theorem dL_bring_6 : decode cL_bring 6 = .ok (.iload_n 3, 1) := by decide +kernel
theorem dL_bring_7 : decode cL_bring 7 = .ok (.invokevirtual 30, 3) := by decide +kernel
theorem dL_bring_10 : decode cL_bring 10 = .ok (.ifCond .eq 7, 3) := by decide +kernel
theorem dL_bring_13 : decode cL_bring 13 = .ok (.lconst 1, 1) := by decide +kernel
theorem dL_bring_14 : decode cL_bring 14 = .ok (.goto 4, 3) := by decide +kernel
theorem dL_bring_17 : decode cL_bring 17 = .ok (.lconst 0, 1) := by decide +kernel
theorem dL_bring_18 : decode cL_bring 18 = .ok (.lastore, 1) := by decide +kernel
theorem dL_bring_19 : decode cL_bring 19 = .ok (.goto 7, 3) := by decide +kernel
theorem dL_bring_22 : decode cL_bring 22 = .ok (.astore 5, 2) := by decide +kernel
theorem dL_bring_24 : decode cL_bring 24 = .ok (.iconst 1, 1) := by decide +kernel
theorem dL_bring_25 : decode cL_bring 25 = .ok (.ireturn, 1) := by decide +kernel
theorem dL_bring_26 : decode cL_bring 26 = .ok (.iconst 0, 1) := by decide +kernel
theorem dL_bring_27 : decode cL_bring 27 = .ok (.ireturn, 1) := by decide +kernel
theorem dL_range_0 : decode cL_range 0 = .ok (.aload 6, 2) := by decide +kernel
theorem dL_range_2 : decode cL_range 2 = .ok (.iconst 0, 1) := by decide +kernel
theorem dL_range_3 : decode cL_range 3 = .ok (.aload_n 0, 1) := by decide +kernel
theorem dL_range_4 : decode cL_range 4 = .ok (.iload_n 1, 1) := by decide +kernel
theorem dL_range_5 : decode cL_range 5 = .ok (.iload_n 2, 1) := by decide +kernel
theorem dL_range_6 : decode cL_range 6 = .ok (.iload_n 3, 1) := by decide +kernel
theorem dL_range_7 : decode cL_range 7 = .ok (.iload 4, 2) := by decide +kernel
theorem dL_range_9 : decode cL_range 9 = .ok (.iload 5, 2) := by decide +kernel
theorem dL_range_11 : decode cL_range 11 = .ok (.invokevirtual 34, 3) := by decide +kernel
theorem dL_range_14 : decode cL_range 14 = .ok (.i2l, 1) := by decide +kernel
theorem dL_range_15 : decode cL_range 15 = .ok (.lastore, 1) := by decide +kernel
theorem dL_range_16 : decode cL_range 16 = .ok (.goto 15, 3) := by decide +kernel
theorem dL_range_19 : decode cL_range 19 = .ok (.astore 7, 2) := by decide +kernel
theorem dL_range_21 : decode cL_range 21 = .ok (.iconst 1, 1) := by decide +kernel
theorem dL_range_22 : decode cL_range 22 = .ok (.ireturn, 1) := by decide +kernel
theorem dL_range_23 : decode cL_range 23 = .ok (.astore 7, 2) := by decide +kernel
theorem dL_range_25 : decode cL_range 25 = .ok (.iconst 2, 1) := by decide +kernel
theorem dL_range_26 : decode cL_range 26 = .ok (.ireturn, 1) := by decide +kernel
theorem dL_range_27 : decode cL_range 27 = .ok (.astore 7, 2) := by decide +kernel
theorem dL_range_29 : decode cL_range 29 = .ok (.iconst 3, 1) := by decide +kernel
theorem dL_range_30 : decode cL_range 30 = .ok (.ireturn, 1) := by decide +kernel
theorem dL_range_31 : decode cL_range 31 = .ok (.iconst 0, 1) := by decide +kernel
theorem dL_range_32 : decode cL_range 32 = .ok (.ireturn, 1) := by decide +kernel
theorem dL_join_0 : decode cL_join 0 = .ok (.aload 4, 2) := by decide +kernel
theorem dL_join_2 : decode cL_join 2 = .ok (.iconst 0, 1) := by decide +kernel
theorem dL_join_3 : decode cL_join 3 = .ok (.aload_n 0, 1) := by decide +kernel
theorem dL_join_4 : decode cL_join 4 = .ok (.iload_n 1, 1) := by decide +kernel
theorem dL_join_5 : decode cL_join 5 = .ok (.iload_n 2, 1) := by decide +kernel
theorem dL_join_6 : decode cL_join 6 = .ok (.iload_n 3, 1) := by decide +kernel
theorem dL_join_7 : decode cL_join 7 = .ok (.invokevirtual 38, 3) := by decide +kernel
theorem dL_join_10 : decode cL_join 10 = .ok (.i2l, 1) := by decide +kernel
theorem dL_join_11 : decode cL_join 11 = .ok (.lastore, 1) := by decide +kernel
theorem dL_join_12 : decode cL_join 12 = .ok (.goto 11, 3) := by decide +kernel
theorem dL_join_15 : decode cL_join 15 = .ok (.astore 5, 2) := by decide +kernel
theorem dL_join_17 : decode cL_join 17 = .ok (.iconst 1, 1) := by decide +kernel
theorem dL_join_18 : decode cL_join 18 = .ok (.ireturn, 1) := by decide +kernel
theorem dL_join_19 : decode cL_join 19 = .ok (.astore 5, 2) := by decide +kernel
theorem dL_join_21 : decode cL_join 21 = .ok (.iconst 2, 1) := by decide +kernel
theorem dL_join_22 : decode cL_join 22 = .ok (.ireturn, 1) := by decide +kernel
theorem dL_join_23 : decode cL_join 23 = .ok (.iconst 0, 1) := by decide +kernel
theorem dL_join_24 : decode cL_join 24 = .ok (.ireturn, 1) := by decide +kernel
theorem dL_has_0 : decode cL_has 0 = .ok (.aload_n 3, 1) := by decide +kernel
theorem dL_has_1 : decode cL_has 1 = .ok (.iconst 0, 1) := by decide +kernel
theorem dL_has_2 : decode cL_has 2 = .ok (.aload_n 0, 1) := by decide +kernel
theorem dL_has_3 : decode cL_has 3 = .ok (.iload_n 1, 1) := by decide +kernel
theorem dL_has_4 : decode cL_has 4 = .ok (.iload_n 2, 1) := by decide +kernel
theorem dL_has_5 : decode cL_has 5 = .ok (.invokevirtual 42, 3) := by decide +kernel
theorem dL_has_8 : decode cL_has 8 = .ok (.ifCond .eq 7, 3) := by decide +kernel
theorem dL_has_11 : decode cL_has 11 = .ok (.lconst 1, 1) := by decide +kernel
theorem dL_has_12 : decode cL_has 12 = .ok (.goto 4, 3) := by decide +kernel
theorem dL_has_15 : decode cL_has 15 = .ok (.lconst 0, 1) := by decide +kernel
theorem dL_has_16 : decode cL_has 16 = .ok (.lastore, 1) := by decide +kernel
theorem dL_has_17 : decode cL_has 17 = .ok (.goto 7, 3) := by decide +kernel
theorem dL_has_20 : decode cL_has 20 = .ok (.astore 4, 2) := by decide +kernel
theorem dL_has_22 : decode cL_has 22 = .ok (.iconst 1, 1) := by decide +kernel
theorem dL_has_23 : decode cL_has 23 = .ok (.ireturn, 1) := by decide +kernel
theorem dL_has_24 : decode cL_has 24 = .ok (.iconst 0, 1) := by decide +kernel
theorem dL_has_25 : decode cL_has 25 = .ok (.ireturn, 1) := by decide +kernel
theorem dL_need_0 : decode cL_need 0 = .ok (.aload 8, 2) := by decide +kernel
theorem dL_need_2 : decode cL_need 2 = .ok (.iconst 0, 1) := by decide +kernel
theorem dL_need_3 : decode cL_need 3 = .ok (.aload_n 0, 1) := by decide +kernel
theorem dL_need_4 : decode cL_need 4 = .ok (.iload_n 1, 1) := by decide +kernel
theorem dL_need_5 : decode cL_need 5 = .ok (.iload_n 2, 1) := by decide +kernel
theorem dL_need_6 : decode cL_need 6 = .ok (.iload_n 3, 1) := by decide +kernel
theorem dL_need_7 : decode cL_need 7 = .ok (.iload 4, 2) := by decide +kernel
theorem dL_need_9 : decode cL_need 9 = .ok (.iload 5, 2) := by decide +kernel
theorem dL_need_11 : decode cL_need 11 = .ok (.iload 6, 2) := by decide +kernel
theorem dL_need_13 : decode cL_need 13 = .ok (.iload 7, 2) := by decide +kernel
theorem dL_need_15 : decode cL_need 15 = .ok (.invokevirtual 46, 3) := by decide +kernel
theorem dL_need_18 : decode cL_need 18 = .ok (.i2l, 1) := by decide +kernel
theorem dL_need_19 : decode cL_need 19 = .ok (.lastore, 1) := by decide +kernel
theorem dL_need_20 : decode cL_need 20 = .ok (.goto 15, 3) := by decide +kernel
theorem dL_need_23 : decode cL_need 23 = .ok (.astore 9, 2) := by decide +kernel
theorem dL_need_25 : decode cL_need 25 = .ok (.iconst 1, 1) := by decide +kernel
theorem dL_need_26 : decode cL_need 26 = .ok (.ireturn, 1) := by decide +kernel
theorem dL_need_27 : decode cL_need 27 = .ok (.astore 9, 2) := by decide +kernel
theorem dL_need_29 : decode cL_need 29 = .ok (.iconst 2, 1) := by decide +kernel
theorem dL_need_30 : decode cL_need 30 = .ok (.ireturn, 1) := by decide +kernel
theorem dL_need_31 : decode cL_need 31 = .ok (.astore 9, 2) := by decide +kernel
theorem dL_need_33 : decode cL_need 33 = .ok (.iconst 3, 1) := by decide +kernel
theorem dL_need_34 : decode cL_need 34 = .ok (.ireturn, 1) := by decide +kernel
theorem dL_need_35 : decode cL_need 35 = .ok (.iconst 0, 1) := by decide +kernel
theorem dL_need_36 : decode cL_need 36 = .ok (.ireturn, 1) := by decide +kernel
theorem dL_demand_0 : decode cL_demand 0 = .ok (.aload 5, 2) := by decide +kernel
theorem dL_demand_2 : decode cL_demand 2 = .ok (.iconst 0, 1) := by decide +kernel
theorem dL_demand_3 : decode cL_demand 3 = .ok (.aload_n 0, 1) := by decide +kernel
theorem dL_demand_4 : decode cL_demand 4 = .ok (.iload_n 1, 1) := by decide +kernel
theorem dL_demand_5 : decode cL_demand 5 = .ok (.iload_n 2, 1) := by decide +kernel
theorem dL_demand_6 : decode cL_demand 6 = .ok (.iload_n 3, 1) := by decide +kernel
theorem dL_demand_7 : decode cL_demand 7 = .ok (.iload 4, 2) := by decide +kernel
theorem dL_demand_9 : decode cL_demand 9 = .ok (.invokevirtual 50, 3) := by decide +kernel
theorem dL_demand_12 : decode cL_demand 12 = .ok (.i2l, 1) := by decide +kernel
theorem dL_demand_13 : decode cL_demand 13 = .ok (.lastore, 1) := by decide +kernel
theorem dL_demand_14 : decode cL_demand 14 = .ok (.goto 15, 3) := by decide +kernel
theorem dL_demand_17 : decode cL_demand 17 = .ok (.astore 6, 2) := by decide +kernel
theorem dL_demand_19 : decode cL_demand 19 = .ok (.iconst 1, 1) := by decide +kernel
theorem dL_demand_20 : decode cL_demand 20 = .ok (.ireturn, 1) := by decide +kernel
theorem dL_demand_21 : decode cL_demand 21 = .ok (.astore 6, 2) := by decide +kernel
theorem dL_demand_23 : decode cL_demand 23 = .ok (.iconst 2, 1) := by decide +kernel
theorem dL_demand_24 : decode cL_demand 24 = .ok (.ireturn, 1) := by decide +kernel
theorem dL_demand_25 : decode cL_demand 25 = .ok (.astore 6, 2) := by decide +kernel
theorem dL_demand_27 : decode cL_demand 27 = .ok (.iconst 3, 1) := by decide +kernel
theorem dL_demand_28 : decode cL_demand 28 = .ok (.ireturn, 1) := by decide +kernel
theorem dL_demand_29 : decode cL_demand 29 = .ok (.iconst 0, 1) := by decide +kernel
theorem dL_demand_30 : decode cL_demand 30 = .ok (.ireturn, 1) := by decide +kernel
theorem dL_advise_0 : decode cL_advise 0 = .ok (.aload_n 3, 1) := by decide +kernel
theorem dL_advise_1 : decode cL_advise 1 = .ok (.iconst 0, 1) := by decide +kernel
theorem dL_advise_2 : decode cL_advise 2 = .ok (.aload_n 0, 1) := by decide +kernel
theorem dL_advise_3 : decode cL_advise 3 = .ok (.iload_n 1, 1) := by decide +kernel
theorem dL_advise_4 : decode cL_advise 4 = .ok (.iload_n 2, 1) := by decide +kernel
theorem dL_advise_5 : decode cL_advise 5 = .ok (.invokevirtual 54, 3) := by decide +kernel
theorem dL_advise_8 : decode cL_advise 8 = .ok (.i2l, 1) := by decide +kernel
theorem dL_advise_9 : decode cL_advise 9 = .ok (.lastore, 1) := by decide +kernel
theorem dL_advise_10 : decode cL_advise 10 = .ok (.goto 11, 3) := by decide +kernel
theorem dL_advise_13 : decode cL_advise 13 = .ok (.astore 4, 2) := by decide +kernel
theorem dL_advise_15 : decode cL_advise 15 = .ok (.iconst 1, 1) := by decide +kernel
theorem dL_advise_16 : decode cL_advise 16 = .ok (.ireturn, 1) := by decide +kernel
theorem dL_advise_17 : decode cL_advise 17 = .ok (.astore 4, 2) := by decide +kernel
theorem dL_advise_19 : decode cL_advise 19 = .ok (.iconst 2, 1) := by decide +kernel
theorem dL_advise_20 : decode cL_advise 20 = .ok (.ireturn, 1) := by decide +kernel
theorem dL_advise_21 : decode cL_advise 21 = .ok (.iconst 0, 1) := by decide +kernel
theorem dL_advise_22 : decode cL_advise 22 = .ok (.ireturn, 1) := by decide +kernel
theorem dL_mending_0 : decode cL_mending 0 = .ok (.aload_n 2, 1) := by decide +kernel
theorem dL_mending_1 : decode cL_mending 1 = .ok (.iconst 0, 1) := by decide +kernel
theorem dL_mending_2 : decode cL_mending 2 = .ok (.aload_n 0, 1) := by decide +kernel
theorem dL_mending_3 : decode cL_mending 3 = .ok (.iload_n 1, 1) := by decide +kernel
theorem dL_mending_4 : decode cL_mending 4 = .ok (.invokevirtual 57, 3) := by decide +kernel
theorem dL_mending_7 : decode cL_mending 7 = .ok (.i2l, 1) := by decide +kernel
theorem dL_mending_8 : decode cL_mending 8 = .ok (.lastore, 1) := by decide +kernel
theorem dL_mending_9 : decode cL_mending 9 = .ok (.goto 6, 3) := by decide +kernel
theorem dL_mending_12 : decode cL_mending 12 = .ok (.astore_n 3, 1) := by decide +kernel
theorem dL_mending_13 : decode cL_mending 13 = .ok (.iconst 1, 1) := by decide +kernel
theorem dL_mending_14 : decode cL_mending 14 = .ok (.ireturn, 1) := by decide +kernel
theorem dL_mending_15 : decode cL_mending 15 = .ok (.iconst 0, 1) := by decide +kernel
theorem dL_mending_16 : decode cL_mending 16 = .ok (.ireturn, 1) := by decide +kernel
theorem dL_replace_0 : decode cL_replace 0 = .ok (.aload_n 3, 1) := by decide +kernel
theorem dL_replace_1 : decode cL_replace 1 = .ok (.iconst 0, 1) := by decide +kernel
theorem dL_replace_2 : decode cL_replace 2 = .ok (.aload_n 0, 1) := by decide +kernel
theorem dL_replace_3 : decode cL_replace 3 = .ok (.iload_n 1, 1) := by decide +kernel
theorem dL_replace_4 : decode cL_replace 4 = .ok (.iload_n 2, 1) := by decide +kernel
theorem dL_replace_5 : decode cL_replace 5 = .ok (.invokevirtual 61, 3) := by decide +kernel
theorem dL_replace_8 : decode cL_replace 8 = .ok (.i2l, 1) := by decide +kernel
theorem dL_replace_9 : decode cL_replace 9 = .ok (.lastore, 1) := by decide +kernel
theorem dL_replace_10 : decode cL_replace 10 = .ok (.goto 11, 3) := by decide +kernel
theorem dL_replace_13 : decode cL_replace 13 = .ok (.astore 4, 2) := by decide +kernel
theorem dL_replace_15 : decode cL_replace 15 = .ok (.iconst 1, 1) := by decide +kernel
theorem dL_replace_16 : decode cL_replace 16 = .ok (.ireturn, 1) := by decide +kernel
theorem dL_replace_17 : decode cL_replace 17 = .ok (.astore 4, 2) := by decide +kernel
theorem dL_replace_19 : decode cL_replace 19 = .ok (.iconst 2, 1) := by decide +kernel
theorem dL_replace_20 : decode cL_replace 20 = .ok (.ireturn, 1) := by decide +kernel
theorem dL_replace_21 : decode cL_replace 21 = .ok (.iconst 0, 1) := by decide +kernel
theorem dL_replace_22 : decode cL_replace 22 = .ok (.ireturn, 1) := by decide +kernel
theorem dL_setPlatform_0 : decode cL_setPlatform 0 = .ok (.aload_n 2, 1) := by decide +kernel
theorem dL_setPlatform_1 : decode cL_setPlatform 1 = .ok (.iconst 0, 1) := by decide +kernel
theorem dL_setPlatform_2 : decode cL_setPlatform 2 = .ok (.aload_n 0, 1) := by decide +kernel
theorem dL_setPlatform_3 : decode cL_setPlatform 3 = .ok (.iload_n 1, 1) := by decide +kernel
theorem dL_setPlatform_4 : decode cL_setPlatform 4 = .ok (.invokevirtual 64, 3) := by decide +kernel
theorem dL_setPlatform_7 : decode cL_setPlatform 7 = .ok (.i2l, 1) := by decide +kernel
theorem dL_setPlatform_8 : decode cL_setPlatform 8 = .ok (.lastore, 1) := by decide +kernel
theorem dL_setPlatform_9 : decode cL_setPlatform 9 = .ok (.goto 6, 3) := by decide +kernel
theorem dL_setPlatform_12 : decode cL_setPlatform 12 = .ok (.astore_n 3, 1) := by decide +kernel
theorem dL_setPlatform_13 : decode cL_setPlatform 13 = .ok (.iconst 1, 1) := by decide +kernel
theorem dL_setPlatform_14 : decode cL_setPlatform 14 = .ok (.ireturn, 1) := by decide +kernel
theorem dL_setPlatform_15 : decode cL_setPlatform 15 = .ok (.iconst 0, 1) := by decide +kernel
theorem dL_setPlatform_16 : decode cL_setPlatform 16 = .ok (.ireturn, 1) := by decide +kernel
theorem dL_solve_0 : decode cL_solve 0 = .ok (.aload_n 3, 1) := by decide +kernel
theorem dL_solve_1 : decode cL_solve 1 = .ok (.iconst 0, 1) := by decide +kernel
theorem dL_solve_2 : decode cL_solve 2 = .ok (.aload_n 0, 1) := by decide +kernel
theorem dL_solve_3 : decode cL_solve 3 = .ok (.iload_n 1, 1) := by decide +kernel
theorem dL_solve_4 : decode cL_solve 4 = .ok (.iload_n 2, 1) := by decide +kernel
theorem dL_solve_5 : decode cL_solve 5 = .ok (.invokevirtual 67, 3) := by decide +kernel
theorem dL_solve_8 : decode cL_solve 8 = .ok (.i2l, 1) := by decide +kernel
theorem dL_solve_9 : decode cL_solve 9 = .ok (.lastore, 1) := by decide +kernel
theorem dL_solve_10 : decode cL_solve 10 = .ok (.goto 7, 3) := by decide +kernel
theorem dL_solve_13 : decode cL_solve 13 = .ok (.astore 4, 2) := by decide +kernel
theorem dL_solve_15 : decode cL_solve 15 = .ok (.iconst 1, 1) := by decide +kernel
theorem dL_solve_16 : decode cL_solve 16 = .ok (.ireturn, 1) := by decide +kernel
theorem dL_solve_17 : decode cL_solve 17 = .ok (.iconst 0, 1) := by decide +kernel
theorem dL_solve_18 : decode cL_solve 18 = .ok (.ireturn, 1) := by decide +kernel
theorem dL_chosen_0 : decode cL_chosen 0 = .ok (.aload_n 2, 1) := by decide +kernel
theorem dL_chosen_1 : decode cL_chosen 1 = .ok (.iconst 0, 1) := by decide +kernel
theorem dL_chosen_2 : decode cL_chosen 2 = .ok (.aload_n 0, 1) := by decide +kernel
theorem dL_chosen_3 : decode cL_chosen 3 = .ok (.iload_n 1, 1) := by decide +kernel
theorem dL_chosen_4 : decode cL_chosen 4 = .ok (.invokevirtual 70, 3) := by decide +kernel
theorem dL_chosen_7 : decode cL_chosen 7 = .ok (.i2l, 1) := by decide +kernel
theorem dL_chosen_8 : decode cL_chosen 8 = .ok (.lastore, 1) := by decide +kernel
theorem dL_chosen_9 : decode cL_chosen 9 = .ok (.goto 6, 3) := by decide +kernel
theorem dL_chosen_12 : decode cL_chosen 12 = .ok (.astore_n 3, 1) := by decide +kernel
theorem dL_chosen_13 : decode cL_chosen 13 = .ok (.iconst 1, 1) := by decide +kernel
theorem dL_chosen_14 : decode cL_chosen 14 = .ok (.ireturn, 1) := by decide +kernel
theorem dL_chosen_15 : decode cL_chosen 15 = .ok (.iconst 0, 1) := by decide +kernel
theorem dL_chosen_16 : decode cL_chosen 16 = .ok (.ireturn, 1) := by decide +kernel
theorem dL_chosenAnew_0 : decode cL_chosenAnew 0 = .ok (.aload_n 2, 1) := by decide +kernel
theorem dL_chosenAnew_1 : decode cL_chosenAnew 1 = .ok (.iconst 0, 1) := by decide +kernel
theorem dL_chosenAnew_2 : decode cL_chosenAnew 2 = .ok (.aload_n 0, 1) := by decide +kernel
theorem dL_chosenAnew_3 : decode cL_chosenAnew 3 = .ok (.iload_n 1, 1) := by decide +kernel
theorem dL_chosenAnew_4 : decode cL_chosenAnew 4 = .ok (.invokevirtual 73, 3) := by decide +kernel
theorem dL_chosenAnew_7 : decode cL_chosenAnew 7 = .ok (.i2l, 1) := by decide +kernel
theorem dL_chosenAnew_8 : decode cL_chosenAnew 8 = .ok (.lastore, 1) := by decide +kernel
theorem dL_chosenAnew_9 : decode cL_chosenAnew 9 = .ok (.goto 6, 3) := by decide +kernel
theorem dL_chosenAnew_12 : decode cL_chosenAnew 12 = .ok (.astore_n 3, 1) := by decide +kernel
theorem dL_chosenAnew_13 : decode cL_chosenAnew 13 = .ok (.iconst 1, 1) := by decide +kernel
theorem dL_chosenAnew_14 : decode cL_chosenAnew 14 = .ok (.ireturn, 1) := by decide +kernel
theorem dL_chosenAnew_15 : decode cL_chosenAnew 15 = .ok (.iconst 0, 1) := by decide +kernel
theorem dL_chosenAnew_16 : decode cL_chosenAnew 16 = .ok (.ireturn, 1) := by decide +kernel
theorem dL_features_0 : decode cL_features 0 = .ok (.aload_n 2, 1) := by decide +kernel
theorem dL_features_1 : decode cL_features 1 = .ok (.iconst 0, 1) := by decide +kernel
theorem dL_features_2 : decode cL_features 2 = .ok (.aload_n 0, 1) := by decide +kernel
theorem dL_features_3 : decode cL_features 3 = .ok (.iload_n 1, 1) := by decide +kernel
theorem dL_features_4 : decode cL_features 4 = .ok (.invokevirtual 76, 3) := by decide +kernel
theorem dL_features_7 : decode cL_features 7 = .ok (.i2l, 1) := by decide +kernel
theorem dL_features_8 : decode cL_features 8 = .ok (.lastore, 1) := by decide +kernel
theorem dL_features_9 : decode cL_features 9 = .ok (.goto 6, 3) := by decide +kernel
theorem dL_features_12 : decode cL_features 12 = .ok (.astore_n 3, 1) := by decide +kernel
theorem dL_features_13 : decode cL_features 13 = .ok (.iconst 1, 1) := by decide +kernel
theorem dL_features_14 : decode cL_features 14 = .ok (.ireturn, 1) := by decide +kernel
theorem dL_features_15 : decode cL_features 15 = .ok (.iconst 0, 1) := by decide +kernel
theorem dL_features_16 : decode cL_features 16 = .ok (.ireturn, 1) := by decide +kernel
theorem dL_against_0 : decode cL_against 0 = .ok (.aload_n 2, 1) := by decide +kernel
theorem dL_against_1 : decode cL_against 1 = .ok (.iconst 0, 1) := by decide +kernel
theorem dL_against_2 : decode cL_against 2 = .ok (.aload_n 0, 1) := by decide +kernel
theorem dL_against_3 : decode cL_against 3 = .ok (.iload_n 1, 1) := by decide +kernel
theorem dL_against_4 : decode cL_against 4 = .ok (.invokevirtual 79, 3) := by decide +kernel
theorem dL_against_7 : decode cL_against 7 = .ok (.i2l, 1) := by decide +kernel
theorem dL_against_8 : decode cL_against 8 = .ok (.lastore, 1) := by decide +kernel
theorem dL_against_9 : decode cL_against 9 = .ok (.goto 6, 3) := by decide +kernel
theorem dL_against_12 : decode cL_against 12 = .ok (.astore_n 3, 1) := by decide +kernel
theorem dL_against_13 : decode cL_against 13 = .ok (.iconst 1, 1) := by decide +kernel
theorem dL_against_14 : decode cL_against 14 = .ok (.ireturn, 1) := by decide +kernel
theorem dL_against_15 : decode cL_against 15 = .ok (.iconst 0, 1) := by decide +kernel
theorem dL_against_16 : decode cL_against 16 = .ok (.ireturn, 1) := by decide +kernel
theorem dL_lock_0 : decode cL_lock 0 = .ok (.aload_n 1, 1) := by decide +kernel
theorem dL_lock_1 : decode cL_lock 1 = .ok (.iconst 0, 1) := by decide +kernel
theorem dL_lock_2 : decode cL_lock 2 = .ok (.aload_n 0, 1) := by decide +kernel
theorem dL_lock_3 : decode cL_lock 3 = .ok (.invokevirtual 82, 3) := by decide +kernel
theorem dL_lock_6 : decode cL_lock 6 = .ok (.i2l, 1) := by decide +kernel
theorem dL_lock_7 : decode cL_lock 7 = .ok (.lastore, 1) := by decide +kernel
theorem dL_lock_8 : decode cL_lock 8 = .ok (.goto 6, 3) := by decide +kernel
theorem dL_lock_11 : decode cL_lock 11 = .ok (.astore_n 2, 1) := by decide +kernel
theorem dL_lock_12 : decode cL_lock 12 = .ok (.iconst 1, 1) := by decide +kernel
theorem dL_lock_13 : decode cL_lock 13 = .ok (.ireturn, 1) := by decide +kernel
theorem dL_lock_14 : decode cL_lock 14 = .ok (.iconst 0, 1) := by decide +kernel
theorem dL_lock_15 : decode cL_lock 15 = .ok (.ireturn, 1) := by decide +kernel
theorem dL_unlock_0 : decode cL_unlock 0 = .ok (.aload_n 2, 1) := by decide +kernel
theorem dL_unlock_1 : decode cL_unlock 1 = .ok (.iconst 0, 1) := by decide +kernel
theorem dL_unlock_2 : decode cL_unlock 2 = .ok (.aload_n 0, 1) := by decide +kernel
theorem dL_unlock_3 : decode cL_unlock 3 = .ok (.iload_n 1, 1) := by decide +kernel
theorem dL_unlock_4 : decode cL_unlock 4 = .ok (.invokevirtual 86, 3) := by decide +kernel
theorem dL_unlock_7 : decode cL_unlock 7 = .ok (.i2l, 1) := by decide +kernel
theorem dL_unlock_8 : decode cL_unlock 8 = .ok (.lastore, 1) := by decide +kernel
theorem dL_unlock_9 : decode cL_unlock 9 = .ok (.goto 6, 3) := by decide +kernel
theorem dL_unlock_12 : decode cL_unlock 12 = .ok (.astore_n 3, 1) := by decide +kernel
theorem dL_unlock_13 : decode cL_unlock 13 = .ok (.iconst 1, 1) := by decide +kernel
theorem dL_unlock_14 : decode cL_unlock 14 = .ok (.ireturn, 1) := by decide +kernel
theorem dL_unlock_15 : decode cL_unlock 15 = .ok (.iconst 0, 1) := by decide +kernel
theorem dL_unlock_16 : decode cL_unlock 16 = .ok (.ireturn, 1) := by decide +kernel
theorem dL_install_0 : decode cL_install 0 = .ok (.aload_n 2, 1) := by decide +kernel
theorem dL_install_1 : decode cL_install 1 = .ok (.iconst 0, 1) := by decide +kernel
theorem dL_install_2 : decode cL_install 2 = .ok (.aload_n 0, 1) := by decide +kernel
theorem dL_install_3 : decode cL_install 3 = .ok (.iload_n 1, 1) := by decide +kernel
theorem dL_install_4 : decode cL_install 4 = .ok (.invokevirtual 89, 3) := by decide +kernel
theorem dL_install_7 : decode cL_install 7 = .ok (.i2l, 1) := by decide +kernel
theorem dL_install_8 : decode cL_install 8 = .ok (.lastore, 1) := by decide +kernel
theorem dL_install_9 : decode cL_install 9 = .ok (.goto 9, 3) := by decide +kernel
theorem dL_install_12 : decode cL_install 12 = .ok (.astore_n 3, 1) := by decide +kernel
theorem dL_install_13 : decode cL_install 13 = .ok (.iconst 1, 1) := by decide +kernel
theorem dL_install_14 : decode cL_install 14 = .ok (.ireturn, 1) := by decide +kernel
theorem dL_install_15 : decode cL_install 15 = .ok (.astore_n 3, 1) := by decide +kernel
theorem dL_install_16 : decode cL_install 16 = .ok (.iconst 2, 1) := by decide +kernel
theorem dL_install_17 : decode cL_install 17 = .ok (.ireturn, 1) := by decide +kernel
theorem dL_install_18 : decode cL_install 18 = .ok (.iconst 0, 1) := by decide +kernel
theorem dL_install_19 : decode cL_install 19 = .ok (.ireturn, 1) := by decide +kernel
theorem dL_spoil_0 : decode cL_spoil 0 = .ok (.aload_n 2, 1) := by decide +kernel
theorem dL_spoil_1 : decode cL_spoil 1 = .ok (.iconst 0, 1) := by decide +kernel
theorem dL_spoil_2 : decode cL_spoil 2 = .ok (.aload_n 0, 1) := by decide +kernel
theorem dL_spoil_3 : decode cL_spoil 3 = .ok (.iload_n 1, 1) := by decide +kernel
theorem dL_spoil_4 : decode cL_spoil 4 = .ok (.invokevirtual 92, 3) := by decide +kernel
theorem dL_spoil_7 : decode cL_spoil 7 = .ok (.i2l, 1) := by decide +kernel
theorem dL_spoil_8 : decode cL_spoil 8 = .ok (.lastore, 1) := by decide +kernel
theorem dL_spoil_9 : decode cL_spoil 9 = .ok (.goto 9, 3) := by decide +kernel
theorem dL_spoil_12 : decode cL_spoil 12 = .ok (.astore_n 3, 1) := by decide +kernel
theorem dL_spoil_13 : decode cL_spoil 13 = .ok (.iconst 1, 1) := by decide +kernel
theorem dL_spoil_14 : decode cL_spoil 14 = .ok (.ireturn, 1) := by decide +kernel
theorem dL_spoil_15 : decode cL_spoil 15 = .ok (.astore_n 3, 1) := by decide +kernel
theorem dL_spoil_16 : decode cL_spoil 16 = .ok (.iconst 2, 1) := by decide +kernel
theorem dL_spoil_17 : decode cL_spoil 17 = .ok (.ireturn, 1) := by decide +kernel
theorem dL_spoil_18 : decode cL_spoil 18 = .ok (.iconst 0, 1) := by decide +kernel
theorem dL_spoil_19 : decode cL_spoil 19 = .ok (.ireturn, 1) := by decide +kernel
theorem dL_onDisk_0 : decode cL_onDisk 0 = .ok (.aload_n 2, 1) := by decide +kernel
theorem dL_onDisk_1 : decode cL_onDisk 1 = .ok (.iconst 0, 1) := by decide +kernel
theorem dL_onDisk_2 : decode cL_onDisk 2 = .ok (.aload_n 0, 1) := by decide +kernel
theorem dL_onDisk_3 : decode cL_onDisk 3 = .ok (.iload_n 1, 1) := by decide +kernel
theorem dL_onDisk_4 : decode cL_onDisk 4 = .ok (.invokevirtual 95, 3) := by decide +kernel
theorem dL_onDisk_7 : decode cL_onDisk 7 = .ok (.i2l, 1) := by decide +kernel
theorem dL_onDisk_8 : decode cL_onDisk 8 = .ok (.lastore, 1) := by decide +kernel
theorem dL_onDisk_9 : decode cL_onDisk 9 = .ok (.goto 6, 3) := by decide +kernel
theorem dL_onDisk_12 : decode cL_onDisk 12 = .ok (.astore_n 3, 1) := by decide +kernel
theorem dL_onDisk_13 : decode cL_onDisk 13 = .ok (.iconst 1, 1) := by decide +kernel
theorem dL_onDisk_14 : decode cL_onDisk 14 = .ok (.ireturn, 1) := by decide +kernel
theorem dL_onDisk_15 : decode cL_onDisk 15 = .ok (.iconst 0, 1) := by decide +kernel
theorem dL_onDisk_16 : decode cL_onDisk 16 = .ok (.ireturn, 1) := by decide +kernel
